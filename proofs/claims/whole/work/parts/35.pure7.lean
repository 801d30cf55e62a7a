def plc (h li : Nat → Int32) (u : Nat) : Nat → Int32 := fun k => if k < u then bit (k + 16) else if 16 ≤ k ∧ k < 16 + u then h (k - 16) else li k
theorem plc_0 {h li : Nat → Int32} : li = plc h li 0 := by
  funext k; unfold plc
  rw [if_neg (by omega), if_neg (by omega)]
theorem plc_st {h li : Nat → Int32} {u : Nat} (hu : u < 16) : upd (upd (plc h li u) u (bit (u + 16))) (u + 16) (h u) = plc h li (u + 1) := by
  funext k
  unfold plc
  by_cases h1 : k = u + 16
  · subst h1
    rw [pk_us, if_neg (by omega), if_pos (by omega), Nat.add_sub_cancel]
  · rw [pk_un h1]
    by_cases h2 : k = u
    · subst h2
      rw [pk_us, if_pos (by omega)]
    · rw [pk_un h2]
      by_cases h3 : k < u
      · rw [if_pos h3, if_pos (by omega)]
      · rw [if_neg h3, if_neg (by omega : ¬ k < u + 1)]
        by_cases h4 : 16 ≤ k ∧ k < 16 + u
        · rw [if_pos h4, if_pos (by omega)]
        · rw [if_neg h4, if_neg (by omega)]
def mkF (fx : Int32) (a : Nat) (cf : Nat → Nat) : Nat → Nat := fun k => if bt fx k = true then a else cf k
def mkU (fx : Int32) (a : Nat) (cf : Nat → Nat) (u : Nat) : Nat → Nat := fun k => if k < u ∧ bt fx k = true then a else cf k
theorem mkU_0 {fx : Int32} {a : Nat} {cf : Nat → Nat} : cf = mkU fx a cf 0 := by
  funext k; unfold mkU; rw [if_neg (by omega)]
theorem mkU_t {fx : Int32} {a : Nat} {cf : Nat → Nat} {u : Nat} (hb : bt fx u = true) : upd (fun k => nI (mkU fx a cf u k)) u (nI a) = fun k => nI (mkU fx a cf (u + 1) k) := by
  funext k
  by_cases h : k = u
  · subst h; rw [pk_us]; unfold mkU; rw [if_pos ⟨by omega, hb⟩]
  · rw [pk_un h]; unfold mkU
    by_cases h2 : k < u ∧ bt fx k = true
    · rw [if_pos h2, if_pos ⟨by omega, h2.2⟩]
    · rw [if_neg h2, if_neg (fun q => h2 ⟨by omega, q.2⟩)]
theorem mkU_f {fx : Int32} {a : Nat} {cf : Nat → Nat} {u : Nat} (hb : bt fx u = false) : mkU fx a cf u = mkU fx a cf (u + 1) := by
  funext k; unfold mkU
  by_cases h2 : k < u ∧ bt fx k = true
  · rw [if_pos h2, if_pos ⟨by omega, h2.2⟩]
  · rw [if_neg h2, if_neg (fun q => h2 ⟨by
      rcases Nat.lt_or_ge k u with h3 | h3
      · exact h3
      · have : k = u := by omega
        subst this
        rw [hb] at q; exact absurd q.2 (by decide), q.2⟩)]
theorem mkU_32 {fx : Int32} {a : Nat} {cf : Nat → Nat} : mkU fx a cf 32 = mkF fx a cf := by
  funext k; unfold mkU mkF
  by_cases h : bt fx k = true
  · rw [if_pos h, if_pos ⟨bt_lt h, h⟩]
  · rw [if_neg h, if_neg (fun q => h q.2)]
def psU (us fe : Nat → Int32) (a b : Nat) : Nat → Int32 := if bt (fe a) b = true then upd us b (us b &&& (bit a ^^^ (-1))) else upd us a (us a ||| bit b)
def psF (us fe : Nat → Int32) (a b : Nat) : Nat → Int32 := if bt (fe a) b = true then upd fe a (fe a &&& (bit b ^^^ (-1))) else upd fe b (fe b ||| bit a)
def ps3 (cf : Nat → Nat) (frm : Nat) (us fe : Nat → Int32) (t : Nat) : Nat → Nat × (Nat → Int32) × (Nat → Int32)
  | 0 => (t, us, fe)
  | k + 1 => if (ps3 cf frm us fe t k).1 = frm then ps3 cf frm us fe t k else (cf (ps3 cf frm us fe t k).1, psU (ps3 cf frm us fe t k).2.1 (ps3 cf frm us fe t k).2.2 (cf (ps3 cf frm us fe t k).1) (ps3 cf frm us fe t k).1, psF (ps3 cf frm us fe t k).2.1 (ps3 cf frm us fe t k).2.2 (cf (ps3 cf frm us fe t k).1) (ps3 cf frm us fe t k).1)
theorem ps3_stay {cf : Nat → Nat} {frm : Nat} {us fe : Nat → Int32} {t k : Nat} (h : (ps3 cf frm us fe t k).1 = frm) : ∀ j, ps3 cf frm us fe t (k + j) = ps3 cf frm us fe t k := by
  intro j
  induction j with
  | zero => rfl
  | succ j ih =>
    show (if (ps3 cf frm us fe t (k + j)).1 = frm then ps3 cf frm us fe t (k + j) else _) = _
    rw [ih, if_pos h]
theorem ps3_end {cf : Nat → Nat} {frm : Nat} {us fe : Nat → Int32} {t k : Nat} (hk : k ≤ 32) (h : (ps3 cf frm us fe t k).1 = frm) : ps3 cf frm us fe t 32 = ps3 cf frm us fe t k := by
  have := ps3_stay h (32 - k)
  rw [show k + (32 - k) = 32 by omega] at this
  exact this
theorem ps3_go {cf : Nat → Nat} {frm : Nat} {us fe : Nat → Int32} {t k : Nat} (h : ¬ (ps3 cf frm us fe t k).1 = frm) : ps3 cf frm us fe t (k + 1) = (cf (ps3 cf frm us fe t k).1, psU (ps3 cf frm us fe t k).2.1 (ps3 cf frm us fe t k).2.2 (cf (ps3 cf frm us fe t k).1) (ps3 cf frm us fe t k).1, psF (ps3 cf frm us fe t k).2.1 (ps3 cf frm us fe t k).2.2 (cf (ps3 cf frm us fe t k).1) (ps3 cf frm us fe t k).1) := if_neg h
theorem ps3_lt {cf : Nat → Nat} {frm : Nat} {us fe : Nat → Int32} {t : Nat} (ht : t < 32) (hcf : ∀ k, k < 32 → cf k < 32) : ∀ k, (ps3 cf frm us fe t k).1 < 32 := by
  intro k
  induction k with
  | zero => exact ht
  | succ k ih =>
    by_cases h : (ps3 cf frm us fe t k).1 = frm
    · show (if (ps3 cf frm us fe t k).1 = frm then ps3 cf frm us fe t k else _).1 < 32
      rw [if_pos h]; exact ih
    · rw [ps3_go h]; exact hcf _ ih
def fr9 (li us fe : Nat → Int32) (seen : Int32) (a : Nat) : Int32 := (li a &&& (us a ^^^ (-1)) ||| fe a) &&& (seen ^^^ (-1))
def inS (li us fe : Nat → Int32) (front : Int32) (z : Int32 × Int32 × (Nat → Nat)) : Nat → Int32 × Int32 × (Nat → Nat)
  | 0 => z
  | a + 1 => if bt front a = true then ((inS li us fe front z a).1 ||| fr9 li us fe (inS li us fe front z a).1 a, (inS li us fe front z a).2.1 ||| fr9 li us fe (inS li us fe front z a).1 a, mkF (fr9 li us fe (inS li us fe front z a).1 a) a (inS li us fe front z a).2.2) else inS li us fe front z a
theorem inS_t {li us fe : Nat → Int32} {front : Int32} {z : Int32 × Int32 × (Nat → Nat)} {a : Nat} (h : bt front a = true) : inS li us fe front z (a + 1) = ((inS li us fe front z a).1 ||| fr9 li us fe (inS li us fe front z a).1 a, (inS li us fe front z a).2.1 ||| fr9 li us fe (inS li us fe front z a).1 a, mkF (fr9 li us fe (inS li us fe front z a).1 a) a (inS li us fe front z a).2.2) := if_pos h
theorem inS_f {li us fe : Nat → Int32} {front : Int32} {z : Int32 × Int32 × (Nat → Nat)} {a : Nat} (h : bt front a = false) : inS li us fe front z (a + 1) = inS li us fe front z a := if_neg (by rw [h]; decide)
def ouS (li us fe : Nat → Int32) (frm t : Nat) (cf : Nat → Nat) : Nat → Int32 × Int32 × (Nat → Nat)
  | 0 => (bit frm, bit frm, cf)
  | r + 1 => if (ouS li us fe frm t cf r).2.1 = 0 ∨ bt (ouS li us fe frm t cf r).1 t = true then ouS li us fe frm t cf r else inS li us fe (ouS li us fe frm t cf r).2.1 ((ouS li us fe frm t cf r).1, nI 0, (ouS li us fe frm t cf r).2.2) 32
theorem ouS_end {li us fe : Nat → Int32} {frm t : Nat} {cf : Nat → Nat} {r : Nat} (hr : r ≤ 32) (h : (ouS li us fe frm t cf r).2.1 = 0 ∨ bt (ouS li us fe frm t cf r).1 t = true) : ouS li us fe frm t cf 32 = ouS li us fe frm t cf r := by
  have key : ∀ j, ouS li us fe frm t cf (r + j) = ouS li us fe frm t cf r := by
    intro j
    induction j with
    | zero => rfl
    | succ j ih =>
      show (if (ouS li us fe frm t cf (r + j)).2.1 = 0 ∨ bt (ouS li us fe frm t cf (r + j)).1 t = true then ouS li us fe frm t cf (r + j) else _) = _
      rw [ih, if_pos h]
  have := key (32 - r)
  rw [show r + (32 - r) = 32 by omega] at this
  exact this
theorem ouS_go {li us fe : Nat → Int32} {frm t : Nat} {cf : Nat → Nat} {r : Nat} (h1 : ¬ (ouS li us fe frm t cf r).2.1 = 0) (h2 : bt (ouS li us fe frm t cf r).1 t = false) : ouS li us fe frm t cf (r + 1) = inS li us fe (ouS li us fe frm t cf r).2.1 ((ouS li us fe frm t cf r).1, nI 0, (ouS li us fe frm t cf r).2.2) 32 := if_neg (by rintro (q | q); exact h1 q; rw [h2] at q; cases q)
theorem inS_cf {li us fe : Nat → Int32} {front : Int32} {z : Int32 × Int32 × (Nat → Nat)} (hz : ∀ k, k < 32 → z.2.2 k < 32) : ∀ a, a ≤ 32 → ∀ k, k < 32 → (inS li us fe front z a).2.2 k < 32 := by
  intro a
  induction a with
  | zero => intro _; exact hz
  | succ a ih =>
    intro ha k hk
    by_cases h : bt front a = true
    · rw [inS_t h]
      show mkF _ a _ k < 32
      unfold mkF
      split
      · omega
      · exact ih (by omega) k hk
    · rw [inS_f (by cases hb : bt front a with | false => rfl | true => exact absurd hb h)]
      exact ih (by omega) k hk
theorem ouS_cf {li us fe : Nat → Int32} {frm t : Nat} {cf : Nat → Nat} (hz : ∀ k, k < 32 → cf k < 32) : ∀ r k, k < 32 → (ouS li us fe frm t cf r).2.2 k < 32 := by
  intro r
  induction r with
  | zero => exact hz
  | succ r ih =>
    intro k hk
    show (if (ouS li us fe frm t cf r).2.1 = 0 ∨ bt (ouS li us fe frm t cf r).1 t = true then ouS li us fe frm t cf r else inS li us fe (ouS li us fe frm t cf r).2.1 ((ouS li us fe frm t cf r).1, nI 0, (ouS li us fe frm t cf r).2.2) 32).2.2 k < 32
    split
    · exact ih k hk
    · exact inS_cf (z := ((ouS li us fe frm t cf r).1, nI 0, (ouS li us fe frm t cf r).2.2)) (fun k hk => ih k hk) 32 (Nat.le_refl _) k hk
def moS (li : Nat → Int32) (frm t : Nat) (cf : Nat → Nat) : Nat → (Nat → Int32) × (Nat → Int32) × (Nat → Nat) × Nat × Bool
  | 0 => (fun _ => nI 0, fun _ => nI 0, cf, 0, false)
  | r + 1 =>
    if (moS li frm t cf r).2.2.2.2 = true then moS li frm t cf r
    else if bt (ouS li (moS li frm t cf r).1 (moS li frm t cf r).2.1 frm t (moS li frm t cf r).2.2.1 32).1 t = true then
      ((ps3 (ouS li (moS li frm t cf r).1 (moS li frm t cf r).2.1 frm t (moS li frm t cf r).2.2.1 32).2.2 frm (moS li frm t cf r).1 (moS li frm t cf r).2.1 t 32).2.1,
       (ps3 (ouS li (moS li frm t cf r).1 (moS li frm t cf r).2.1 frm t (moS li frm t cf r).2.2.1 32).2.2 frm (moS li frm t cf r).1 (moS li frm t cf r).2.1 t 32).2.2,
       (ouS li (moS li frm t cf r).1 (moS li frm t cf r).2.1 frm t (moS li frm t cf r).2.2.1 32).2.2, (moS li frm t cf r).2.2.2.1 + 1, false)
    else ((moS li frm t cf r).1, (moS li frm t cf r).2.1, (ouS li (moS li frm t cf r).1 (moS li frm t cf r).2.1 frm t (moS li frm t cf r).2.2.1 32).2.2, (moS li frm t cf r).2.2.2.1, true)
theorem moS_stay {li : Nat → Int32} {frm t : Nat} {cf : Nat → Nat} {r : Nat} (h : (moS li frm t cf r).2.2.2.2 = true) : ∀ j, moS li frm t cf (r + j) = moS li frm t cf r := by
  intro j
  induction j with
  | zero => rfl
  | succ j ih =>
    show (if (moS li frm t cf (r + j)).2.2.2.2 = true then moS li frm t cf (r + j) else _) = _
    rw [ih, if_pos h]
theorem moS_f {li : Nat → Int32} {frm t : Nat} {cf : Nat → Nat} {r : Nat} (hd : (moS li frm t cf r).2.2.2.2 = false) (h : bt (ouS li (moS li frm t cf r).1 (moS li frm t cf r).2.1 frm t (moS li frm t cf r).2.2.1 32).1 t = false) : moS li frm t cf (r + 1) = ((moS li frm t cf r).1, (moS li frm t cf r).2.1, (ouS li (moS li frm t cf r).1 (moS li frm t cf r).2.1 frm t (moS li frm t cf r).2.2.1 32).2.2, (moS li frm t cf r).2.2.2.1, true) := by
  show (if (moS li frm t cf r).2.2.2.2 = true then moS li frm t cf r else _) = _
  rw [if_neg (by rw [hd]; decide), if_neg (by rw [h]; decide)]
theorem moS_t {li : Nat → Int32} {frm t : Nat} {cf : Nat → Nat} {r : Nat} (hd : (moS li frm t cf r).2.2.2.2 = false) (h : bt (ouS li (moS li frm t cf r).1 (moS li frm t cf r).2.1 frm t (moS li frm t cf r).2.2.1 32).1 t = true) : moS li frm t cf (r + 1) = ((ps3 (ouS li (moS li frm t cf r).1 (moS li frm t cf r).2.1 frm t (moS li frm t cf r).2.2.1 32).2.2 frm (moS li frm t cf r).1 (moS li frm t cf r).2.1 t 32).2.1,
       (ps3 (ouS li (moS li frm t cf r).1 (moS li frm t cf r).2.1 frm t (moS li frm t cf r).2.2.1 32).2.2 frm (moS li frm t cf r).1 (moS li frm t cf r).2.1 t 32).2.2,
       (ouS li (moS li frm t cf r).1 (moS li frm t cf r).2.1 frm t (moS li frm t cf r).2.2.1 32).2.2, (moS li frm t cf r).2.2.2.1 + 1, false) := by
  show (if (moS li frm t cf r).2.2.2.2 = true then moS li frm t cf r else _) = _
  rw [if_neg (by rw [hd]; decide), if_pos h]
theorem moS_end {li : Nat → Int32} {frm t : Nat} {cf : Nat → Nat} {r : Nat} (hr : r < 16) (hd : (moS li frm t cf r).2.2.2.2 = false) (h : bt (ouS li (moS li frm t cf r).1 (moS li frm t cf r).2.1 frm t (moS li frm t cf r).2.2.1 32).1 t = false) : moS li frm t cf 16 = ((moS li frm t cf r).1, (moS li frm t cf r).2.1, (ouS li (moS li frm t cf r).1 (moS li frm t cf r).2.1 frm t (moS li frm t cf r).2.2.1 32).2.2, (moS li frm t cf r).2.2.2.1, true) := by
  have h1 := moS_f hd h
  have h2 := moS_stay (r := r + 1) (by rw [h1]) (16 - (r + 1))
  rw [show r + 1 + (16 - (r + 1)) = 16 by omega] at h2
  rw [h2, h1]
theorem moS_cf {li : Nat → Int32} {frm t : Nat} {cf : Nat → Nat} (hz : ∀ k, k < 32 → cf k < 32) : ∀ r k, k < 32 → (moS li frm t cf r).2.2.1 k < 32 := by
  intro r
  induction r with
  | zero => exact hz
  | succ r ih =>
    intro k hk
    cases hd : (moS li frm t cf r).2.2.2.2 with
    | true => rw [moS_stay hd 1]; exact ih k hk
    | false =>
      cases hb : bt (ouS li (moS li frm t cf r).1 (moS li frm t cf r).2.1 frm t (moS li frm t cf r).2.2.1 32).1 t with
      | true => rw [moS_t hd hb]; dsimp only; exact ouS_cf (li := li) (us := (moS li frm t cf r).1) (fe := (moS li frm t cf r).2.1) (frm := frm) (t := t) (cf := (moS li frm t cf r).2.2.1) ih 32 k hk
      | false => rw [moS_f hd hb]; dsimp only; exact ouS_cf (li := li) (us := (moS li frm t cf r).1) (fe := (moS li frm t cf r).2.1) (frm := frm) (t := t) (cf := (moS li frm t cf r).2.2.1) ih 32 k hk
theorem moS_n {li : Nat → Int32} {frm t : Nat} {cf : Nat → Nat} : ∀ r, (moS li frm t cf r).2.2.2.1 ≤ r := by
  intro r
  induction r with
  | zero => exact Nat.le_refl _
  | succ r ih =>
    cases hd : (moS li frm t cf r).2.2.2.2 with
    | true => rw [moS_stay hd 1]; omega
    | false =>
      cases hb : bt (ouS li (moS li frm t cf r).1 (moS li frm t cf r).2.1 frm t (moS li frm t cf r).2.2.1 32).1 t with
      | true => rw [moS_t hd hb]; show (moS li frm t cf r).2.2.2.1 + 1 ≤ r + 1; omega
      | false => rw [moS_f hd hb]; show (moS li frm t cf r).2.2.2.1 ≤ r + 1; omega
