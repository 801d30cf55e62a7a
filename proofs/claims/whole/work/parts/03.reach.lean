def gd (h : Nat → Int32) : Prop := ∀ u, u < 16 → m16 (h u)
def stp (h : Nat → Int32) (c x : Int32) : Int32 := x ||| (un h x 16 &&& (c ^^^ (-1)))
def itr (h : Nat → Int32) (c : Int32) : Nat → Int32 → Int32
  | 0, x => x
  | n + 1, x => stp h c (itr h c n x)
def SP (h : Nat → Int32) (s c : Int32) : Int32 := itr h c 15 (s &&& (c ^^^ (-1)))
theorem stp_m16 {h : Nat → Int32} (hg : gd h) {c x : Int32} (hx : m16 x) : m16 (stp h c x) := m16_or hx (m16_and (un_m16 hg))
theorem stp_sub {h : Nat → Int32} {c x : Int32} {i : Nat} (hi : bt x i = true) : bt (stp h c x) i = true := by
  unfold stp; rw [b_or, hi]; rfl
theorem itr_m16 {h : Nat → Int32} (hg : gd h) {c x : Int32} (hx : m16 x) (n : Nat) : m16 (itr h c n x) := by
  induction n with
  | zero => exact hx
  | succ n ih => exact stp_m16 hg ih
theorem itr_sub {h : Nat → Int32} {c x : Int32} {i : Nat} (hi : bt x i = true) (n : Nat) : bt (itr h c n x) i = true := by
  induction n with
  | zero => exact hi
  | succ n ih => exact stp_sub ih
theorem itr_fix {h : Nat → Int32} {c x : Int32} {n : Nat} (hf : stp h c (itr h c n x) = itr h c n x) : ∀ k, itr h c (n + k) x = itr h c n x := by
  intro k
  induction k with
  | zero => rfl
  | succ k ih =>
    show stp h c (itr h c (n + k) x) = _
    rw [ih, hf]
theorem itr_grow {h : Nat → Int32} (hg : gd h) {c x : Int32} (hx : m16 x) (n : Nat) : (∃ k, k ≤ n ∧ stp h c (itr h c k x) = itr h c k x) ∨ cn x 16 + (n + 1) ≤ cn (itr h c (n + 1) x) 16 := by
  induction n with
  | zero =>
    by_cases hf : stp h c x = x
    · exact Or.inl ⟨0, Nat.le_refl _, hf⟩
    · right
      have := m16_diff hx (stp_m16 (c := c) hg hx) (fun i hi => stp_sub hi) (fun e => hf e.symm)
      show cn x 16 + 1 ≤ cn (stp h c x) 16
      omega
  | succ n ih =>
    rcases ih with ⟨k, h1, h2⟩ | h1
    · exact Or.inl ⟨k, by omega, h2⟩
    · by_cases hf : stp h c (itr h c (n + 1) x) = itr h c (n + 1) x
      · exact Or.inl ⟨n + 1, Nat.le_refl _, hf⟩
      · right
        have := m16_diff (itr_m16 hg hx (n + 1)) (stp_m16 (c := c) hg (itr_m16 hg hx (n + 1))) (fun i hi => stp_sub hi) (fun e => hf e.symm)
        show cn x 16 + (n + 1 + 1) ≤ cn (stp h c (itr h c (n + 1) x)) 16
        omega
theorem stp_0 (h : Nat → Int32) (c : Int32) : stp h c 0 = 0 := by
  apply b_ext
  intro i _
  rw [b_0]
  cases hb : bt (stp h c 0) i with
  | false => rfl
  | true =>
    unfold stp at hb
    rw [b_or, b_0, Bool.false_or, b_and, Bool.and_eq_true] at hb
    obtain ⟨u, _, h2, _⟩ := bt_un.mp hb.1
    rw [b_0] at h2; cases h2
theorem itr_fixed {h : Nat → Int32} (hg : gd h) {c x : Int32} (hx : m16 x) : ∃ k, k ≤ 15 ∧ stp h c (itr h c k x) = itr h c k x := by
  rcases itr_grow (c := c) hg hx 15 with h1 | h1
  · exact h1
  · have h2 := cn_le (itr h c (15 + 1) x) 16
    by_cases h0 : x = 0
    · subst h0; exact ⟨0, by omega, stp_0 h c⟩
    · obtain ⟨i, hi, hb⟩ := m16_some hx h0
      have := cn_pos hi hb
      omega
theorem itr_15 {h : Nat → Int32} (hg : gd h) {c x : Int32} (hx : m16 x) : stp h c (itr h c 15 x) = itr h c 15 x := by
  obtain ⟨k, hk, hf⟩ := itr_fixed (c := c) hg hx
  have h1 := itr_fix hf (15 - k)
  rw [show k + (15 - k) = 15 by omega] at h1
  rw [h1, hf]
theorem itr_at {h : Nat → Int32} {c x : Int32} {k : Nat} (hk : k ≤ 15) (hf : stp h c (itr h c k x) = itr h c k x) : itr h c 15 x = itr h c k x := by
  have h1 := itr_fix hf (15 - k)
  rw [show k + (15 - k) = 15 by omega] at h1
  exact h1
theorem itr_any {h : Nat → Int32} (hg : gd h) {c x : Int32} (hx : m16 x) {k : Nat} (hf : stp h c (itr h c k x) = itr h c k x) : itr h c 15 x = itr h c k x := by
  rcases Nat.le_total k 15 with h1 | h1
  · exact itr_at h1 hf
  · have h2 := itr_fix (itr_15 (c := c) hg hx) (k - 15)
    rw [show 15 + (k - 15) = k by omega] at h2
    exact h2.symm
def Wk (R : Nat → Nat → Prop) : Nat → Nat → Nat → Prop
  | 0, u, v => u = v
  | n + 1, u, v => ∃ w, Wk R n u w ∧ R w v
def Rc (R : Nat → Nat → Prop) (u v : Nat) : Prop := ∃ n, Wk R n u v
theorem Rc_rf {R : Nat → Nat → Prop} (u : Nat) : Rc R u u := ⟨0, rfl⟩
theorem Rc_st {R : Nat → Nat → Prop} {u w v : Nat} (h : Rc R u w) (e : R w v) : Rc R u v := by
  obtain ⟨n, hn⟩ := h
  exact ⟨n + 1, w, hn, e⟩
theorem Rc_one {R : Nat → Nat → Prop} {u v : Nat} (e : R u v) : Rc R u v := Rc_st (Rc_rf u) e
theorem Wk_add {R : Nat → Nat → Prop} {a b : Nat} : ∀ {n k : Nat} {c : Nat}, Wk R n a b → Wk R k b c → Wk R (n + k) a c := by
  intro n k
  induction k with
  | zero => intro c h1 h2; cases h2; exact h1
  | succ k ih =>
    intro c h1 h2
    obtain ⟨w, h3, h4⟩ := h2
    exact ⟨w, ih h1 h3, h4⟩
theorem Rc_tr {R : Nat → Nat → Prop} {a b c : Nat} (h1 : Rc R a b) (h2 : Rc R b c) : Rc R a c := by
  obtain ⟨n, h3⟩ := h1
  obtain ⟨k, h4⟩ := h2
  exact ⟨n + k, Wk_add h3 h4⟩
theorem Rc_ind {R : Nat → Nat → Prop} {u : Nat} {P : Nat → Prop} (h0 : P u) (hs : ∀ w v, P w → R w v → P v) {v : Nat} (h : Rc R u v) : P v := by
  obtain ⟨n, hn⟩ := h
  induction n generalizing v with
  | zero => cases hn; exact h0
  | succ n ih =>
    obtain ⟨w, h1, h2⟩ := hn
    exact hs w v (ih h1) h2
theorem Rc_mono {R R' : Nat → Nat → Prop} (h : ∀ a b, R a b → R' a b) {u v : Nat} (hr : Rc R u v) : Rc R' u v :=
  Rc_ind (P := fun x => Rc R' u x) (Rc_rf u) (fun w v hw e => Rc_st hw (h w v e)) hr
theorem Rc_head {R : Nat → Nat → Prop} {a b c : Nat} (e : R a b) (h : Rc R b c) : Rc R a c := Rc_tr (Rc_one e) h
theorem Rc_back {R : Nat → Nat → Prop} {v : Nat} {P : Nat → Prop} (h0 : P v) (hs : ∀ w x, P x → R w x → P w) {u : Nat} (h : Rc R u v) : P u :=
  Rc_ind (P := fun x => P x → P u) (fun h => h) (fun w x hw e hx => hw (hs w x hx e)) h h0
def Ed (h : Nat → Int32) (c : Int32) (u v : Nat) : Prop := u < 16 ∧ bt (h u) v = true ∧ bt c v = false
theorem SP_m16 {h : Nat → Int32} (hg : gd h) {s c : Int32} (hs : m16 s) : m16 (SP h s c) := itr_m16 hg (m16_and hs) 15
theorem SP_start {h : Nat → Int32} {s c : Int32} {u : Nat} (hu : bt s u = true) (hc : bt c u = false) : bt (SP h s c) u = true := by
  apply itr_sub
  rw [b_and, hu, bt_not c (bt_lt hu), hc]; rfl
theorem SP_step {h : Nat → Int32} (hg : gd h) {s c : Int32} (hs : m16 s) {u v : Nat} (hu : bt (SP h s c) u = true) (e : Ed h c u v) : bt (SP h s c) v = true := by
  have hf := itr_15 (c := c) hg (m16_and (y := c ^^^ (-1)) hs)
  show bt (itr h c 15 (s &&& (c ^^^ (-1)))) v = true
  rw [← hf]
  unfold stp
  rw [b_or, b_and, Bool.or_eq_true, Bool.and_eq_true]
  right
  refine ⟨bt_un.mpr ⟨u, e.1, hu, e.2.1⟩, ?_⟩
  rw [bt_not c (bt_lt e.2.1), e.2.2]; rfl
theorem itr_sound {h : Nat → Int32} {c x : Int32} {v n : Nat} (hv : bt (itr h c n x) v = true) : ∃ u, bt x u = true ∧ Rc (Ed h c) u v := by
  induction n generalizing v with
  | zero => exact ⟨v, hv, Rc_rf v⟩
  | succ n ih =>
    have hv : bt (stp h c (itr h c n x)) v = true := hv
    unfold stp at hv
    rw [b_or, b_and, Bool.or_eq_true, Bool.and_eq_true] at hv
    rcases hv with hv | ⟨h1, h2⟩
    · exact ih hv
    · obtain ⟨w, h3, h4, h5⟩ := bt_un.mp h1
      obtain ⟨u, h6, h7⟩ := ih h4
      refine ⟨u, h6, Rc_st h7 ⟨h3, h5, ?_⟩⟩
      rw [bt_not c (bt_lt h5)] at h2
      cases hc : bt c v with
      | false => rfl
      | true => rw [hc] at h2; cases h2
theorem SP_iff {h : Nat → Int32} (hg : gd h) {s c : Int32} (hs : m16 s) {v : Nat} : bt (SP h s c) v = true ↔ ∃ u, bt s u = true ∧ bt c u = false ∧ Rc (Ed h c) u v := by
  constructor
  · intro hv
    obtain ⟨u, h1, h2⟩ := itr_sound (h := h) (c := c) (x := s &&& (c ^^^ (-1))) (n := 15) hv
    rw [b_and, Bool.and_eq_true] at h1
    refine ⟨u, h1.1, ?_, h2⟩
    have h3 := h1.2
    rw [bt_not c (bt_lt h1.1)] at h3
    cases hc : bt c u with
    | false => rfl
    | true => rw [hc] at h3; cases h3
  · rintro ⟨u, h1, h2, h3⟩
    exact Rc_ind (P := fun x => bt (SP h s c) x = true) (SP_start h1 h2) (fun w x hw e => SP_step hg hs hw e) h3
def RE (h : Nat → Int32) (u : Nat) : Int32 := SP h (bit u) 0
def Eg (h : Nat → Int32) (u v : Nat) : Prop := u < 16 ∧ bt (h u) v = true
theorem Ed0 {h : Nat → Int32} {u v : Nat} : Ed h 0 u v ↔ Eg h u v := ⟨fun e => ⟨e.1, e.2.1⟩, fun e => ⟨e.1, e.2, b_0 v⟩⟩
theorem RE_iff {h : Nat → Int32} (hg : gd h) {u v : Nat} (hu : u < 16) : bt (RE h u) v = true ↔ Rc (Eg h) u v := by
  unfold RE
  rw [SP_iff hg (m16_bit hu)]
  constructor
  · rintro ⟨w, h1, _, h3⟩
    rw [bt_bit (by omega) (bt_lt h1), decide_eq_true_eq] at h1
    subst h1
    exact Rc_mono (fun a b e => Ed0.mp e) h3
  · intro h1
    exact ⟨u, by rw [bt_bit (by omega) (by omega), decide_eq_true rfl], b_0 u, Rc_mono (fun a b e => Ed0.mpr e) h1⟩
