theorem upd_eq {f : Nat → Int32} {k : Nat} {x : Int32} : upd f k x k = x := if_pos rfl
theorem upd_ne {f : Nat → Int32} {k j : Nat} {x : Int32} (h : ¬ j = k) : upd f k x j = f j := if_neg h
theorem sq_congr {f g : Nat → Nat} : ∀ n, (∀ k, k < n → f k = g k) → sq f n = sq g n := by
  intro n
  induction n with
  | zero => intro _; rfl
  | succ n ih =>
    intro h
    show sq f n + f n = sq g n + g n
    rw [ih (fun k hk => h k (by omega)), h n (by omega)]
theorem cq_congr {p q : Nat → Bool} : ∀ n, (∀ k, k < n → p k = q k) → cq p n = cq q n := by
  intro n h
  exact Nat.le_antisymm (cq_mono n (fun k hk hp => by rw [← h k hk]; exact hp)) (cq_mono n (fun k hk hp => by rw [h k hk]; exact hp))
theorem sq_upd {F : Int32 → Nat} {h : Nat → Int32} {u : Nat} {y : Int32} : ∀ n, u < n → sq (fun x => F (upd h u y x)) n + F (h u) = sq (fun x => F (h x)) n + F y := by
  intro n
  induction n with
  | zero => intro h1; omega
  | succ n ih =>
    intro h1
    show sq (fun x => F (upd h u y x)) n + F (upd h u y n) + F (h u) = sq (fun x => F (h x)) n + F (h n) + F y
    by_cases hn : u = n
    · subst hn
      rw [sq_congr (f := fun x => F (upd h u y x)) (g := fun x => F (h x)) u (fun k hk => by rw [upd_ne (by omega)]), upd_eq]
      omega
    · rw [upd_ne (fun q => hn q.symm)]
      have := ih (by omega)
      omega
def tb (h : Nat → Int32) : Nat := sq (fun u => cn (h u) 16) 16
def iv (h : Nat → Int32) (c : Int32) : Prop := gd h ∧ (∀ u, u < 16 → bt (h u) u = false) ∧ c = nI (tb h) ∧ tb h ≤ 80
theorem iv_clr : iv (fun _ => nI 0) (nI 0) := ⟨fun u _ => m16_0, fun u _ => b_0 u, by decide +kernel, by decide +kernel⟩
theorem iv_put {h : Nat → Int32} {c : Int32} (hi : iv h c) {u v : Nat} (hu : u < 16) (hv : v < 16) (huv : ¬ u = v) (hb : bt (h u) v = false) (hc : ¬ c = nI 80) : iv (upd h u (h u ||| bit v)) (c + nI 1) := by
  obtain ⟨hg, hs, rfl, ht⟩ := hi
  have h1 := sq_upd (F := fun x => cn x 16) (h := h) (u := u) (y := h u ||| bit v) 16 hu
  have h2 : cn (h u ||| bit v) 16 = cn (h u) 16 + 1 := cn_or_bit hb 16 hv (by decide)
  have h3 : tb (upd h u (h u ||| bit v)) = tb h + 1 := by
    unfold tb
    have h1 : sq (fun x => cn (upd h u (h u ||| bit v) x) 16) 16 + cn (h u) 16 = sq (fun x => cn (h x) 16) 16 + cn (h u ||| bit v) 16 := h1
    omega
  have h4 : tb h ≠ 80 := fun q => hc (by rw [q])
  refine ⟨fun w hw => ?_, fun w hw => ?_, by rw [h3, nI_ad], by omega⟩
  · by_cases hq : w = u
    · subst hq
      rw [upd_eq]
      exact m16_or (hg w hw) (m16_bit hv)
    · rw [upd_ne hq]
      exact hg w hw
  · by_cases hq : w = u
    · subst hq
      rw [upd_eq, b_or, hs w hw, bt_bit (by omega) (by omega), decide_eq_false huv]
      rfl
    · rw [upd_ne hq]
      exact hs w hw
theorem iv_tak {h : Nat → Int32} {c : Int32} (hi : iv h c) {u v : Nat} (hu : u < 16) (hv : v < 16) (hb : bt (h u) v = true) : iv (upd h u (h u &&& (bit v ^^^ (-1)))) (c - nI 1) := by
  obtain ⟨hg, hs, rfl, ht⟩ := hi
  have h1 : sq (fun x => cn (upd h u (h u &&& (bit v ^^^ (-1))) x) 16) 16 + cn (h u) 16 = sq (fun x => cn (h x) 16) 16 + cn (h u &&& (bit v ^^^ (-1))) 16 := sq_upd (F := fun x => cn x 16) (h := h) (u := u) (y := h u &&& (bit v ^^^ (-1))) 16 hu
  have hy : bt (h u &&& (bit v ^^^ (-1))) v = false := by
    rw [b_and, bt_not _ (by omega), bt_bit (by omega) (by omega), decide_eq_true rfl]
    simp
  have h2 : cn ((h u &&& (bit v ^^^ (-1))) ||| bit v) 16 = cn (h u &&& (bit v ^^^ (-1))) 16 + 1 := cn_or_bit hy 16 hv (by decide)
  have h5 : (h u &&& (bit v ^^^ (-1))) ||| bit v = h u := by
    refine b_ext (fun i hi => ?_)
    rw [b_or, b_and, bt_not _ hi, bt_bit (by omega) hi]
    by_cases hq : i = v
    · subst hq
      rw [hb]
      simp
    · simp [hq]
  rw [h5] at h2
  have h3 : tb (upd h u (h u &&& (bit v ^^^ (-1)))) + 1 = tb h := by
    unfold tb
    omega
  refine ⟨gd_cut hg, fun w hw => ?_, ?_, by omega⟩
  · by_cases hq : w = u
    · subst hq
      rw [upd_eq, b_and, hs w hw]
      rfl
    · rw [upd_ne hq]
      exact hs w hw
  · rw [← h3, ← nI_ad]
    exact Int32.add_sub_cancel _ _
theorem nib (x : Int32) : ∃ j, j < 16 ∧ x &&& nI 15 = nI j := by
  have hx : m16 (x &&& nI 15) := fun i hi => by
    rw [b_and]
    have : bt (nI 15) i = false := by
      by_cases h9 : i < 32
      · exact (show ∀ i, i < 32 → 16 ≤ i → bt (nI 15) i = false by decide +kernel) i h9 hi
      · exact b_big (by omega)
    rw [this, Bool.and_false]
  have key : ∀ n : Nat, n < 16 → (x &&& nI 15).toBitVec.toNat = n → x &&& nI 15 = nI n := by
    intro n hn hq
    refine Int32.toBitVec_inj.mp (BitVec.eq_of_toNat_eq ?_)
    rw [hq]
    exact ((show ∀ n, n < 16 → n = (nI n).toBitVec.toNat by decide +kernel) n hn)
  have hlt : (x &&& nI 15).toBitVec.toNat < 16 := by
    rw [Int32.toBitVec_and, BitVec.toNat_and]
    exact Nat.lt_of_le_of_lt Nat.and_le_right (by decide)
  exact ⟨_, hlt, key _ hlt rfl⟩
theorem rng {x : Int32} {N : Nat} (hN : N ≤ 16) : (x < 0 ∨ ¬ x < nI N) ∨ ∃ k, k < N ∧ x = nI k := by
  by_cases h1 : x < 0
  · exact Or.inl (Or.inl h1)
  · obtain ⟨j, hj, rfl⟩ := nI_of h1
    by_cases h2 : j < N
    · exact Or.inr ⟨j, h2, rfl⟩
    · exact Or.inl (Or.inr (fun q => h2 ((nI_ltI (by omega) (by omega)).mp q)))
theorem rng2 {x : Int32} {N : Nat} (hN : N ≤ 16) : (x < 0 ∨ ¬ x ≤ nI N) ∨ ∃ k, k ≤ N ∧ x = nI k := by
  by_cases h1 : x < 0
  · exact Or.inl (Or.inl h1)
  · obtain ⟨j, hj, rfl⟩ := nI_of h1
    by_cases h2 : j ≤ N
    · exact Or.inr ⟨j, h2, rfl⟩
    · exact Or.inl (Or.inr (fun q => h2 ((nI_leI (by omega) (by omega)).mp q)))
theorem lp_gt {i L : Nat} (hi : i ≤ L) (hL : L ≤ 2048) (h : nI L - nI 4 < nI i) : ¬ (i + 4 ≤ L) := by
  intro q
  have h1 : nI L - nI 4 = nI (L - 4) := by
    rw [show nI L = nI (L - 4) + nI 4 by rw [nI_ad, show L - 4 + 4 = L by omega]]
    exact Int32.add_sub_cancel _ _
  rw [h1] at h
  have := (nI_ltI (by omega) (by omega)).mp h
  omega
theorem lp_le {k L : Nat} (hi : 4 * k ≤ L) (hL : L ≤ 2048) (h : ¬ nI L - nI 4 < nI (4 * k)) : 4 * k + 4 ≤ L := by
  by_cases h4 : 4 ≤ L
  · have h1 : nI L - nI 4 = nI (L - 4) := by
      rw [show nI L = nI (L - 4) + nI 4 by rw [nI_ad, show L - 4 + 4 = L by omega]]
      exact Int32.add_sub_cancel _ _
    rw [h1] at h
    have : ¬ (L - 4 < 4 * k) := fun q => h ((nI_ltI (by omega) (by omega)).mpr q)
    omega
  · have hk : k = 0 := by omega
    subst hk
    rcases (show L = 0 ∨ L = 1 ∨ L = 2 ∨ L = 3 by omega) with rfl | rfl | rfl | rfl <;> exact absurd h (by decide)
theorem DS_cases (h : Nat → Int32) (u v : Nat) : DS h u v = -1 ∨ ∃ n, n < 16 ∧ DS h u v = nI n := by
  unfold DS
  by_cases hd : ds h u v < 16
  · rw [if_pos hd]; exact Or.inr ⟨_, hd, rfl⟩
  · rw [if_neg hd]; exact Or.inl rfl
theorem RE_self {h : Nat → Int32} (hg : gd h) {u : Nat} (hu : u < 16) : bt (RE h u) u = true := (RE_iff hg hu).mpr (Rc_rf u)
theorem iv_lt {h : Nat → Int32} {c : Int32} (hi : iv h c) (hc : ¬ c = nI 80) : c < nI 80 := by
  obtain ⟨hg, hs, rfl, ht⟩ := hi
  exact nI_lt (Nat.lt_of_le_of_ne ht (fun q => hc (by rw [q]))) (by decide)
