def isP (x : Int32) : Bool := decide (¬ x < 0) && decide (¬ nI 15 < x)
theorem or_z (x : Int32) : x ||| nI 0 = x := by
  apply b_ext; intro i _; rw [b_or, show nI 0 = 0 from rfl, b_0, Bool.or_false]
theorem sz_step {x : Int32} {v : Nat} (hv : v < 32) : nI (cn x v) + ((x >>> (nI v &&& 31)) &&& nI 1) = nI (cn x (v + 1)) := by
  rw [show ((x >>> (nI v &&& 31)) &&& nI 1) = if bt x v = true then 1 else 0 from has_s0 hv]
  show _ = nI (cn x v + (if bt x v = true then 1 else 0))
  by_cases h : bt x v = true
  · rw [if_pos h, if_pos h, ← nI_1]
  · rw [if_neg h, if_neg h, ← nI_0, nI_add]
theorem lst_step {x : Int32} {i : Nat} (hex : ∃ j, j < 16 ∧ bt x j = true) (hm : ∀ k, k < i → bt x k = false) (hi : i < 16) (hc : bt x i = false) : i + 1 < 16 := by
  apply Nat.lt_of_not_le
  intro h
  obtain ⟨j, h1, h2⟩ := hex
  have : bt x j = false := by
    rcases Nat.lt_or_ge j i with h3 | h3
    · exact hm j h3
    · have : j = i := by omega
      rw [this]; exact hc
  rw [this] at h2; cases h2
theorem itr_ne {h : Nat → Int32} (hg : gd h) {c x : Int32} (hx : m16 x) {j : Nat} (hn : ¬ itr h c (j + 1) x = itr h c j x) : j < 15 := by
  apply Nat.lt_of_not_le
  intro hj
  apply hn
  have h1 := itr_fix (itr_15 (c := c) hg hx) (j - 15)
  have h2 := itr_fix (itr_15 (c := c) hg hx) (j + 1 - 15)
  rw [show 15 + (j - 15) = j by omega] at h1
  rw [show 15 + (j + 1 - 15) = j + 1 by omega] at h2
  rw [h1, h2]
theorem sp_end {h : Nat → Int32} (hg : gd h) {sx cx b : Int32} (hs : m16 sx) {k : Nat} (hd : (k = 0 ∧ b = 0) ∨ ∃ j, k = j + 1 ∧ b = itr h cx j (sx &&& (cx ^^^ (-1)))) (he : itr h cx k (sx &&& (cx ^^^ (-1))) = b) : itr h cx k (sx &&& (cx ^^^ (-1))) = SP h sx cx := by
  unfold SP
  rcases hd with ⟨h1, h2⟩ | ⟨j, h1, h2⟩
  · subst h1; subst h2
    have he : sx &&& (cx ^^^ (-1)) = 0 := he
    rw [he]
    show (0 : Int32) = itr h cx 15 0
    exact (itr_at (k := 0) (by omega) (stp_0 h cx)).symm
  · subst h1; subst h2
    rw [itr_any hg (m16_and hs) (k := j) he]
    exact he
theorem al_0 : ∀ i, i < 16 → bt 65535 i = !(bt 0 i) := by decide +kernel
theorem al_d {d : Nat} (hd : d < 16) : ∀ i, i < 16 → bt (65535 &&& (bit d ^^^ (-1))) i = !(bt (bit d) i) := by
  intro i hi
  rw [b_and, b_65535, decide_eq_true hi, Bool.true_and, bt_not _ (by omega)]
