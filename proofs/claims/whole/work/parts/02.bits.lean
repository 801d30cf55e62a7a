def bt (x : Int32) (i : Nat) : Bool := x.toBitVec.getLsbD i
theorem b_ext {x y : Int32} (h : ∀ i, i < 32 → bt x i = bt y i) : x = y := Int32.toBitVec_inj.mp (BitVec.eq_of_getLsbD_eq (fun i hi => h i hi))
theorem b_or (x y : Int32) (i : Nat) : bt (x ||| y) i = (bt x i || bt y i) := by unfold bt; rw [Int32.toBitVec_or, BitVec.getLsbD_or]
theorem b_and (x y : Int32) (i : Nat) : bt (x &&& y) i = (bt x i && bt y i) := by unfold bt; rw [Int32.toBitVec_and, BitVec.getLsbD_and]
theorem b_xor (x y : Int32) (i : Nat) : bt (x ^^^ y) i = (bt x i ^^ bt y i) := by unfold bt; rw [Int32.toBitVec_xor, BitVec.getLsbD_xor]
theorem b_big {x : Int32} {i : Nat} (h : 32 ≤ i) : bt x i = false := BitVec.getLsbD_of_ge _ _ h
theorem b_65535 (i : Nat) : bt 65535 i = decide (i < 16) := by
  rcases Nat.lt_or_ge i 32 with h | h
  · exact (by decide +kernel : ∀ i, i < 32 → bt 65535 i = decide (i < 16)) i h
  · rw [b_big h, decide_eq_false (by omega)]
theorem b_m1 : ∀ i, i < 32 → bt (-1) i = true := by decide +kernel
theorem b_0 (i : Nat) : bt 0 i = false := BitVec.getLsbD_zero
theorem b_1 : ∀ i, i < 32 → bt 1 i = decide (i = 0) := by decide +kernel
theorem s_l : ∀ n, n < 32 → ((nI n &&& 31).toBitVec.smod 32).toNat = n := by decide +kernel
theorem s_u : ∀ n, n < 32 → (((nI n).toUInt32 &&& Int32.toUInt32 31).toBitVec % 32).toNat = n := by decide +kernel
theorem b_shl (n : Nat) (hn : n < 32) (x : Int32) {i : Nat} (hi : i < 32) : bt (x <<< (nI n &&& 31)) i = (decide (n ≤ i) && bt x (i - n)) := by
  unfold bt
  rw [Int32.toBitVec_shiftLeft]
  show (x.toBitVec <<< ((nI n &&& 31).toBitVec.smod 32).toNat).getLsbD i = _
  rw [s_l n hn, BitVec.getLsbD_shiftLeft]
  rcases Nat.lt_or_ge i n with h | h
  · simp [h, Nat.not_le.mpr h]
  · simp [hi, h, Nat.not_lt.mpr h]
theorem b_ushr (n : Nat) (hn : n < 32) (x : Int32) (i : Nat) : bt ((x.toUInt32 >>> ((nI n).toUInt32 &&& Int32.toUInt32 31)).toInt32) i = bt x (n + i) := by
  show (x.toUInt32 >>> ((nI n).toUInt32 &&& Int32.toUInt32 31)).toBitVec.getLsbD i = x.toUInt32.toBitVec.getLsbD (n + i)
  rw [UInt32.toBitVec_shiftRight]
  show (x.toUInt32.toBitVec >>> (((nI n).toUInt32 &&& Int32.toUInt32 31).toBitVec % 32).toNat).getLsbD i = _
  rw [s_u n hn, BitVec.getLsbD_ushiftRight]
theorem b_sshr (n : Nat) (hn : n < 32) (x : Int32) {i : Nat} (hi : i < 32) : bt (x >>> (nI n &&& 31)) i = if n + i < 32 then bt x (n + i) else bt x 31 := by
  unfold bt
  rw [Int32.toBitVec_shiftRight]
  show (x.toBitVec.sshiftRight ((nI n &&& 31).toBitVec.smod 32).toNat).getLsbD i = _
  rw [s_l n hn, BitVec.getLsbD_sshiftRight, BitVec.msb_eq_getLsbD_last]
  simp [hi]
def bit (n : Nat) : Int32 := (1 : Int32) <<< (nI n &&& 31)
theorem bt_bit {n i : Nat} (hn : n < 32) (hi : i < 32) : bt (bit n) i = decide (i = n) := by
  unfold bit
  rw [b_shl n hn 1 hi, b_1 (i - n) (by omega)]
  by_cases h : n ≤ i
  · rw [decide_eq_true h, Bool.true_and]
    exact decide_eq_decide.mpr ⟨fun h1 => by omega, fun h1 => by omega⟩
  · rw [decide_eq_false h, Bool.false_and, decide_eq_false (by omega)]
theorem bt_not (x : Int32) {i : Nat} (hi : i < 32) : bt (x ^^^ (-1)) i = !(bt x i) := by
  rw [b_xor, b_m1 i hi]; cases bt x i <;> rfl
theorem xb_low (y : Int32) : (y &&& 1) = 0 ↔ bt y 0 = false := by
  constructor
  · intro h
    have h1 := b_and y 1 0
    rw [h, b_0, b_1 0 (by omega)] at h1
    cases hb : bt y 0 with
    | false => rfl
    | true => rw [hb] at h1; simp at h1
  · intro h
    apply b_ext
    intro i hi
    rw [b_and, b_0, b_1 i hi]
    by_cases h0 : i = 0
    · subst h0; rw [h]; rfl
    · rw [decide_eq_false h0, Bool.and_false]
theorem xb_low1 (y : Int32) : (y &&& 1) = 1 ↔ bt y 0 = true := by
  constructor
  · intro h
    have h1 := b_and y 1 0
    rw [h, b_1 0 (by omega)] at h1
    cases hb : bt y 0 with
    | true => rfl
    | false => rw [hb] at h1; simp at h1
  · intro h
    apply b_ext
    intro i hi
    rw [b_and, b_1 i hi]
    by_cases h0 : i = 0
    · subst h0; rw [h]; rfl
    · rw [decide_eq_false h0, Bool.and_false]
theorem has_u {x : Int32} {n : Nat} (hn : n < 32) : ((x.toUInt32 >>> ((nI n).toUInt32 &&& Int32.toUInt32 31)).toInt32 &&& 1) = 0 ↔ bt x n = false := by
  rw [xb_low, b_ushr n hn, Nat.add_zero]
theorem has_u1 {x : Int32} {n : Nat} (hn : n < 32) : ((x.toUInt32 >>> ((nI n).toUInt32 &&& Int32.toUInt32 31)).toInt32 &&& 1) = 1 ↔ bt x n = true := by
  rw [xb_low1, b_ushr n hn, Nat.add_zero]
theorem has_s {x : Int32} {n : Nat} (hn : n < 32) : ((x >>> (nI n &&& 31)) &&& 1) = 1 ↔ bt x n = true := by
  rw [xb_low1, b_sshr n hn x (by omega)]
  simp [hn]
theorem has_s0 {x : Int32} {n : Nat} (hn : n < 32) : ((x >>> (nI n &&& 31)) &&& 1) = if bt x n = true then 1 else 0 := by
  cases hb : bt x n with
  | true => rw [if_pos rfl]; exact (has_s hn).mpr hb
  | false =>
    rw [if_neg (by decide)]
    rw [xb_low, b_sshr n hn x (by omega)]
    simp [hn, hb]
def m16 (x : Int32) : Prop := ∀ i, 16 ≤ i → bt x i = false
theorem m16_ext {x y : Int32} (hx : m16 x) (hy : m16 y) (h : ∀ i, i < 16 → bt x i = bt y i) : x = y := by
  apply b_ext
  intro i _
  by_cases h1 : i < 16
  · exact h i h1
  · rw [hx i (by omega), hy i (by omega)]
theorem m16_0 : m16 0 := fun i _ => b_0 i
theorem m16_or {x y : Int32} (hx : m16 x) (hy : m16 y) : m16 (x ||| y) := fun i hi => by rw [b_or, hx i hi, hy i hi]; rfl
theorem m16_and {x y : Int32} (hx : m16 x) : m16 (x &&& y) := fun i hi => by rw [b_and, hx i hi]; rfl
theorem m16_and2 {x y : Int32} (hy : m16 y) : m16 (x &&& y) := fun i hi => by rw [b_and, hy i hi, Bool.and_false]
theorem m16_bit {n : Nat} (hn : n < 16) : m16 (bit n) := fun i hi => by
  by_cases h : i < 32
  · rw [bt_bit (by omega) h, decide_eq_false (by omega)]
  · exact b_big (by omega)
theorem m16_65535 : m16 65535 := fun i hi => by rw [b_65535, decide_eq_false (by omega)]
theorem m16_lt {x : Int32} (h : m16 x) {i : Nat} (hb : bt x i = true) : i < 16 := by
  rcases Nat.lt_or_ge i 16 with h1 | h1
  · exact h1
  · rw [h i h1] at hb; cases hb
theorem bt_lt {x : Int32} {i : Nat} (hb : bt x i = true) : i < 32 := by
  rcases Nat.lt_or_ge i 32 with h1 | h1
  · exact h1
  · rw [b_big h1] at hb; cases hb
def un (f : Nat → Int32) (t : Int32) : Nat → Int32
  | 0 => 0
  | k + 1 => if bt t k = true then un f t k ||| f k else un f t k
theorem bt_un {f : Nat → Int32} {t : Int32} {k i : Nat} : bt (un f t k) i = true ↔ ∃ u, u < k ∧ bt t u = true ∧ bt (f u) i = true := by
  induction k with
  | zero => constructor
            · intro h; rw [show un f t 0 = 0 from rfl, b_0] at h; cases h
            · rintro ⟨u, hu, -⟩; omega
  | succ k ih =>
    show bt (if bt t k = true then un f t k ||| f k else un f t k) i = true ↔ _
    by_cases hk : bt t k = true
    · rw [if_pos hk, b_or, Bool.or_eq_true, ih]
      constructor
      · rintro (⟨u, h1, h2, h3⟩ | h3)
        · exact ⟨u, by omega, h2, h3⟩
        · exact ⟨k, by omega, hk, h3⟩
      · rintro ⟨u, h1, h2, h3⟩
        rcases Nat.lt_or_ge u k with h4 | h4
        · exact Or.inl ⟨u, h4, h2, h3⟩
        · have : u = k := by omega
          subst this
          exact Or.inr h3
    · rw [if_neg hk, ih]
      constructor
      · rintro ⟨u, h1, h2, h3⟩; exact ⟨u, by omega, h2, h3⟩
      · rintro ⟨u, h1, h2, h3⟩
        rcases Nat.lt_or_ge u k with h4 | h4
        · exact ⟨u, h4, h2, h3⟩
        · have : u = k := by omega
          subst this
          exact absurd h2 hk
theorem un_m16 {f : Nat → Int32} {t : Int32} {k : Nat} (hf : ∀ u, u < k → m16 (f u)) : m16 (un f t k) := by
  intro i hi
  cases hb : bt (un f t k) i with
  | false => rfl
  | true =>
    obtain ⟨u, h1, _, h3⟩ := bt_un.mp hb
    rw [hf u h1 i hi] at h3; cases h3
def cn (x : Int32) : Nat → Nat
  | 0 => 0
  | k + 1 => cn x k + (if bt x k = true then 1 else 0)
theorem cn_le (x : Int32) (k : Nat) : cn x k ≤ k := by
  induction k with
  | zero => exact Nat.le_refl _
  | succ k ih => show cn x k + (if bt x k = true then 1 else 0) ≤ k + 1; split <;> omega
theorem cn_mono {x y : Int32} (h : ∀ i, bt x i = true → bt y i = true) (k : Nat) : cn x k ≤ cn y k := by
  induction k with
  | zero => exact Nat.le_refl _
  | succ k ih =>
    show cn x k + (if bt x k = true then 1 else 0) ≤ cn y k + (if bt y k = true then 1 else 0)
    by_cases hk : bt x k = true
    · rw [if_pos hk, if_pos (h k hk)]; omega
    · rw [if_neg hk]; split <;> omega
theorem cn_lt {x y : Int32} (h : ∀ i, bt x i = true → bt y i = true) {j k : Nat} (hj : j < k) (hx : bt x j = false) (hy : bt y j = true) : cn x k < cn y k := by
  induction k with
  | zero => omega
  | succ k ih =>
    show cn x k + (if bt x k = true then 1 else 0) < cn y k + (if bt y k = true then 1 else 0)
    rcases Nat.lt_or_ge j k with h1 | h1
    · have := ih h1
      by_cases hk : bt x k = true
      · rw [if_pos hk, if_pos (h k hk)]; omega
      · rw [if_neg hk]; split <;> omega
    · have : j = k := by omega
      subst this
      have := cn_mono h j
      rw [if_neg (by rw [hx]; decide), if_pos hy]; omega
theorem cn_pos {x : Int32} {j k : Nat} (hj : j < k) (hx : bt x j = true) : 0 < cn x k := by
  have h1 := cn_lt (x := 0) (y := x) (fun i h => by rw [b_0] at h; cases h) hj (b_0 j) hx
  omega
theorem cn_zero {x : Int32} {k : Nat} (h : cn x k = 0) {j : Nat} (hj : j < k) : bt x j = false := by
  cases hb : bt x j with
  | false => rfl
  | true => have := cn_pos hj hb; omega
theorem m16_zero {x : Int32} (hx : m16 x) (h : ∀ i, i < 16 → bt x i = false) : x = 0 := m16_ext hx m16_0 (fun i hi => by rw [h i hi, b_0])
theorem m16_some {x : Int32} (hx : m16 x) (h : x ≠ 0) : ∃ i, i < 16 ∧ bt x i = true := by
  apply Classical.byContradiction
  intro hn
  apply h
  apply m16_zero hx
  intro i hi
  cases hb : bt x i with
  | false => rfl
  | true => exact absurd ⟨i, hi, hb⟩ hn
theorem m16_diff {x y : Int32} (hx : m16 x) (hy : m16 y) (hs : ∀ i, bt x i = true → bt y i = true) (hne : x ≠ y) : cn x 16 < cn y 16 := by
  have : ∃ i, i < 16 ∧ bt x i = false ∧ bt y i = true := by
    apply Classical.byContradiction
    intro hn
    apply hne
    apply m16_ext hx hy
    intro i hi
    cases hb : bt x i with
    | true => rw [hs i hb]
    | false =>
      cases hc : bt y i with
      | false => rfl
      | true => exact absurd ⟨i, hi, hb, hc⟩ hn
  obtain ⟨i, h1, h2, h3⟩ := this
  exact cn_lt hs h1 h2 h3
