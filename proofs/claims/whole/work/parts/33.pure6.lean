theorem st_congr {P Q : Nat → Prop} (h : ∀ i, i < 16 → (P i ↔ Q i)) : st P = st Q := st_eq (m16_st P) (fun i hi => by rw [bt_st]; exact ⟨fun q => (h i hi).mp q.2, fun q => ⟨hi, (h i hi).mpr q⟩⟩)
def LdP (h : Nat → Int32) (nm : Nat → Nat) (u v g x : Nat) : Prop := g ≠ x ∧ ∃ a b, (a < u ∨ (a = u ∧ b < v)) ∧ b < 16 ∧ Eg h a b ∧ nm a = g ∧ nm b = x
noncomputable def LTp (h : Nat → Int32) (nm : Nat → Nat) (u v : Nat) : Nat → Int32 := fun g => st (fun x => LdP h nm u v g x)
noncomputable def BFp (h : Nat → Int32) (nm : Nat → Nat) (u v : Nat) : Nat → Int32 := fun g => st (fun x => LdP h nm u v x g)
theorem LP_00 {h : Nat → Int32} {nm : Nat → Nat} {g x : Nat} : ¬ LdP h nm 0 0 g x := by
  rintro ⟨_, a, b, h1, _⟩; omega
theorem st_none {P : Nat → Prop} (h : ∀ i, i < 16 → ¬ P i) : st P = nI 0 := by
  show st P = 0
  apply m16_zero (m16_st P)
  intro i hi
  cases hb : bt (st P) i with
  | false => rfl
  | true => exact absurd (bt_st.mp hb).2 (h i hi)
theorem LTp_00 {h : Nat → Int32} {nm : Nat → Nat} : (fun _ => nI 0) = LTp h nm 0 0 := funext fun g => (st_none (fun _ _ => LP_00)).symm
theorem BFp_00 {h : Nat → Int32} {nm : Nat → Nat} : (fun _ => nI 0) = BFp h nm 0 0 := funext fun g => (st_none (fun _ _ => LP_00)).symm
theorem LP_st {h : Nat → Int32} {nm : Nat → Nat} {u v g x : Nat} : LdP h nm u (v + 1) g x ↔ LdP h nm u v g x ∨ (g ≠ x ∧ v < 16 ∧ Eg h u v ∧ nm u = g ∧ nm v = x) := by
  constructor
  · rintro ⟨h1, a, b, h2, h3, h4, h5, h6⟩
    by_cases hn : a = u ∧ b = v
    · obtain ⟨rfl, rfl⟩ := hn
      exact Or.inr ⟨h1, h3, h4, h5, h6⟩
    · exact Or.inl ⟨h1, a, b, by omega, h3, h4, h5, h6⟩
  · rintro (⟨h1, a, b, h2, h3, h4, h5, h6⟩ | ⟨h1, h3, h4, h5, h6⟩)
    · exact ⟨h1, a, b, by omega, h3, h4, h5, h6⟩
    · exact ⟨h1, u, v, by omega, h3, h4, h5, h6⟩
theorem LP_row {h : Nat → Int32} {nm : Nat → Nat} {u g x : Nat} : LdP h nm u 16 g x ↔ LdP h nm (u + 1) 0 g x := by
  constructor
  · rintro ⟨h1, a, b, h2, h3, h4⟩; exact ⟨h1, a, b, by omega, h3, h4⟩
  · rintro ⟨h1, a, b, h2, h3, h4⟩; exact ⟨h1, a, b, by omega, h3, h4⟩
theorem LTp_row {h : Nat → Int32} {nm : Nat → Nat} {u : Nat} : LTp h nm u 16 = LTp h nm (u + 1) 0 := funext fun g => st_congr (fun _ _ => LP_row)
theorem BFp_row {h : Nat → Int32} {nm : Nat → Nat} {u : Nat} : BFp h nm u 16 = BFp h nm (u + 1) 0 := funext fun g => st_congr (fun _ _ => LP_row)
theorem LP_skip {h : Nat → Int32} {nm : Nat → Nat} {u v g x : Nat} (hs : ¬ (bt (h u) v = true ∧ ¬ nm u = nm v)) : LdP h nm u v g x ↔ LdP h nm u (v + 1) g x := by
  rw [LP_st]
  constructor
  · exact Or.inl
  · rintro (h1 | ⟨h1, _, h3, h4, h5⟩)
    · exact h1
    · exact absurd ⟨h3.2, fun q => h1 (by rw [← h4, ← h5]; exact q)⟩ hs
theorem LTp_skip {h : Nat → Int32} {nm : Nat → Nat} {u v : Nat} (hs : ¬ (bt (h u) v = true ∧ ¬ nm u = nm v)) : LTp h nm u v = LTp h nm u (v + 1) := funext fun g => st_congr (fun _ _ => LP_skip hs)
theorem BFp_skip {h : Nat → Int32} {nm : Nat → Nat} {u v : Nat} (hs : ¬ (bt (h u) v = true ∧ ¬ nm u = nm v)) : BFp h nm u v = BFp h nm u (v + 1) := funext fun g => st_congr (fun _ _ => LP_skip hs)
theorem LTp_add {h : Nat → Int32} {nm : Nat → Nat} {u v : Nat} (hu : u < 16) (hv : v < 16) (hb : bt (h u) v = true) (hne : ¬ nm u = nm v) (hnv : nm v < 16) : upd (LTp h nm u v) (nm u) (LTp h nm u v (nm u) ||| bit (nm v)) = LTp h nm u (v + 1) := by
  funext g
  by_cases hg : g = nm u
  · subst hg
    rw [pk_us]
    apply st_eq (m16_or (m16_st _) (m16_bit hnv))
    intro i hi
    rw [b_or, Bool.or_eq_true, LP_st, bt_bit (by omega) (by omega), decide_eq_true_eq]
    show bt (st _) i = true ∨ _ ↔ _
    rw [bt_st]
    constructor
    · rintro (h1 | h1)
      · exact Or.inl h1.2
      · subst h1; exact Or.inr ⟨hne, hv, ⟨hu, hb⟩, rfl, rfl⟩
    · rintro (h1 | ⟨_, _, _, _, h1⟩)
      · exact Or.inl ⟨hi, h1⟩
      · exact Or.inr h1.symm
  · rw [pk_un hg]
    apply st_congr
    intro i _
    rw [LP_st]
    exact ⟨Or.inl, fun q => q.elim id (fun q => absurd q.2.2.2.1.symm hg)⟩
theorem BFp_add {h : Nat → Int32} {nm : Nat → Nat} {u v : Nat} (hu : u < 16) (hv : v < 16) (hb : bt (h u) v = true) (hne : ¬ nm u = nm v) (hnu : nm u < 16) : upd (BFp h nm u v) (nm v) (BFp h nm u v (nm v) ||| bit (nm u)) = BFp h nm u (v + 1) := by
  funext g
  by_cases hg : g = nm v
  · subst hg
    rw [pk_us]
    apply st_eq (m16_or (m16_st _) (m16_bit hnu))
    intro i hi
    rw [b_or, Bool.or_eq_true, LP_st, bt_bit (by omega) (by omega), decide_eq_true_eq]
    show bt (st _) i = true ∨ _ ↔ _
    rw [bt_st]
    constructor
    · rintro (h1 | h1)
      · exact Or.inl h1.2
      · subst h1; exact Or.inr ⟨hne, hv, ⟨hu, hb⟩, rfl, rfl⟩
    · rintro (h1 | ⟨_, _, _, h1, _⟩)
      · exact Or.inl ⟨hi, h1⟩
      · exact Or.inr h1.symm
  · rw [pk_un hg]
    apply st_congr
    intro i _
    rw [LP_st]
    exact ⟨Or.inl, fun q => q.elim id (fun q => absurd q.2.2.2.2.symm hg)⟩
def nxF (nM bF : Nat → Int32) (x : Int32) : Nat := first (fun u => decide (nM u = nI u) && !(bt x u) && decide (bF u &&& (x ^^^ (-1)) = 0)) 0 16
def plF (nM bF : Nat → Int32) : Nat → Int32
  | 0 => nI 0
  | k + 1 => plF nM bF k ||| bit (nxF nM bF (plF nM bF k))
theorem nxF_lt (nM bF : Nat → Int32) (x : Int32) : nxF nM bF x < 16 := first_lt (by omega)
def chF (bF : Nat → Int32) (od : Nat → Nat) (cH : Nat → Int32) : Nat → Nat → Int32
  | 0 => cH
  | k + 1 => upd (chF bF od cH k) (od k) (nI 1 + mxq (bF (od k)) (chF bF od cH k) 16)
def lgF (bF : Nat → Int32) (od : Nat → Nat) (cH : Nat → Int32) : Nat → Int32
  | 0 => nI 0
  | k + 1 => if lgF bF od cH k < chF bF od cH (k + 1) (od k) then chF bF od cH (k + 1) (od k) else lgF bF od cH k
