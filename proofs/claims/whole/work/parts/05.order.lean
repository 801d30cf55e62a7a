def mk (p : Nat → Bool) : Nat → Int32
  | 0 => 0
  | k + 1 => if p k = true then mk p k ||| bit k else mk p k
theorem bt_mk {p : Nat → Bool} {k i : Nat} (hk : k ≤ 32) : bt (mk p k) i = true ↔ i < k ∧ p i = true := by
  induction k with
  | zero =>
    constructor
    · intro h; rw [show mk p 0 = 0 from rfl, b_0] at h; cases h
    · intro h; omega
  | succ k ih =>
    have ih := ih (by omega)
    show bt (if p k = true then mk p k ||| bit k else mk p k) i = true ↔ _
    by_cases hc : p k = true
    · rw [if_pos hc, b_or, Bool.or_eq_true, ih]
      constructor
      · rintro (h1 | h1)
        · exact ⟨by omega, h1.2⟩
        · rw [bt_bit (by omega) (bt_lt h1), decide_eq_true_eq] at h1
          subst h1; exact ⟨by omega, hc⟩
      · rintro ⟨h1, h2⟩
        by_cases hi : i = k
        · subst hi; right; rw [bt_bit (by omega) (by omega), decide_eq_true rfl]
        · exact Or.inl ⟨by omega, h2⟩
    · rw [if_neg hc, ih]
      constructor
      · rintro ⟨h1, h2⟩; exact ⟨by omega, h2⟩
      · rintro ⟨h1, h2⟩
        by_cases hi : i = k
        · subst hi; exact absurd h2 hc
        · exact ⟨by omega, h2⟩
noncomputable def dp (P : Prop) : Bool := @decide P (Classical.propDecidable P)
theorem dp_t {P : Prop} : dp P = true ↔ P := by
  unfold dp
  exact @decide_eq_true_iff P (Classical.propDecidable P)
theorem dp_f {P : Prop} : dp P = false ↔ ¬ P := by
  unfold dp
  exact @decide_eq_false_iff_not P (Classical.propDecidable P)
theorem bt_iff {x y : Int32} {i : Nat} (h : bt x i = true ↔ bt y i = true) : bt x i = bt y i := by
  cases h1 : bt x i with
  | true => exact (h.mp h1).symm
  | false =>
    cases h2 : bt y i with
    | false => rfl
    | true => rw [h.mpr h2] at h1; cases h1
noncomputable def st (P : Nat → Prop) : Int32 := mk (fun i => dp (P i)) 16
theorem bt_st {P : Nat → Prop} {i : Nat} : bt (st P) i = true ↔ i < 16 ∧ P i := by
  unfold st
  rw [bt_mk (by omega), dp_t]
theorem m16_st (P : Nat → Prop) : m16 (st P) := fun i hi => by
  cases hb : bt (st P) i with
  | false => rfl
  | true => have := (bt_st.mp hb).1; omega
theorem st_eq {P : Nat → Prop} {x : Int32} (hx : m16 x) (h : ∀ i, i < 16 → (bt x i = true ↔ P i)) : x = st P :=
  m16_ext hx (m16_st P) (fun i hi => bt_iff (by rw [bt_st, h i hi]; exact ⟨fun q => ⟨hi, q⟩, fun q => q.2⟩))
def Ld (h : Nat → Int32) (g x : Nat) : Prop := g ≠ x ∧ ∃ u v, Eg h u v ∧ NM h u = g ∧ NM h v = x
theorem Ld_names {h : Nat → Int32} (hg : gd h) {g x : Nat} (e : Ld h g x) : g < 16 ∧ x < 16 ∧ NM h g = g ∧ NM h x = x := by
  obtain ⟨_, u, v, ⟨hu, hb⟩, h1, h2⟩ := e
  have hv := m16_lt (hg u hu) hb
  have a := NM_NM hg hu
  have b := NM_NM hg hv
  have a1 := (NM_spec hg hu).1
  have b1 := (NM_spec hg hv).1
  rw [h1] at a a1
  rw [h2] at b b1
  exact ⟨a1, b1, a, b⟩
theorem Ld_rc {h : Nat → Int32} (hg : gd h) {g x : Nat} (e : Ld h g x) : Rc (Eg h) g x ∧ ¬ Rc (Eg h) x g := by
  have hn := Ld_names hg e
  obtain ⟨hne, u, v, he, h1, h2⟩ := e
  have hv := m16_lt (hg u he.1) he.2
  have a := NM_spec hg he.1
  have b := NM_spec hg hv
  rw [h1] at a
  rw [h2] at b
  have h3 : Rc (Eg h) g x := Rc_tr a.2.2.1 (Rc_head he b.2.1)
  refine ⟨h3, fun h4 => hne ?_⟩
  have := NM_eq hg hn.1 hn.2.1 h3 h4
  rw [hn.2.2.1, hn.2.2.2] at this
  exact this
noncomputable def LT (h : Nat → Int32) (g : Nat) : Int32 := st (fun x => Ld h g x)
noncomputable def BF (h : Nat → Int32) (g : Nat) : Int32 := st (fun x => Ld h x g)
def fr (h : Nat → Int32) (p : Int32) (g : Nat) : Prop := NM h g = g ∧ bt p g = false ∧ ∀ x, Ld h x g → bt p x = true
noncomputable def nx (h : Nat → Int32) (p : Int32) : Nat := first (fun g => dp (fr h p g)) 0 16
noncomputable def pl (h : Nat → Int32) : Nat → Int32
  | 0 => 0
  | k + 1 => pl h k ||| bit (nx h (pl h k))
theorem max_ex {P : Nat → Prop} {f : Nat → Nat} : ∀ N, (∃ g, g < N ∧ P g) → ∃ g, g < N ∧ P g ∧ ∀ g', g' < N → P g' → f g' ≤ f g := by
  intro N
  induction N with
  | zero => rintro ⟨g, hg, _⟩; omega
  | succ N ih =>
    rintro ⟨g, hg, hp⟩
    by_cases he : ∃ g, g < N ∧ P g
    · obtain ⟨a, h1, h2, h3⟩ := ih he
      by_cases hN : P N ∧ f a < f N
      · refine ⟨N, by omega, hN.1, fun g' h4 h5 => ?_⟩
        rcases Nat.lt_or_ge g' N with h6 | h6
        · have := h3 g' h6 h5; omega
        · have : g' = N := by omega
          subst this; exact Nat.le_refl _
      · refine ⟨a, by omega, h2, fun g' h4 h5 => ?_⟩
        rcases Nat.lt_or_ge g' N with h6 | h6
        · exact h3 g' h6 h5
        · have : g' = N := by omega
          subst this
          apply Nat.le_of_not_lt
          intro h7
          exact hN ⟨h5, h7⟩
    · refine ⟨g, hg, hp, fun g' h4 h5 => ?_⟩
      have e1 : g = N := by
        apply Classical.byContradiction
        intro hn; exact he ⟨g, by omega, hp⟩
      have e2 : g' = N := by
        apply Classical.byContradiction
        intro hn; exact he ⟨g', by omega, h5⟩
      rw [e1, e2]; exact Nat.le_refl _
theorem fr_ex {h : Nat → Int32} (hg : gd h) {p : Int32} (he : ∃ g, g < 16 ∧ NM h g = g ∧ bt p g = false) : ∃ g, g < 16 ∧ fr h p g := by
  obtain ⟨g, h1, ⟨h2, h3⟩, h4⟩ := max_ex (P := fun g => NM h g = g ∧ bt p g = false) (f := fun g => cn (RE h g) 16) 16 he
  refine ⟨g, h1, h2, h3, fun x hx => ?_⟩
  have hn := Ld_names hg hx
  have hr := Ld_rc hg hx
  cases hb : bt p x with
  | true => rfl
  | false =>
    have h5 := h4 x hn.1 ⟨hn.2.2.1, hb⟩
    have h6 : cn (RE h g) 16 < cn (RE h x) 16 := by
      refine cn_lt (j := x) (fun i hi => (RE_iff hg hn.1).mpr (Rc_tr hr.1 ((RE_iff hg h1).mp hi))) hn.1 ?_ ((RE_iff hg hn.1).mpr (Rc_rf _))
      cases hc : bt (RE h g) x with
      | false => rfl
      | true => exact absurd ((RE_iff hg h1).mp hc) hr.2
    omega
theorem nx_spec {h : Nat → Int32} (hg : gd h) {p : Int32} (he : ∃ g, g < 16 ∧ NM h g = g ∧ bt p g = false) : nx h p < 16 ∧ fr h p (nx h p) ∧ ∀ k, k < nx h p → ¬ fr h p k := by
  obtain ⟨g, h1, h2⟩ := fr_ex hg he
  have hs := first_spec (p := fun g => dp (fr h p g)) (d := 0) (N := 16) ⟨g, h1, dp_t.mpr h2⟩
  exact ⟨hs.1, dp_t.mp hs.2.1, fun k hk => dp_f.mp (hs.2.2 k hk)⟩
noncomputable def nms (h : Nat → Int32) : Int32 := st (fun g => NM h g = g)
noncomputable def ct (h : Nat → Int32) : Nat := cn (nms h) 16
theorem cn_or_bit {x : Int32} {g : Nat} (hb : bt x g = false) : ∀ k, g < k → k ≤ 32 → cn (x ||| bit g) k = cn x k + 1 := by
  intro k
  induction k with
  | zero => intro h; omega
  | succ k ih =>
    intro h1 h2
    show cn (x ||| bit g) k + (if bt (x ||| bit g) k = true then 1 else 0) = cn x k + (if bt x k = true then 1 else 0) + 1
    have hk : bt (x ||| bit g) k = (bt x k || decide (k = g)) := by rw [b_or, bt_bit (by omega) (by omega)]
    rcases Nat.lt_or_ge g k with h3 | h3
    · rw [ih h3 (by omega), hk, decide_eq_false (by omega), Bool.or_false]; omega
    · have e : g = k := by omega
      subst e
      have h4 : ∀ j, j ≤ g → cn (x ||| bit g) j = cn x j := by
        intro j
        induction j with
        | zero => intro _; rfl
        | succ j ihj =>
          intro hj
          show cn (x ||| bit g) j + (if bt (x ||| bit g) j = true then 1 else 0) = cn x j + (if bt x j = true then 1 else 0)
          rw [ihj (by omega), b_or, bt_bit (by omega) (by omega), decide_eq_false (by omega), Bool.or_false]
      rw [h4 g (Nat.le_refl _), hk, hb, decide_eq_true rfl]; rfl
theorem cn_congr {x y : Int32} : ∀ k, (∀ i, i < k → bt x i = bt y i) → cn x k = cn y k := by
  intro k
  induction k with
  | zero => intro _; rfl
  | succ k ih =>
    intro h
    show cn x k + (if bt x k = true then 1 else 0) = cn y k + (if bt y k = true then 1 else 0)
    rw [ih (fun i hi => h i (by omega)), h k (by omega)]
theorem pl_sub {h : Nat → Int32} (hg : gd h) : ∀ k, k ≤ ct h → m16 (pl h k) ∧ (∀ i, bt (pl h k) i = true → NM h i = i) ∧ cn (pl h k) 16 = k := by
  intro k
  induction k with
  | zero =>
    intro _
    refine ⟨m16_0, ?_, ?_⟩
    · intro i hi
      rw [show pl h 0 = 0 from rfl, b_0] at hi
      cases hi
    · rw [show pl h 0 = 0 from rfl]
      decide +kernel
  | succ k ih =>
    intro hk
    obtain ⟨h1, h2, h3⟩ := ih (by omega)
    have hex : ∃ g, g < 16 ∧ NM h g = g ∧ bt (pl h k) g = false := by
      apply Classical.byContradiction
      intro hn
      have : cn (nms h) 16 ≤ cn (pl h k) 16 := by
        apply cn_mono
        intro i hi
        obtain ⟨h4, h5⟩ := bt_st.mp hi
        cases hb : bt (pl h k) i with
        | true => rfl
        | false => exact absurd ⟨i, h4, h5, hb⟩ hn
      have : ct h ≤ k := by rw [← h3]; exact this
      omega
    obtain ⟨n1, n2, _⟩ := nx_spec hg hex
    refine ⟨m16_or h1 (m16_bit n1), ?_, ?_⟩
    · intro i hi
      rw [show pl h (k + 1) = pl h k ||| bit (nx h (pl h k)) from rfl, b_or, Bool.or_eq_true] at hi
      rcases hi with hi | hi
      · exact h2 i hi
      · rw [bt_bit (by omega) (bt_lt hi), decide_eq_true_eq] at hi
        subst hi; exact n2.1
    · rw [show pl h (k + 1) = pl h k ||| bit (nx h (pl h k)) from rfl, cn_or_bit n2.2.1 16 n1 (by omega), h3]
