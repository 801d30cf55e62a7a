theorem GR_nm {h : Nat → Int32} (hg : gd h) {i x : Nat} (hi : i < 16) : bt (GR h i) x = true ↔ x < 16 ∧ NM h x = NM h i := by
  rw [GR_iff hg hi]
  constructor
  · rintro ⟨h1, h2, h3⟩; exact ⟨h1, NM_eq hg h1 hi h3 h2⟩
  · rintro ⟨h1, h2⟩
    have := NM_inj hg h1 hi h2
    exact ⟨h1, this.2, this.1⟩
noncomputable def lf9 (h : Nat → Int32) (k : Nat) : Int32 := st (fun v => bt (pl h k) (NM h v) = false)
theorem lf9_0 (h : Nat → Int32) : 65535 = lf9 h 0 := by
  apply st_eq m16_65535
  intro i hi
  rw [b_65535, decide_eq_true hi]
  exact ⟨fun _ => b_0 _, fun _ => rfl⟩
theorem ct_le (h : Nat → Int32) : ct h ≤ 16 := cn_le _ 16
theorem pl_ct {h : Nat → Int32} (hg : gd h) : pl h (ct h) = nms h := by
  obtain ⟨h1, h2, h3⟩ := pl_sub hg (ct h) (Nat.le_refl _)
  apply Classical.byContradiction
  intro hn
  have := m16_diff h1 (m16_st _) (fun i hi => bt_st.mpr ⟨m16_lt h1 hi, h2 i hi⟩) hn
  rw [h3] at this
  exact Nat.lt_irrefl _ this
theorem lf9_ct {h : Nat → Int32} (hg : gd h) : lf9 h (ct h) = 0 := by
  unfold lf9
  rw [pl_ct hg]
  apply m16_zero (m16_st _)
  intro i hi
  cases hb : bt (st (fun v => bt (nms h) (NM h v) = false)) i with
  | false => rfl
  | true =>
    have h1 := (bt_st.mp hb).2
    rw [show bt (nms h) (NM h i) = true from bt_st.mpr ⟨(NM_spec hg hi).1, NM_NM hg hi⟩] at h1
    cases h1
theorem pl_un {h : Nat → Int32} (hg : gd h) {k : Nat} (hk : k < ct h) : ∃ g, g < 16 ∧ NM h g = g ∧ bt (pl h k) g = false := by
  obtain ⟨h1, h2, h3⟩ := pl_sub hg k (by omega)
  apply Classical.byContradiction
  intro hn
  have : cn (nms h) 16 ≤ cn (pl h k) 16 := by
    apply cn_mono
    intro i hi
    obtain ⟨h4, h5⟩ := bt_st.mp hi
    cases hb : bt (pl h k) i with
    | true => rfl
    | false => exact absurd ⟨i, h4, h5, hb⟩ hn
  have : ct h ≤ k := by rw [← h3]; exact this
  omega
theorem lf9_lt {h : Nat → Int32} (hg : gd h) {k : Nat} (hk : k ≤ ct h) (hn : ¬ lf9 h k = 0) : k < ct h := by
  apply Nat.lt_of_le_of_ne hk
  intro e
  subst e
  exact hn (lf9_ct hg)
theorem lf9_end {h : Nat → Int32} (hg : gd h) {k : Nat} (hk : k ≤ ct h) (hz : lf9 h k = 0) : k = ct h := by
  apply Nat.le_antisymm hk
  apply Nat.le_of_not_lt
  intro hlt
  obtain ⟨g, h1, h2, h3⟩ := pl_un hg hlt
  have : bt (lf9 h k) g = true := bt_st.mpr ⟨h1, by rw [h2]; exact h3⟩
  rw [hz, b_0] at this
  cases this
theorem fr_code {h : Nat → Int32} (hg : gd h) {k i : Nat} (hi : i < 16) (hl : bt (lf9 h k) i = true) (hn : NM h i = i) : (un h (lf9 h k &&& (GR h i ^^^ (-1))) 16 &&& GR h i = 0) ↔ fr h (pl h k) i := by
  have hp : bt (pl h k) i = false := by
    have := (bt_st.mp hl).2
    rw [hn] at this; exact this
  constructor
  · intro hz
    refine ⟨hn, hp, fun x hx => ?_⟩
    cases hb : bt (pl h k) x with
    | true => rfl
    | false =>
      exfalso
      obtain ⟨hne, u, v, he, h1, h2⟩ := hx
      have hv := m16_lt (hg u he.1) he.2
      apply (and_ne (x := un h (lf9 h k &&& (GR h i ^^^ (-1))) 16) (e := GR h i)).mpr ⟨v, ?_, (GR_nm hg hi).mpr ⟨hv, by rw [h2, hn]⟩⟩ hz
      rw [bt_un]
      refine ⟨u, he.1, ?_, he.2⟩
      rw [b_and, bt_not _ (by have := he.1; omega), Bool.and_eq_true]
      refine ⟨bt_st.mpr ⟨he.1, by rw [h1]; exact hb⟩, ?_⟩
      cases hc : bt (GR h i) u with
      | false => rfl
      | true =>
        have := ((GR_nm hg hi).mp hc).2
        rw [h1, hn] at this
        exact absurd this hne
  · intro hf
    apply Classical.byContradiction
    intro hz
    obtain ⟨x, h1, h2⟩ := and_ne.mp hz
    obtain ⟨u, h3, h4, h5⟩ := bt_un.mp h1
    rw [b_and, bt_not _ (by omega), Bool.and_eq_true] at h4
    have hx := (GR_nm hg hi).mp h2
    have hne : NM h u ≠ i := fun q => by
      have : bt (GR h i) u = true := (GR_nm hg hi).mpr ⟨h3, by rw [q, hn]⟩
      rw [this] at h4; exact absurd h4.2 (by decide)
    have := hf.2.2 (NM h u) ⟨hne, u, x, ⟨h3, h5⟩, rfl, by rw [hx.2, hn]⟩
    rw [(bt_st.mp h4.1).2] at this
    cases this
theorem lf9_s {h : Nat → Int32} (hg : gd h) {k : Nat} (hk : k < ct h) : lf9 h k &&& (GR h (nx h (pl h k)) ^^^ (-1)) = lf9 h (k + 1) := by
  obtain ⟨n1, n2, _⟩ := nx_spec hg (pl_un hg hk)
  apply st_eq (m16_and (m16_st _))
  intro i hi
  rw [b_and, bt_not _ (by omega), Bool.and_eq_true]
  show (bt (st _) i = true ∧ _) ↔ bt (pl h k ||| bit (nx h (pl h k))) (NM h i) = false
  have hm := (NM_spec hg hi).1
  rw [bt_st, b_or, bt_bit (by omega) (by omega)]
  have hgr : bt (GR h (nx h (pl h k))) i = true ↔ NM h i = nx h (pl h k) := by
    rw [GR_nm hg n1, n2.1]
    exact ⟨fun q => q.2, fun q => ⟨hi, q⟩⟩
  constructor
  · rintro ⟨⟨_, h1⟩, h2⟩
    rw [h1, Bool.false_or, decide_eq_false_iff_not]
    intro q
    rw [hgr.mpr q] at h2; cases h2
  · intro h1
    rw [Bool.or_eq_false_iff, decide_eq_false_iff_not] at h1
    refine ⟨⟨hi, h1.1⟩, ?_⟩
    cases hb : bt (GR h (nx h (pl h k))) i with
    | false => rfl
    | true => exact absurd (hgr.mp hb) h1.2
def dj (j : Nat) : Int32 := nI j + (-1)
theorem dj_s (i : Nat) : dj (i + 1) = nI i := pk_m1 i
theorem dj_lt : ∀ j, j ≤ 16 → (dj j < 0 ↔ j = 0) := by decide +kernel
noncomputable def ndq (h : Nat → Int32) (p : Int32) (j : Nat) : Int32 := if first (fun v => decide (j ≤ v) && dp (fr h p v)) 16 16 < 16 then nI (first (fun v => decide (j ≤ v) && dp (fr h p v)) 16 16) else -1
theorem ndq_16 (h : Nat → Int32) (p : Int32) : -1 = ndq h p 16 := by
  unfold ndq
  rw [first_none (fun k hk => by rw [decide_eq_false (by omega)]; rfl), if_neg (by omega)]
theorem ndq_t {h : Nat → Int32} {p : Int32} {i : Nat} (hi : i < 16) (hf : fr h p i) : nI i = ndq h p i := by
  unfold ndq
  rw [first_eq (j := i) (by rw [decide_eq_true (Nat.le_refl i), dp_t.mpr hf]; rfl) hi (fun k hk => by rw [decide_eq_false (by omega)]; rfl), if_pos hi]
theorem ndq_f {h : Nat → Int32} {p : Int32} {i : Nat} (hf : ¬ fr h p i) : ndq h p (i + 1) = ndq h p i := by
  unfold ndq
  rw [first_congr (p := fun v => decide (i + 1 ≤ v) && dp (fr h p v)) (q := fun v => decide (i ≤ v) && dp (fr h p v)) (fun j hj => by
    by_cases hji : j = i
    · subst hji; rw [dp_f.mpr hf, Bool.and_false, Bool.and_false]
    · have : decide (i + 1 ≤ j) = decide (i ≤ j) := decide_eq_decide.mpr (by omega)
      rw [this])]
theorem ndq_0 {h : Nat → Int32} (hg : gd h) {p : Int32} (he : ∃ g, g < 16 ∧ NM h g = g ∧ bt p g = false) : ndq h p 0 = nI (nx h p) := by
  obtain ⟨n1, n2, n3⟩ := nx_spec hg he
  unfold ndq
  rw [first_eq (j := nx h p) (by rw [decide_eq_true (Nat.zero_le _), dp_t.mpr n2]; rfl) n1 (fun k hk => by rw [dp_f.mpr (n3 k hk), Bool.and_false]), if_pos n1]
