theorem inY_no {A U : Nat → Int32} {x : Nat} {z : (Nat → Nat) × Bool} : ∀ y, (inY A U x z y).2 = false → z.2 = false ∧ inY A U x z y = z ∧ ∀ k, k < y → opn A U x k = true → z.1 k < 32 := by
  intro y
  induction y with
  | zero => intro h; exact ⟨h, rfl, fun k hk => by omega⟩
  | succ y ih =>
    intro h
    by_cases hc : opn A U x y = true ∧ ¬ (inY A U x z y).1 y < 32
    · rw [inY_t hc.1 hc.2] at h
      cases h
    · have e : inY A U x z (y + 1) = inY A U x z y := if_neg hc
      rw [e] at h ⊢
      obtain ⟨h1, h2, h3⟩ := ih h
      refine ⟨h1, h2, fun k hk ho => ?_⟩
      by_cases hky : k = y
      · subst hky
        apply Classical.byContradiction
        intro q
        exact hc ⟨ho, by rw [h2]; exact q⟩
      · exact h3 k (by omega) ho
theorem rwS_no {A U : Nat → Int32} {z : (Nat → Nat) × Bool} : ∀ x, (rwS A U z x).2 = false → z.2 = false ∧ rwS A U z x = z ∧ ∀ k, k < x → z.1 k < 32 → ∀ y, y < 32 → opn A U k y = true → z.1 y < 32 := by
  intro x
  induction x with
  | zero => intro h; exact ⟨h, rfl, fun k hk => by omega⟩
  | succ x ih =>
    intro h
    by_cases hc : (rwS A U z x).1 x < 32
    · rw [rwS_t hc] at h ⊢
      obtain ⟨q1, q2, q3⟩ := inY_no 32 h
      obtain ⟨h1, h2, h3⟩ := ih q1
      rw [q2]
      refine ⟨h1, h2, fun k hk hz y hy ho => ?_⟩
      by_cases hkx : k = x
      · subst hkx
        have := q3 y hy ho
        rw [h2] at this
        exact this
      · exact h3 k (by omega) hz y hy ho
    · rw [rwS_f hc] at h ⊢
      obtain ⟨h1, h2, h3⟩ := ih h
      refine ⟨h1, h2, fun k hk hz y hy ho => ?_⟩
      by_cases hkx : k = x
      · subst hkx
        rw [h2] at hc
        exact absurd hz hc
      · exact h3 k (by omega) hz y hy ho
theorem fdS_cl {A U : Nat → Int32} {s t : Nat} : ∀ r, (fdS A U s t r).2 = false → ∀ k, k < 32 → (fdS A U s t r).1 k < 32 → ∀ y, y < 32 → opn A U k y = true → (fdS A U s t r).1 y < 32 := by
  intro r
  induction r with
  | zero => intro h; cases h
  | succ r ih =>
    intro h
    by_cases hc : (fdS A U s t r).2 = true ∧ ¬ (fdS A U s t r).1 t < 32
    · have e := fdS_go hc.1 hc.2
      rw [e] at h ⊢
      obtain ⟨h1, h2, h3⟩ := rwS_no 32 h
      rw [h2]
      exact h3
    · have e : fdS A U s t (r + 1) = fdS A U s t r := if_neg hc
      rw [e] at h ⊢
      exact ih h
theorem fdS_cnt {A U : Nat → Int32} {s t : Nat} (hs : s < 32) : ∀ r, (fdS A U s t r).2 = true → ¬ (fdS A U s t r).1 t < 32 → r < fcn (fdS A U s t r).1 := by
  intro r
  induction r with
  | zero => intro _ _; exact fcn_ini hs
  | succ r ih =>
    intro h1 h2
    by_cases hc : (fdS A U s t r).2 = true ∧ ¬ (fdS A U s t r).1 t < 32
    · have e := fdS_go hc.1 hc.2
      rw [e] at h1 ⊢
      have := fcn_row h1
      have := ih hc.1 hc.2
      omega
    · have e : fdS A U s t (r + 1) = fdS A U s t r := if_neg hc
      rw [e] at h1 h2
      exact absurd ⟨h1, h2⟩ hc
theorem ap_spec {A : Nat → Int32} {s t : Nat} (hs : s < 32) (ht : t < 32) (hst : s ≠ t) : ∃ (U : Nat → Int32) (S : Nat → Bool), FlI A U s t (apN A s t) ∧ S s = true ∧ S t = false ∧ ((apN A s t : Nat) : Int) = cap A S := by
  have hex : ∃ j, j < 33 ∧ (!(fnd A s t j)) = true := by
    apply Classical.byContradiction
    intro hn
    have hall : ∀ j, j < 33 → fnd A s t j = true := by
      intro j hj
      cases hq : fnd A s t j with
      | true => rfl
      | false => exact absurd ⟨j, hj, by rw [hq]; rfl⟩ hn
    have := ap_le hs ht hst hall
    omega
  obtain ⟨j, hj, hp, hm⟩ := least_ex (p := fun r => !(fnd A s t r)) hex
  have hf : fnd A s t j = false := by
    have hp : (!(fnd A s t j)) = true := hp
    cases hq : fnd A s t j with
    | false => rfl
    | true => rw [hq] at hp; cases hp
  have hall : ∀ k, k < j → fnd A s t k = true := by
    intro k hk
    have hm : (!(fnd A s t k)) = false := hm k hk
    cases hq : fnd A s t k with
    | true => rfl
    | false => rw [hq] at hm; cases hm
  have e := apN_eq (by omega) hall hf
  rw [e]
  have hI := apS_inv hs ht hst j hall
  have hnt : ¬ (fdS A (apS A s t j) s t 33).1 t < 32 := of_decide_eq_false hf
  have h2 : (fdS A (apS A s t j) s t 33).2 = false := by
    cases hq : (fdS A (apS A s t j) s t 33).2 with
    | false => rfl
    | true =>
      have h1 := fdS_cnt hs 33 hq hnt
      have h3 := fcn_le (fdS A (apS A s t j) s t 33).1
      omega
  have hcl := fdS_cl 33 h2
  have hss := (TrI_fd (A := A) (U := apS A s t j) (t := t) hs 33).1
  refine ⟨apS A s t j, fun a => decide ((fdS A (apS A s t j) s t 33).1 a < 32), hI, decide_eq_true hss, decide_eq_false hnt, ?_⟩
  rw [← hI.2.1]
  refine flow_eq hI.1 hs (decide_eq_true hss) (fun a ha hS hn => hI.2.2 a ha hn (fun q => ?_)) (fun a b ha hb hS hr => ?_)
  · rw [q] at hS
    exact hnt (of_decide_eq_true hS)
  · exact decide_eq_true (hcl a ha (of_decide_eq_true hS) b hb (opn_rs.mpr hr))
def res9 (li us fe : Nat → Int32) (a b : Nat) : Prop := (bt (li a) b = true ∧ bt (us a) b = false) ∨ bt (fe a) b = true
theorem fr9_bt {li us fe : Nat → Int32} {seen : Int32} {a b : Nat} (hb : b < 32) : bt (fr9 li us fe seen a) b = true ↔ res9 li us fe a b ∧ bt seen b = false := by
  unfold fr9 res9
  rw [b_and, b_or, b_and, bt_not _ hb, bt_not _ hb, Bool.and_eq_true, Bool.or_eq_true, Bool.and_eq_true]
  cases bt seen b <;> cases bt (us a) b <;> simp
theorem inS_sp {li us fe : Nat → Int32} {front seen0 : Int32} {cf0 : Nat → Nat} : ∀ a, a ≤ 32 →
    (∀ b, b < 32 → (bt (inS li us fe front (seen0, nI 0, cf0) a).1 b = true ↔ bt seen0 b = true ∨ ∃ x, x < a ∧ bt front x = true ∧ res9 li us fe x b)) ∧
    (∀ b, b < 32 → (bt (inS li us fe front (seen0, nI 0, cf0) a).2.1 b = true ↔ bt (inS li us fe front (seen0, nI 0, cf0) a).1 b = true ∧ bt seen0 b = false)) ∧
    (∀ b, b < 32 → bt seen0 b = true → (inS li us fe front (seen0, nI 0, cf0) a).2.2 b = cf0 b) ∧
    (∀ b, b < 32 → bt (inS li us fe front (seen0, nI 0, cf0) a).2.1 b = true → bt front ((inS li us fe front (seen0, nI 0, cf0) a).2.2 b) = true ∧ (inS li us fe front (seen0, nI 0, cf0) a).2.2 b < 32 ∧ res9 li us fe ((inS li us fe front (seen0, nI 0, cf0) a).2.2 b) b) := by
  intro a
  induction a with
  | zero =>
    intro _
    refine ⟨fun b _ => ⟨fun q => Or.inl q, fun q => q.elim (fun r => r) (fun r => by obtain ⟨x, hx, _⟩ := r; omega)⟩, fun b _ => ⟨fun q => ?_, fun q => ?_⟩, fun b _ _ => rfl, fun b _ q => ?_⟩
    · have q : bt (0 : Int32) b = true := q
      rw [b_0] at q; cases q
    · have q1 : bt seen0 b = true := q.1
      rw [q.2] at q1; cases q1
    · have q : bt (0 : Int32) b = true := q
      rw [b_0] at q; cases q
  | succ a ih =>
    intro ha
    obtain ⟨h1, h2, h3, h4⟩ := ih (by omega)
    by_cases hf : bt front a = true
    · rw [inS_t hf]
      generalize inS li us fe front (seen0, nI 0, cf0) a = Z at h1 h2 h3 h4
      obtain ⟨sn, nw, cf⟩ := Z
      dsimp only at h1 h2 h3 h4 ⊢
      have hsub : ∀ b, b < 32 → bt seen0 b = true → bt sn b = true := fun b hb q => (h1 b hb).mpr (Or.inl q)
      refine ⟨fun b hb => ?_, fun b hb => ?_, fun b hb hq => ?_, fun b hb hq => ?_⟩
      · rw [b_or, Bool.or_eq_true, fr9_bt hb, h1 b hb]
        constructor
        · rintro ((q | ⟨x, q1, q2⟩) | ⟨q, _⟩)
          · exact Or.inl q
          · exact Or.inr ⟨x, by omega, q2⟩
          · exact Or.inr ⟨a, by omega, hf, q⟩
        · rintro (q | ⟨x, q1, q2, q3⟩)
          · exact Or.inl (Or.inl q)
          · by_cases hxa : x = a
            · subst hxa
              cases hs : bt sn b with
              | true => exact Or.inl ((h1 b hb).mp hs)
              | false => exact Or.inr ⟨q3, rfl⟩
            · exact Or.inl (Or.inr ⟨x, by omega, q2, q3⟩)
      · rw [b_or, b_or, Bool.or_eq_true, Bool.or_eq_true, h2 b hb, fr9_bt hb]
        constructor
        · rintro (⟨q1, q2⟩ | ⟨q1, q2⟩)
          · exact ⟨Or.inl q1, q2⟩
          · refine ⟨Or.inr ⟨q1, q2⟩, ?_⟩
            cases hs : bt seen0 b with
            | false => rfl
            | true => rw [hsub b hb hs] at q2; cases q2
        · rintro ⟨q1 | q1, q2⟩
          · exact Or.inl ⟨q1, q2⟩
          · exact Or.inr q1
      · have hno : ¬ bt (fr9 li us fe sn a) b = true := fun q => by
          have := ((fr9_bt hb).mp q).2
          rw [hsub b hb hq] at this; cases this
        show (if bt (fr9 li us fe sn a) b = true then a else cf b) = cf0 b
        rw [if_neg hno]
        exact h3 b hb hq
      · show bt front (if bt (fr9 li us fe sn a) b = true then a else cf b) = true ∧ (if bt (fr9 li us fe sn a) b = true then a else cf b) < 32 ∧ res9 li us fe (if bt (fr9 li us fe sn a) b = true then a else cf b) b
        by_cases hq2 : bt (fr9 li us fe sn a) b = true
        · rw [if_pos hq2]
          exact ⟨hf, by omega, ((fr9_bt hb).mp hq2).1⟩
        · rw [if_neg hq2]
          rw [b_or, Bool.or_eq_true] at hq
          exact h4 b hb (hq.resolve_right hq2)
    · have e : inS li us fe front (seen0, nI 0, cf0) (a + 1) = inS li us fe front (seen0, nI 0, cf0) a := if_neg hf
      rw [e]
      refine ⟨fun b hb => ?_, h2, h3, h4⟩
      rw [h1 b hb]
      constructor
      · rintro (q | ⟨x, q1, q2⟩)
        · exact Or.inl q
        · exact Or.inr ⟨x, by omega, q2⟩
      · rintro (q | ⟨x, q1, q2, q3⟩)
        · exact Or.inl q
        · by_cases hxa : x = a
          · rw [hxa] at q2; exact absurd q2 hf
          · exact Or.inr ⟨x, by omega, q2, q3⟩
