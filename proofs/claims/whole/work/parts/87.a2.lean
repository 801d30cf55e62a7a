theorem alq_iff {p : Nat → Bool} : ∀ n, alq p n = true ↔ ∀ k, k < n → p k = true := by
  intro n
  induction n with
  | zero => exact ⟨fun _ k hk => by omega, fun _ => rfl⟩
  | succ n ih =>
    show (alq p n && p n) = true ↔ _
    rw [Bool.and_eq_true, ih]
    constructor
    · rintro ⟨h1, h2⟩ k hk
      by_cases hq : k = n
      · rw [hq]; exact h2
      · exact h1 k (by omega)
    · intro h1
      exact ⟨fun k hk => h1 k (by omega), h1 n (by omega)⟩
theorem anyq_iff {p : Nat → Bool} : ∀ n, anyq p n = true ↔ ∃ k, k < n ∧ p k = true := by
  intro n
  induction n with
  | zero => exact ⟨fun q => absurd (show false = true from q) (by decide), fun q => by obtain ⟨k, hk, _⟩ := q; omega⟩
  | succ n ih =>
    show (anyq p n || p n) = true ↔ _
    rw [Bool.or_eq_true, ih]
    constructor
    · rintro (⟨k, h1, h2⟩ | h1)
      · exact ⟨k, by omega, h2⟩
      · exact ⟨n, by omega, h1⟩
    · rintro ⟨k, h1, h2⟩
      by_cases hq : k = n
      · right; rw [← hq]; exact h2
      · exact Or.inl ⟨k, by omega, h2⟩
theorem not_t {b : Bool} : (!b) = true ↔ ¬ b = true := by cases b <;> simp
theorem fdq_one {q : Nat → Bool} {j : Nat} : ∀ N, j < N → q j = true → (∀ k, k < N → q k = true → k = j) → fdq q N = nI j := by
  intro N
  induction N with
  | zero => intro h; omega
  | succ n ih =>
    intro hj hp hu
    show (if q n = true then nI n else fdq q n) = nI j
    by_cases hq : q n = true
    · rw [if_pos hq, hu n (by omega) hq]
    · have hne : j ≠ n := fun e => hq (by rw [← e]; exact hp)
      rw [if_neg hq]
      exact ih (by omega) hp (fun k hk => hu k (by omega))
theorem Av_self {h : Nat → Int32} {d r : Nat} (hd : d < 16) : ¬ Av h d r d := by
  rintro ⟨h1, h2⟩
  exact (Rc_ind (P := fun x => x ≠ d) h1 (fun w v _ e => ((Ed_bit hd).mp e).2) h2) rfl
theorem dpb_iff {h : Nat → Int32} (hg : gd h) {r v d : Nat} (hr : r < 16) (hd : d < 16) : dpb h r v d = true ↔ ¬ Av h d r v := by
  unfold dpb
  rw [Bool.or_eq_true, Bool.or_eq_true, decide_eq_true_eq, decide_eq_true_eq, not_t, SP_bit hg hr hd]
  constructor
  · rintro ((h1 | h1) | h1)
    · rintro ⟨h2, _⟩; exact h2 h1.symm
    · rw [← h1]; exact Av_self hd
    · exact h1
  · exact fun q => Or.inr q
theorem gt_M {h : Nat → Int32} (hg : gd h) {u v d : Nat} (hu : u < 16) : bt (mk (fun d9 => decide (¬ d9 = v) && !(bt (SP h (bit u) (bit d9)) v)) 16) d = true ↔ Ps h u v d := by
  rw [bt_mk (by decide)]
  constructor
  · rintro ⟨h1, h2⟩
    have h2 : (decide (¬ d = v) && !(bt (SP h (bit u) (bit d)) v)) = true := h2
    rw [Bool.and_eq_true, decide_eq_true_eq, not_t, SP_bit hg hu h1] at h2
    exact ⟨h1, h2.1, h2.2⟩
  · rintro ⟨h1, h2, h3⟩
    refine ⟨h1, ?_⟩
    show (decide (¬ d = v) && !(bt (SP h (bit u) (bit d)) v)) = true
    rw [Bool.and_eq_true, decide_eq_true_eq, not_t, SP_bit hg hu h1]
    exact ⟨h2, h3⟩
theorem eq_gate {h : Nat → Int32} (hg : gd h) {u v : Nat} (hu : u < 16) (hv : v < 16) (huv : ¬ u = v) (hrv : bt (RE h u) v = true) : nI (first (fun d9 => bt (mk (fun d9 => decide (¬ d9 = v) && !(bt (SP h (bit u) (bit d9)) v)) 16) d9 && !(anyq (fun e9 => bt ((mk (fun d9 => decide (¬ d9 = v) && !(bt (SP h (bit u) (bit d9)) v)) 16) &&& (bit d9 ^^^ (-1))) e9 && bt (SP h (bit u) (bit e9)) d9) 16)) u 16) = fdq (gtQ h u v) 16 := by
  have hrc : Rc (Eg h) u v := (RE_iff hg hu).mp hrv
  obtain ⟨M, hM⟩ : ∃ M, M = mk (fun d9 => decide (¬ d9 = v) && !(bt (SP h (bit u) (bit d9)) v)) 16 := ⟨_, rfl⟩
  rw [← hM]
  have hMi : ∀ d, bt M d = true ↔ Ps h u v d := fun d => by rw [hM]; exact gt_M hg hu
  have cls9 : ∀ d, d < 16 → ((bt M d && !(anyq (fun e9 => bt (M &&& (bit d ^^^ (-1))) e9 && bt (SP h (bit u) (bit e9)) d) 16)) = true ↔ Cd h u v d) := by
    intro d hd
    rw [Bool.and_eq_true, hMi, not_t, anyq_iff]
    constructor
    · rintro ⟨h1, h2⟩
      refine ⟨h1, fun e he hne ha => h2 ⟨e, he.1, ?_⟩⟩
      show (bt (M &&& (bit d ^^^ (-1))) e && bt (SP h (bit u) (bit e)) d) = true
      rw [Bool.and_eq_true, b_and, Bool.and_eq_true, hMi, bt_not _ (by have := he.1; omega), bt_bit (by omega) (by have := he.1; omega), decide_eq_false hne, SP_bit hg hu he.1]
      exact ⟨⟨he, rfl⟩, ha⟩
    · rintro ⟨h1, h2⟩
      refine ⟨h1, ?_⟩
      rintro ⟨e, he, h3⟩
      have h3 : (bt (M &&& (bit d ^^^ (-1))) e && bt (SP h (bit u) (bit e)) d) = true := h3
      rw [Bool.and_eq_true, b_and, Bool.and_eq_true, hMi, bt_not _ (by omega), bt_bit (by omega) (by omega), SP_bit hg hu he] at h3
      have hne : e ≠ d := by
        intro q
        have := h3.1.2
        rw [decide_eq_true q] at this
        cases this
      exact h2 e h3.1.1 hne h3.2
  have mod9 : ∀ d, d < 16 → (gtQ h u v d = true ↔ Cd h u v d) := by
    intro d hd
    unfold gtQ gtL
    rw [Bool.and_eq_true, Bool.and_eq_true, Bool.and_eq_true, not_t, decide_eq_true_eq, dpb_iff hg hu hd, RE_iff hg hu, alq_iff]
    constructor
    · rintro ⟨⟨⟨h1, h2⟩, h3⟩, h4⟩
      refine ⟨⟨hd, h1, h3⟩, fun e he hne ha => ?_⟩
      have h5 := h4 e he.1
      unfold gtC at h5
      rw [Bool.or_eq_true, Bool.or_eq_true, Bool.or_eq_true, decide_eq_true_eq, not_t, not_t, dpb_iff hg hu he.1, dpb_iff hg hu he.1, RE_iff hg hu] at h5
      rcases h5 with ((h5 | h5) | h5) | h5
      · exact he.2.1 h5
      · exact h5 (Ps_reach hrc he).1
      · exact h5 he.2.2
      · exact h5 ha
    · rintro ⟨h1, h2⟩
      refine ⟨⟨⟨h1.2.1, (Ps_reach hrc h1).1⟩, h1.2.2⟩, fun e he => ?_⟩
      unfold gtC
      rw [Bool.or_eq_true, Bool.or_eq_true, Bool.or_eq_true, decide_eq_true_eq, not_t, not_t, dpb_iff hg hu he, dpb_iff hg hu he, RE_iff hg hu]
      by_cases q1 : e = v
      · exact Or.inl (Or.inl (Or.inl q1))
      · by_cases q2 : Av h e u v
        · exact Or.inl (Or.inr (fun q => q q2))
        · refine Or.inr ?_
          by_cases q3 : e = d
          · rw [q3]; exact Av_self hd
          · exact h2 e ⟨he, q1, q2⟩ q3
  obtain ⟨d0, hc0⟩ := Cd_ex hu hrc huv
  have hd0 : d0 < 16 := hc0.1.1
  rw [fdq_one 16 hd0 ((mod9 d0 hd0).mpr hc0) (fun k hk hq => Cd_one hrc ((mod9 k hk).mp hq) hc0)]
  refine congrArg nI ?_
  refine first_eq ((cls9 d0 hd0).mpr hc0) hd0 (fun k hk => ?_)
  cases hq : (bt M k && !(anyq (fun e9 => bt (M &&& (bit k ^^^ (-1))) e9 && bt (SP h (bit u) (bit e9)) k) 16)) with
  | false => rfl
  | true =>
    have := Cd_one hrc ((cls9 k (by omega)).mp hq) hc0
    omega
theorem eq_gated {h : Nat → Int32} (hg : gd h) {u v : Nat} (hu : u < 16) (hv : v < 16) : nI (cn ((SP h (bit u) (nI 0)) &&& ((SP h (bit u) (bit v)) ^^^ (-1))) 16) = nI (cq (fun x9 => bt (RE h u) v && bt (RE h u) x9 && dpb h u x9 v) 16) := by
  refine congrArg nI ?_
  rw [cn_cq]
  refine cq_congr 16 (fun x hx => b_eq ?_)
  show bt (RE h u &&& ((SP h (bit u) (bit v)) ^^^ (-1))) x = true ↔ (bt (RE h u) v && bt (RE h u) x && dpb h u x v) = true
  rw [b_and, bt_not _ (by omega), Bool.and_eq_true, Bool.and_eq_true, Bool.and_eq_true, not_t, SP_bit hg hu hv, RE_iff hg hu, RE_iff hg hu, dpb_iff hg hu hv]
  constructor
  · rintro ⟨h1, h2⟩
    refine ⟨⟨?_, h1⟩, h2⟩
    by_cases hq : v = x
    · rw [hq]; exact h1
    · exact (Ps_reach h1 ⟨hv, hq, h2⟩).1
  · rintro ⟨⟨_, h1⟩, h2⟩
    exact ⟨h1, h2⟩
theorem eq_f5 {h : Nat → Int32} (hg : gd h) (hs : ∀ u, u < 16 → bt (h u) u = false) : nI (sq (fun a9 => cq ((fun u v => bt (h u) v && !(bt (SP h (h u &&& (bit v ^^^ (-1))) (bit u)) v)) a9) 16) 16) = nI (sq (fun a9 => cq (brP h a9) 16) 16) := by
  refine congrArg nI (sq_congr 16 (fun u hu => cq_congr 16 (fun v hv => ?_)))
  show (bt (h u) v && !(bt (SP h (h u &&& (bit v ^^^ (-1))) (bit u)) v)) = brP h u v
  unfold brP
  cases hb : bt (h u) v with
  | false => rfl
  | true =>
    have huv : ¬ u = v := fun q => by rw [← q, hs u hu] at hb; cases hb
    obtain ⟨h', hh'⟩ : ∃ h', h' = upd h u (h u &&& (bit v ^^^ (-1))) := ⟨_, rfl⟩
    rw [← hh']
    have hg' : gd h' := by rw [hh']; exact gd_cut hg
    have e1 : ∀ w, bt (h u &&& (bit v ^^^ (-1))) w = true ↔ bt (h u) w = true ∧ w ≠ v := by
      intro w
      rw [b_and, Bool.and_eq_true]
      constructor
      · rintro ⟨q1, q2⟩
        refine ⟨q1, fun q => ?_⟩
        rw [bt_not _ (bt_lt q1), bt_bit (by omega) (bt_lt q1), decide_eq_true q] at q2
        cases q2
      · rintro ⟨q1, q2⟩
        refine ⟨q1, ?_⟩
        rw [bt_not _ (bt_lt q1), bt_bit (by omega) (bt_lt q1), decide_eq_false q2]
        rfl
    have e2 : ∀ x, x ≠ u → h' x = h x := fun x hx => by rw [hh', upd_ne hx]
    have e3 : ∀ w, Eg h' u w ↔ (bt (h u) w = true ∧ w ≠ v) := fun w => by
      unfold Eg
      rw [hh', upd_eq, e1]
      exact ⟨fun q => q.2, fun q => ⟨hu, q⟩⟩
    have key : bt (SP h (h u &&& (bit v ^^^ (-1))) (bit u)) v = true ↔ bt (RE h' u) v = true := by
      rw [SP_iff hg (m16_and (hg u hu)), RE_iff hg' hu]
      constructor
      · rintro ⟨w, h1, h2, h3⟩
        have hwl : w < 16 := m16_lt (m16_and (hg u hu)) h1
        have hwu : w ≠ u := by
          intro q
          rw [q, bt_bit (by omega) (by omega), decide_eq_true rfl] at h2
          cases h2
        have h4 : Rc (Eg h') w v ∧ v ≠ u := Rc_ind (P := fun x => Rc (Eg h') w x ∧ x ≠ u) ⟨Rc_rf w, hwu⟩ (fun a b2 ha e => by
          have q := (Ed_bit hu).mp e
          exact ⟨Rc_st ha.1 ⟨q.1.1, by rw [e2 a ha.2]; exact q.1.2⟩, q.2⟩) h3
        exact Rc_head ((e3 w).mpr ((e1 w).mp h1)) h4.1
      · intro h1
        have h2 : v = u ∨ ∃ w, Eg h' u w ∧ w ≠ u ∧ Rc (Ed h (bit u)) w v := Rc_ind (P := fun x => x = u ∨ ∃ w, Eg h' u w ∧ w ≠ u ∧ Rc (Ed h (bit u)) w x) (Or.inl rfl) (fun a b2 ha e => by
          by_cases hq : b2 = u
          · exact Or.inl hq
          · right
            by_cases hq2 : a = u
            · rw [hq2] at e
              exact ⟨b2, e, hq, Rc_rf b2⟩
            · rcases ha with ha | ⟨w, h3, h4, h5⟩
              · exact absurd ha hq2
              · exact ⟨w, h3, h4, Rc_st h5 ((Ed_bit hu).mpr ⟨⟨e.1, by rw [← e2 a hq2]; exact e.2⟩, hq⟩)⟩) h1
        rcases h2 with h2 | ⟨w, h3, h4, h5⟩
        · exact absurd h2.symm huv
        · refine ⟨w, (e1 w).mpr ((e3 w).mp h3), ?_, h5⟩
          have := m16_lt (hg u hu) ((e3 w).mp h3).1
          rw [bt_bit (by omega) (by omega), decide_eq_false h4]
    rw [b_eq key]
