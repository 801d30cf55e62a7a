def mxN (p : Nat → Bool) (f : Nat → Nat) : Nat → Nat
  | 0 => 0
  | k + 1 => if p k = true then (if mxN p f k < f k then f k else mxN p f k) else mxN p f k
theorem mxN_sp {p : Nat → Bool} {f : Nat → Nat} : ∀ n, (∀ k, k < n → p k = true → f k ≤ mxN p f n) ∧ (mxN p f n = 0 ∨ ∃ k, k < n ∧ p k = true ∧ f k = mxN p f n) := by
  intro n
  induction n with
  | zero => exact ⟨fun k hk => by omega, Or.inl rfl⟩
  | succ n ih =>
    by_cases hp : p n = true
    · have e : mxN p f (n + 1) = if mxN p f n < f n then f n else mxN p f n := if_pos hp
      rw [e]
      by_cases hl : mxN p f n < f n
      · rw [if_pos hl]
        refine ⟨fun k hk hq => ?_, Or.inr ⟨n, by omega, hp, rfl⟩⟩
        by_cases hkn : k = n
        · rw [hkn]; exact Nat.le_refl _
        · exact Nat.le_trans (ih.1 k (by omega) hq) (Nat.le_of_lt hl)
      · rw [if_neg hl]
        refine ⟨fun k hk hq => ?_, ?_⟩
        · by_cases hkn : k = n
          · rw [hkn]; omega
          · exact ih.1 k (by omega) hq
        · rcases ih.2 with h1 | ⟨k, h1, h2⟩
          · exact Or.inl h1
          · exact Or.inr ⟨k, by omega, h2⟩
    · have e : mxN p f (n + 1) = mxN p f n := if_neg hp
      rw [e]
      refine ⟨fun k hk hq => ?_, ?_⟩
      · by_cases hkn : k = n
        · rw [hkn] at hq; exact absurd hq hp
        · exact ih.1 k (by omega) hq
      · rcases ih.2 with h1 | ⟨k, h1, h2⟩
        · exact Or.inl h1
        · exact Or.inr ⟨k, by omega, h2⟩
def lcF (L : Nat → Nat → Bool) : Nat → Nat → Nat
  | 0 => fun _ => 0
  | j + 1 => fun i => if i = j then 1 + mxN (fun k => L k j) (lcF L j) j else lcF L j i
theorem lcF_le (L : Nat → Nat → Bool) : ∀ j i, lcF L j i ≤ i + 1 := by
  intro j
  induction j with
  | zero => intro i; exact Nat.zero_le _
  | succ j ih =>
    intro i
    show (if i = j then 1 + mxN (fun k => L k j) (lcF L j) j else lcF L j i) ≤ i + 1
    by_cases hi : i = j
    · rw [if_pos hi]
      rcases (mxN_sp (p := fun k => L k j) (f := lcF L j) j).2 with h1 | ⟨k, h1, _, h2⟩
      · rw [h1]; omega
      · have := ih k
        omega
    · rw [if_neg hi]; exact ih i
theorem lcF_old {L : Nat → Nat → Bool} {j i : Nat} (h : i ≠ j) : lcF L (j + 1) i = lcF L j i := if_neg h
theorem lcF_new {L : Nat → Nat → Bool} {j : Nat} : lcF L (j + 1) j = 1 + mxN (fun k => L k j) (lcF L j) j := if_pos rfl
theorem mlI_N {L : Nat → Nat → Bool} {f : Nat → Int32} {F : Nat → Nat} {j : Nat} (hf : ∀ k, k < j → f k = nI (F k) ∧ F k ≤ 32) : ∀ i, i ≤ j → mlI L f j i = nI (1 + mxN (fun k => L k j) F i) := by
  intro i
  induction i with
  | zero => intro _; rfl
  | succ i ih =>
    intro hi
    have hfi := hf i (by omega)
    have ih := ih (by omega)
    have hb : mxN (fun k => L k j) F i ≤ 32 := by
      rcases (mxN_sp (p := fun k => L k j) (f := F) i).2 with h1 | ⟨k, h1, _, h2⟩
      · rw [h1]; omega
      · rw [← h2]; exact (hf k (by omega)).2
    show (if L i j = true ∧ ¬ f i < mlI L f j i then f i + nI 1 else mlI L f j i) = nI (1 + mxN (fun k => L k j) F (i + 1))
    rw [ih, hfi.1]
    by_cases hL : L i j = true
    · have e : mxN (fun k => L k j) F (i + 1) = if mxN (fun k => L k j) F i < F i then F i else mxN (fun k => L k j) F i := if_pos hL
      rw [e]
      by_cases hl : mxN (fun k => L k j) F i < F i
      · rw [if_pos hl, if_pos ⟨hL, fun q => by have := (nI_ltI (by omega) (by omega)).mp q; omega⟩, nI_ad, Nat.add_comm]
      · rw [if_neg hl, if_neg (fun q => q.2 ((nI_ltI (by omega) (by omega)).mpr (by omega)))]
    · have e : mxN (fun k => L k j) F (i + 1) = mxN (fun k => L k j) F i := if_neg hL
      rw [e, if_neg (fun q => hL q.1)]
theorem mlF_N {L : Nat → Nat → Bool} {mR : Nat → Int32} : ∀ j, j ≤ 16 → ∀ i, i < j → mlF L mR j i = nI (lcF L j i) := by
  intro j
  induction j with
  | zero => intro _ i hi; omega
  | succ j ih =>
    intro hj i hi
    show upd (mlF L mR j) j (mlI L (mlF L mR j) j j) i = _
    by_cases hij : i = j
    · subst hij
      rw [upd_eq, lcF_new, mlI_N (F := lcF L i) (fun k hk => ⟨ih (by omega) k hk, by have := lcF_le L i k; omega⟩) i (Nat.le_refl _)]
    · rw [upd_ne hij, lcF_old hij]
      exact ih (by omega) i (by omega)
theorem mxq_N {x : Int32} {f : Nat → Int32} : ∀ n, (∀ g, g < n → bt x g = true → ∃ m, m ≤ 32 ∧ f g = nI m) → ∃ M, M ≤ 32 ∧ mxq x f n = nI M ∧ (∀ g m, g < n → bt x g = true → m ≤ 32 → f g = nI m → m ≤ M) ∧ (M = 0 ∨ ∃ g, g < n ∧ bt x g = true ∧ f g = nI M) := by
  intro n
  induction n with
  | zero => intro _; exact ⟨0, by omega, rfl, fun g m hg => by omega, Or.inl rfl⟩
  | succ n ih =>
    intro hf
    obtain ⟨M, h1, h2, h3, h4⟩ := ih (fun g hg => hf g (by omega))
    by_cases hb : bt x n = true
    · obtain ⟨m, q1, q2⟩ := hf n (by omega) hb
      have e : mxq x f (n + 1) = if mxq x f n < f n then f n else mxq x f n := if_pos hb
      by_cases hl : M < m
      · refine ⟨m, q1, by rw [e, h2, q2, if_pos ((nI_ltI (by omega) (by omega)).mpr hl)], fun g m' hg hbg hm hfg => ?_, Or.inr ⟨n, by omega, hb, q2⟩⟩
        by_cases hgn : g = n
        · rw [hgn, q2] at hfg
          have := (nI_eq (by omega) (by omega)).mp hfg
          omega
        · have := h3 g m' (by omega) hbg hm hfg
          omega
      · refine ⟨M, h1, by rw [e, h2, q2, if_neg (fun q => hl ((nI_ltI (by omega) (by omega)).mp q))], fun g m' hg hbg hm hfg => ?_, ?_⟩
        · by_cases hgn : g = n
          · rw [hgn, q2] at hfg
            have := (nI_eq (by omega) (by omega)).mp hfg
            omega
          · exact h3 g m' (by omega) hbg hm hfg
        · rcases h4 with h4 | ⟨g, r1, r2⟩
          · exact Or.inl h4
          · exact Or.inr ⟨g, by omega, r2⟩
    · have e : mxq x f (n + 1) = mxq x f n := if_neg hb
      refine ⟨M, h1, by rw [e, h2], fun g m' hg hbg hm hfg => ?_, ?_⟩
      · by_cases hgn : g = n
        · rw [hgn] at hbg; exact absurd hbg hb
        · exact h3 g m' (by omega) hbg hm hfg
      · rcases h4 with h4 | ⟨g, r1, r2⟩
        · exact Or.inl h4
        · exact Or.inr ⟨g, by omega, r2⟩
theorem BFp_iff {h : Nat → Int32} (hg : gd h) {g x : Nat} : bt (BFp h (lwN (RE h)) 16 0 g) x = true ↔ Ld h x g := by
  unfold BFp
  rw [bt_st, LdP_Ld hg]
  exact ⟨fun q => q.2, fun q => ⟨(Ld_names hg q).1, q⟩⟩
theorem chF_N {h : Nat → Int32} (hg : gd h) {cH : Nat → Int32} : ∀ k, k ≤ ct h → ∀ i, i < k → chF (BFp h (lwN (RE h)) 16 0) (odF h) cH k (odF h i) = nI (lcF (fun i j => ldb h (GR h) (odF h i) (odF h j)) k i) := by
  intro k
  induction k with
  | zero => intro _ i hi; omega
  | succ k ih =>
    intro hk i hi
    have ih := ih (by omega)
    have hc := ct_le h
    have sk : odF h k < 16 ∧ NM h (odF h k) = odF h k ∧ bt (pl h k) (odF h k) = false ∧ (∀ x, Ld h x (odF h k) → bt (pl h k) x = true) := od_spec hg (by omega)
    show upd (chF (BFp h (lwN (RE h)) 16 0) (odF h) cH k) (odF h k) (nI 1 + mxq (BFp h (lwN (RE h)) 16 0 (odF h k)) (chF (BFp h (lwN (RE h)) 16 0) (odF h) cH k) 16) (odF h i) = _
    by_cases hik : i = k
    · subst hik
      rw [upd_eq, lcF_new]
      have hfrom : ∀ g, bt (BFp h (lwN (RE h)) 16 0 (odF h i)) g = true → ∃ j, j < i ∧ odF h j = g := by
        intro g hb
        have h1 := sk.2.2.2 g ((BFp_iff hg).mp hb)
        exact pl_mem i (fun j _ => nx_lt h (pl h j)) h1
      obtain ⟨M, h1, h2, h3, h4⟩ := mxq_N (x := BFp h (lwN (RE h)) 16 0 (odF h i)) (f := chF (BFp h (lwN (RE h)) 16 0) (odF h) cH i) 16 (fun g _ hb => by
        obtain ⟨j, q1, q2⟩ := hfrom g hb
        refine ⟨lcF (fun i j => ldb h (GR h) (odF h i) (odF h j)) i j, by have := lcF_le (fun i j => ldb h (GR h) (odF h i) (odF h j)) i j; omega, ?_⟩
        rw [← q2]
        exact ih j q1)
      rw [h2, nI_ad]
      have hrel : ∀ j, j < i → (bt (BFp h (lwN (RE h)) 16 0 (odF h i)) (odF h j) = true ↔ ldb h (GR h) (odF h j) (odF h i) = true) := by
        intro j hj
        have sj : odF h j < 16 ∧ NM h (odF h j) = odF h j ∧ bt (pl h j) (odF h j) = false ∧ (∀ x, Ld h x (odF h j) → bt (pl h j) x = true) := od_spec hg (by omega)
        rw [BFp_iff hg, ldb_iff hg sj.1 sk.1 sj.2.1 sk.2.1]
      have hM : M = mxN (fun k => ldb h (GR h) (odF h k) (odF h i)) (lcF (fun i j => ldb h (GR h) (odF h i) (odF h j)) i) i := by
        have hx := mxN_sp (p := fun k => ldb h (GR h) (odF h k) (odF h i)) (f := lcF (fun i j => ldb h (GR h) (odF h i) (odF h j)) i) i
        apply Nat.le_antisymm
        · rcases h4 with h4 | ⟨g, r1, r2, r3⟩
          · rw [h4]; exact Nat.zero_le _
          · obtain ⟨j, q1, q2⟩ := hfrom g r2
            rw [← q2] at r2 r3
            rw [ih j q1] at r3
            have hle := lcF_le (fun i j => ldb h (GR h) (odF h i) (odF h j)) i j
            have e := (nI_eq (by omega) (by omega)).mp r3
            rw [← e]
            exact hx.1 j q1 ((hrel j q1).mp r2)
        · rcases hx.2 with h5 | ⟨j, r1, r2, r3⟩
          · rw [h5]; exact Nat.zero_le _
          · rw [← r3]
            have hle := lcF_le (fun i j => ldb h (GR h) (odF h i) (odF h j)) i j
            exact h3 (odF h j) _ (od_spec hg (by omega)).1 ((hrel j r1).mpr r2) (by omega) (ih j r1)
      rw [hM]
    · have hne : ¬ odF h i = odF h k := fun q => hik (od_inj hg (by omega) (by omega) q)
      rw [upd_ne hne, lcF_old hik]
      exact ih i (by omega)
theorem eq_f4 {h : Nat → Int32} (hg : gd h) (cH mR : Nat → Int32) : lgF (BFp h (lwN (RE h)) 16 0) (fun k => nxF (fun k => nI (lwN (RE h) k)) (BFp h (lwN (RE h)) 16 0) (plF (fun k => nI (lwN (RE h) k)) (BFp h (lwN (RE h)) 16 0) k)) cH (cq (fun v9 => decide (lwN (RE h) v9 = v9)) 16) = mlB (fun i9 j9 => ldb h (GR h) (odF h i9) (odF h j9)) mR (ct h) := by
  have e1 : (fun k => nxF (fun k => nI (lwN (RE h) k)) (BFp h (lwN (RE h)) 16 0) (plF (fun k => nI (lwN (RE h) k)) (BFp h (lwN (RE h)) 16 0) k)) = odF h := funext fun k => by
    show nxF (fun k => nI (lwN (RE h) k)) (BFp h (lwN (RE h)) 16 0) (plF (fun k => nI (lwN (RE h) k)) (BFp h (lwN (RE h)) 16 0) k) = nx h (pl h k)
    rw [plF_pl hg, nxF_nx hg]
  rw [e1, eq_cnt hg]
  have key : ∀ k, k ≤ ct h → lgF (BFp h (lwN (RE h)) 16 0) (odF h) cH k = mlB (fun i9 j9 => ldb h (GR h) (odF h i9) (odF h j9)) mR k := by
    intro k
    induction k with
    | zero => intro _; rfl
    | succ k ih =>
      intro hk
      have hc := ct_le h
      show (if lgF (BFp h (lwN (RE h)) 16 0) (odF h) cH k < chF (BFp h (lwN (RE h)) 16 0) (odF h) cH (k + 1) (odF h k) then chF (BFp h (lwN (RE h)) 16 0) (odF h) cH (k + 1) (odF h k) else lgF (BFp h (lwN (RE h)) 16 0) (odF h) cH k) = if mlF (fun i9 j9 => ldb h (GR h) (odF h i9) (odF h j9)) mR (k + 1) k ≤ mlB (fun i9 j9 => ldb h (GR h) (odF h i9) (odF h j9)) mR k then mlB (fun i9 j9 => ldb h (GR h) (odF h i9) (odF h j9)) mR k else mlF (fun i9 j9 => ldb h (GR h) (odF h i9) (odF h j9)) mR (k + 1) k
      rw [ih (by omega), chF_N hg (k + 1) hk k (by omega), mlF_N (k + 1) (by omega) k (by omega)]
      generalize mlB (fun i9 j9 => ldb h (GR h) (odF h i9) (odF h j9)) mR k = X
      generalize nI (lcF (fun i j => ldb h (GR h) (odF h i) (odF h j)) (k + 1) k) = Y
      by_cases hq : X < Y
      · rw [if_pos hq, if_neg (Int32.not_le.mpr hq)]
      · rw [if_neg hq, if_pos (Int32.not_lt.mp hq)]
  exact key (ct h) (Nat.le_refl _)
