theorem b_eq {a b : Bool} (h : a = true ↔ b = true) : a = b := by
  cases a <;> cases b <;> simp_all
theorem lw_NM {h : Nat → Int32} (hg : gd h) {v : Nat} (hv : v < 16) : lwN (RE h) v = NM h v := by
  have a := NM_spec hg hv
  have hm : ∀ k, k < NM h v → (bt (RE h v) k && bt (RE h k) v) = false := by
    intro k hk
    cases hq : (bt (RE h v) k && bt (RE h k) v) with
    | false => rfl
    | true =>
      rw [Bool.and_eq_true] at hq
      have h1 : bt (GR h v) k = true := (GR_iff hg hv).mpr ⟨by omega, (RE_iff hg hv).mp hq.1, (RE_iff hg (by omega)).mp hq.2⟩
      rw [a.2.2.2 k hk] at h1
      cases h1
  unfold lwN
  rcases Nat.lt_or_ge (NM h v) v with hlt | hge
  · refine first_eq ?_ hlt hm
    show (bt (RE h v) (NM h v) && bt (RE h (NM h v)) v) = true
    rw [(RE_iff hg hv).mpr a.2.1, (RE_iff hg a.1).mpr a.2.2.1]
    rfl
  · have he : NM h v = v := Nat.le_antisymm (NM_le hg hv) hge
    rw [first_none (fun k hk => hm k (by omega))]
    exact he.symm
theorem eq_group {h : Nat → Int32} (hg : gd h) {v : Nat} (hv : v < 16) : nI (lwN (RE h) v) = nI (NM h v) := by
  rw [lw_NM hg hv]
theorem cn_cq (x : Int32) : ∀ k, cn x k = cq (fun i => bt x i) k := by
  intro k
  induction k with
  | zero => rfl
  | succ k ih =>
    show cn x k + (if bt x k = true then 1 else 0) = if bt x k = true then cq (fun i => bt x i) k + 1 else cq (fun i => bt x i) k
    rw [ih]
    by_cases hb : bt x k = true
    · rw [if_pos hb, if_pos hb]
    · rw [if_neg hb, if_neg hb]; rfl
theorem NM_lt {h : Nat → Int32} (hg : gd h) {v : Nat} (hv : v < 16) : NM h v < 2 ^ 31 := by
  have := (NM_spec hg hv).1
  omega
theorem eq_members {h : Nat → Int32} (hg : gd h) {v : Nat} (hv : v < 16) : nI (cq (fun u => decide ((fun k => nI (lwN (RE h) k)) u = (fun k => nI (lwN (RE h) k)) v)) 16) = nI (cn (GR h v) 16) := by
  refine congrArg nI ?_
  rw [cn_cq]
  refine cq_congr 16 (fun k hk => b_eq ?_)
  show decide (nI (lwN (RE h) k) = nI (lwN (RE h) v)) = true ↔ bt (GR h v) k = true
  rw [decide_eq_true_eq, lw_NM hg hk, lw_NM hg hv, GR_nm hg hv, nI_eq (NM_lt hg hk) (NM_lt hg hv)]
  exact ⟨fun q => ⟨hk, q⟩, fun q => q.2⟩
theorem eq_cnt {h : Nat → Int32} (hg : gd h) : cq (fun v9 => decide (lwN (RE h) v9 = v9)) 16 = ct h := by
  unfold ct
  rw [cn_cq]
  refine cq_congr 16 (fun k hk => b_eq ?_)
  show decide (lwN (RE h) k = k) = true ↔ bt (nms h) k = true
  rw [decide_eq_true_eq, lw_NM hg hk]
  unfold nms
  rw [bt_st]
  exact ⟨fun q => ⟨hk, q⟩, fun q => q.2⟩
theorem LdP_Ld {h : Nat → Int32} (hg : gd h) {g x : Nat} : LdP h (lwN (RE h)) 16 0 g x ↔ Ld h g x := by
  constructor
  · rintro ⟨h1, a, b, h2, h3, h4, h5, h6⟩
    rw [lw_NM hg h4.1] at h5
    rw [lw_NM hg h3] at h6
    exact ⟨h1, a, b, h4, h5, h6⟩
  · rintro ⟨h1, a, b, h4, h5, h6⟩
    have hb := m16_lt (hg a h4.1) h4.2
    exact ⟨h1, a, b, Or.inl h4.1, hb, h4, by rw [lw_NM hg h4.1]; exact h5, by rw [lw_NM hg hb]; exact h6⟩
theorem nxF_nx {h : Nat → Int32} (hg : gd h) (x : Int32) : nxF (fun k => nI (lwN (RE h) k)) (BFp h (lwN (RE h)) 16 0) x = nx h x := by
  unfold nxF nx
  refine first_congr (fun u hu => b_eq ?_)
  rw [dp_t, Bool.and_eq_true, Bool.and_eq_true, decide_eq_true_eq, decide_eq_true_eq]
  show ((nI (lwN (RE h) u) = nI u ∧ (!bt x u) = true) ∧ BFp h (lwN (RE h)) 16 0 u &&& (x ^^^ (-1)) = 0) ↔ fr h x u
  rw [lw_NM hg hu, nI_eq (NM_lt hg hu) (by omega)]
  constructor
  · rintro ⟨⟨h1, h2⟩, h3⟩
    refine ⟨h1, by simpa using h2, fun y hy => ?_⟩
    have hyl := (Ld_names hg hy).1
    cases hb : bt x y with
    | true => rfl
    | false =>
      exfalso
      refine (and_ne.mpr ⟨y, (bt_st (P := fun x => LdP h (lwN (RE h)) 16 0 x u)).mpr ⟨hyl, (LdP_Ld hg).mpr hy⟩, ?_⟩) h3
      rw [bt_not x (by omega), hb]
      rfl
  · rintro ⟨h1, h2, h3⟩
    refine ⟨⟨h1, by rw [h2]; rfl⟩, ?_⟩
    apply Classical.byContradiction
    intro hn
    obtain ⟨i, q1, q2⟩ := and_ne.mp hn
    have q3 := (bt_st (P := fun x => LdP h (lwN (RE h)) 16 0 x u)).mp q1
    have q4 := h3 i ((LdP_Ld hg).mp q3.2)
    rw [bt_not x (bt_lt q1), q4] at q2
    cases q2
theorem plF_pl {h : Nat → Int32} (hg : gd h) : ∀ k, plF (fun k => nI (lwN (RE h) k)) (BFp h (lwN (RE h)) 16 0) k = pl h k := by
  intro k
  induction k with
  | zero => rfl
  | succ k ih =>
    show plF (fun k => nI (lwN (RE h) k)) (BFp h (lwN (RE h)) 16 0) k ||| bit (nxF (fun k => nI (lwN (RE h) k)) (BFp h (lwN (RE h)) 16 0) (plF (fun k => nI (lwN (RE h) k)) (BFp h (lwN (RE h)) 16 0) k)) = pl h k ||| bit (nx h (pl h k))
    rw [ih, nxF_nx hg]
theorem eq_ranked {h : Nat → Int32} (hg : gd h) {k : Nat} (hk : k < ct h) : nI (nxF (fun k => nI (lwN (RE h) k)) (BFp h (lwN (RE h)) 16 0) (plF (fun k => nI (lwN (RE h) k)) (BFp h (lwN (RE h)) 16 0) k)) = nI (nx h (pl h k)) := by
  rw [plF_pl hg, nxF_nx hg]
theorem lastq_one {p : Nat → Bool} {j : Nat} : ∀ N, j < N → p j = true → (∀ k, k < N → p k = true → k = j) → lastq p N = j := by
  intro N
  induction N with
  | zero => intro h; omega
  | succ n ih =>
    intro hj hp hu
    cases hq : p n with
    | true => rw [lastq_t hq]; exact hu n (by omega) hq
    | false =>
      have hne : j ≠ n := fun q => by rw [q, hq] at hp; cases hp
      rw [lastq_f hq]
      exact ih (by omega) hp (fun k hk => hu k (by omega))
theorem od_spec {h : Nat → Int32} (hg : gd h) {k : Nat} (hk : k < ct h) : nx h (pl h k) < 16 ∧ NM h (nx h (pl h k)) = nx h (pl h k) ∧ bt (pl h k) (nx h (pl h k)) = false ∧ ∀ x, Ld h x (nx h (pl h k)) → bt (pl h k) x = true := by
  have hn := nx_spec hg (pl_un hg hk)
  exact ⟨hn.1, hn.2.1.1, hn.2.1.2.1, hn.2.1.2.2⟩
theorem pl_mono {h : Nat → Int32} {g : Nat} {j : Nat} (hb : bt (pl h j) g = true) : ∀ i, bt (pl h (j + i)) g = true := by
  intro i
  induction i with
  | zero => exact hb
  | succ i ih =>
    show bt (pl h (j + i) ||| bit (nx h (pl h (j + i)))) g = true
    rw [b_or, ih]
    rfl
theorem od_in {h : Nat → Int32} {j k : Nat} (hjk : j < k) : bt (pl h k) (nx h (pl h j)) = true := by
  have h1 : bt (pl h (j + 1)) (nx h (pl h j)) = true := by
    show bt (pl h j ||| bit (nx h (pl h j))) (nx h (pl h j)) = true
    have := nx_lt h (pl h j)
    rw [b_or, bt_bit (by omega) (by omega), decide_eq_true rfl, Bool.or_true]
  have h2 := pl_mono h1 (k - (j + 1))
  rw [show j + 1 + (k - (j + 1)) = k by omega] at h2
  exact h2
theorem od_inj {h : Nat → Int32} (hg : gd h) {j k : Nat} (hj : j < ct h) (hk : k < ct h) (e : nx h (pl h j) = nx h (pl h k)) : j = k := by
  rcases Nat.lt_trichotomy j k with h1 | h1 | h1
  · have h2 := od_in (h := h) h1
    rw [e, (od_spec hg hk).2.2.1] at h2
    cases h2
  · exact h1
  · have h2 := od_in (h := h) h1
    rw [← e, (od_spec hg hj).2.2.1] at h2
    cases h2
theorem eq_rank {h : Nat → Int32} (hg : gd h) {v : Nat} (hv : v < 16) (oR : Nat → Int32) : nI (lastq (fun u => decide ((fun k => if k < (cq (fun v9 => decide (lwN (RE h) v9 = v9)) 16) then nI (nxF (fun k => nI (lwN (RE h) k)) (BFp h (lwN (RE h)) 16 0) (plF (fun k => nI (lwN (RE h) k)) (BFp h (lwN (RE h)) 16 0) k)) else oR k) u = (fun k => nI (lwN (RE h) k)) v)) (cq (fun v9 => decide (lwN (RE h) v9 = v9)) 16)) = nI (rk h v) := by
  rw [eq_cnt hg]
  refine congrArg nI ?_
  have hs := first_spec (p := fun k => bt (GR h v) (nx h (pl h k))) (d := 0) (N := ct h) (rk_ex hg hv)
  have key : ∀ k, k < ct h → (decide ((if k < ct h then nI (nxF (fun k => nI (lwN (RE h) k)) (BFp h (lwN (RE h)) 16 0) (plF (fun k => nI (lwN (RE h) k)) (BFp h (lwN (RE h)) 16 0) k)) else oR k) = nI (lwN (RE h) v)) = true ↔ nx h (pl h k) = NM h v) := by
    intro k hk
    have hn := od_spec hg hk
    rw [decide_eq_true_eq, if_pos hk, plF_pl hg, nxF_nx hg, lw_NM hg hv, nI_eq (by omega) (NM_lt hg hv)]
  have key2 : ∀ k, k < ct h → (bt (GR h v) (nx h (pl h k)) = true ↔ nx h (pl h k) = NM h v) := by
    intro k hk
    have hn := od_spec hg hk
    rw [GR_nm hg hv, hn.2.1]
    exact ⟨fun q => q.2, fun q => ⟨hn.1, q⟩⟩
  have e0 := (key2 _ hs.1).mp hs.2.1
  refine lastq_one (ct h) hs.1 ((key _ hs.1).mpr e0) (fun k hk hp => ?_)
  exact od_inj hg hk hs.1 (((key k hk).mp hp).trans e0.symm)
theorem nI_m1 (m : Nat) : nI (m + 1) - nI 1 = nI m := by
  rw [← nI_ad]
  exact Int32.add_sub_cancel _ _
theorem nI_neg {m : Nat} (hm : m < 32) : ¬ (-1 = nI m) := fun q => (oI_32 m hm).1 (by rw [← q]; decide)
theorem DS_nI {h : Nat → Int32} {w v m : Nat} (hm : m < 16) : DS h w v = nI m ↔ ds h w v = m := by
  unfold DS
  by_cases hd : ds h w v < 16
  · rw [if_pos hd, nI_eq (by omega) (by omega)]
  · rw [if_neg hd]
    exact ⟨fun q => absurd q (nI_neg (by omega)), fun q => absurd q (by omega)⟩
theorem way_st {h : Nat → Int32} (hg : gd h) {a v m : Nat} (ha : a < 16) (hv : v < 16) (hm : m + 1 < 16) (hd : ds h a v = m + 1) : first (fun w => bt (h a &&& ly h v m) w) 0 16 = wyN h v a 0 ∧ ds h (wyN h v a 0) v = m := by
  have hw : Wk (Eg h) (m + 1) a v := (ly_iff hv (m + 1) a).mp (by
    have := ds_bt (h := h) (k := a) (v := v) (by omega)
    rw [hd] at this
    exact this)
  obtain ⟨w0, e0, hw0⟩ := Wk_head m a v hw
  have hw0l : w0 < 16 := m16_lt (hg a ha) e0.2
  have iffp : ∀ w, bt (h a &&& ly h v m) w = true ↔ (bt (h a) w = true ∧ ds h w v = m) := by
    intro w
    rw [b_and, Bool.and_eq_true]
    constructor
    · rintro ⟨h1, h2⟩
      exact ⟨h1, (ds_step hv (by omega) ⟨ha, h1⟩ hd).mp h2⟩
    · rintro ⟨h1, h2⟩
      exact ⟨h1, (ds_step hv (by omega) ⟨ha, h1⟩ hd).mpr h2⟩
  have hDa : DS h a v = nI (m + 1) := (DS_nI (by omega)).mpr hd
  have hq : ∀ w, (decide (0 ≤ w) && (bt (h a) w && decide (DS h w v = DS h a v - nI 1))) = bt (h a &&& ly h v m) w := by
    intro w
    apply b_eq
    rw [iffp, Bool.and_eq_true, Bool.and_eq_true, decide_eq_true_eq, decide_eq_true_eq, hDa, nI_m1, DS_nI (by omega)]
    exact ⟨fun q => q.2, fun q => ⟨Nat.zero_le _, q⟩⟩
  have hs := first_spec (p := fun w => bt (h a &&& ly h v m) w) (d := 0) (N := 16) ⟨w0, hw0l, by
    show bt (h a &&& ly h v m) w0 = true
    rw [b_and, e0.2, (ly_iff hv m w0).mpr hw0]; rfl⟩
  have fe : first (fun w => decide (0 ≤ w) && (bt (h a) w && decide (DS h w v = DS h a v - nI 1))) 16 16 = first (fun w => bt (h a &&& ly h v m) w) 0 16 :=
    first_eq (by rw [hq]; exact hs.2.1) hs.1 (fun k hk => by rw [hq]; exact hs.2.2 k hk)
  have hN : wyN h v a 0 = first (fun w => bt (h a &&& ly h v m) w) 0 16 := by
    unfold wyN
    rw [fe, if_pos hs.1]
  refine ⟨hN.symm, ?_⟩
  rw [hN]
  exact ((iffp _).mp hs.2.1).2
theorem eq_way {h : Nat → Int32} (hg : gd h) {u v n i9 : Nat} (hu : u < 16) (hv : v < 16) (hn : n < 16) (hi9 : i9 ≤ n) (hd9 : DS h u v = nI n) : nI (pw h (ly h v) n u i9) = nI (wyP h v u i9) := by
  have key : ∀ k, k ≤ n → pw h (ly h v) n u k = wyP h v u k ∧ wyP h v u k < 16 ∧ ds h (wyP h v u k) v = n - k := by
    intro k
    induction k with
    | zero => intro _; exact ⟨rfl, hu, (DS_nI hn).mp hd9⟩
    | succ k ih =>
      intro hk
      obtain ⟨h1, h2, h3⟩ := ih (by omega)
      have hs := way_st hg h2 hv (m := n - (k + 1)) (by omega) (by omega)
      refine ⟨?_, wyN_lt h v _ 0, hs.2⟩
      show first (fun w => bt (h (pw h (ly h v) n u k) &&& ly h v (n - (k + 1))) w) 0 16 = wyN h v (wyP h v u k) 0
      rw [h1]
      exact hs.1
  rw [(key i9 hi9).1]
