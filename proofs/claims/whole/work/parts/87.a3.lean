theorem sq_zero {f : Nat → Nat} : ∀ n, (∀ k, k < n → f k = 0) → sq f n = 0 := by
  intro n
  induction n with
  | zero => intro _; rfl
  | succ n ih =>
    intro h
    show sq f n + f n = 0
    rw [ih (fun k hk => h k (by omega)), h n (by omega)]
theorem cq_zero {p : Nat → Bool} : ∀ n, (∀ k, k < n → p k = false) → cq p n = 0 := by
  intro n
  induction n with
  | zero => intro _; rfl
  | succ n ih =>
    intro h
    rw [cq_f (h n (by omega))]
    exact ih (fun k hk => h k (by omega))
theorem cq_sq (p : Nat → Bool) : ∀ n, cq p n = sq (fun k => if p k = true then 1 else 0) n := by
  intro n
  induction n with
  | zero => rfl
  | succ n ih =>
    show (if p n = true then cq p n + 1 else cq p n) = sq (fun k => if p k = true then 1 else 0) n + (if p n = true then 1 else 0)
    rw [← ih]
    by_cases h : p n = true
    · rw [if_pos h, if_pos h]
    · rw [if_neg h, if_neg h]; rfl
theorem bt_ins {p : Int32} {g x : Nat} (hg : g < 32) (hx : x < 32) : bt (p ||| bit g) x = (bt p x || decide (x = g)) := by
  rw [b_or, bt_bit hg hx]
theorem sq_ins {f : Nat → Nat} {p : Int32} {g : Nat} (hb : bt p g = false) : ∀ n, n ≤ 32 → g < n → sq (fun x => if bt (p ||| bit g) x = true then f x else 0) n = sq (fun x => if bt p x = true then f x else 0) n + f g := by
  intro n
  induction n with
  | zero => intro _ h; omega
  | succ n ih =>
    intro hn hg
    show sq (fun x => if bt (p ||| bit g) x = true then f x else 0) n + (if bt (p ||| bit g) n = true then f n else 0) = sq (fun x => if bt p x = true then f x else 0) n + (if bt p n = true then f n else 0) + f g
    by_cases hq : n = g
    · subst hq
      rw [sq_congr (f := fun x => if bt (p ||| bit n) x = true then f x else 0) (g := fun x => if bt p x = true then f x else 0) n (fun k hk => by
        show (if bt (p ||| bit n) k = true then f k else 0) = if bt p k = true then f k else 0
        rw [bt_ins (by omega) (by omega), decide_eq_false (by omega), Bool.or_false])]
      rw [bt_ins (by omega) (by omega), decide_eq_true rfl, Bool.or_true, hb]
      simp
    · rw [ih (by omega) (by omega), bt_ins (by omega) (by omega), decide_eq_false hq, Bool.or_false]
      omega
theorem od_sum {h : Nat → Int32} (hg : gd h) {f : Nat → Nat} : ∀ k, k ≤ ct h → sq (fun i => f (odF h i)) k = sq (fun x => if bt (pl h k) x = true then f x else 0) 16 := by
  intro k
  induction k with
  | zero =>
    intro _
    symm
    refine sq_zero 16 (fun x _ => ?_)
    show (if bt (pl h 0) x = true then f x else 0) = 0
    have : bt (pl h 0) x = false := b_0 x
    rw [this]
    simp
  | succ k ih =>
    intro hk
    have hs := od_spec hg (show k < ct h by omega)
    show sq (fun i => f (odF h i)) k + f (odF h k) = sq (fun x => if bt (pl h k ||| bit (nx h (pl h k))) x = true then f x else 0) 16
    rw [sq_ins hs.2.2.1 16 (by decide) hs.1, ih (by omega)]
    rfl
theorem od_all {h : Nat → Int32} (hg : gd h) {f : Nat → Nat} (hf : ∀ x, x < 16 → ¬ NM h x = x → f x = 0) : sq f 16 = sq (fun i => f (odF h i)) (ct h) := by
  rw [od_sum hg (ct h) (Nat.le_refl _), pl_ct hg]
  refine sq_congr 16 (fun x hx => ?_)
  show f x = if bt (nms h) x = true then f x else 0
  by_cases hb : bt (nms h) x = true
  · rw [if_pos hb]
  · rw [if_neg hb]
    refine hf x hx (fun q => hb ?_)
    unfold nms
    exact bt_st.mpr ⟨hx, q⟩
theorem reidx {h : Nat → Int32} (hg : gd h) {P : Nat → Nat → Bool} (hP : ∀ g x, g < 16 → x < 16 → P g x = true → NM h g = g ∧ NM h x = x) : sq (fun g => cq (P g) 16) 16 = sq (fun i => cq (fun j => P (odF h i) (odF h j)) (ct h)) (ct h) := by
  have h1 : ∀ g, g < 16 → cq (P g) 16 = cq (fun j => P g (odF h j)) (ct h) := by
    intro g hgl
    rw [cq_sq, cq_sq]
    refine od_all hg (f := fun k => if P g k = true then 1 else 0) (fun x hx hn => ?_)
    show (if P g x = true then 1 else 0) = 0
    exact if_neg (fun q => hn (hP g x hgl hx q).2)
  rw [od_all hg (f := fun g => cq (P g) 16) (fun x hx hn => ?_)]
  · refine sq_congr (ct h) (fun i hi => ?_)
    exact h1 (odF h i) (od_spec hg hi).1
  · refine cq_zero 16 (fun k hk => ?_)
    cases hq : P x k with
    | false => rfl
    | true => exact absurd (hP x k hx hk hq).1 hn
theorem ldb_iff {h : Nat → Int32} (hg : gd h) {a b : Nat} (ha : a < 16) (hb : b < 16) (na : NM h a = a) (nb : NM h b = b) : ldb h (GR h) a b = true ↔ Ld h a b := by
  unfold ldb
  rw [Bool.and_eq_true, not_t, not_t, decide_eq_true_eq, decide_eq_true_eq]
  constructor
  · rintro ⟨h1, h2⟩
    obtain ⟨i, q1, q2⟩ := and_ne.mp h2
    obtain ⟨u, q3, q4, q5⟩ := bt_un.mp q1
    have r1 := (GR_nm hg ha).mp q4
    have r2 := (GR_nm hg hb).mp q2
    exact ⟨h1, u, i, ⟨q3, q5⟩, r1.2.trans na, r2.2.trans nb⟩
  · rintro ⟨h1, u, i, e, q1, q2⟩
    refine ⟨h1, and_ne.mpr ⟨i, bt_un.mpr ⟨u, e.1, (GR_nm hg ha).mpr ⟨e.1, q1.trans na.symm⟩, e.2⟩, (GR_nm hg hb).mpr ⟨m16_lt (hg u e.1) e.2, q2.trans nb.symm⟩⟩⟩
theorem LTp_iff {h : Nat → Int32} (hg : gd h) {g x : Nat} : bt (LTp h (lwN (RE h)) 16 0 g) x = true ↔ Ld h g x := by
  unfold LTp
  rw [bt_st, LdP_Ld hg]
  exact ⟨fun q => q.2, fun q => ⟨(Ld_names hg q).2.1, q⟩⟩
theorem eq_f2 {h : Nat → Int32} (hg : gd h) : nI (sq (fun g9 => cn ((LTp h (lwN (RE h)) 16 0) g9) 16) 16) = nI (sq (fun i9 => cq (prL h (GR h) (odF h) i9) (ct h)) (ct h)) := by
  refine congrArg nI ?_
  rw [sq_congr (f := fun g9 => cn ((LTp h (lwN (RE h)) 16 0) g9) 16) (g := fun g9 => cq (fun x => bt (LTp h (lwN (RE h)) 16 0 g9) x) 16) 16 (fun k _ => cn_cq _ 16)]
  rw [reidx hg (P := fun g x => bt (LTp h (lwN (RE h)) 16 0 g) x) (fun g x _ _ hq => ⟨(Ld_names hg ((LTp_iff hg).mp hq)).2.2.1, (Ld_names hg ((LTp_iff hg).mp hq)).2.2.2⟩)]
  refine sq_congr (ct h) (fun i hi => cq_congr (ct h) (fun j hj => b_eq ?_))
  have si := od_spec hg hi
  have sj := od_spec hg hj
  show bt (LTp h (lwN (RE h)) 16 0 (odF h i)) (odF h j) = true ↔ ldb h (GR h) (odF h i) (odF h j) = true
  rw [LTp_iff hg]
  exact (ldb_iff hg si.1 sj.1 si.2.1 sj.2.1).symm
theorem Eg_cut {h : Nat → Int32} {ga gb : Int32} {p q : Nat} : Eg (cutG h ga gb) p q ↔ Eg h p q ∧ ¬ (bt ga p = true ∧ bt gb q = true) := by
  unfold Eg cutG
  by_cases hp : bt ga p = true
  · rw [if_pos hp, b_and, Bool.and_eq_true]
    constructor
    · rintro ⟨h1, h2, h3⟩
      refine ⟨⟨h1, h2⟩, ?_⟩
      rintro ⟨_, h4⟩
      rw [bt_not _ (bt_lt h2), h4] at h3
      cases h3
    · rintro ⟨⟨h1, h2⟩, h3⟩
      refine ⟨h1, h2, ?_⟩
      rw [bt_not _ (bt_lt h2)]
      cases h4 : bt gb q with
      | false => rfl
      | true => exact absurd ⟨hp, h4⟩ h3
  · rw [if_neg hp]
    exact ⟨fun q => ⟨q, fun r => hp r.1⟩, fun q => q.1⟩
theorem NM_rc {h : Nat → Int32} (hg : gd h) {x a : Nat} (hx : x < 16) (e : NM h x = a) : Rc (Eg h) x a ∧ Rc (Eg h) a x := by
  have := NM_spec hg hx
  rw [e] at this
  exact ⟨this.2.1, this.2.2.1⟩
theorem owb_iff {h : Nat → Int32} (hg : gd h) {a b : Nat} (ha : a < 16) (hb : b < 16) (na : NM h a = a) (nb : NM h b = b) (hab : a ≠ b) : owb h (GR h) a b = true ↔ ∃ k, k < 16 ∧ Ld h a k ∧ k ≠ b ∧ Rc (Eg h) k b := by
  unfold owb
  rw [not_t, decide_eq_true_eq]
  have hgc := gd_cutG hg (ga := GR h a) (gb := GR h b)
  constructor
  · intro hn
    obtain ⟨y, q1, q2⟩ := and_ne.mp hn
    obtain ⟨x0, q3, _, q4⟩ := (SP_iff hgc (GR_m16 hg ha)).mp q1
    have q4 : Rc (Eg (cutG h (GR h a) (GR h b))) x0 y := Rc_mono (fun _ _ e => Ed0.mp e) q4
    have hP : bt (GR h a) y = true ∨ ∃ p q, bt (GR h a) p = true ∧ ¬ bt (GR h a) q = true ∧ Eg (cutG h (GR h a) (GR h b)) p q ∧ Rc (Eg h) q y :=
      Rc_ind (P := fun z => bt (GR h a) z = true ∨ ∃ p q, bt (GR h a) p = true ∧ ¬ bt (GR h a) q = true ∧ Eg (cutG h (GR h a) (GR h b)) p q ∧ Rc (Eg h) q z) (Or.inl q3) (fun w v hw e => by
        rcases hw with hw | ⟨p, q, r1, r2, r3, r4⟩
        · by_cases hv : bt (GR h a) v = true
          · exact Or.inl hv
          · exact Or.inr ⟨w, v, hw, hv, e, Rc_rf v⟩
        · exact Or.inr ⟨p, q, r1, r2, r3, Rc_st r4 (Eg_cut.mp e).1⟩) q4
    have ry := (GR_nm hg hb).mp q2
    rcases hP with hP | ⟨p, q, r1, r2, r3, r4⟩
    · have := ((GR_nm hg ha).mp hP).2
      rw [ry.2, na, nb] at this
      exact absurd this.symm hab
    · have e := Eg_cut.mp r3
      have hq : q < 16 := m16_lt (hg p e.1.1) e.1.2
      have rp := (GR_nm hg ha).mp r1
      have k1 := NM_spec hg hq
      refine ⟨NM h q, k1.1, ⟨fun q9 => r2 ((GR_nm hg ha).mpr ⟨hq, q9.symm.trans na.symm⟩), p, q, e.1, rp.2.trans na, rfl⟩, fun q9 => e.2 ⟨r1, (GR_nm hg hb).mpr ⟨hq, q9.trans nb.symm⟩⟩, ?_⟩
      exact Rc_tr k1.2.2.1 (Rc_tr r4 (NM_rc hg ry.1 (ry.2.trans nb)).1)
  · rintro ⟨k, hk, ⟨h1, p, q, e, n1, n2⟩, h2, h3⟩
    have hq : q < 16 := m16_lt (hg p e.1) e.2
    have hqb : Rc (Eg h) q b := Rc_tr (NM_rc hg hq n2).1 h3
    have hap : Rc (Eg h) a p := (NM_rc hg e.1 n1).2
    have key : Rc (Eg (cutG h (GR h a) (GR h b))) q b ∧ Rc (Eg h) q b := Rc_ind (P := fun x => Rc (Eg (cutG h (GR h a) (GR h b))) q x ∧ Rc (Eg h) q x) ⟨Rc_rf q, Rc_rf q⟩ (fun x y hx ex => by
      refine ⟨Rc_st hx.1 (Eg_cut.mpr ⟨ex, ?_⟩), Rc_st hx.2 ex⟩
      rintro ⟨h5, _⟩
      have rx := (GR_nm hg ha).mp h5
      have h6 : Rc (Eg h) q a := Rc_tr hx.2 (NM_rc hg rx.1 (rx.2.trans na)).1
      have h7 := NM_eq hg hq ha h6 (Rc_tr hap (Rc_one e))
      rw [n2, na] at h7
      exact h1 h7.symm) hqb
    have e9 : Eg (cutG h (GR h a) (GR h b)) p q := Eg_cut.mpr ⟨e, fun r => by
      have := ((GR_nm hg hb).mp r.2).2
      rw [n2, nb] at this
      exact h2 this⟩
    have hpa : bt (GR h a) p = true := (GR_nm hg ha).mpr ⟨e.1, n1.trans na.symm⟩
    refine and_ne.mpr ⟨b, (SP_iff hgc (GR_m16 hg ha)).mpr ⟨p, hpa, b_0 p, Rc_mono (fun _ _ e => Ed0.mpr e) (Rc_head e9 key.1)⟩, (GR_nm hg hb).mpr ⟨hb, rfl⟩⟩
theorem eq_f3 {h : Nat → Int32} (hg : gd h) : nI (sq (fun a9 => cq ((fun u v => bt ((LTp h (lwN (RE h)) 16 0) u) v && !(anyq (fun k => bt ((LTp h (lwN (RE h)) 16 0) u &&& (bit v ^^^ (-1))) k && bt ((RE h) k) v) 16)) a9) 16) 16) = nI (sq (fun i9 => cq (prO h (GR h) (odF h) i9) (ct h)) (ct h)) := by
  refine congrArg nI ?_
  rw [reidx hg (P := fun u v => bt ((LTp h (lwN (RE h)) 16 0) u) v && !(anyq (fun k => bt ((LTp h (lwN (RE h)) 16 0) u &&& (bit v ^^^ (-1))) k && bt ((RE h) k) v) 16)) (fun g x _ _ hq => by
    have hq := (LTp_iff hg).mp ((Bool.and_eq_true _ _).mp hq).1
    exact ⟨(Ld_names hg hq).2.2.1, (Ld_names hg hq).2.2.2⟩)]
  refine sq_congr (ct h) (fun i hi => cq_congr (ct h) (fun j hj => b_eq ?_))
  have si : odF h i < 16 ∧ NM h (odF h i) = odF h i ∧ bt (pl h i) (odF h i) = false ∧ (∀ x, Ld h x (odF h i) → bt (pl h i) x = true) := od_spec hg hi
  have sj : odF h j < 16 ∧ NM h (odF h j) = odF h j ∧ bt (pl h j) (odF h j) = false ∧ (∀ x, Ld h x (odF h j) → bt (pl h j) x = true) := od_spec hg hj
  show (bt ((LTp h (lwN (RE h)) 16 0) (odF h i)) (odF h j) && !(anyq (fun k => bt ((LTp h (lwN (RE h)) 16 0) (odF h i) &&& (bit (odF h j) ^^^ (-1))) k && bt ((RE h) k) (odF h j)) 16)) = true ↔ (ldb h (GR h) (odF h i) (odF h j) && !(owb h (GR h) (odF h i) (odF h j))) = true
  rw [Bool.and_eq_true, Bool.and_eq_true, not_t, not_t, LTp_iff hg, ldb_iff hg si.1 sj.1 si.2.1 sj.2.1]
  refine and_congr_right (fun hL => not_congr ?_)
  rw [owb_iff hg si.1 sj.1 si.2.1 sj.2.1 hL.1, anyq_iff]
  refine exists_congr (fun k => and_congr_right (fun hk => ?_))
  show (bt ((LTp h (lwN (RE h)) 16 0) (odF h i) &&& (bit (odF h j) ^^^ (-1))) k && bt ((RE h) k) (odF h j)) = true ↔ _
  have hj16 : odF h j < 16 := sj.1
  rw [Bool.and_eq_true, b_and, Bool.and_eq_true, bt_not _ (by omega), bt_bit (by omega) (by omega), not_t, decide_eq_true_eq, LTp_iff hg, RE_iff hg hk]
  exact ⟨fun q => ⟨q.1.1, q.1.2, q.2⟩, fun q => ⟨⟨q.1, q.2.1⟩, q.2.2⟩⟩
