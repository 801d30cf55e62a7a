theorem Wk_head {R : Nat → Nat → Prop} : ∀ (n u v : Nat), Wk R (n + 1) u v → ∃ w, R u w ∧ Wk R n w v := by
  intro n
  induction n with
  | zero =>
    intro u v h
    obtain ⟨w, h1, h2⟩ := h
    have h1 : u = w := h1
    subst h1
    exact ⟨v, h2, rfl⟩
  | succ n ih =>
    intro u v h
    obtain ⟨w, h1, h2⟩ := h
    obtain ⟨x, h3, h4⟩ := ih u w h1
    exact ⟨x, h3, w, h4, h2⟩
theorem Wk_cons {R : Nat → Nat → Prop} {n u w v : Nat} (e : R u w) (h : Wk R n w v) : Wk R (n + 1) u v := by
  have := Wk_add (n := 1) (k := n) (a := u) (b := w) (c := v) (show Wk R 1 u w from ⟨u, rfl, e⟩) h
  rw [Nat.add_comm 1 n] at this
  exact this
def Av (h : Nat → Int32) (d r v : Nat) : Prop := r ≠ d ∧ Rc (Ed h (bit d)) r v
theorem Ed_bit {h : Nat → Int32} {d u v : Nat} (hd : d < 16) : Ed h (bit d) u v ↔ Eg h u v ∧ v ≠ d := by
  unfold Ed Eg
  constructor
  · rintro ⟨h1, h2, h3⟩
    rw [bt_bit (by omega) (bt_lt h2), decide_eq_false_iff_not] at h3
    exact ⟨⟨h1, h2⟩, h3⟩
  · rintro ⟨⟨h1, h2⟩, h3⟩
    refine ⟨h1, h2, ?_⟩
    rw [bt_bit (by omega) (bt_lt h2), decide_eq_false_iff_not]
    exact h3
theorem SP_bit {h : Nat → Int32} (hg : gd h) {r d v : Nat} (hr : r < 16) (hd : d < 16) : bt (SP h (bit r) (bit d)) v = true ↔ Av h d r v := by
  rw [SP_iff hg (m16_bit hr)]
  unfold Av
  constructor
  · rintro ⟨u, h1, h2, h3⟩
    rw [bt_bit (by omega) (bt_lt h1), decide_eq_true_eq] at h1
    subst h1
    rw [bt_bit (by omega) (by omega), decide_eq_false_iff_not] at h2
    exact ⟨h2, h3⟩
  · rintro ⟨h1, h2⟩
    refine ⟨r, ?_, ?_, h2⟩
    · rw [bt_bit (by omega) (by omega), decide_eq_true rfl]
    · rw [bt_bit (by omega) (by omega), decide_eq_false_iff_not]; exact h1
def Ps (h : Nat → Int32) (r v d : Nat) : Prop := d < 16 ∧ d ≠ v ∧ ¬ Av h d r v
def Cd (h : Nat → Int32) (r v d : Nat) : Prop := Ps h r v d ∧ ∀ e, Ps h r v e → e ≠ d → ¬ Av h e r d
theorem Av_mono {h : Nat → Int32} {d r v : Nat} (hd : d < 16) (ha : Av h d r v) : Rc (Eg h) r v := Rc_mono (fun a b e => ((Ed_bit hd).mp e).1) ha.2
theorem Ps_reach {h : Nat → Int32} {r v d : Nat} (hrv : Rc (Eg h) r v) (hp : Ps h r v d) : Rc (Eg h) r d ∧ Rc (Eg h) d v := by
  obtain ⟨h1, h2, h3⟩ := hp
  by_cases hrd : r = d
  · subst hrd; exact ⟨Rc_rf _, hrv⟩
  · constructor
    · apply Classical.byContradiction
      intro hn
      apply h3
      refine ⟨hrd, ?_⟩
      have : Rc (Eg h) r v ∧ Rc (Ed h (bit d)) r v := by
        refine Rc_ind (P := fun x => Rc (Eg h) r x ∧ Rc (Ed h (bit d)) r x) ⟨Rc_rf _, Rc_rf _⟩ ?_ hrv
        intro w x hw e
        have h4 := Rc_st hw.1 e
        exact ⟨h4, Rc_st hw.2 ((Ed_bit h1).mpr ⟨e, fun q => hn (by rw [← q]; exact h4)⟩)⟩
      exact this.2
    · apply Classical.byContradiction
      intro hn
      apply h3
      refine ⟨hrd, ?_⟩
      have : Rc (Eg h) r v ∧ Rc (Ed h (bit d)) r v := by
        refine Rc_back (P := fun x => Rc (Eg h) x v ∧ Rc (Ed h (bit d)) x v) ⟨Rc_rf _, Rc_rf _⟩ ?_ hrv
        intro w x hx e
        exact ⟨Rc_head e hx.1, Rc_head ((Ed_bit h1).mpr ⟨e, fun q => hn (by rw [← q]; exact hx.1)⟩) hx.2⟩
      exact this.2
theorem Cd_one {h : Nat → Int32} {r v d1 d2 : Nat} (hrv : Rc (Eg h) r v) (h1 : Cd h r v d1) (h2 : Cd h r v d2) : d1 = d2 := by
  apply Classical.byContradiction
  intro hne
  have a1 : ¬ Av h d2 r d1 := h1.2 d2 h2.1 (fun q => hne q.symm)
  have a2 : ¬ Av h d1 r d2 := h2.2 d1 h1.1 hne
  by_cases r1 : r = d1
  · exact a1 ⟨fun q => hne (r1.symm.trans q), by rw [r1]; exact Rc_rf _⟩
  · by_cases r2 : r = d2
    · exact a2 ⟨r1, by rw [r2]; exact Rc_rf _⟩
    · have key : Rc (Ed h (bit d1)) r d1 ∧ Rc (Ed h (bit d2)) r d1 := by
        refine Rc_ind (P := fun x => Rc (Ed h (bit d1)) r x ∧ Rc (Ed h (bit d2)) r x) ⟨Rc_rf _, Rc_rf _⟩ ?_ (Ps_reach hrv h1.1).1
        intro w x hw e
        have hx1 : x ≠ d1 := fun q => a1 ⟨r2, Rc_st hw.2 ((Ed_bit h2.1.1).mpr ⟨by rw [← q]; exact e, hne⟩)⟩
        have hx2 : x ≠ d2 := fun q => a2 ⟨r1, Rc_st hw.1 ((Ed_bit h1.1.1).mpr ⟨by rw [← q]; exact e, fun z => hne z.symm⟩)⟩
        exact ⟨Rc_st hw.1 ((Ed_bit h1.1.1).mpr ⟨e, hx1⟩), Rc_st hw.2 ((Ed_bit h2.1.1).mpr ⟨e, hx2⟩)⟩
      exact a1 ⟨r2, key.2⟩
theorem Wk_avoid {h : Nat → Int32} {e v : Nat} (he : e < 16) : ∀ (n d : Nat), Wk (Eg h) n d v → (∀ k, k < n → ¬ Wk (Eg h) k e v) → Rc (Ed h (bit e)) d v := by
  intro n
  induction n with
  | zero => intro d hw _; have hw : d = v := hw; subst hw; exact Rc_rf _
  | succ n ih =>
    intro d hw hm
    obtain ⟨w, h1, h2⟩ := Wk_head n d v hw
    have h3 : w ≠ e := fun q => hm n (by omega) (by rw [← q]; exact h2)
    exact Rc_head ((Ed_bit he).mpr ⟨h1, h3⟩) (ih w h2 (fun k hk => hm k (by omega)))
theorem Cd_ex {h : Nat → Int32} {r v : Nat} (hr : r < 16) (hrv : Rc (Eg h) r v) (hne : r ≠ v) : ∃ d, Cd h r v d := by
  have hpr : Ps h r v r := ⟨hr, hne, fun q => q.1 rfl⟩
  obtain ⟨n0, hn0⟩ := hrv
  obtain ⟨n, ⟨d, hd, hw⟩, hm⟩ := pk_least (fun n => ∃ d, Ps h r v d ∧ Wk (Eg h) n d v) ⟨n0, r, hpr, hn0⟩
  refine ⟨d, hd, fun e he hed ha => ?_⟩
  apply he.2.2
  refine ⟨ha.1, Rc_tr ha.2 (Wk_avoid he.1 n d hw ?_)⟩
  intro k hk hke
  exact hm k hk ⟨e, he, hke⟩
