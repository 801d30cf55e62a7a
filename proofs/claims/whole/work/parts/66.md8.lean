set_option maxHeartbeats 4000000 in
set_option maxRecDepth 100000 in
theorem k_M_finds (l : Launch) (D : va_G) (mo m0 m1 m2 m3 m4 m5 m6 : Nat) (o0 o1 o2 o3 o4 o5 o6 : ClassId) (mc : Int32) (mn : Int32) (mg : Int32) (h : Nat → Int32) (mO : Nat → Int32) (mG : Nat → Int32) (mF : Nat → Int32) (mA : Nat → Int32) (mU : Nat → Int32) (mR : Nat → Int32) (s9 t9 : Nat) (hs9 : s9 < 32) (ht9 : t9 < 32) (sz : Nat) : Met l y_M_finds (Cond.code y_M_finds c_M_finds 7 (some .boolean) :: BS) { frames := 1, cells := 0, slots := 0, locals := 21 } (va_Pc [.ref mo, .int (nI s9), .int (nI t9)] (xWp D [(mo, .inr (5, [.int mc, .int mn, .ref m0, .int mg, .ref m1, .ref m2, .ref m3, .ref m4, .ref m5, .ref m6])), (m0, .inl (o0, 16, .inl h)), (m1, .inl (o1, 16, .inl mO)), (m2, .inl (o2, 16, .inl mG)), (m3, .inl (o3, 16, .inl mF)), (m4, .inl (o4, 32, .inl mA)), (m5, .inl (o5, 32, .inl mU)), (m6, .inl (o6, 32, .inl mR))] [(o0, .int), (o1, .int), (o2, .int), (o3, .int), (o4, .int), (o5, .int), (o6, .int)] sz)) (xQi D [(mo, .inr (5, [.int mc, .int mn, .ref m0, .int mg, .ref m1, .ref m2, .ref m3, .ref m4, .ref m5, .ref m6])), (m0, .inl (o0, 16, .inl h)), (m1, .inl (o1, 16, .inl mO)), (m2, .inl (o2, 16, .inl mG)), (m3, .inl (o3, 16, .inl mF)), (m4, .inl (o4, 32, .inl mA)), (m5, .inl (o5, 32, .inl mU)), (m6, .inl (o6, 32, .inl mR))] [(mo, .inr (5, [.int mc, .int mn, .ref m0, .int mg, .ref m1, .ref m2, .ref m3, .ref m4, .ref m5, .ref m6])), (m0, .inl (o0, 16, .inl h)), (m1, .inl (o1, 16, .inl mO)), (m2, .inl (o2, 16, .inl mG)), (m3, .inl (o3, 16, .inl mF)), (m4, .inl (o4, 32, .inl mA)), (m5, .inl (o5, 32, .inl mU)), (m6, .inl (o6, 32, .inl (fun k => oI ((fdS mA mU s9 t9 33).1 k))))] [(o0, .int), (o1, .int), (o2, .int), (o3, .int), (o4, .int), (o5, .int), (o6, .int)] sz (b2i (decide ((fdS mA mU s9 t9 33).1 t9 < 32)))) 0 0 (va_A [(mo, .inr (5, [.int mc, .int mn, .ref m0, .int mg, .ref m1, .ref m2, .ref m3, .ref m4, .ref m5, .ref m6])), (m0, .inl (o0, 16, .inl h)), (m1, .inl (o1, 16, .inl mO)), (m2, .inl (o2, 16, .inl mG)), (m3, .inl (o3, 16, .inl mF)), (m4, .inl (o4, 32, .inl mA)), (m5, .inl (o5, 32, .inl mU)), (m6, .inl (o6, 32, .inl mR))] sz) := by
  refine Met.ofW (cc := c_M_finds) (maxL := 7) (ret := (some .boolean)) (by decide) rfl ?_
  intro p e s m args below meth c s₁ B hml hv
  obtain ⟨rfl, hsz, hP, hK, hD0, hN⟩ := hv
  have hx := B.exec
  have hb := B.bytes
  have hr := B.returns
  have hB := xB B.pre
  have hown : s.vm.findClass R_M = some m.cls := findClass_of_methodNamed B.named
  have hlocks := B.notSynchronized
  subst hsz
  have hD := hD0.self (sz := s.heap.size)
  obtain ⟨A, hAe⟩ : ∃ A, A = va_A [(mo, .inr (5, [.int mc, .int mn, .ref m0, .int mg, .ref m1, .ref m2, .ref m3, .ref m4, .ref m5, .ref m6])), (m0, .inl (o0, 16, .inl h)), (m1, .inl (o1, 16, .inl mO)), (m2, .inl (o2, 16, .inl mG)), (m3, .inl (o3, 16, .inl mF)), (m4, .inl (o4, 32, .inl mA)), (m5, .inl (o5, 32, .inl mU)), (m6, .inl (o6, 32, .inl mR))] s.heap.size := ⟨_, rfl⟩
  rw [← hAe] at hD
  have hA : ∀ q : Nat, s.heap.size ≤ q → A q := fun q h => by rw [hAe]; exact Or.inr h
  have hS : va_S A s.heap s.heap [] := va_S.rf
  have hl := lv_entry ([.ref mo, .int (nI s9), .int (nI t9)]) (n := 7) (Nat.le_of_ble_eq_true rfl)
  rw [lg_entry_eq]
  generalize (lg_sl ([.ref mo, .int (nI s9), .int (nI t9)]) ++ List.replicate (7 - (lg_sl ([.ref mo, .int (nI s9), .int (nI t9)])).length) Slot.unset).toArray = ls at hl ⊢
  have hl : lv_has ls 7 [(0, .ref mo), (1, .int (nI s9)), (2, .int (nI t9))] := hl
  refine lv_iconst (v := nI 0) hx hb d_M_finds_0 (by decide) ?_
  refine lv_istore_n hx hb d_M_finds_1 rfl hl (by decide) rfl (fun ls hl => ?_)
  have hl : lv_has ls 7 [(3, .int (nI 0)), (0, .ref mo), (1, .int (nI s9)), (2, .int (nI t9))] := hl
  have hP := xP_ext hP 7 (fun k => if k < 0 then oI (ini s9 k) else mR k) rfl (fun j9 hj9 => (if_neg (Nat.not_lt_zero _)).symm)
  have hD := xD_ext hD 7 (y := .inl (o6, 32, .inl (fun k => if k < 0 then oI (ini s9 k) else mR k))) rfl
  have hP : va_P D cls [(mo, .inr (5, [.int mc, .int mn, .ref m0, .int mg, .ref m1, .ref m2, .ref m3, .ref m4, .ref m5, .ref m6])), (m0, .inl (o0, 16, .inl h)), (m1, .inl (o1, 16, .inl mO)), (m2, .inl (o2, 16, .inl mG)), (m3, .inl (o3, 16, .inl mF)), (m4, .inl (o4, 32, .inl mA)), (m5, .inl (o5, 32, .inl mU)), (m6, .inl (o6, 32, .inl (fun k => if k < 0 then oI (ini s9 k) else mR k)))] _ := hP
  have hD : va_D A [(mo, .inr (5, [.int mc, .int mn, .ref m0, .int mg, .ref m1, .ref m2, .ref m3, .ref m4, .ref m5, .ref m6])), (m0, .inl (o0, 16, .inl h)), (m1, .inl (o1, 16, .inl mO)), (m2, .inl (o2, 16, .inl mG)), (m3, .inl (o3, 16, .inl mF)), (m4, .inl (o4, 32, .inl mA)), (m5, .inl (o5, 32, .inl mU)), (m6, .inl (o6, 32, .inl (fun k => if k < 0 then oI (ini s9 k) else mR k)))] := hD
  refine xl_w (fun (x : Nat) ls H locs => ((x ≤ 32)) ∧ lv_has ls 7 [(3, .int (nI x)), (0, .ref mo), (1, .int (nI s9)), (2, .int (nI t9))] ∧ va_P D cls [(mo, .inr (5, [.int mc, .int mn, .ref m0, .int mg, .ref m1, .ref m2, .ref m3, .ref m4, .ref m5, .ref m6])), (m0, .inl (o0, 16, .inl h)), (m1, .inl (o1, 16, .inl mO)), (m2, .inl (o2, 16, .inl mG)), (m3, .inl (o3, 16, .inl mF)), (m4, .inl (o4, 32, .inl mA)), (m5, .inl (o5, 32, .inl mU)), (m6, .inl (o6, 32, .inl (fun k => if k < x then oI (ini s9 k) else mR k)))] H ∧ va_D A [(mo, .inr (5, [.int mc, .int mn, .ref m0, .int mg, .ref m1, .ref m2, .ref m3, .ref m4, .ref m5, .ref m6])), (m0, .inl (o0, 16, .inl h)), (m1, .inl (o1, 16, .inl mO)), (m2, .inl (o2, 16, .inl mG)), (m3, .inl (o3, 16, .inl mF)), (m4, .inl (o4, 32, .inl mA)), (m5, .inl (o5, 32, .inl mU)), (m6, .inl (o6, 32, .inl (fun k => if k < x then oI (ini s9 k) else mR k)))] ∧ va_S A s.heap H locs) (fun x => 32 - x) (fun x ls H locs hI ih2 => ?_) 0 _ ⟨Nat.zero_le _, hl, hP, hD, hS⟩
  obtain ⟨hI, hl, hP, hD, hS⟩ := hI
  have hx9 := hI
  refine lv_iload_n hx hb d_M_finds_2 rfl (lv_at hl 0 rfl) ?_
  refine lv_bipush (v := nI 32) hx hb d_M_finds_3 (by decide) ?_
  refine lv_icmp_ge (tgt := 30) hx hb d_M_finds_5 rfl (fun hc5 => ?_) (fun hc5 => ?_)
  · have hc5 : 32 ≤ x := (nI_leI (by omega) (by omega)).mp hc5
    have hP := xP_ext hP 7 (fun k => oI (ini s9 k)) rfl (fun j9 hj9 => if_pos (by omega))
    have hD := xD_ext hD 7 (y := .inl (o6, 32, .inl (fun k => oI (ini s9 k)))) rfl
    have hP : va_P D cls [(mo, .inr (5, [.int mc, .int mn, .ref m0, .int mg, .ref m1, .ref m2, .ref m3, .ref m4, .ref m5, .ref m6])), (m0, .inl (o0, 16, .inl h)), (m1, .inl (o1, 16, .inl mO)), (m2, .inl (o2, 16, .inl mG)), (m3, .inl (o3, 16, .inl mF)), (m4, .inl (o4, 32, .inl mA)), (m5, .inl (o5, 32, .inl mU)), (m6, .inl (o6, 32, .inl (fun k => oI (ini s9 k))))] _ := hP
    have hD : va_D A [(mo, .inr (5, [.int mc, .int mn, .ref m0, .int mg, .ref m1, .ref m2, .ref m3, .ref m4, .ref m5, .ref m6])), (m0, .inl (o0, 16, .inl h)), (m1, .inl (o1, 16, .inl mO)), (m2, .inl (o2, 16, .inl mG)), (m3, .inl (o3, 16, .inl mF)), (m4, .inl (o4, 32, .inl mA)), (m5, .inl (o5, 32, .inl mU)), (m6, .inl (o6, 32, .inl (fun k => oI (ini s9 k))))] := hD
    refine lv_iconst (v := nI 1) hx hb d_M_finds_30 (by decide) ?_
    refine lv_istore_n hx hb d_M_finds_31 rfl hl (by decide) rfl (fun ls hl => ?_)
    have hl : lv_has ls 7 [(3, .int (nI 1)), (0, .ref mo), (1, .int (nI s9)), (2, .int (nI t9))] := hl
    have hl : lv_has ls 7 [(3, .int (b2i (fdS mA mU s9 t9 0).2)), (0, .ref mo), (1, .int (nI s9)), (2, .int (nI t9))] := by
      have hz : (nI 1) = b2i (fdS mA mU s9 t9 0).2 := rfl
      rw [← hz]; exact hl
    have hz : (fun k => oI (ini s9 k)) = (fun k => oI ((fdS mA mU s9 t9 0).1 k)) := rfl
    rw [hz] at hP hD
    refine xl_w (fun (r : Nat) ls H locs => ((r ≤ 32) ∧ ((fdS mA mU s9 t9 r).2 = true → r + 1 ≤ fcn (fdS mA mU s9 t9 r).1)) ∧ lv_has ls 7 [(3, .int (b2i (fdS mA mU s9 t9 r).2)), (0, .ref mo), (1, .int (nI s9)), (2, .int (nI t9))] ∧ va_P D cls [(mo, .inr (5, [.int mc, .int mn, .ref m0, .int mg, .ref m1, .ref m2, .ref m3, .ref m4, .ref m5, .ref m6])), (m0, .inl (o0, 16, .inl h)), (m1, .inl (o1, 16, .inl mO)), (m2, .inl (o2, 16, .inl mG)), (m3, .inl (o3, 16, .inl mF)), (m4, .inl (o4, 32, .inl mA)), (m5, .inl (o5, 32, .inl mU)), (m6, .inl (o6, 32, .inl (fun k => oI ((fdS mA mU s9 t9 r).1 k))))] H ∧ va_D A [(mo, .inr (5, [.int mc, .int mn, .ref m0, .int mg, .ref m1, .ref m2, .ref m3, .ref m4, .ref m5, .ref m6])), (m0, .inl (o0, 16, .inl h)), (m1, .inl (o1, 16, .inl mO)), (m2, .inl (o2, 16, .inl mG)), (m3, .inl (o3, 16, .inl mF)), (m4, .inl (o4, 32, .inl mA)), (m5, .inl (o5, 32, .inl mU)), (m6, .inl (o6, 32, .inl (fun k => oI ((fdS mA mU s9 t9 r).1 k))))] ∧ va_S A s.heap H locs) (fun r => 33 - r) (fun r ls H locs hI ih32 => ?_) 0 _ ⟨⟨Nat.zero_le _, fun _ => fcn_ini hs9⟩, hl, hP, hD, hS⟩
    obtain ⟨hI, hl, hP, hD, hS⟩ := hI
    obtain ⟨hr9, hm9⟩ := hI
    refine lv_iload_n hx hb d_M_finds_32 rfl (lv_at hl 0 rfl) ?_
    refine lv_if_eq (tgt := 170) hx hb d_M_finds_33 rfl (fun hc33 => ?_) (fun hc33 => ?_)
    · have hc33 := b2i_0.mp hc33
      have hz : (fun k => oI ((fdS mA mU s9 t9 r).1 k)) = (fun k => oI ((fdS mA mU s9 t9 33).1 k)) := by first | rw [fdS_end (by omega) (Or.inr hc42)] | rw [fdS_end (by omega) (Or.inl hc33)]
      rw [hz] at hP hD
      refine lv_aload_n hx hb d_M_finds_170 rfl (lv_at hl 1 rfl) ?_
      refine va_get (D := D) (ci := 5) (v := .ref m6) (C := R_M) (T := F_M) (N := 10) hx hb hB in_M hown hK hP 0 rfl rfl 9 (by decide) (hB _ mf_M_28) (fun _ h9 => h9) rfl d_M_finds_171 ?_
      refine lv_iload_n hx hb d_M_finds_174 rfl (lv_at hl 3 rfl) ?_
      refine xa_ld (u := t9) hx hb hK hP 7 6 rfl rfl (by omega) (by decide) d_M_finds_175 ?_
      refine xv_top (x' := oI ((fdS mA mU s9 t9 33).1 t9)) (rfl) ?_
      refine lv_if_lt (tgt := 183) hx hb d_M_finds_176 rfl (fun hc176 => ?_) (fun hc176 => ?_)
      · have hc176 : ¬ (fdS mA mU s9 t9 33).1 t9 < 32 := oI_lt.mp hc176
        refine lv_iconst (v := nI 0) hx hb d_M_finds_183 (by decide) ?_
        have hP9 := hP.sub (ws' := [(mo, .inr (5, [.int mc, .int mn, .ref m0, .int mg, .ref m1, .ref m2, .ref m3, .ref m4, .ref m5, .ref m6])), (m0, .inl (o0, 16, .inl h)), (m1, .inl (o1, 16, .inl mO)), (m2, .inl (o2, 16, .inl mG)), (m3, .inl (o3, 16, .inl mF)), (m4, .inl (o4, 32, .inl mA)), (m5, .inl (o5, 32, .inl mU)), (m6, .inl (o6, 32, .inl (fun k => oI ((fdS mA mU s9 t9 33).1 k))))]) [0, 1, 2, 3, 4, 5, 6, 7] rfl
        have hD9 := hD.sub (ws' := [(mo, .inr (5, [.int mc, .int mn, .ref m0, .int mg, .ref m1, .ref m2, .ref m3, .ref m4, .ref m5, .ref m6])), (m0, .inl (o0, 16, .inl h)), (m1, .inl (o1, 16, .inl mO)), (m2, .inl (o2, 16, .inl mG)), (m3, .inl (o3, 16, .inl mF)), (m4, .inl (o4, 32, .inl mA)), (m5, .inl (o5, 32, .inl mU)), (m6, .inl (o6, 32, .inl (fun k => oI ((fdS mA mU s9 t9 33).1 k))))]) [0, 1, 2, 3, 4, 5, 6, 7] (by decide) rfl
        subst hAe
        refine xv_top (x' := b2i (decide ((fdS mA mU s9 t9 33).1 t9 < 32))) (by first | (rw [decide_eq_true hc176]; rfl) | (rw [decide_eq_false hc176]; rfl)) ?_
        exact W.zret (v := b2i (decide ((fdS mA mU s9 t9 33).1 t9 < 32))) hx hb hr (b2i_nar _) (fun t ht hW => ⟨⟨_, (), rfl, rfl, by rw [ht]; exact hP9, va_K.moved hW.alike hK, hD9⟩, hS.F ht⟩) hS.2.2 d_M_finds_184
      · have hc176 : (fdS mA mU s9 t9 33).1 t9 < 32 := Decidable.byContradiction (fun q9 => hc176 (oI_lt.mpr q9))
        refine lv_iconst (v := nI 1) hx hb d_M_finds_179 (by decide) ?_
        refine lv_goto (tgt := 184) hx hb d_M_finds_180 rfl ?_
        have hP9 := hP.sub (ws' := [(mo, .inr (5, [.int mc, .int mn, .ref m0, .int mg, .ref m1, .ref m2, .ref m3, .ref m4, .ref m5, .ref m6])), (m0, .inl (o0, 16, .inl h)), (m1, .inl (o1, 16, .inl mO)), (m2, .inl (o2, 16, .inl mG)), (m3, .inl (o3, 16, .inl mF)), (m4, .inl (o4, 32, .inl mA)), (m5, .inl (o5, 32, .inl mU)), (m6, .inl (o6, 32, .inl (fun k => oI ((fdS mA mU s9 t9 33).1 k))))]) [0, 1, 2, 3, 4, 5, 6, 7] rfl
        have hD9 := hD.sub (ws' := [(mo, .inr (5, [.int mc, .int mn, .ref m0, .int mg, .ref m1, .ref m2, .ref m3, .ref m4, .ref m5, .ref m6])), (m0, .inl (o0, 16, .inl h)), (m1, .inl (o1, 16, .inl mO)), (m2, .inl (o2, 16, .inl mG)), (m3, .inl (o3, 16, .inl mF)), (m4, .inl (o4, 32, .inl mA)), (m5, .inl (o5, 32, .inl mU)), (m6, .inl (o6, 32, .inl (fun k => oI ((fdS mA mU s9 t9 33).1 k))))]) [0, 1, 2, 3, 4, 5, 6, 7] (by decide) rfl
        subst hAe
        refine xv_top (x' := b2i (decide ((fdS mA mU s9 t9 33).1 t9 < 32))) (by first | (rw [decide_eq_true hc176]; rfl) | (rw [decide_eq_false hc176]; rfl)) ?_
        exact W.zret (v := b2i (decide ((fdS mA mU s9 t9 33).1 t9 < 32))) hx hb hr (b2i_nar _) (fun t ht hW => ⟨⟨_, (), rfl, rfl, by rw [ht]; exact hP9, va_K.moved hW.alike hK, hD9⟩, hS.F ht⟩) hS.2.2 d_M_finds_184
    · have hc33 := b2i_n.mp hc33
      refine lv_aload_n hx hb d_M_finds_36 rfl (lv_at hl 1 rfl) ?_
      refine va_get (D := D) (ci := 5) (v := .ref m6) (C := R_M) (T := F_M) (N := 10) hx hb hB in_M hown hK hP 0 rfl rfl 9 (by decide) (hB _ mf_M_28) (fun _ h9 => h9) rfl d_M_finds_37 ?_
      refine lv_iload_n hx hb d_M_finds_40 rfl (lv_at hl 3 rfl) ?_
      refine xa_ld (u := t9) hx hb hK hP 7 6 rfl rfl (by omega) (by decide) d_M_finds_41 ?_
      refine xv_top (x' := oI ((fdS mA mU s9 t9 r).1 t9)) (rfl) ?_
      refine lv_if_ge (tgt := 170) hx hb d_M_finds_42 rfl (fun hc42 => ?_) (fun hc42 => ?_)
      · have hc42 : (fdS mA mU s9 t9 r).1 t9 < 32 := oI_ge.mp hc42
        have hz : (fun k => oI ((fdS mA mU s9 t9 r).1 k)) = (fun k => oI ((fdS mA mU s9 t9 33).1 k)) := by first | rw [fdS_end (by omega) (Or.inr hc42)] | rw [fdS_end (by omega) (Or.inl hc33)]
        rw [hz] at hP hD
        refine lv_aload_n hx hb d_M_finds_170 rfl (lv_at hl 1 rfl) ?_
        refine va_get (D := D) (ci := 5) (v := .ref m6) (C := R_M) (T := F_M) (N := 10) hx hb hB in_M hown hK hP 0 rfl rfl 9 (by decide) (hB _ mf_M_28) (fun _ h9 => h9) rfl d_M_finds_171 ?_
        refine lv_iload_n hx hb d_M_finds_174 rfl (lv_at hl 3 rfl) ?_
        refine xa_ld (u := t9) hx hb hK hP 7 6 rfl rfl (by omega) (by decide) d_M_finds_175 ?_
        refine xv_top (x' := oI ((fdS mA mU s9 t9 33).1 t9)) (rfl) ?_
        refine lv_if_lt (tgt := 183) hx hb d_M_finds_176 rfl (fun hc176 => ?_) (fun hc176 => ?_)
        · have hc176 : ¬ (fdS mA mU s9 t9 33).1 t9 < 32 := oI_lt.mp hc176
          refine lv_iconst (v := nI 0) hx hb d_M_finds_183 (by decide) ?_
          have hP9 := hP.sub (ws' := [(mo, .inr (5, [.int mc, .int mn, .ref m0, .int mg, .ref m1, .ref m2, .ref m3, .ref m4, .ref m5, .ref m6])), (m0, .inl (o0, 16, .inl h)), (m1, .inl (o1, 16, .inl mO)), (m2, .inl (o2, 16, .inl mG)), (m3, .inl (o3, 16, .inl mF)), (m4, .inl (o4, 32, .inl mA)), (m5, .inl (o5, 32, .inl mU)), (m6, .inl (o6, 32, .inl (fun k => oI ((fdS mA mU s9 t9 33).1 k))))]) [0, 1, 2, 3, 4, 5, 6, 7] rfl
          have hD9 := hD.sub (ws' := [(mo, .inr (5, [.int mc, .int mn, .ref m0, .int mg, .ref m1, .ref m2, .ref m3, .ref m4, .ref m5, .ref m6])), (m0, .inl (o0, 16, .inl h)), (m1, .inl (o1, 16, .inl mO)), (m2, .inl (o2, 16, .inl mG)), (m3, .inl (o3, 16, .inl mF)), (m4, .inl (o4, 32, .inl mA)), (m5, .inl (o5, 32, .inl mU)), (m6, .inl (o6, 32, .inl (fun k => oI ((fdS mA mU s9 t9 33).1 k))))]) [0, 1, 2, 3, 4, 5, 6, 7] (by decide) rfl
          subst hAe
          refine xv_top (x' := b2i (decide ((fdS mA mU s9 t9 33).1 t9 < 32))) (by first | (rw [decide_eq_true hc176]; rfl) | (rw [decide_eq_false hc176]; rfl)) ?_
          exact W.zret (v := b2i (decide ((fdS mA mU s9 t9 33).1 t9 < 32))) hx hb hr (b2i_nar _) (fun t ht hW => ⟨⟨_, (), rfl, rfl, by rw [ht]; exact hP9, va_K.moved hW.alike hK, hD9⟩, hS.F ht⟩) hS.2.2 d_M_finds_184
        · have hc176 : (fdS mA mU s9 t9 33).1 t9 < 32 := Decidable.byContradiction (fun q9 => hc176 (oI_lt.mpr q9))
          refine lv_iconst (v := nI 1) hx hb d_M_finds_179 (by decide) ?_
          refine lv_goto (tgt := 184) hx hb d_M_finds_180 rfl ?_
          have hP9 := hP.sub (ws' := [(mo, .inr (5, [.int mc, .int mn, .ref m0, .int mg, .ref m1, .ref m2, .ref m3, .ref m4, .ref m5, .ref m6])), (m0, .inl (o0, 16, .inl h)), (m1, .inl (o1, 16, .inl mO)), (m2, .inl (o2, 16, .inl mG)), (m3, .inl (o3, 16, .inl mF)), (m4, .inl (o4, 32, .inl mA)), (m5, .inl (o5, 32, .inl mU)), (m6, .inl (o6, 32, .inl (fun k => oI ((fdS mA mU s9 t9 33).1 k))))]) [0, 1, 2, 3, 4, 5, 6, 7] rfl
          have hD9 := hD.sub (ws' := [(mo, .inr (5, [.int mc, .int mn, .ref m0, .int mg, .ref m1, .ref m2, .ref m3, .ref m4, .ref m5, .ref m6])), (m0, .inl (o0, 16, .inl h)), (m1, .inl (o1, 16, .inl mO)), (m2, .inl (o2, 16, .inl mG)), (m3, .inl (o3, 16, .inl mF)), (m4, .inl (o4, 32, .inl mA)), (m5, .inl (o5, 32, .inl mU)), (m6, .inl (o6, 32, .inl (fun k => oI ((fdS mA mU s9 t9 33).1 k))))]) [0, 1, 2, 3, 4, 5, 6, 7] (by decide) rfl
          subst hAe
          refine xv_top (x' := b2i (decide ((fdS mA mU s9 t9 33).1 t9 < 32))) (by first | (rw [decide_eq_true hc176]; rfl) | (rw [decide_eq_false hc176]; rfl)) ?_
          exact W.zret (v := b2i (decide ((fdS mA mU s9 t9 33).1 t9 < 32))) hx hb hr (b2i_nar _) (fun t ht hW => ⟨⟨_, (), rfl, rfl, by rw [ht]; exact hP9, va_K.moved hW.alike hK, hD9⟩, hS.F ht⟩) hS.2.2 d_M_finds_184
      · have hc42 : ¬ (fdS mA mU s9 t9 r).1 t9 < 32 := fun q9 => hc42 (oI_ge.mpr q9)
        refine lv_iconst (v := nI 0) hx hb d_M_finds_45 (by decide) ?_
        refine lv_istore_n hx hb d_M_finds_46 rfl hl (by decide) rfl (fun ls hl => ?_)
        have hl : lv_has ls 7 [(3, .int (nI 0)), (0, .ref mo), (1, .int (nI s9)), (2, .int (nI t9))] := hl
        refine lv_iconst (v := nI 0) hx hb d_M_finds_47 (by decide) ?_
        refine lv_istore hx hb d_M_finds_48 hl (by decide) rfl (fun ls hl => ?_)
        have hl : lv_has ls 7 [(4, .int (nI 0)), (3, .int (nI 0)), (0, .ref mo), (1, .int (nI s9)), (2, .int (nI t9))] := hl
        have hl : lv_has ls 7 [(4, .int (nI 0)), (3, .int (b2i (rwS mA mU ((fdS mA mU s9 t9 r).1, false) 0).2)), (0, .ref mo), (1, .int (nI s9)), (2, .int (nI t9))] := by
          have hz : (nI 0) = b2i (rwS mA mU ((fdS mA mU s9 t9 r).1, false) 0).2 := rfl
          rw [← hz]; exact hl
        have hz : (fun k => oI ((fdS mA mU s9 t9 r).1 k)) = (fun k => oI ((rwS mA mU ((fdS mA mU s9 t9 r).1, false) 0).1 k)) := rfl
        rw [hz] at hP hD
        refine xl_w (fun (x : Nat) ls H locs => ((x ≤ 32)) ∧ lv_has ls 7 [(4, .int (nI x)), (3, .int (b2i (rwS mA mU ((fdS mA mU s9 t9 r).1, false) x).2)), (0, .ref mo), (1, .int (nI s9)), (2, .int (nI t9))] ∧ va_P D cls [(mo, .inr (5, [.int mc, .int mn, .ref m0, .int mg, .ref m1, .ref m2, .ref m3, .ref m4, .ref m5, .ref m6])), (m0, .inl (o0, 16, .inl h)), (m1, .inl (o1, 16, .inl mO)), (m2, .inl (o2, 16, .inl mG)), (m3, .inl (o3, 16, .inl mF)), (m4, .inl (o4, 32, .inl mA)), (m5, .inl (o5, 32, .inl mU)), (m6, .inl (o6, 32, .inl (fun k => oI ((rwS mA mU ((fdS mA mU s9 t9 r).1, false) x).1 k))))] H ∧ va_D A [(mo, .inr (5, [.int mc, .int mn, .ref m0, .int mg, .ref m1, .ref m2, .ref m3, .ref m4, .ref m5, .ref m6])), (m0, .inl (o0, 16, .inl h)), (m1, .inl (o1, 16, .inl mO)), (m2, .inl (o2, 16, .inl mG)), (m3, .inl (o3, 16, .inl mF)), (m4, .inl (o4, 32, .inl mA)), (m5, .inl (o5, 32, .inl mU)), (m6, .inl (o6, 32, .inl (fun k => oI ((rwS mA mU ((fdS mA mU s9 t9 r).1, false) x).1 k))))] ∧ va_S A s.heap H locs) (fun x => 32 - x) (fun x ls H locs hI ih50 => ?_) 0 _ ⟨Nat.zero_le _, hl, hP, hD, hS⟩
        obtain ⟨hI, hl, hP, hD, hS⟩ := hI
        have hx9 := hI
        refine lv_iload hx hb d_M_finds_50 (lv_at hl 0 rfl) ?_
        refine lv_bipush (v := nI 32) hx hb d_M_finds_52 (by decide) ?_
        refine lv_icmp_ge (tgt := 167) hx hb d_M_finds_54 rfl (fun hc54 => ?_) (fun hc54 => ?_)
        · have hc54 : 32 ≤ x := (nI_leI (by omega) (by omega)).mp hc54
          have hl : lv_has ls 7 [(4, .int (nI x)), (3, .int (b2i (fdS mA mU s9 t9 (r + 1)).2)), (0, .ref mo), (1, .int (nI s9)), (2, .int (nI t9))] := by
            have hz : (b2i (rwS mA mU ((fdS mA mU s9 t9 r).1, false) x).2) = b2i (fdS mA mU s9 t9 (r + 1)).2 := by rw [show x = 32 by omega, fdS_go hc33 hc42]
            rw [← hz]; exact hl
          have hz : (fun k => oI ((rwS mA mU ((fdS mA mU s9 t9 r).1, false) x).1 k)) = (fun k => oI ((fdS mA mU s9 t9 (r + 1)).1 k)) := by rw [show x = 32 by omega, fdS_go hc33 hc42]
          rw [hz] at hP hD
          refine lv_goto (tgt := 32) hx hb d_M_finds_167 rfl ?_
          exact ih32 (r + 1) _ H locs ⟨⟨by have := hm9 hc33; have := fcn_le (fdS mA mU s9 t9 r).1; omega, fun q9 => by rw [fdS_go hc33 hc42] at q9 ⊢; have := fcn_row q9; have := hm9 hc33; omega⟩, lv_sub hl [1, 2, 3, 4] rfl, hP, hD, hS⟩ (by omega)
        · have hc54 : ¬ (32 ≤ x) := fun q9 => hc54 ((nI_leI (by omega) (by omega)).mpr q9)
          refine lv_iconst (v := nI 0) hx hb d_M_finds_57 (by decide) ?_
          refine lv_istore hx hb d_M_finds_58 hl (by decide) rfl (fun ls hl => ?_)
          have hl : lv_has ls 7 [(5, .int (nI 0)), (4, .int (nI x)), (3, .int (b2i (rwS mA mU ((fdS mA mU s9 t9 r).1, false) x).2)), (0, .ref mo), (1, .int (nI s9)), (2, .int (nI t9))] := hl
          have hl : lv_has ls 7 [(5, .int (nI 0)), (4, .int (nI x)), (3, .int (b2i (inY mA mU x (rwS mA mU ((fdS mA mU s9 t9 r).1, false) x) 0).2)), (0, .ref mo), (1, .int (nI s9)), (2, .int (nI t9))] := by
            have hz : (b2i (rwS mA mU ((fdS mA mU s9 t9 r).1, false) x).2) = b2i (inY mA mU x (rwS mA mU ((fdS mA mU s9 t9 r).1, false) x) 0).2 := rfl
            rw [← hz]; exact hl
          have hz : (fun k => oI ((rwS mA mU ((fdS mA mU s9 t9 r).1, false) x).1 k)) = (fun k => oI ((inY mA mU x (rwS mA mU ((fdS mA mU s9 t9 r).1, false) x) 0).1 k)) := rfl
          rw [hz] at hP hD
          refine xl_w (fun (y : Nat) ls H locs => ((y ≤ 32) ∧ (y = 0 ∨ (rwS mA mU ((fdS mA mU s9 t9 r).1, false) x).1 x < 32)) ∧ lv_has ls 7 [(5, .int (nI y)), (4, .int (nI x)), (3, .int (b2i (inY mA mU x (rwS mA mU ((fdS mA mU s9 t9 r).1, false) x) y).2)), (0, .ref mo), (1, .int (nI s9)), (2, .int (nI t9))] ∧ va_P D cls [(mo, .inr (5, [.int mc, .int mn, .ref m0, .int mg, .ref m1, .ref m2, .ref m3, .ref m4, .ref m5, .ref m6])), (m0, .inl (o0, 16, .inl h)), (m1, .inl (o1, 16, .inl mO)), (m2, .inl (o2, 16, .inl mG)), (m3, .inl (o3, 16, .inl mF)), (m4, .inl (o4, 32, .inl mA)), (m5, .inl (o5, 32, .inl mU)), (m6, .inl (o6, 32, .inl (fun k => oI ((inY mA mU x (rwS mA mU ((fdS mA mU s9 t9 r).1, false) x) y).1 k))))] H ∧ va_D A [(mo, .inr (5, [.int mc, .int mn, .ref m0, .int mg, .ref m1, .ref m2, .ref m3, .ref m4, .ref m5, .ref m6])), (m0, .inl (o0, 16, .inl h)), (m1, .inl (o1, 16, .inl mO)), (m2, .inl (o2, 16, .inl mG)), (m3, .inl (o3, 16, .inl mF)), (m4, .inl (o4, 32, .inl mA)), (m5, .inl (o5, 32, .inl mU)), (m6, .inl (o6, 32, .inl (fun k => oI ((inY mA mU x (rwS mA mU ((fdS mA mU s9 t9 r).1, false) x) y).1 k))))] ∧ va_S A s.heap H locs) (fun y => 32 - y) (fun y ls H locs hI ih60 => ?_) 0 _ ⟨⟨Nat.zero_le _, Or.inl rfl⟩, hl, hP, hD, hS⟩
          obtain ⟨hI, hl, hP, hD, hS⟩ := hI
          obtain ⟨hy9, hy0⟩ := hI
          refine lv_iload hx hb d_M_finds_60 (lv_at hl 0 rfl) ?_
          refine lv_bipush (v := nI 32) hx hb d_M_finds_62 (by decide) ?_
          refine lv_icmp_ge (tgt := 161) hx hb d_M_finds_64 rfl (fun hc64 => ?_) (fun hc64 => ?_)
          · have hc64 : 32 ≤ y := (nI_leI (by omega) (by omega)).mp hc64
            have hl : lv_has ls 7 [(5, .int (nI y)), (4, .int (nI x)), (3, .int (b2i (rwS mA mU ((fdS mA mU s9 t9 r).1, false) (x + 1)).2)), (0, .ref mo), (1, .int (nI s9)), (2, .int (nI t9))] := by
              have hz : (b2i (inY mA mU x (rwS mA mU ((fdS mA mU s9 t9 r).1, false) x) y).2) = b2i (rwS mA mU ((fdS mA mU s9 t9 r).1, false) (x + 1)).2 := by first | rw [rwS_t (hy0.elim (fun e => by omega) id), show y = 32 by omega] | (rw [rwS_f (fun q9 => hc74 (by rw [inY_mono q9]; exact q9)), show y = 0 from hy0.elim id (fun q9 => absurd (show (inY mA mU x (rwS mA mU ((fdS mA mU s9 t9 r).1, false) x) y).1 x < 32 by rw [inY_mono q9]; exact q9) hc74)]; rfl)
              rw [← hz]; exact hl
            have hz : (fun k => oI ((inY mA mU x (rwS mA mU ((fdS mA mU s9 t9 r).1, false) x) y).1 k)) = (fun k => oI ((rwS mA mU ((fdS mA mU s9 t9 r).1, false) (x + 1)).1 k)) := by first | rw [rwS_t (hy0.elim (fun e => by omega) id), show y = 32 by omega] | (rw [rwS_f (fun q9 => hc74 (by rw [inY_mono q9]; exact q9)), show y = 0 from hy0.elim id (fun q9 => absurd (show (inY mA mU x (rwS mA mU ((fdS mA mU s9 t9 r).1, false) x) y).1 x < 32 by rw [inY_mono q9]; exact q9) hc74)]; rfl)
            rw [hz] at hP hD
            refine lv_iinc hx hb d_M_finds_161 hl (k := 1) rfl (v := nI (x + 1)) (nI_1 x) (by decide) rfl (fun ls hl => ?_)
            have hl : lv_has ls 7 [(4, .int (nI (x + 1))), (5, .int (nI y)), (3, .int (b2i (rwS mA mU ((fdS mA mU s9 t9 r).1, false) (x + 1)).2)), (0, .ref mo), (1, .int (nI s9)), (2, .int (nI t9))] := hl
            refine lv_goto (tgt := 50) hx hb d_M_finds_164 rfl ?_
            exact ih50 (x + 1) _ H locs ⟨by omega, lv_sub hl [0, 2, 3, 4, 5] rfl, hP, hD, hS⟩ (by omega)
          · have hc64 : ¬ (32 ≤ y) := fun q9 => hc64 ((nI_leI (by omega) (by omega)).mpr q9)
            refine lv_aload_n hx hb d_M_finds_67 rfl (lv_at hl 3 rfl) ?_
            refine va_get (D := D) (ci := 5) (v := .ref m6) (C := R_M) (T := F_M) (N := 10) hx hb hB in_M hown hK hP 0 rfl rfl 9 (by decide) (hB _ mf_M_28) (fun _ h9 => h9) rfl d_M_finds_68 ?_
            refine lv_iload hx hb d_M_finds_71 (lv_at hl 1 rfl) ?_
            refine xa_ld (u := x) hx hb hK hP 7 6 rfl rfl (by omega) (by decide) d_M_finds_73 ?_
            refine xv_top (x' := oI ((inY mA mU x (rwS mA mU ((fdS mA mU s9 t9 r).1, false) x) y).1 x)) (rfl) ?_
            refine lv_if_lt (tgt := 161) hx hb d_M_finds_74 rfl (fun hc74 => ?_) (fun hc74 => ?_)
            · have hc74 : ¬ (inY mA mU x (rwS mA mU ((fdS mA mU s9 t9 r).1, false) x) y).1 x < 32 := oI_lt.mp hc74
              have hl : lv_has ls 7 [(5, .int (nI y)), (4, .int (nI x)), (3, .int (b2i (rwS mA mU ((fdS mA mU s9 t9 r).1, false) (x + 1)).2)), (0, .ref mo), (1, .int (nI s9)), (2, .int (nI t9))] := by
                have hz : (b2i (inY mA mU x (rwS mA mU ((fdS mA mU s9 t9 r).1, false) x) y).2) = b2i (rwS mA mU ((fdS mA mU s9 t9 r).1, false) (x + 1)).2 := by first | rw [rwS_t (hy0.elim (fun e => by omega) id), show y = 32 by omega] | (rw [rwS_f (fun q9 => hc74 (by rw [inY_mono q9]; exact q9)), show y = 0 from hy0.elim id (fun q9 => absurd (show (inY mA mU x (rwS mA mU ((fdS mA mU s9 t9 r).1, false) x) y).1 x < 32 by rw [inY_mono q9]; exact q9) hc74)]; rfl)
                rw [← hz]; exact hl
              have hz : (fun k => oI ((inY mA mU x (rwS mA mU ((fdS mA mU s9 t9 r).1, false) x) y).1 k)) = (fun k => oI ((rwS mA mU ((fdS mA mU s9 t9 r).1, false) (x + 1)).1 k)) := by first | rw [rwS_t (hy0.elim (fun e => by omega) id), show y = 32 by omega] | (rw [rwS_f (fun q9 => hc74 (by rw [inY_mono q9]; exact q9)), show y = 0 from hy0.elim id (fun q9 => absurd (show (inY mA mU x (rwS mA mU ((fdS mA mU s9 t9 r).1, false) x) y).1 x < 32 by rw [inY_mono q9]; exact q9) hc74)]; rfl)
              rw [hz] at hP hD
              refine lv_iinc hx hb d_M_finds_161 hl (k := 1) rfl (v := nI (x + 1)) (nI_1 x) (by decide) rfl (fun ls hl => ?_)
              have hl : lv_has ls 7 [(4, .int (nI (x + 1))), (5, .int (nI y)), (3, .int (b2i (rwS mA mU ((fdS mA mU s9 t9 r).1, false) (x + 1)).2)), (0, .ref mo), (1, .int (nI s9)), (2, .int (nI t9))] := hl
              refine lv_goto (tgt := 50) hx hb d_M_finds_164 rfl ?_
              exact ih50 (x + 1) _ H locs ⟨by omega, lv_sub hl [0, 2, 3, 4, 5] rfl, hP, hD, hS⟩ (by omega)
            · have hc74 : (inY mA mU x (rwS mA mU ((fdS mA mU s9 t9 r).1, false) x) y).1 x < 32 := Decidable.byContradiction (fun q9 => hc74 (oI_lt.mpr q9))
              refine lv_aload_n hx hb d_M_finds_77 rfl (lv_at hl 3 rfl) ?_
              refine va_get (D := D) (ci := 5) (v := .ref m4) (C := R_M) (T := F_M) (N := 10) hx hb hB in_M hown hK hP 0 rfl rfl 7 (by decide) (hB _ mf_M_22) (fun _ h9 => h9) rfl d_M_finds_78 ?_
              refine lv_iload hx hb d_M_finds_81 (lv_at hl 1 rfl) ?_
              refine xa_ld (u := x) hx hb hK hP 5 4 rfl rfl (by omega) (by decide) d_M_finds_83 ?_
              refine lv_iload hx hb d_M_finds_84 (lv_at hl 0 rfl) ?_
              refine xr_cal (va_runS (As := [.int (mA x), .int (nI y)]) (rest := []) ⟨hx, hb, hml, hown, hB⟩ (k_M_at l D  (mA x) y (by omega)) ⟨callB_of 2 hB (xg0 mc_M_at) rfl rfl rfl (hB _ mz_M) (hB _ ml_M_84) (by decide +kernel) ⟨Nat.le_of_ble_eq_true rfl, Nat.le_of_ble_eq_true rfl⟩, hB _ ms_M_at⟩ (xpS (ws := []) (tys := []) (hP.sub [] rfl) (hK.sub [] rfl) hN) rfl rfl hl.1 rfl (lv_room (Nat.le_of_ble_eq_true rfl)) d_M_finds_86 ⟨Nat.le_of_ble_eq_true rfl, Nat.le_of_ble_eq_true rfl⟩) ?_
              refine lv_if_eq (tgt := 107) hx hb d_M_finds_89 rfl (fun hc89 => ?_) (fun hc89 => ?_)
              · have hc89 := b2i_0.mp hc89
                refine lv_aload_n hx hb d_M_finds_107 rfl (lv_at hl 3 rfl) ?_
                refine va_get (D := D) (ci := 5) (v := .ref m5) (C := R_M) (T := F_M) (N := 10) hx hb hB in_M hown hK hP 0 rfl rfl 8 (by decide) (hB _ mf_M_25) (fun _ h9 => h9) rfl d_M_finds_108 ?_
                refine lv_iload hx hb d_M_finds_111 (lv_at hl 0 rfl) ?_
                refine xa_ld (u := y) hx hb hK hP 6 5 rfl rfl (by omega) (by decide) d_M_finds_113 ?_
                refine lv_iload hx hb d_M_finds_114 (lv_at hl 1 rfl) ?_
                refine xr_cal (va_runS (As := [.int (mU y), .int (nI x)]) (rest := []) ⟨hx, hb, hml, hown, hB⟩ (k_M_at l D  (mU y) x (by omega)) ⟨callB_of 2 hB (xg0 mc_M_at) rfl rfl rfl (hB _ mz_M) (hB _ ml_M_84) (by decide +kernel) ⟨Nat.le_of_ble_eq_true rfl, Nat.le_of_ble_eq_true rfl⟩, hB _ ms_M_at⟩ (xpS (ws := []) (tys := []) (hP.sub [] rfl) (hK.sub [] rfl) hN) rfl rfl hl.1 rfl (lv_room (Nat.le_of_ble_eq_true rfl)) d_M_finds_116 ⟨Nat.le_of_ble_eq_true rfl, Nat.le_of_ble_eq_true rfl⟩) ?_
                refine lv_if_eq (tgt := 126) hx hb d_M_finds_119 rfl (fun hc119 => ?_) (fun hc119 => ?_)
                · have hc119 := b2i_0.mp hc119
                  refine lv_iconst (v := nI 0) hx hb d_M_finds_126 (by decide) ?_
                  refine lv_istore hx hb d_M_finds_127 hl (by decide) rfl (fun ls hl => ?_)
                  have hl : lv_has ls 7 [(6, .int (nI 0)), (5, .int (nI y)), (4, .int (nI x)), (3, .int (b2i (inY mA mU x (rwS mA mU ((fdS mA mU s9 t9 r).1, false) x) y).2)), (0, .ref mo), (1, .int (nI s9)), (2, .int (nI t9))] := hl
                  refine lv_iload hx hb d_M_finds_129 (lv_at hl 0 rfl) ?_
                  refine lv_if_eq (tgt := 155) hx hb d_M_finds_131 rfl (fun _ => ?_) (fun hc131 => absurd hc131 (by decide))
                  have hl : lv_has ls 7 [(6, .int (nI 0)), (5, .int (nI y)), (4, .int (nI x)), (3, .int (b2i (inY mA mU x (rwS mA mU ((fdS mA mU s9 t9 r).1, false) x) (y + 1)).2)), (0, .ref mo), (1, .int (nI s9)), (2, .int (nI t9))] := by
                    have hz : (b2i (inY mA mU x (rwS mA mU ((fdS mA mU s9 t9 r).1, false) x) y).2) = b2i (inY mA mU x (rwS mA mU ((fdS mA mU s9 t9 r).1, false) x) (y + 1)).2 := by rw [inY_f (by first | exact (fun _ => hc141) | (intro q9; unfold opn at q9; first | (rw [hc89, hc119] at q9; cases q9) | (rw [hc89, hc104, hc119] at q9; cases q9)))]
                    rw [← hz]; exact hl
                  have hz : (fun k => oI ((inY mA mU x (rwS mA mU ((fdS mA mU s9 t9 r).1, false) x) y).1 k)) = (fun k => oI ((inY mA mU x (rwS mA mU ((fdS mA mU s9 t9 r).1, false) x) (y + 1)).1 k)) := by rw [inY_f (by first | exact (fun _ => hc141) | (intro q9; unfold opn at q9; first | (rw [hc89, hc119] at q9; cases q9) | (rw [hc89, hc104, hc119] at q9; cases q9)))]
                  rw [hz] at hP hD
                  refine lv_iinc hx hb d_M_finds_155 hl (k := 1) rfl (v := nI (y + 1)) (nI_1 y) (by decide) rfl (fun ls hl => ?_)
                  have hl : lv_has ls 7 [(5, .int (nI (y + 1))), (6, .int (nI 0)), (4, .int (nI x)), (3, .int (b2i (inY mA mU x (rwS mA mU ((fdS mA mU s9 t9 r).1, false) x) (y + 1)).2)), (0, .ref mo), (1, .int (nI s9)), (2, .int (nI t9))] := hl
                  refine lv_goto (tgt := 60) hx hb d_M_finds_158 rfl ?_
                  exact ih60 (y + 1) _ H locs ⟨⟨by omega, Or.inr (hy0.elim (fun e => by subst e; exact hc74) id)⟩, lv_sub hl [0, 2, 3, 4, 5, 6] rfl, hP, hD, hS⟩ (by omega)
                · have hc119 := b2i_n.mp hc119
                  refine lv_iconst (v := nI 1) hx hb d_M_finds_122 (by decide) ?_
                  refine lv_goto (tgt := 127) hx hb d_M_finds_123 rfl ?_
                  refine lv_istore hx hb d_M_finds_127 hl (by decide) rfl (fun ls hl => ?_)
                  have hl : lv_has ls 7 [(6, .int (nI 1)), (5, .int (nI y)), (4, .int (nI x)), (3, .int (b2i (inY mA mU x (rwS mA mU ((fdS mA mU s9 t9 r).1, false) x) y).2)), (0, .ref mo), (1, .int (nI s9)), (2, .int (nI t9))] := hl
                  refine lv_iload hx hb d_M_finds_129 (lv_at hl 0 rfl) ?_
                  refine lv_if_eq (tgt := 155) hx hb d_M_finds_131 rfl (fun hc131 => absurd hc131 (by decide)) (fun _ => ?_)
                  refine lv_aload_n hx hb d_M_finds_134 rfl (lv_at hl 4 rfl) ?_
                  refine va_get (D := D) (ci := 5) (v := .ref m6) (C := R_M) (T := F_M) (N := 10) hx hb hB in_M hown hK hP 0 rfl rfl 9 (by decide) (hB _ mf_M_28) (fun _ h9 => h9) rfl d_M_finds_135 ?_
                  refine lv_iload hx hb d_M_finds_138 (lv_at hl 1 rfl) ?_
                  refine xa_ld (u := y) hx hb hK hP 7 6 rfl rfl (by omega) (by decide) d_M_finds_140 ?_
                  refine xv_top (x' := oI ((inY mA mU x (rwS mA mU ((fdS mA mU s9 t9 r).1, false) x) y).1 y)) (rfl) ?_
                  refine lv_if_ge (tgt := 155) hx hb d_M_finds_141 rfl (fun hc141 => ?_) (fun hc141 => ?_)
                  · have hc141 : (inY mA mU x (rwS mA mU ((fdS mA mU s9 t9 r).1, false) x) y).1 y < 32 := oI_ge.mp hc141
                    have hl : lv_has ls 7 [(6, .int (nI 1)), (5, .int (nI y)), (4, .int (nI x)), (3, .int (b2i (inY mA mU x (rwS mA mU ((fdS mA mU s9 t9 r).1, false) x) (y + 1)).2)), (0, .ref mo), (1, .int (nI s9)), (2, .int (nI t9))] := by
                      have hz : (b2i (inY mA mU x (rwS mA mU ((fdS mA mU s9 t9 r).1, false) x) y).2) = b2i (inY mA mU x (rwS mA mU ((fdS mA mU s9 t9 r).1, false) x) (y + 1)).2 := by rw [inY_f (by first | exact (fun _ => hc141) | (intro q9; unfold opn at q9; first | (rw [hc89, hc119] at q9; cases q9) | (rw [hc89, hc104, hc119] at q9; cases q9)))]
                      rw [← hz]; exact hl
                    have hz : (fun k => oI ((inY mA mU x (rwS mA mU ((fdS mA mU s9 t9 r).1, false) x) y).1 k)) = (fun k => oI ((inY mA mU x (rwS mA mU ((fdS mA mU s9 t9 r).1, false) x) (y + 1)).1 k)) := by rw [inY_f (by first | exact (fun _ => hc141) | (intro q9; unfold opn at q9; first | (rw [hc89, hc119] at q9; cases q9) | (rw [hc89, hc104, hc119] at q9; cases q9)))]
                    rw [hz] at hP hD
                    refine lv_iinc hx hb d_M_finds_155 hl (k := 1) rfl (v := nI (y + 1)) (nI_1 y) (by decide) rfl (fun ls hl => ?_)
                    have hl : lv_has ls 7 [(5, .int (nI (y + 1))), (6, .int (nI 1)), (4, .int (nI x)), (3, .int (b2i (inY mA mU x (rwS mA mU ((fdS mA mU s9 t9 r).1, false) x) (y + 1)).2)), (0, .ref mo), (1, .int (nI s9)), (2, .int (nI t9))] := hl
                    refine lv_goto (tgt := 60) hx hb d_M_finds_158 rfl ?_
                    exact ih60 (y + 1) _ H locs ⟨⟨by omega, Or.inr (hy0.elim (fun e => by subst e; exact hc74) id)⟩, lv_sub hl [0, 2, 3, 4, 5, 6] rfl, hP, hD, hS⟩ (by omega)
                  · have hc141 : ¬ (inY mA mU x (rwS mA mU ((fdS mA mU s9 t9 r).1, false) x) y).1 y < 32 := fun q9 => hc141 (oI_ge.mpr q9)
                    refine lv_aload_n hx hb d_M_finds_144 rfl (lv_at hl 4 rfl) ?_
                    refine va_get (D := D) (ci := 5) (v := .ref m6) (C := R_M) (T := F_M) (N := 10) hx hb hB in_M hown hK hP 0 rfl rfl 9 (by decide) (hB _ mf_M_28) (fun _ h9 => h9) rfl d_M_finds_145 ?_
                    refine lv_iload hx hb d_M_finds_148 (lv_at hl 1 rfl) ?_
                    refine lv_iload hx hb d_M_finds_150 (lv_at hl 2 rfl) ?_
                    refine xa_st (u := y) hx hb hK hP hD hS 7 6 rfl rfl (by omega) (by decide) d_M_finds_152 (fun H locs hP hD hS => ?_)
                    have hP : va_P D cls [(mo, .inr (5, [.int mc, .int mn, .ref m0, .int mg, .ref m1, .ref m2, .ref m3, .ref m4, .ref m5, .ref m6])), (m0, .inl (o0, 16, .inl h)), (m1, .inl (o1, 16, .inl mO)), (m2, .inl (o2, 16, .inl mG)), (m3, .inl (o3, 16, .inl mF)), (m4, .inl (o4, 32, .inl mA)), (m5, .inl (o5, 32, .inl mU)), (m6, .inl (o6, 32, .inl (upd (fun k => oI ((inY mA mU x (rwS mA mU ((fdS mA mU s9 t9 r).1, false) x) y).1 k)) y (nI x))))] H := hP
                    have hD : va_D A [(mo, .inr (5, [.int mc, .int mn, .ref m0, .int mg, .ref m1, .ref m2, .ref m3, .ref m4, .ref m5, .ref m6])), (m0, .inl (o0, 16, .inl h)), (m1, .inl (o1, 16, .inl mO)), (m2, .inl (o2, 16, .inl mG)), (m3, .inl (o3, 16, .inl mF)), (m4, .inl (o4, 32, .inl mA)), (m5, .inl (o5, 32, .inl mU)), (m6, .inl (o6, 32, .inl (upd (fun k => oI ((inY mA mU x (rwS mA mU ((fdS mA mU s9 t9 r).1, false) x) y).1 k)) y (nI x))))] := hD
                    refine lv_iconst (v := nI 1) hx hb d_M_finds_153 (by decide) ?_
                    refine lv_istore_n hx hb d_M_finds_154 rfl hl (by decide) rfl (fun ls hl => ?_)
                    have hl : lv_has ls 7 [(3, .int (nI 1)), (6, .int (nI 1)), (5, .int (nI y)), (4, .int (nI x)), (0, .ref mo), (1, .int (nI s9)), (2, .int (nI t9))] := hl
                    have hl : lv_has ls 7 [(3, .int (b2i (inY mA mU x (rwS mA mU ((fdS mA mU s9 t9 r).1, false) x) (y + 1)).2)), (6, .int (nI 1)), (5, .int (nI y)), (4, .int (nI x)), (0, .ref mo), (1, .int (nI s9)), (2, .int (nI t9))] := by
                      have hz : (nI 1) = b2i (inY mA mU x (rwS mA mU ((fdS mA mU s9 t9 r).1, false) x) (y + 1)).2 := by rw [inY_t (by unfold opn; first | (rw [hc89, hc104]; rfl) | (rw [hc119, Bool.or_true])) hc141]; rfl
                      rw [← hz]; exact hl
                    have hz : (upd (fun k => oI ((inY mA mU x (rwS mA mU ((fdS mA mU s9 t9 r).1, false) x) y).1 k)) y (nI x)) = (fun k => oI ((inY mA mU x (rwS mA mU ((fdS mA mU s9 t9 r).1, false) x) (y + 1)).1 k)) := by rw [inY_t (by unfold opn; first | (rw [hc89, hc104]; rfl) | (rw [hc119, Bool.or_true])) hc141]; exact upn_oI (by omega)
                    rw [hz] at hP hD
                    refine lv_iinc hx hb d_M_finds_155 hl (k := 2) rfl (v := nI (y + 1)) (nI_1 y) (by decide) rfl (fun ls hl => ?_)
                    have hl : lv_has ls 7 [(5, .int (nI (y + 1))), (3, .int (b2i (inY mA mU x (rwS mA mU ((fdS mA mU s9 t9 r).1, false) x) (y + 1)).2)), (6, .int (nI 1)), (4, .int (nI x)), (0, .ref mo), (1, .int (nI s9)), (2, .int (nI t9))] := hl
                    refine lv_goto (tgt := 60) hx hb d_M_finds_158 rfl ?_
                    exact ih60 (y + 1) _ H locs ⟨⟨by omega, Or.inr (hy0.elim (fun e => by subst e; exact hc74) id)⟩, lv_sub hl [0, 3, 1, 4, 5, 6] rfl, hP, hD, hS⟩ (by omega)
              · have hc89 := b2i_n.mp hc89
                refine lv_aload_n hx hb d_M_finds_92 rfl (lv_at hl 3 rfl) ?_
                refine va_get (D := D) (ci := 5) (v := .ref m5) (C := R_M) (T := F_M) (N := 10) hx hb hB in_M hown hK hP 0 rfl rfl 8 (by decide) (hB _ mf_M_25) (fun _ h9 => h9) rfl d_M_finds_93 ?_
                refine lv_iload hx hb d_M_finds_96 (lv_at hl 1 rfl) ?_
                refine xa_ld (u := x) hx hb hK hP 6 5 rfl rfl (by omega) (by decide) d_M_finds_98 ?_
                refine lv_iload hx hb d_M_finds_99 (lv_at hl 0 rfl) ?_
                refine xr_cal (va_runS (As := [.int (mU x), .int (nI y)]) (rest := []) ⟨hx, hb, hml, hown, hB⟩ (k_M_at l D  (mU x) y (by omega)) ⟨callB_of 2 hB (xg0 mc_M_at) rfl rfl rfl (hB _ mz_M) (hB _ ml_M_84) (by decide +kernel) ⟨Nat.le_of_ble_eq_true rfl, Nat.le_of_ble_eq_true rfl⟩, hB _ ms_M_at⟩ (xpS (ws := []) (tys := []) (hP.sub [] rfl) (hK.sub [] rfl) hN) rfl rfl hl.1 rfl (lv_room (Nat.le_of_ble_eq_true rfl)) d_M_finds_101 ⟨Nat.le_of_ble_eq_true rfl, Nat.le_of_ble_eq_true rfl⟩) ?_
                refine lv_if_eq (tgt := 122) hx hb d_M_finds_104 rfl (fun hc104 => ?_) (fun hc104 => ?_)
                · have hc104 := b2i_0.mp hc104
                  refine lv_iconst (v := nI 1) hx hb d_M_finds_122 (by decide) ?_
                  refine lv_goto (tgt := 127) hx hb d_M_finds_123 rfl ?_
                  refine lv_istore hx hb d_M_finds_127 hl (by decide) rfl (fun ls hl => ?_)
                  have hl : lv_has ls 7 [(6, .int (nI 1)), (5, .int (nI y)), (4, .int (nI x)), (3, .int (b2i (inY mA mU x (rwS mA mU ((fdS mA mU s9 t9 r).1, false) x) y).2)), (0, .ref mo), (1, .int (nI s9)), (2, .int (nI t9))] := hl
                  refine lv_iload hx hb d_M_finds_129 (lv_at hl 0 rfl) ?_
                  refine lv_if_eq (tgt := 155) hx hb d_M_finds_131 rfl (fun hc131 => absurd hc131 (by decide)) (fun _ => ?_)
                  refine lv_aload_n hx hb d_M_finds_134 rfl (lv_at hl 4 rfl) ?_
                  refine va_get (D := D) (ci := 5) (v := .ref m6) (C := R_M) (T := F_M) (N := 10) hx hb hB in_M hown hK hP 0 rfl rfl 9 (by decide) (hB _ mf_M_28) (fun _ h9 => h9) rfl d_M_finds_135 ?_
                  refine lv_iload hx hb d_M_finds_138 (lv_at hl 1 rfl) ?_
                  refine xa_ld (u := y) hx hb hK hP 7 6 rfl rfl (by omega) (by decide) d_M_finds_140 ?_
                  refine xv_top (x' := oI ((inY mA mU x (rwS mA mU ((fdS mA mU s9 t9 r).1, false) x) y).1 y)) (rfl) ?_
                  refine lv_if_ge (tgt := 155) hx hb d_M_finds_141 rfl (fun hc141 => ?_) (fun hc141 => ?_)
                  · have hc141 : (inY mA mU x (rwS mA mU ((fdS mA mU s9 t9 r).1, false) x) y).1 y < 32 := oI_ge.mp hc141
                    have hl : lv_has ls 7 [(6, .int (nI 1)), (5, .int (nI y)), (4, .int (nI x)), (3, .int (b2i (inY mA mU x (rwS mA mU ((fdS mA mU s9 t9 r).1, false) x) (y + 1)).2)), (0, .ref mo), (1, .int (nI s9)), (2, .int (nI t9))] := by
                      have hz : (b2i (inY mA mU x (rwS mA mU ((fdS mA mU s9 t9 r).1, false) x) y).2) = b2i (inY mA mU x (rwS mA mU ((fdS mA mU s9 t9 r).1, false) x) (y + 1)).2 := by rw [inY_f (by first | exact (fun _ => hc141) | (intro q9; unfold opn at q9; first | (rw [hc89, hc119] at q9; cases q9) | (rw [hc89, hc104, hc119] at q9; cases q9)))]
                      rw [← hz]; exact hl
                    have hz : (fun k => oI ((inY mA mU x (rwS mA mU ((fdS mA mU s9 t9 r).1, false) x) y).1 k)) = (fun k => oI ((inY mA mU x (rwS mA mU ((fdS mA mU s9 t9 r).1, false) x) (y + 1)).1 k)) := by rw [inY_f (by first | exact (fun _ => hc141) | (intro q9; unfold opn at q9; first | (rw [hc89, hc119] at q9; cases q9) | (rw [hc89, hc104, hc119] at q9; cases q9)))]
                    rw [hz] at hP hD
                    refine lv_iinc hx hb d_M_finds_155 hl (k := 1) rfl (v := nI (y + 1)) (nI_1 y) (by decide) rfl (fun ls hl => ?_)
                    have hl : lv_has ls 7 [(5, .int (nI (y + 1))), (6, .int (nI 1)), (4, .int (nI x)), (3, .int (b2i (inY mA mU x (rwS mA mU ((fdS mA mU s9 t9 r).1, false) x) (y + 1)).2)), (0, .ref mo), (1, .int (nI s9)), (2, .int (nI t9))] := hl
                    refine lv_goto (tgt := 60) hx hb d_M_finds_158 rfl ?_
                    exact ih60 (y + 1) _ H locs ⟨⟨by omega, Or.inr (hy0.elim (fun e => by subst e; exact hc74) id)⟩, lv_sub hl [0, 2, 3, 4, 5, 6] rfl, hP, hD, hS⟩ (by omega)
                  · have hc141 : ¬ (inY mA mU x (rwS mA mU ((fdS mA mU s9 t9 r).1, false) x) y).1 y < 32 := fun q9 => hc141 (oI_ge.mpr q9)
                    refine lv_aload_n hx hb d_M_finds_144 rfl (lv_at hl 4 rfl) ?_
                    refine va_get (D := D) (ci := 5) (v := .ref m6) (C := R_M) (T := F_M) (N := 10) hx hb hB in_M hown hK hP 0 rfl rfl 9 (by decide) (hB _ mf_M_28) (fun _ h9 => h9) rfl d_M_finds_145 ?_
                    refine lv_iload hx hb d_M_finds_148 (lv_at hl 1 rfl) ?_
                    refine lv_iload hx hb d_M_finds_150 (lv_at hl 2 rfl) ?_
                    refine xa_st (u := y) hx hb hK hP hD hS 7 6 rfl rfl (by omega) (by decide) d_M_finds_152 (fun H locs hP hD hS => ?_)
                    have hP : va_P D cls [(mo, .inr (5, [.int mc, .int mn, .ref m0, .int mg, .ref m1, .ref m2, .ref m3, .ref m4, .ref m5, .ref m6])), (m0, .inl (o0, 16, .inl h)), (m1, .inl (o1, 16, .inl mO)), (m2, .inl (o2, 16, .inl mG)), (m3, .inl (o3, 16, .inl mF)), (m4, .inl (o4, 32, .inl mA)), (m5, .inl (o5, 32, .inl mU)), (m6, .inl (o6, 32, .inl (upd (fun k => oI ((inY mA mU x (rwS mA mU ((fdS mA mU s9 t9 r).1, false) x) y).1 k)) y (nI x))))] H := hP
                    have hD : va_D A [(mo, .inr (5, [.int mc, .int mn, .ref m0, .int mg, .ref m1, .ref m2, .ref m3, .ref m4, .ref m5, .ref m6])), (m0, .inl (o0, 16, .inl h)), (m1, .inl (o1, 16, .inl mO)), (m2, .inl (o2, 16, .inl mG)), (m3, .inl (o3, 16, .inl mF)), (m4, .inl (o4, 32, .inl mA)), (m5, .inl (o5, 32, .inl mU)), (m6, .inl (o6, 32, .inl (upd (fun k => oI ((inY mA mU x (rwS mA mU ((fdS mA mU s9 t9 r).1, false) x) y).1 k)) y (nI x))))] := hD
                    refine lv_iconst (v := nI 1) hx hb d_M_finds_153 (by decide) ?_
                    refine lv_istore_n hx hb d_M_finds_154 rfl hl (by decide) rfl (fun ls hl => ?_)
                    have hl : lv_has ls 7 [(3, .int (nI 1)), (6, .int (nI 1)), (5, .int (nI y)), (4, .int (nI x)), (0, .ref mo), (1, .int (nI s9)), (2, .int (nI t9))] := hl
                    have hl : lv_has ls 7 [(3, .int (b2i (inY mA mU x (rwS mA mU ((fdS mA mU s9 t9 r).1, false) x) (y + 1)).2)), (6, .int (nI 1)), (5, .int (nI y)), (4, .int (nI x)), (0, .ref mo), (1, .int (nI s9)), (2, .int (nI t9))] := by
                      have hz : (nI 1) = b2i (inY mA mU x (rwS mA mU ((fdS mA mU s9 t9 r).1, false) x) (y + 1)).2 := by rw [inY_t (by unfold opn; first | (rw [hc89, hc104]; rfl) | (rw [hc119, Bool.or_true])) hc141]; rfl
                      rw [← hz]; exact hl
                    have hz : (upd (fun k => oI ((inY mA mU x (rwS mA mU ((fdS mA mU s9 t9 r).1, false) x) y).1 k)) y (nI x)) = (fun k => oI ((inY mA mU x (rwS mA mU ((fdS mA mU s9 t9 r).1, false) x) (y + 1)).1 k)) := by rw [inY_t (by unfold opn; first | (rw [hc89, hc104]; rfl) | (rw [hc119, Bool.or_true])) hc141]; exact upn_oI (by omega)
                    rw [hz] at hP hD
                    refine lv_iinc hx hb d_M_finds_155 hl (k := 2) rfl (v := nI (y + 1)) (nI_1 y) (by decide) rfl (fun ls hl => ?_)
                    have hl : lv_has ls 7 [(5, .int (nI (y + 1))), (3, .int (b2i (inY mA mU x (rwS mA mU ((fdS mA mU s9 t9 r).1, false) x) (y + 1)).2)), (6, .int (nI 1)), (4, .int (nI x)), (0, .ref mo), (1, .int (nI s9)), (2, .int (nI t9))] := hl
                    refine lv_goto (tgt := 60) hx hb d_M_finds_158 rfl ?_
                    exact ih60 (y + 1) _ H locs ⟨⟨by omega, Or.inr (hy0.elim (fun e => by subst e; exact hc74) id)⟩, lv_sub hl [0, 3, 1, 4, 5, 6] rfl, hP, hD, hS⟩ (by omega)
                · have hc104 := b2i_n.mp hc104
                  refine lv_aload_n hx hb d_M_finds_107 rfl (lv_at hl 3 rfl) ?_
                  refine va_get (D := D) (ci := 5) (v := .ref m5) (C := R_M) (T := F_M) (N := 10) hx hb hB in_M hown hK hP 0 rfl rfl 8 (by decide) (hB _ mf_M_25) (fun _ h9 => h9) rfl d_M_finds_108 ?_
                  refine lv_iload hx hb d_M_finds_111 (lv_at hl 0 rfl) ?_
                  refine xa_ld (u := y) hx hb hK hP 6 5 rfl rfl (by omega) (by decide) d_M_finds_113 ?_
                  refine lv_iload hx hb d_M_finds_114 (lv_at hl 1 rfl) ?_
                  refine xr_cal (va_runS (As := [.int (mU y), .int (nI x)]) (rest := []) ⟨hx, hb, hml, hown, hB⟩ (k_M_at l D  (mU y) x (by omega)) ⟨callB_of 2 hB (xg0 mc_M_at) rfl rfl rfl (hB _ mz_M) (hB _ ml_M_84) (by decide +kernel) ⟨Nat.le_of_ble_eq_true rfl, Nat.le_of_ble_eq_true rfl⟩, hB _ ms_M_at⟩ (xpS (ws := []) (tys := []) (hP.sub [] rfl) (hK.sub [] rfl) hN) rfl rfl hl.1 rfl (lv_room (Nat.le_of_ble_eq_true rfl)) d_M_finds_116 ⟨Nat.le_of_ble_eq_true rfl, Nat.le_of_ble_eq_true rfl⟩) ?_
                  refine lv_if_eq (tgt := 126) hx hb d_M_finds_119 rfl (fun hc119 => ?_) (fun hc119 => ?_)
                  · have hc119 := b2i_0.mp hc119
                    refine lv_iconst (v := nI 0) hx hb d_M_finds_126 (by decide) ?_
                    refine lv_istore hx hb d_M_finds_127 hl (by decide) rfl (fun ls hl => ?_)
                    have hl : lv_has ls 7 [(6, .int (nI 0)), (5, .int (nI y)), (4, .int (nI x)), (3, .int (b2i (inY mA mU x (rwS mA mU ((fdS mA mU s9 t9 r).1, false) x) y).2)), (0, .ref mo), (1, .int (nI s9)), (2, .int (nI t9))] := hl
                    refine lv_iload hx hb d_M_finds_129 (lv_at hl 0 rfl) ?_
                    refine lv_if_eq (tgt := 155) hx hb d_M_finds_131 rfl (fun _ => ?_) (fun hc131 => absurd hc131 (by decide))
                    have hl : lv_has ls 7 [(6, .int (nI 0)), (5, .int (nI y)), (4, .int (nI x)), (3, .int (b2i (inY mA mU x (rwS mA mU ((fdS mA mU s9 t9 r).1, false) x) (y + 1)).2)), (0, .ref mo), (1, .int (nI s9)), (2, .int (nI t9))] := by
                      have hz : (b2i (inY mA mU x (rwS mA mU ((fdS mA mU s9 t9 r).1, false) x) y).2) = b2i (inY mA mU x (rwS mA mU ((fdS mA mU s9 t9 r).1, false) x) (y + 1)).2 := by rw [inY_f (by first | exact (fun _ => hc141) | (intro q9; unfold opn at q9; first | (rw [hc89, hc119] at q9; cases q9) | (rw [hc89, hc104, hc119] at q9; cases q9)))]
                      rw [← hz]; exact hl
                    have hz : (fun k => oI ((inY mA mU x (rwS mA mU ((fdS mA mU s9 t9 r).1, false) x) y).1 k)) = (fun k => oI ((inY mA mU x (rwS mA mU ((fdS mA mU s9 t9 r).1, false) x) (y + 1)).1 k)) := by rw [inY_f (by first | exact (fun _ => hc141) | (intro q9; unfold opn at q9; first | (rw [hc89, hc119] at q9; cases q9) | (rw [hc89, hc104, hc119] at q9; cases q9)))]
                    rw [hz] at hP hD
                    refine lv_iinc hx hb d_M_finds_155 hl (k := 1) rfl (v := nI (y + 1)) (nI_1 y) (by decide) rfl (fun ls hl => ?_)
                    have hl : lv_has ls 7 [(5, .int (nI (y + 1))), (6, .int (nI 0)), (4, .int (nI x)), (3, .int (b2i (inY mA mU x (rwS mA mU ((fdS mA mU s9 t9 r).1, false) x) (y + 1)).2)), (0, .ref mo), (1, .int (nI s9)), (2, .int (nI t9))] := hl
                    refine lv_goto (tgt := 60) hx hb d_M_finds_158 rfl ?_
                    exact ih60 (y + 1) _ H locs ⟨⟨by omega, Or.inr (hy0.elim (fun e => by subst e; exact hc74) id)⟩, lv_sub hl [0, 2, 3, 4, 5, 6] rfl, hP, hD, hS⟩ (by omega)
                  · have hc119 := b2i_n.mp hc119
                    refine lv_iconst (v := nI 1) hx hb d_M_finds_122 (by decide) ?_
                    refine lv_goto (tgt := 127) hx hb d_M_finds_123 rfl ?_
                    refine lv_istore hx hb d_M_finds_127 hl (by decide) rfl (fun ls hl => ?_)
                    have hl : lv_has ls 7 [(6, .int (nI 1)), (5, .int (nI y)), (4, .int (nI x)), (3, .int (b2i (inY mA mU x (rwS mA mU ((fdS mA mU s9 t9 r).1, false) x) y).2)), (0, .ref mo), (1, .int (nI s9)), (2, .int (nI t9))] := hl
                    refine lv_iload hx hb d_M_finds_129 (lv_at hl 0 rfl) ?_
                    refine lv_if_eq (tgt := 155) hx hb d_M_finds_131 rfl (fun hc131 => absurd hc131 (by decide)) (fun _ => ?_)
                    refine lv_aload_n hx hb d_M_finds_134 rfl (lv_at hl 4 rfl) ?_
                    refine va_get (D := D) (ci := 5) (v := .ref m6) (C := R_M) (T := F_M) (N := 10) hx hb hB in_M hown hK hP 0 rfl rfl 9 (by decide) (hB _ mf_M_28) (fun _ h9 => h9) rfl d_M_finds_135 ?_
                    refine lv_iload hx hb d_M_finds_138 (lv_at hl 1 rfl) ?_
                    refine xa_ld (u := y) hx hb hK hP 7 6 rfl rfl (by omega) (by decide) d_M_finds_140 ?_
                    refine xv_top (x' := oI ((inY mA mU x (rwS mA mU ((fdS mA mU s9 t9 r).1, false) x) y).1 y)) (rfl) ?_
                    refine lv_if_ge (tgt := 155) hx hb d_M_finds_141 rfl (fun hc141 => ?_) (fun hc141 => ?_)
                    · have hc141 : (inY mA mU x (rwS mA mU ((fdS mA mU s9 t9 r).1, false) x) y).1 y < 32 := oI_ge.mp hc141
                      have hl : lv_has ls 7 [(6, .int (nI 1)), (5, .int (nI y)), (4, .int (nI x)), (3, .int (b2i (inY mA mU x (rwS mA mU ((fdS mA mU s9 t9 r).1, false) x) (y + 1)).2)), (0, .ref mo), (1, .int (nI s9)), (2, .int (nI t9))] := by
                        have hz : (b2i (inY mA mU x (rwS mA mU ((fdS mA mU s9 t9 r).1, false) x) y).2) = b2i (inY mA mU x (rwS mA mU ((fdS mA mU s9 t9 r).1, false) x) (y + 1)).2 := by rw [inY_f (by first | exact (fun _ => hc141) | (intro q9; unfold opn at q9; first | (rw [hc89, hc119] at q9; cases q9) | (rw [hc89, hc104, hc119] at q9; cases q9)))]
                        rw [← hz]; exact hl
                      have hz : (fun k => oI ((inY mA mU x (rwS mA mU ((fdS mA mU s9 t9 r).1, false) x) y).1 k)) = (fun k => oI ((inY mA mU x (rwS mA mU ((fdS mA mU s9 t9 r).1, false) x) (y + 1)).1 k)) := by rw [inY_f (by first | exact (fun _ => hc141) | (intro q9; unfold opn at q9; first | (rw [hc89, hc119] at q9; cases q9) | (rw [hc89, hc104, hc119] at q9; cases q9)))]
                      rw [hz] at hP hD
                      refine lv_iinc hx hb d_M_finds_155 hl (k := 1) rfl (v := nI (y + 1)) (nI_1 y) (by decide) rfl (fun ls hl => ?_)
                      have hl : lv_has ls 7 [(5, .int (nI (y + 1))), (6, .int (nI 1)), (4, .int (nI x)), (3, .int (b2i (inY mA mU x (rwS mA mU ((fdS mA mU s9 t9 r).1, false) x) (y + 1)).2)), (0, .ref mo), (1, .int (nI s9)), (2, .int (nI t9))] := hl
                      refine lv_goto (tgt := 60) hx hb d_M_finds_158 rfl ?_
                      exact ih60 (y + 1) _ H locs ⟨⟨by omega, Or.inr (hy0.elim (fun e => by subst e; exact hc74) id)⟩, lv_sub hl [0, 2, 3, 4, 5, 6] rfl, hP, hD, hS⟩ (by omega)
                    · have hc141 : ¬ (inY mA mU x (rwS mA mU ((fdS mA mU s9 t9 r).1, false) x) y).1 y < 32 := fun q9 => hc141 (oI_ge.mpr q9)
                      refine lv_aload_n hx hb d_M_finds_144 rfl (lv_at hl 4 rfl) ?_
                      refine va_get (D := D) (ci := 5) (v := .ref m6) (C := R_M) (T := F_M) (N := 10) hx hb hB in_M hown hK hP 0 rfl rfl 9 (by decide) (hB _ mf_M_28) (fun _ h9 => h9) rfl d_M_finds_145 ?_
                      refine lv_iload hx hb d_M_finds_148 (lv_at hl 1 rfl) ?_
                      refine lv_iload hx hb d_M_finds_150 (lv_at hl 2 rfl) ?_
                      refine xa_st (u := y) hx hb hK hP hD hS 7 6 rfl rfl (by omega) (by decide) d_M_finds_152 (fun H locs hP hD hS => ?_)
                      have hP : va_P D cls [(mo, .inr (5, [.int mc, .int mn, .ref m0, .int mg, .ref m1, .ref m2, .ref m3, .ref m4, .ref m5, .ref m6])), (m0, .inl (o0, 16, .inl h)), (m1, .inl (o1, 16, .inl mO)), (m2, .inl (o2, 16, .inl mG)), (m3, .inl (o3, 16, .inl mF)), (m4, .inl (o4, 32, .inl mA)), (m5, .inl (o5, 32, .inl mU)), (m6, .inl (o6, 32, .inl (upd (fun k => oI ((inY mA mU x (rwS mA mU ((fdS mA mU s9 t9 r).1, false) x) y).1 k)) y (nI x))))] H := hP
                      have hD : va_D A [(mo, .inr (5, [.int mc, .int mn, .ref m0, .int mg, .ref m1, .ref m2, .ref m3, .ref m4, .ref m5, .ref m6])), (m0, .inl (o0, 16, .inl h)), (m1, .inl (o1, 16, .inl mO)), (m2, .inl (o2, 16, .inl mG)), (m3, .inl (o3, 16, .inl mF)), (m4, .inl (o4, 32, .inl mA)), (m5, .inl (o5, 32, .inl mU)), (m6, .inl (o6, 32, .inl (upd (fun k => oI ((inY mA mU x (rwS mA mU ((fdS mA mU s9 t9 r).1, false) x) y).1 k)) y (nI x))))] := hD
                      refine lv_iconst (v := nI 1) hx hb d_M_finds_153 (by decide) ?_
                      refine lv_istore_n hx hb d_M_finds_154 rfl hl (by decide) rfl (fun ls hl => ?_)
                      have hl : lv_has ls 7 [(3, .int (nI 1)), (6, .int (nI 1)), (5, .int (nI y)), (4, .int (nI x)), (0, .ref mo), (1, .int (nI s9)), (2, .int (nI t9))] := hl
                      have hl : lv_has ls 7 [(3, .int (b2i (inY mA mU x (rwS mA mU ((fdS mA mU s9 t9 r).1, false) x) (y + 1)).2)), (6, .int (nI 1)), (5, .int (nI y)), (4, .int (nI x)), (0, .ref mo), (1, .int (nI s9)), (2, .int (nI t9))] := by
                        have hz : (nI 1) = b2i (inY mA mU x (rwS mA mU ((fdS mA mU s9 t9 r).1, false) x) (y + 1)).2 := by rw [inY_t (by unfold opn; first | (rw [hc89, hc104]; rfl) | (rw [hc119, Bool.or_true])) hc141]; rfl
                        rw [← hz]; exact hl
                      have hz : (upd (fun k => oI ((inY mA mU x (rwS mA mU ((fdS mA mU s9 t9 r).1, false) x) y).1 k)) y (nI x)) = (fun k => oI ((inY mA mU x (rwS mA mU ((fdS mA mU s9 t9 r).1, false) x) (y + 1)).1 k)) := by rw [inY_t (by unfold opn; first | (rw [hc89, hc104]; rfl) | (rw [hc119, Bool.or_true])) hc141]; exact upn_oI (by omega)
                      rw [hz] at hP hD
                      refine lv_iinc hx hb d_M_finds_155 hl (k := 2) rfl (v := nI (y + 1)) (nI_1 y) (by decide) rfl (fun ls hl => ?_)
                      have hl : lv_has ls 7 [(5, .int (nI (y + 1))), (3, .int (b2i (inY mA mU x (rwS mA mU ((fdS mA mU s9 t9 r).1, false) x) (y + 1)).2)), (6, .int (nI 1)), (4, .int (nI x)), (0, .ref mo), (1, .int (nI s9)), (2, .int (nI t9))] := hl
                      refine lv_goto (tgt := 60) hx hb d_M_finds_158 rfl ?_
                      exact ih60 (y + 1) _ H locs ⟨⟨by omega, Or.inr (hy0.elim (fun e => by subst e; exact hc74) id)⟩, lv_sub hl [0, 3, 1, 4, 5, 6] rfl, hP, hD, hS⟩ (by omega)
  · have hc5 : ¬ (32 ≤ x) := fun q9 => hc5 ((nI_leI (by omega) (by omega)).mpr q9)
    refine lv_aload_n hx hb d_M_finds_8 rfl (lv_at hl 1 rfl) ?_
    refine va_get (D := D) (ci := 5) (v := .ref m6) (C := R_M) (T := F_M) (N := 10) hx hb hB in_M hown hK hP 0 rfl rfl 9 (by decide) (hB _ mf_M_28) (fun _ h9 => h9) rfl d_M_finds_9 ?_
    refine lv_iload_n hx hb d_M_finds_12 rfl (lv_at hl 0 rfl) ?_
    refine lv_iload_n hx hb d_M_finds_13 rfl (lv_at hl 0 rfl) ?_
    refine lv_iload_n hx hb d_M_finds_14 rfl (lv_at hl 2 rfl) ?_
    refine lv_icmp_ne (tgt := 22) hx hb d_M_finds_15 rfl (fun hc15 => ?_) (fun hc15 => ?_)
    · have hc15 : ¬ (x = s9) := fun q9 => hc15 ((nI_eq (by omega) (by omega)).mpr q9)
      refine lv_iconst (v := -1) hx hb d_M_finds_22 (by decide) ?_
      refine xv_top (x' := oI (ini s9 x)) (by unfold ini; rw [if_neg hc15]; rfl) ?_
      refine xa_st (u := x) hx hb hK hP hD hS 7 6 rfl rfl (by omega) (by decide) d_M_finds_23 (fun H locs hP hD hS => ?_)
      have hP : va_P D cls [(mo, .inr (5, [.int mc, .int mn, .ref m0, .int mg, .ref m1, .ref m2, .ref m3, .ref m4, .ref m5, .ref m6])), (m0, .inl (o0, 16, .inl h)), (m1, .inl (o1, 16, .inl mO)), (m2, .inl (o2, 16, .inl mG)), (m3, .inl (o3, 16, .inl mF)), (m4, .inl (o4, 32, .inl mA)), (m5, .inl (o5, 32, .inl mU)), (m6, .inl (o6, 32, .inl (upd (fun k => if k < x then oI (ini s9 k) else mR k) x (oI (ini s9 x)))))] H := hP
      have hD : va_D A [(mo, .inr (5, [.int mc, .int mn, .ref m0, .int mg, .ref m1, .ref m2, .ref m3, .ref m4, .ref m5, .ref m6])), (m0, .inl (o0, 16, .inl h)), (m1, .inl (o1, 16, .inl mO)), (m2, .inl (o2, 16, .inl mG)), (m3, .inl (o3, 16, .inl mF)), (m4, .inl (o4, 32, .inl mA)), (m5, .inl (o5, 32, .inl mU)), (m6, .inl (o6, 32, .inl (upd (fun k => if k < x then oI (ini s9 k) else mR k) x (oI (ini s9 x)))))] := hD
      have hz : (upd (fun k => if k < x then oI (ini s9 k) else mR k) x (oI (ini s9 x))) = (fun k => if k < x + 1 then oI (ini s9 k) else mR k) := upd_ltf rfl
      rw [hz] at hP hD
      refine lv_iinc hx hb d_M_finds_24 hl (k := 0) rfl (v := nI (x + 1)) (nI_1 x) (by decide) rfl (fun ls hl => ?_)
      have hl : lv_has ls 7 [(3, .int (nI (x + 1))), (0, .ref mo), (1, .int (nI s9)), (2, .int (nI t9))] := hl
      refine lv_goto (tgt := 2) hx hb d_M_finds_27 rfl ?_
      exact ih2 (x + 1) _ H locs ⟨by omega, lv_sub hl [0, 1, 2, 3] rfl, hP, hD, hS⟩ (by omega)
    · have hc15 : x = s9 := (nI_eq (by omega) (by omega)).mp hc15
      refine lv_iload_n hx hb d_M_finds_18 rfl (lv_at hl 2 rfl) ?_
      refine lv_goto (tgt := 23) hx hb d_M_finds_19 rfl ?_
      refine xv_top (x' := oI (ini s9 x)) (by unfold ini; rw [if_pos hc15]; exact (oI_t hs9).symm) ?_
      refine xa_st (u := x) hx hb hK hP hD hS 7 6 rfl rfl (by omega) (by decide) d_M_finds_23 (fun H locs hP hD hS => ?_)
      have hP : va_P D cls [(mo, .inr (5, [.int mc, .int mn, .ref m0, .int mg, .ref m1, .ref m2, .ref m3, .ref m4, .ref m5, .ref m6])), (m0, .inl (o0, 16, .inl h)), (m1, .inl (o1, 16, .inl mO)), (m2, .inl (o2, 16, .inl mG)), (m3, .inl (o3, 16, .inl mF)), (m4, .inl (o4, 32, .inl mA)), (m5, .inl (o5, 32, .inl mU)), (m6, .inl (o6, 32, .inl (upd (fun k => if k < x then oI (ini s9 k) else mR k) x (oI (ini s9 x)))))] H := hP
      have hD : va_D A [(mo, .inr (5, [.int mc, .int mn, .ref m0, .int mg, .ref m1, .ref m2, .ref m3, .ref m4, .ref m5, .ref m6])), (m0, .inl (o0, 16, .inl h)), (m1, .inl (o1, 16, .inl mO)), (m2, .inl (o2, 16, .inl mG)), (m3, .inl (o3, 16, .inl mF)), (m4, .inl (o4, 32, .inl mA)), (m5, .inl (o5, 32, .inl mU)), (m6, .inl (o6, 32, .inl (upd (fun k => if k < x then oI (ini s9 k) else mR k) x (oI (ini s9 x)))))] := hD
      have hz : (upd (fun k => if k < x then oI (ini s9 k) else mR k) x (oI (ini s9 x))) = (fun k => if k < x + 1 then oI (ini s9 k) else mR k) := upd_ltf rfl
      rw [hz] at hP hD
      refine lv_iinc hx hb d_M_finds_24 hl (k := 0) rfl (v := nI (x + 1)) (nI_1 x) (by decide) rfl (fun ls hl => ?_)
      have hl : lv_has ls 7 [(3, .int (nI (x + 1))), (0, .ref mo), (1, .int (nI s9)), (2, .int (nI t9))] := hl
      refine lv_goto (tgt := 2) hx hb d_M_finds_27 rfl ?_
      exact ih2 (x + 1) _ H locs ⟨by omega, lv_sub hl [0, 1, 2, 3] rfl, hP, hD, hS⟩ (by omega)
