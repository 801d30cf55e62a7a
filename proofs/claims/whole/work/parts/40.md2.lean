set_option maxHeartbeats 4000000 in
set_option maxRecDepth 100000 in
theorem k_M_lacks (l : Launch) (D : va_G) (mo m0 m1 m2 m3 m4 m5 m6 : Nat) (o0 o1 o2 o3 o4 o5 o6 : ClassId) (mc : Int32) (mn : Int32) (mg : Int32) (h : Nat → Int32) (mO : Nat → Int32) (mG : Nat → Int32) (mF : Nat → Int32) (mA : Nat → Int32) (mU : Nat → Int32) (mR : Nat → Int32) (x y : Int32) (sz : Nat) : Met l y_M_lacks (Cond.code y_M_lacks c_M_lacks 3 (some .boolean) :: BS) { frames := 1, cells := 0, slots := 0, locals := 20 } (va_Pc [.ref mo, .int x, .int y] (xWp D [(mo, .inr (5, [.int mc, .int mn, .ref m0, .int mg, .ref m1, .ref m2, .ref m3, .ref m4, .ref m5, .ref m6])), (m0, .inl (o0, 16, .inl h)), (m1, .inl (o1, 16, .inl mO)), (m2, .inl (o2, 16, .inl mG)), (m3, .inl (o3, 16, .inl mF)), (m4, .inl (o4, 32, .inl mA)), (m5, .inl (o5, 32, .inl mU)), (m6, .inl (o6, 32, .inl mR))] [(o0, .int), (o1, .int), (o2, .int), (o3, .int), (o4, .int), (o5, .int), (o6, .int)] sz)) (xQi D [(mo, .inr (5, [.int mc, .int mn, .ref m0, .int mg, .ref m1, .ref m2, .ref m3, .ref m4, .ref m5, .ref m6])), (m0, .inl (o0, 16, .inl h)), (m1, .inl (o1, 16, .inl mO)), (m2, .inl (o2, 16, .inl mG)), (m3, .inl (o3, 16, .inl mF)), (m4, .inl (o4, 32, .inl mA)), (m5, .inl (o5, 32, .inl mU)), (m6, .inl (o6, 32, .inl mR))] [(mo, .inr (5, [.int (b2i (!(isP x && isP y))), .int mn, .ref m0, .int mg, .ref m1, .ref m2, .ref m3, .ref m4, .ref m5, .ref m6])), (m0, .inl (o0, 16, .inl h)), (m1, .inl (o1, 16, .inl mO)), (m2, .inl (o2, 16, .inl mG)), (m3, .inl (o3, 16, .inl mF)), (m4, .inl (o4, 32, .inl mA)), (m5, .inl (o5, 32, .inl mU)), (m6, .inl (o6, 32, .inl mR))] [(o0, .int), (o1, .int), (o2, .int), (o3, .int), (o4, .int), (o5, .int), (o6, .int)] sz (b2i (!(isP x && isP y)))) 0 0 (va_A [(mo, .inr (5, [.int mc, .int mn, .ref m0, .int mg, .ref m1, .ref m2, .ref m3, .ref m4, .ref m5, .ref m6])), (m0, .inl (o0, 16, .inl h)), (m1, .inl (o1, 16, .inl mO)), (m2, .inl (o2, 16, .inl mG)), (m3, .inl (o3, 16, .inl mF)), (m4, .inl (o4, 32, .inl mA)), (m5, .inl (o5, 32, .inl mU)), (m6, .inl (o6, 32, .inl mR))] sz) := by
  refine Met.ofW (cc := c_M_lacks) (maxL := 3) (ret := (some .boolean)) (by decide) rfl ?_
  intro p e s m args below meth c s₁ B hml hv
  obtain ⟨rfl, hsz, hP, hK, hD0, hN⟩ := hv
  have hx := B.exec
  have hb := B.bytes
  have hr := B.returns
  have hB := xB B.pre
  have hown : s.vm.findClass R_M = some m.cls := findClass_of_methodNamed B.named
  have hlocks := B.notSynchronized
  subst hsz
  have hD := hD0.self (sz := s.heap.size)
  obtain ⟨A, hAe⟩ : ∃ A, A = va_A [(mo, .inr (5, [.int mc, .int mn, .ref m0, .int mg, .ref m1, .ref m2, .ref m3, .ref m4, .ref m5, .ref m6])), (m0, .inl (o0, 16, .inl h)), (m1, .inl (o1, 16, .inl mO)), (m2, .inl (o2, 16, .inl mG)), (m3, .inl (o3, 16, .inl mF)), (m4, .inl (o4, 32, .inl mA)), (m5, .inl (o5, 32, .inl mU)), (m6, .inl (o6, 32, .inl mR))] s.heap.size := ⟨_, rfl⟩
  rw [← hAe] at hD
  have hA : ∀ q : Nat, s.heap.size ≤ q → A q := fun q h => by rw [hAe]; exact Or.inr h
  have hS : va_S A s.heap s.heap [] := va_S.rf
  have hl := lv_entry ([.ref mo, .int x, .int y]) (n := 3) (Nat.le_of_ble_eq_true rfl)
  rw [lg_entry_eq]
  generalize (lg_sl ([.ref mo, .int x, .int y]) ++ List.replicate (3 - (lg_sl ([.ref mo, .int x, .int y])).length) Slot.unset).toArray = ls at hl ⊢
  have hl : lv_has ls 3 [(0, .ref mo), (1, .int x), (2, .int y)] := hl
  refine lv_aload_n hx hb d_M_lacks_0 rfl (lv_at hl 0 rfl) ?_
  refine lv_iload_n hx hb d_M_lacks_1 rfl (lv_at hl 1 rfl) ?_
  refine xr_cal (va_runS (As := [.int x]) (rest := [.ref mo]) ⟨hx, hb, hml, hown, hB⟩ (k_M_isPlace l D  x) ⟨callB_of 1 hB (xg0 mc_M_isPlace) rfl rfl rfl (hB _ mz_M) (hB _ ml_M_44) (by decide +kernel) ⟨Nat.le_of_ble_eq_true rfl, Nat.le_of_ble_eq_true rfl⟩, hB _ ms_M_isPlace⟩ (xpS (ws := []) (tys := []) (hP.sub [] rfl) (hK.sub [] rfl) hN) rfl rfl hl.1 rfl (lv_room (Nat.le_of_ble_eq_true rfl)) d_M_lacks_2 ⟨Nat.le_of_ble_eq_true rfl, Nat.le_of_ble_eq_true rfl⟩) ?_
  refine lv_if_eq (tgt := 19) hx hb d_M_lacks_5 rfl (fun hc5 => ?_) (fun hc5 => ?_)
  · have hc5 := b2i_0.mp hc5
    refine lv_iconst (v := nI 1) hx hb d_M_lacks_19 (by decide) ?_
    refine va_put (D := D) (ci := 5) (v := .int (nI 1)) (ty := .int) (C := R_M) (T := F_M) (N := 10) hx hb hB in_M t_M t_M_ok n_M hown hK hP hD hS 0 rfl rfl 0 (by decide) (hB _ mf_M_31) (fun _ h9 => h9) rfl (by decide +kernel) rfl rfl (Nat.le_of_ble_eq_true rfl) d_M_lacks_20 (fun H locs hP hD hS => ?_)
    have hP : va_P D cls [(mo, .inr (5, [.int (nI 1), .int mn, .ref m0, .int mg, .ref m1, .ref m2, .ref m3, .ref m4, .ref m5, .ref m6])), (m0, .inl (o0, 16, .inl h)), (m1, .inl (o1, 16, .inl mO)), (m2, .inl (o2, 16, .inl mG)), (m3, .inl (o3, 16, .inl mF)), (m4, .inl (o4, 32, .inl mA)), (m5, .inl (o5, 32, .inl mU)), (m6, .inl (o6, 32, .inl mR))] H := hP
    have hD : va_D A [(mo, .inr (5, [.int (nI 1), .int mn, .ref m0, .int mg, .ref m1, .ref m2, .ref m3, .ref m4, .ref m5, .ref m6])), (m0, .inl (o0, 16, .inl h)), (m1, .inl (o1, 16, .inl mO)), (m2, .inl (o2, 16, .inl mG)), (m3, .inl (o3, 16, .inl mF)), (m4, .inl (o4, 32, .inl mA)), (m5, .inl (o5, 32, .inl mU)), (m6, .inl (o6, 32, .inl mR))] := hD
    refine lv_aload_n hx hb d_M_lacks_23 rfl (lv_at hl 0 rfl) ?_
    refine va_get (D := D) (ci := 5) (v := .int (nI 1)) (C := R_M) (T := F_M) (N := 10) hx hb hB in_M hown hK hP 0 rfl rfl 0 (by decide) (hB _ mf_M_31) (fun _ h9 => h9) rfl d_M_lacks_24 ?_
    refine lv_if_le (tgt := 34) hx hb d_M_lacks_27 rfl (fun hc27 => absurd hc27 (by decide)) (fun _ => ?_)
    refine lv_iconst (v := nI 1) hx hb d_M_lacks_30 (by decide) ?_
    refine lv_goto (tgt := 35) hx hb d_M_lacks_31 rfl ?_
    have hz : (nI 1) = b2i (!(isP x && isP y)) := by first | (rw [hc5, hc12]; rfl) | (rw [hc5]; rfl)
    rw [hz] at hP hD
    have hP9 := hP.sub (ws' := [(mo, .inr (5, [.int (b2i (!(isP x && isP y))), .int mn, .ref m0, .int mg, .ref m1, .ref m2, .ref m3, .ref m4, .ref m5, .ref m6])), (m0, .inl (o0, 16, .inl h)), (m1, .inl (o1, 16, .inl mO)), (m2, .inl (o2, 16, .inl mG)), (m3, .inl (o3, 16, .inl mF)), (m4, .inl (o4, 32, .inl mA)), (m5, .inl (o5, 32, .inl mU)), (m6, .inl (o6, 32, .inl mR))]) [0, 1, 2, 3, 4, 5, 6, 7] rfl
    have hD9 := hD.sub (ws' := [(mo, .inr (5, [.int (b2i (!(isP x && isP y))), .int mn, .ref m0, .int mg, .ref m1, .ref m2, .ref m3, .ref m4, .ref m5, .ref m6])), (m0, .inl (o0, 16, .inl h)), (m1, .inl (o1, 16, .inl mO)), (m2, .inl (o2, 16, .inl mG)), (m3, .inl (o3, 16, .inl mF)), (m4, .inl (o4, 32, .inl mA)), (m5, .inl (o5, 32, .inl mU)), (m6, .inl (o6, 32, .inl mR))]) [0, 1, 2, 3, 4, 5, 6, 7] (by decide) rfl
    subst hAe
    refine xv_top (x' := b2i (!(isP x && isP y))) (by first | (rw [hc5, hc12]; rfl) | (rw [hc5]; rfl)) ?_
    exact W.zret (v := b2i (!(isP x && isP y))) hx hb hr (b2i_nar _) (fun t ht hW => ⟨⟨_, (), rfl, rfl, by rw [ht]; exact hP9, va_K.moved hW.alike hK, hD9⟩, hS.F ht⟩) hS.2.2 d_M_lacks_35
  · have hc5 := b2i_n.mp hc5
    refine lv_iload_n hx hb d_M_lacks_8 rfl (lv_at hl 2 rfl) ?_
    refine xr_cal (va_runS (As := [.int y]) (rest := [.ref mo]) ⟨hx, hb, hml, hown, hB⟩ (k_M_isPlace l D  y) ⟨callB_of 1 hB (xg0 mc_M_isPlace) rfl rfl rfl (hB _ mz_M) (hB _ ml_M_44) (by decide +kernel) ⟨Nat.le_of_ble_eq_true rfl, Nat.le_of_ble_eq_true rfl⟩, hB _ ms_M_isPlace⟩ (xpS (ws := []) (tys := []) (hP.sub [] rfl) (hK.sub [] rfl) hN) rfl rfl hl.1 rfl (lv_room (Nat.le_of_ble_eq_true rfl)) d_M_lacks_9 ⟨Nat.le_of_ble_eq_true rfl, Nat.le_of_ble_eq_true rfl⟩) ?_
    refine lv_if_eq (tgt := 19) hx hb d_M_lacks_12 rfl (fun hc12 => ?_) (fun hc12 => ?_)
    · have hc12 := b2i_0.mp hc12
      refine lv_iconst (v := nI 1) hx hb d_M_lacks_19 (by decide) ?_
      refine va_put (D := D) (ci := 5) (v := .int (nI 1)) (ty := .int) (C := R_M) (T := F_M) (N := 10) hx hb hB in_M t_M t_M_ok n_M hown hK hP hD hS 0 rfl rfl 0 (by decide) (hB _ mf_M_31) (fun _ h9 => h9) rfl (by decide +kernel) rfl rfl (Nat.le_of_ble_eq_true rfl) d_M_lacks_20 (fun H locs hP hD hS => ?_)
      have hP : va_P D cls [(mo, .inr (5, [.int (nI 1), .int mn, .ref m0, .int mg, .ref m1, .ref m2, .ref m3, .ref m4, .ref m5, .ref m6])), (m0, .inl (o0, 16, .inl h)), (m1, .inl (o1, 16, .inl mO)), (m2, .inl (o2, 16, .inl mG)), (m3, .inl (o3, 16, .inl mF)), (m4, .inl (o4, 32, .inl mA)), (m5, .inl (o5, 32, .inl mU)), (m6, .inl (o6, 32, .inl mR))] H := hP
      have hD : va_D A [(mo, .inr (5, [.int (nI 1), .int mn, .ref m0, .int mg, .ref m1, .ref m2, .ref m3, .ref m4, .ref m5, .ref m6])), (m0, .inl (o0, 16, .inl h)), (m1, .inl (o1, 16, .inl mO)), (m2, .inl (o2, 16, .inl mG)), (m3, .inl (o3, 16, .inl mF)), (m4, .inl (o4, 32, .inl mA)), (m5, .inl (o5, 32, .inl mU)), (m6, .inl (o6, 32, .inl mR))] := hD
      refine lv_aload_n hx hb d_M_lacks_23 rfl (lv_at hl 0 rfl) ?_
      refine va_get (D := D) (ci := 5) (v := .int (nI 1)) (C := R_M) (T := F_M) (N := 10) hx hb hB in_M hown hK hP 0 rfl rfl 0 (by decide) (hB _ mf_M_31) (fun _ h9 => h9) rfl d_M_lacks_24 ?_
      refine lv_if_le (tgt := 34) hx hb d_M_lacks_27 rfl (fun hc27 => absurd hc27 (by decide)) (fun _ => ?_)
      refine lv_iconst (v := nI 1) hx hb d_M_lacks_30 (by decide) ?_
      refine lv_goto (tgt := 35) hx hb d_M_lacks_31 rfl ?_
      have hz : (nI 1) = b2i (!(isP x && isP y)) := by first | (rw [hc5, hc12]; rfl) | (rw [hc5]; rfl)
      rw [hz] at hP hD
      have hP9 := hP.sub (ws' := [(mo, .inr (5, [.int (b2i (!(isP x && isP y))), .int mn, .ref m0, .int mg, .ref m1, .ref m2, .ref m3, .ref m4, .ref m5, .ref m6])), (m0, .inl (o0, 16, .inl h)), (m1, .inl (o1, 16, .inl mO)), (m2, .inl (o2, 16, .inl mG)), (m3, .inl (o3, 16, .inl mF)), (m4, .inl (o4, 32, .inl mA)), (m5, .inl (o5, 32, .inl mU)), (m6, .inl (o6, 32, .inl mR))]) [0, 1, 2, 3, 4, 5, 6, 7] rfl
      have hD9 := hD.sub (ws' := [(mo, .inr (5, [.int (b2i (!(isP x && isP y))), .int mn, .ref m0, .int mg, .ref m1, .ref m2, .ref m3, .ref m4, .ref m5, .ref m6])), (m0, .inl (o0, 16, .inl h)), (m1, .inl (o1, 16, .inl mO)), (m2, .inl (o2, 16, .inl mG)), (m3, .inl (o3, 16, .inl mF)), (m4, .inl (o4, 32, .inl mA)), (m5, .inl (o5, 32, .inl mU)), (m6, .inl (o6, 32, .inl mR))]) [0, 1, 2, 3, 4, 5, 6, 7] (by decide) rfl
      subst hAe
      refine xv_top (x' := b2i (!(isP x && isP y))) (by first | (rw [hc5, hc12]; rfl) | (rw [hc5]; rfl)) ?_
      exact W.zret (v := b2i (!(isP x && isP y))) hx hb hr (b2i_nar _) (fun t ht hW => ⟨⟨_, (), rfl, rfl, by rw [ht]; exact hP9, va_K.moved hW.alike hK, hD9⟩, hS.F ht⟩) hS.2.2 d_M_lacks_35
    · have hc12 := b2i_n.mp hc12
      refine lv_iconst (v := nI 0) hx hb d_M_lacks_15 (by decide) ?_
      refine lv_goto (tgt := 20) hx hb d_M_lacks_16 rfl ?_
      refine va_put (D := D) (ci := 5) (v := .int (nI 0)) (ty := .int) (C := R_M) (T := F_M) (N := 10) hx hb hB in_M t_M t_M_ok n_M hown hK hP hD hS 0 rfl rfl 0 (by decide) (hB _ mf_M_31) (fun _ h9 => h9) rfl (by decide +kernel) rfl rfl (Nat.le_of_ble_eq_true rfl) d_M_lacks_20 (fun H locs hP hD hS => ?_)
      have hP : va_P D cls [(mo, .inr (5, [.int (nI 0), .int mn, .ref m0, .int mg, .ref m1, .ref m2, .ref m3, .ref m4, .ref m5, .ref m6])), (m0, .inl (o0, 16, .inl h)), (m1, .inl (o1, 16, .inl mO)), (m2, .inl (o2, 16, .inl mG)), (m3, .inl (o3, 16, .inl mF)), (m4, .inl (o4, 32, .inl mA)), (m5, .inl (o5, 32, .inl mU)), (m6, .inl (o6, 32, .inl mR))] H := hP
      have hD : va_D A [(mo, .inr (5, [.int (nI 0), .int mn, .ref m0, .int mg, .ref m1, .ref m2, .ref m3, .ref m4, .ref m5, .ref m6])), (m0, .inl (o0, 16, .inl h)), (m1, .inl (o1, 16, .inl mO)), (m2, .inl (o2, 16, .inl mG)), (m3, .inl (o3, 16, .inl mF)), (m4, .inl (o4, 32, .inl mA)), (m5, .inl (o5, 32, .inl mU)), (m6, .inl (o6, 32, .inl mR))] := hD
      refine lv_aload_n hx hb d_M_lacks_23 rfl (lv_at hl 0 rfl) ?_
      refine va_get (D := D) (ci := 5) (v := .int (nI 0)) (C := R_M) (T := F_M) (N := 10) hx hb hB in_M hown hK hP 0 rfl rfl 0 (by decide) (hB _ mf_M_31) (fun _ h9 => h9) rfl d_M_lacks_24 ?_
      refine lv_if_le (tgt := 34) hx hb d_M_lacks_27 rfl (fun _ => ?_) (fun hc27 => absurd hc27 (by decide))
      refine lv_iconst (v := nI 0) hx hb d_M_lacks_34 (by decide) ?_
      have hz : (nI 0) = b2i (!(isP x && isP y)) := by first | (rw [hc5, hc12]; rfl) | (rw [hc5]; rfl)
      rw [hz] at hP hD
      have hP9 := hP.sub (ws' := [(mo, .inr (5, [.int (b2i (!(isP x && isP y))), .int mn, .ref m0, .int mg, .ref m1, .ref m2, .ref m3, .ref m4, .ref m5, .ref m6])), (m0, .inl (o0, 16, .inl h)), (m1, .inl (o1, 16, .inl mO)), (m2, .inl (o2, 16, .inl mG)), (m3, .inl (o3, 16, .inl mF)), (m4, .inl (o4, 32, .inl mA)), (m5, .inl (o5, 32, .inl mU)), (m6, .inl (o6, 32, .inl mR))]) [0, 1, 2, 3, 4, 5, 6, 7] rfl
      have hD9 := hD.sub (ws' := [(mo, .inr (5, [.int (b2i (!(isP x && isP y))), .int mn, .ref m0, .int mg, .ref m1, .ref m2, .ref m3, .ref m4, .ref m5, .ref m6])), (m0, .inl (o0, 16, .inl h)), (m1, .inl (o1, 16, .inl mO)), (m2, .inl (o2, 16, .inl mG)), (m3, .inl (o3, 16, .inl mF)), (m4, .inl (o4, 32, .inl mA)), (m5, .inl (o5, 32, .inl mU)), (m6, .inl (o6, 32, .inl mR))]) [0, 1, 2, 3, 4, 5, 6, 7] (by decide) rfl
      subst hAe
      refine xv_top (x' := b2i (!(isP x && isP y))) (by first | (rw [hc5, hc12]; rfl) | (rw [hc5]; rfl)) ?_
      exact W.zret (v := b2i (!(isP x && isP y))) hx hb hr (b2i_nar _) (fun t ht hW => ⟨⟨_, (), rfl, rfl, by rw [ht]; exact hP9, va_K.moved hW.alike hK, hD9⟩, hS.F ht⟩) hS.2.2 d_M_lacks_35
set_option maxHeartbeats 4000000 in
set_option maxRecDepth 100000 in
theorem k_M_clear (l : Launch) (D : va_G) (mo m0 m1 m2 m3 m4 m5 m6 : Nat) (o0 o1 o2 o3 o4 o5 o6 : ClassId) (mc : Int32) (mn : Int32) (mg : Int32) (h : Nat → Int32) (mO : Nat → Int32) (mG : Nat → Int32) (mF : Nat → Int32) (mA : Nat → Int32) (mU : Nat → Int32) (mR : Nat → Int32)  (sz : Nat) : Met l y_M_clear (Cond.code y_M_clear c_M_clear 3 (some .int) :: BS) { frames := 0, cells := 0, slots := 0, locals := 0 } (va_Pc [.ref mo] (xWp D [(mo, .inr (5, [.int mc, .int mn, .ref m0, .int mg, .ref m1, .ref m2, .ref m3, .ref m4, .ref m5, .ref m6])), (m0, .inl (o0, 16, .inl h)), (m1, .inl (o1, 16, .inl mO)), (m2, .inl (o2, 16, .inl mG)), (m3, .inl (o3, 16, .inl mF)), (m4, .inl (o4, 32, .inl mA)), (m5, .inl (o5, 32, .inl mU)), (m6, .inl (o6, 32, .inl mR))] [(o0, .int), (o1, .int), (o2, .int), (o3, .int), (o4, .int), (o5, .int), (o6, .int)] sz)) (xQi D [(mo, .inr (5, [.int mc, .int mn, .ref m0, .int mg, .ref m1, .ref m2, .ref m3, .ref m4, .ref m5, .ref m6])), (m0, .inl (o0, 16, .inl h)), (m1, .inl (o1, 16, .inl mO)), (m2, .inl (o2, 16, .inl mG)), (m3, .inl (o3, 16, .inl mF)), (m4, .inl (o4, 32, .inl mA)), (m5, .inl (o5, 32, .inl mU)), (m6, .inl (o6, 32, .inl mR))] [(mo, .inr (5, [.int (nI 0), .int (nI 0), .ref m0, .int mg, .ref m1, .ref m2, .ref m3, .ref m4, .ref m5, .ref m6])), (m0, .inl (o0, 16, .inl (fun _ => nI 0))), (m1, .inl (o1, 16, .inl mO)), (m2, .inl (o2, 16, .inl mG)), (m3, .inl (o3, 16, .inl mF)), (m4, .inl (o4, 32, .inl mA)), (m5, .inl (o5, 32, .inl mU)), (m6, .inl (o6, 32, .inl mR))] [(o0, .int), (o1, .int), (o2, .int), (o3, .int), (o4, .int), (o5, .int), (o6, .int)] sz (mn)) 0 0 (va_A [(mo, .inr (5, [.int mc, .int mn, .ref m0, .int mg, .ref m1, .ref m2, .ref m3, .ref m4, .ref m5, .ref m6])), (m0, .inl (o0, 16, .inl h)), (m1, .inl (o1, 16, .inl mO)), (m2, .inl (o2, 16, .inl mG)), (m3, .inl (o3, 16, .inl mF)), (m4, .inl (o4, 32, .inl mA)), (m5, .inl (o5, 32, .inl mU)), (m6, .inl (o6, 32, .inl mR))] sz) := by
  refine Met.ofW (cc := c_M_clear) (maxL := 3) (ret := (some .int)) (by decide) rfl ?_
  intro p e s m args below meth c s₁ B hml hv
  obtain ⟨rfl, hsz, hP, hK, hD0, hN⟩ := hv
  have hx := B.exec
  have hb := B.bytes
  have hr := B.returns
  have hB := xB B.pre
  have hown : s.vm.findClass R_M = some m.cls := findClass_of_methodNamed B.named
  have hlocks := B.notSynchronized
  subst hsz
  have hD := hD0.self (sz := s.heap.size)
  obtain ⟨A, hAe⟩ : ∃ A, A = va_A [(mo, .inr (5, [.int mc, .int mn, .ref m0, .int mg, .ref m1, .ref m2, .ref m3, .ref m4, .ref m5, .ref m6])), (m0, .inl (o0, 16, .inl h)), (m1, .inl (o1, 16, .inl mO)), (m2, .inl (o2, 16, .inl mG)), (m3, .inl (o3, 16, .inl mF)), (m4, .inl (o4, 32, .inl mA)), (m5, .inl (o5, 32, .inl mU)), (m6, .inl (o6, 32, .inl mR))] s.heap.size := ⟨_, rfl⟩
  rw [← hAe] at hD
  have hA : ∀ q : Nat, s.heap.size ≤ q → A q := fun q h => by rw [hAe]; exact Or.inr h
  have hS : va_S A s.heap s.heap [] := va_S.rf
  have hl := lv_entry ([.ref mo]) (n := 3) (Nat.le_of_ble_eq_true rfl)
  rw [lg_entry_eq]
  generalize (lg_sl ([.ref mo]) ++ List.replicate (3 - (lg_sl ([.ref mo])).length) Slot.unset).toArray = ls at hl ⊢
  have hl : lv_has ls 3 [(0, .ref mo)] := hl
  refine lv_aload_n hx hb d_M_clear_0 rfl (lv_at hl 0 rfl) ?_
  refine lv_iconst (v := nI 0) hx hb d_M_clear_1 (by decide) ?_
  refine va_put (D := D) (ci := 5) (v := .int (nI 0)) (ty := .int) (C := R_M) (T := F_M) (N := 10) hx hb hB in_M t_M t_M_ok n_M hown hK hP hD hS 0 rfl rfl 0 (by decide) (hB _ mf_M_31) (fun _ h9 => h9) rfl (by decide +kernel) rfl rfl (Nat.le_of_ble_eq_true rfl) d_M_clear_2 (fun H locs hP hD hS => ?_)
  have hP : va_P D cls [(mo, .inr (5, [.int (nI 0), .int mn, .ref m0, .int mg, .ref m1, .ref m2, .ref m3, .ref m4, .ref m5, .ref m6])), (m0, .inl (o0, 16, .inl h)), (m1, .inl (o1, 16, .inl mO)), (m2, .inl (o2, 16, .inl mG)), (m3, .inl (o3, 16, .inl mF)), (m4, .inl (o4, 32, .inl mA)), (m5, .inl (o5, 32, .inl mU)), (m6, .inl (o6, 32, .inl mR))] H := hP
  have hD : va_D A [(mo, .inr (5, [.int (nI 0), .int mn, .ref m0, .int mg, .ref m1, .ref m2, .ref m3, .ref m4, .ref m5, .ref m6])), (m0, .inl (o0, 16, .inl h)), (m1, .inl (o1, 16, .inl mO)), (m2, .inl (o2, 16, .inl mG)), (m3, .inl (o3, 16, .inl mF)), (m4, .inl (o4, 32, .inl mA)), (m5, .inl (o5, 32, .inl mU)), (m6, .inl (o6, 32, .inl mR))] := hD
  refine lv_aload_n hx hb d_M_clear_5 rfl (lv_at hl 0 rfl) ?_
  refine va_get (D := D) (ci := 5) (v := .int mn) (C := R_M) (T := F_M) (N := 10) hx hb hB in_M hown hK hP 0 rfl rfl 1 (by decide) (hB _ mf_M_48) (fun _ h9 => h9) rfl d_M_clear_6 ?_
  refine lv_istore_n hx hb d_M_clear_9 rfl hl (by decide) rfl (fun ls hl => ?_)
  have hl : lv_has ls 3 [(1, .int mn), (0, .ref mo)] := hl
  refine lv_iconst (v := nI 0) hx hb d_M_clear_10 (by decide) ?_
  refine lv_istore_n hx hb d_M_clear_11 rfl hl (by decide) rfl (fun ls hl => ?_)
  have hl : lv_has ls 3 [(2, .int (nI 0)), (1, .int mn), (0, .ref mo)] := hl
  have hP := xP_ext hP 1 (fun k => if k < 0 then nI 0 else h k) rfl (fun j9 hj9 => (if_neg (Nat.not_lt_zero _)).symm)
  have hD := xD_ext hD 1 (y := .inl (o0, 16, .inl (fun k => if k < 0 then nI 0 else h k))) rfl
  have hP : va_P D cls [(mo, .inr (5, [.int (nI 0), .int mn, .ref m0, .int mg, .ref m1, .ref m2, .ref m3, .ref m4, .ref m5, .ref m6])), (m0, .inl (o0, 16, .inl (fun k => if k < 0 then nI 0 else h k))), (m1, .inl (o1, 16, .inl mO)), (m2, .inl (o2, 16, .inl mG)), (m3, .inl (o3, 16, .inl mF)), (m4, .inl (o4, 32, .inl mA)), (m5, .inl (o5, 32, .inl mU)), (m6, .inl (o6, 32, .inl mR))] _ := hP
  have hD : va_D A [(mo, .inr (5, [.int (nI 0), .int mn, .ref m0, .int mg, .ref m1, .ref m2, .ref m3, .ref m4, .ref m5, .ref m6])), (m0, .inl (o0, 16, .inl (fun k => if k < 0 then nI 0 else h k))), (m1, .inl (o1, 16, .inl mO)), (m2, .inl (o2, 16, .inl mG)), (m3, .inl (o3, 16, .inl mF)), (m4, .inl (o4, 32, .inl mA)), (m5, .inl (o5, 32, .inl mU)), (m6, .inl (o6, 32, .inl mR))] := hD
  refine xl_w (fun (u : Nat) ls H locs => ((u ≤ 16)) ∧ lv_has ls 3 [(2, .int (nI u)), (1, .int mn), (0, .ref mo)] ∧ va_P D cls [(mo, .inr (5, [.int (nI 0), .int mn, .ref m0, .int mg, .ref m1, .ref m2, .ref m3, .ref m4, .ref m5, .ref m6])), (m0, .inl (o0, 16, .inl (fun k => if k < u then nI 0 else h k))), (m1, .inl (o1, 16, .inl mO)), (m2, .inl (o2, 16, .inl mG)), (m3, .inl (o3, 16, .inl mF)), (m4, .inl (o4, 32, .inl mA)), (m5, .inl (o5, 32, .inl mU)), (m6, .inl (o6, 32, .inl mR))] H ∧ va_D A [(mo, .inr (5, [.int (nI 0), .int mn, .ref m0, .int mg, .ref m1, .ref m2, .ref m3, .ref m4, .ref m5, .ref m6])), (m0, .inl (o0, 16, .inl (fun k => if k < u then nI 0 else h k))), (m1, .inl (o1, 16, .inl mO)), (m2, .inl (o2, 16, .inl mG)), (m3, .inl (o3, 16, .inl mF)), (m4, .inl (o4, 32, .inl mA)), (m5, .inl (o5, 32, .inl mU)), (m6, .inl (o6, 32, .inl mR))] ∧ va_S A s.heap H locs) (fun u => 16 - u) (fun u ls H locs hI ih12 => ?_) 0 _ ⟨Nat.zero_le _, hl, hP, hD, hS⟩
  obtain ⟨hI, hl, hP, hD, hS⟩ := hI
  have hu := hI
  refine lv_iload_n hx hb d_M_clear_12 rfl (lv_at hl 0 rfl) ?_
  refine lv_bipush (v := nI 16) hx hb d_M_clear_13 (by decide) ?_
  refine lv_icmp_ge (tgt := 31) hx hb d_M_clear_15 rfl (fun hc15 => ?_) (fun hc15 => ?_)
  · have hc15 : 16 ≤ u := (nI_leI (by omega) (by omega)).mp hc15
    have hP := xP_ext hP 1 (fun _ => nI 0) rfl (fun j9 hj9 => if_pos (by omega))
    have hD := xD_ext hD 1 (y := .inl (o0, 16, .inl (fun _ => nI 0))) rfl
    have hP : va_P D cls [(mo, .inr (5, [.int (nI 0), .int mn, .ref m0, .int mg, .ref m1, .ref m2, .ref m3, .ref m4, .ref m5, .ref m6])), (m0, .inl (o0, 16, .inl (fun _ => nI 0))), (m1, .inl (o1, 16, .inl mO)), (m2, .inl (o2, 16, .inl mG)), (m3, .inl (o3, 16, .inl mF)), (m4, .inl (o4, 32, .inl mA)), (m5, .inl (o5, 32, .inl mU)), (m6, .inl (o6, 32, .inl mR))] _ := hP
    have hD : va_D A [(mo, .inr (5, [.int (nI 0), .int mn, .ref m0, .int mg, .ref m1, .ref m2, .ref m3, .ref m4, .ref m5, .ref m6])), (m0, .inl (o0, 16, .inl (fun _ => nI 0))), (m1, .inl (o1, 16, .inl mO)), (m2, .inl (o2, 16, .inl mG)), (m3, .inl (o3, 16, .inl mF)), (m4, .inl (o4, 32, .inl mA)), (m5, .inl (o5, 32, .inl mU)), (m6, .inl (o6, 32, .inl mR))] := hD
    refine lv_aload_n hx hb d_M_clear_31 rfl (lv_at hl 2 rfl) ?_
    refine lv_iconst (v := nI 0) hx hb d_M_clear_32 (by decide) ?_
    refine va_put (D := D) (ci := 5) (v := .int (nI 0)) (ty := .int) (C := R_M) (T := F_M) (N := 10) hx hb hB in_M t_M t_M_ok n_M hown hK hP hD hS 0 rfl rfl 1 (by decide) (hB _ mf_M_48) (fun _ h9 => h9) rfl (by decide +kernel) rfl rfl (Nat.le_of_ble_eq_true rfl) d_M_clear_33 (fun H locs hP hD hS => ?_)
    have hP : va_P D cls [(mo, .inr (5, [.int (nI 0), .int (nI 0), .ref m0, .int mg, .ref m1, .ref m2, .ref m3, .ref m4, .ref m5, .ref m6])), (m0, .inl (o0, 16, .inl (fun _ => nI 0))), (m1, .inl (o1, 16, .inl mO)), (m2, .inl (o2, 16, .inl mG)), (m3, .inl (o3, 16, .inl mF)), (m4, .inl (o4, 32, .inl mA)), (m5, .inl (o5, 32, .inl mU)), (m6, .inl (o6, 32, .inl mR))] H := hP
    have hD : va_D A [(mo, .inr (5, [.int (nI 0), .int (nI 0), .ref m0, .int mg, .ref m1, .ref m2, .ref m3, .ref m4, .ref m5, .ref m6])), (m0, .inl (o0, 16, .inl (fun _ => nI 0))), (m1, .inl (o1, 16, .inl mO)), (m2, .inl (o2, 16, .inl mG)), (m3, .inl (o3, 16, .inl mF)), (m4, .inl (o4, 32, .inl mA)), (m5, .inl (o5, 32, .inl mU)), (m6, .inl (o6, 32, .inl mR))] := hD
    refine lv_iload_n hx hb d_M_clear_36 rfl (lv_at hl 1 rfl) ?_
    have hP9 := hP.sub (ws' := [(mo, .inr (5, [.int (nI 0), .int (nI 0), .ref m0, .int mg, .ref m1, .ref m2, .ref m3, .ref m4, .ref m5, .ref m6])), (m0, .inl (o0, 16, .inl (fun _ => nI 0))), (m1, .inl (o1, 16, .inl mO)), (m2, .inl (o2, 16, .inl mG)), (m3, .inl (o3, 16, .inl mF)), (m4, .inl (o4, 32, .inl mA)), (m5, .inl (o5, 32, .inl mU)), (m6, .inl (o6, 32, .inl mR))]) [0, 1, 2, 3, 4, 5, 6, 7] rfl
    have hD9 := hD.sub (ws' := [(mo, .inr (5, [.int (nI 0), .int (nI 0), .ref m0, .int mg, .ref m1, .ref m2, .ref m3, .ref m4, .ref m5, .ref m6])), (m0, .inl (o0, 16, .inl (fun _ => nI 0))), (m1, .inl (o1, 16, .inl mO)), (m2, .inl (o2, 16, .inl mG)), (m3, .inl (o3, 16, .inl mF)), (m4, .inl (o4, 32, .inl mA)), (m5, .inl (o5, 32, .inl mU)), (m6, .inl (o6, 32, .inl mR))]) [0, 1, 2, 3, 4, 5, 6, 7] (by decide) rfl
    subst hAe
    exact W.iret (v := mn) hx hb hr (fun t ht hW => ⟨⟨_, (), rfl, rfl, by rw [ht]; exact hP9, va_K.moved hW.alike hK, hD9⟩, hS.F ht⟩) hS.2.2 d_M_clear_37
  · have hc15 : ¬ (16 ≤ u) := fun q9 => hc15 ((nI_leI (by omega) (by omega)).mpr q9)
    refine lv_aload_n hx hb d_M_clear_18 rfl (lv_at hl 2 rfl) ?_
    refine va_get (D := D) (ci := 5) (v := .ref m0) (C := R_M) (T := F_M) (N := 10) hx hb hB in_M hown hK hP 0 rfl rfl 2 (by decide) (hB _ mf_M_7) (fun _ h9 => h9) rfl d_M_clear_19 ?_
    refine lv_iload_n hx hb d_M_clear_22 rfl (lv_at hl 0 rfl) ?_
    refine lv_iconst (v := nI 0) hx hb d_M_clear_23 (by decide) ?_
    refine xa_st (u := u) hx hb hK hP hD hS 1 0 rfl rfl (by omega) (by decide) d_M_clear_24 (fun H locs hP hD hS => ?_)
    have hP : va_P D cls [(mo, .inr (5, [.int (nI 0), .int mn, .ref m0, .int mg, .ref m1, .ref m2, .ref m3, .ref m4, .ref m5, .ref m6])), (m0, .inl (o0, 16, .inl (upd (fun k => if k < u then nI 0 else h k) u (nI 0)))), (m1, .inl (o1, 16, .inl mO)), (m2, .inl (o2, 16, .inl mG)), (m3, .inl (o3, 16, .inl mF)), (m4, .inl (o4, 32, .inl mA)), (m5, .inl (o5, 32, .inl mU)), (m6, .inl (o6, 32, .inl mR))] H := hP
    have hD : va_D A [(mo, .inr (5, [.int (nI 0), .int mn, .ref m0, .int mg, .ref m1, .ref m2, .ref m3, .ref m4, .ref m5, .ref m6])), (m0, .inl (o0, 16, .inl (upd (fun k => if k < u then nI 0 else h k) u (nI 0)))), (m1, .inl (o1, 16, .inl mO)), (m2, .inl (o2, 16, .inl mG)), (m3, .inl (o3, 16, .inl mF)), (m4, .inl (o4, 32, .inl mA)), (m5, .inl (o5, 32, .inl mU)), (m6, .inl (o6, 32, .inl mR))] := hD
    have hz : (upd (fun k => if k < u then nI 0 else h k) u (nI 0)) = (fun k => if k < u + 1 then nI 0 else h k) := upd_lt
    rw [hz] at hP hD
    refine lv_iinc hx hb d_M_clear_25 hl (k := 0) rfl (v := nI (u + 1)) (nI_1 u) (by decide) rfl (fun ls hl => ?_)
    have hl : lv_has ls 3 [(2, .int (nI (u + 1))), (1, .int mn), (0, .ref mo)] := hl
    refine lv_goto (tgt := 12) hx hb d_M_clear_28 rfl ?_
    exact ih12 (u + 1) _ H locs ⟨by omega, lv_sub hl [0, 1, 2] rfl, hP, hD, hS⟩ (by omega)
set_option maxHeartbeats 4000000 in
set_option maxRecDepth 100000 in
theorem k_M_add_bad (l : Launch) (D : va_G) (mo m0 m1 m2 m3 m4 m5 m6 : Nat) (o0 o1 o2 o3 o4 o5 o6 : ClassId) (mc : Int32) (mn : Int32) (mg : Int32) (h : Nat → Int32) (mO : Nat → Int32) (mG : Nat → Int32) (mF : Nat → Int32) (mA : Nat → Int32) (mU : Nat → Int32) (mR : Nat → Int32) (x y : Int32) (hb9 : (isP x && isP y && !(decide (x = y))) = false) (sz : Nat) : Met l y_M_add (Cond.code y_M_add c_M_add 5 (some .boolean) :: BS) { frames := 1, cells := 0, slots := 0, locals := 20 } (va_Pc [.ref mo, .int x, .int y] (xWp D [(mo, .inr (5, [.int mc, .int mn, .ref m0, .int mg, .ref m1, .ref m2, .ref m3, .ref m4, .ref m5, .ref m6])), (m0, .inl (o0, 16, .inl h)), (m1, .inl (o1, 16, .inl mO)), (m2, .inl (o2, 16, .inl mG)), (m3, .inl (o3, 16, .inl mF)), (m4, .inl (o4, 32, .inl mA)), (m5, .inl (o5, 32, .inl mU)), (m6, .inl (o6, 32, .inl mR))] [(o0, .int), (o1, .int), (o2, .int), (o3, .int), (o4, .int), (o5, .int), (o6, .int)] sz)) (xQi D [(mo, .inr (5, [.int mc, .int mn, .ref m0, .int mg, .ref m1, .ref m2, .ref m3, .ref m4, .ref m5, .ref m6])), (m0, .inl (o0, 16, .inl h)), (m1, .inl (o1, 16, .inl mO)), (m2, .inl (o2, 16, .inl mG)), (m3, .inl (o3, 16, .inl mF)), (m4, .inl (o4, 32, .inl mA)), (m5, .inl (o5, 32, .inl mU)), (m6, .inl (o6, 32, .inl mR))] [(mo, .inr (5, [.int (nI 1), .int mn, .ref m0, .int mg, .ref m1, .ref m2, .ref m3, .ref m4, .ref m5, .ref m6])), (m0, .inl (o0, 16, .inl h)), (m1, .inl (o1, 16, .inl mO)), (m2, .inl (o2, 16, .inl mG)), (m3, .inl (o3, 16, .inl mF)), (m4, .inl (o4, 32, .inl mA)), (m5, .inl (o5, 32, .inl mU)), (m6, .inl (o6, 32, .inl mR))] [(o0, .int), (o1, .int), (o2, .int), (o3, .int), (o4, .int), (o5, .int), (o6, .int)] sz (b2i false)) 0 0 (va_A [(mo, .inr (5, [.int mc, .int mn, .ref m0, .int mg, .ref m1, .ref m2, .ref m3, .ref m4, .ref m5, .ref m6])), (m0, .inl (o0, 16, .inl h)), (m1, .inl (o1, 16, .inl mO)), (m2, .inl (o2, 16, .inl mG)), (m3, .inl (o3, 16, .inl mF)), (m4, .inl (o4, 32, .inl mA)), (m5, .inl (o5, 32, .inl mU)), (m6, .inl (o6, 32, .inl mR))] sz) := by
  refine Met.ofW (cc := c_M_add) (maxL := 5) (ret := (some .boolean)) (by decide) rfl ?_
  intro p e s m args below meth c s₁ B hml hv
  obtain ⟨rfl, hsz, hP, hK, hD0, hN⟩ := hv
  have hx := B.exec
  have hb := B.bytes
  have hr := B.returns
  have hB := xB B.pre
  have hown : s.vm.findClass R_M = some m.cls := findClass_of_methodNamed B.named
  have hlocks := B.notSynchronized
  subst hsz
  have hD := hD0.self (sz := s.heap.size)
  obtain ⟨A, hAe⟩ : ∃ A, A = va_A [(mo, .inr (5, [.int mc, .int mn, .ref m0, .int mg, .ref m1, .ref m2, .ref m3, .ref m4, .ref m5, .ref m6])), (m0, .inl (o0, 16, .inl h)), (m1, .inl (o1, 16, .inl mO)), (m2, .inl (o2, 16, .inl mG)), (m3, .inl (o3, 16, .inl mF)), (m4, .inl (o4, 32, .inl mA)), (m5, .inl (o5, 32, .inl mU)), (m6, .inl (o6, 32, .inl mR))] s.heap.size := ⟨_, rfl⟩
  rw [← hAe] at hD
  have hA : ∀ q : Nat, s.heap.size ≤ q → A q := fun q h => by rw [hAe]; exact Or.inr h
  have hS : va_S A s.heap s.heap [] := va_S.rf
  have hl := lv_entry ([.ref mo, .int x, .int y]) (n := 5) (Nat.le_of_ble_eq_true rfl)
  rw [lg_entry_eq]
  generalize (lg_sl ([.ref mo, .int x, .int y]) ++ List.replicate (5 - (lg_sl ([.ref mo, .int x, .int y])).length) Slot.unset).toArray = ls at hl ⊢
  have hl : lv_has ls 5 [(0, .ref mo), (1, .int x), (2, .int y)] := hl
  refine lv_iload_n hx hb d_M_add_0 rfl (lv_at hl 1 rfl) ?_
  refine xr_cal (va_runS (As := [.int x]) (rest := []) ⟨hx, hb, hml, hown, hB⟩ (k_M_isPlace l D  x) ⟨callB_of 1 hB (xg0 mc_M_isPlace) rfl rfl rfl (hB _ mz_M) (hB _ ml_M_44) (by decide +kernel) ⟨Nat.le_of_ble_eq_true rfl, Nat.le_of_ble_eq_true rfl⟩, hB _ ms_M_isPlace⟩ (xpS (ws := []) (tys := []) (hP.sub [] rfl) (hK.sub [] rfl) hN) rfl rfl hl.1 rfl (lv_room (Nat.le_of_ble_eq_true rfl)) d_M_add_1 ⟨Nat.le_of_ble_eq_true rfl, Nat.le_of_ble_eq_true rfl⟩) ?_
  refine lv_if_eq (tgt := 23) hx hb d_M_add_4 rfl (fun hc4 => ?_) (fun hc4 => ?_)
  · have hc4 := b2i_0.mp hc4
    refine lv_iconst (v := nI 0) hx hb d_M_add_23 (by decide) ?_
    refine lv_istore_n hx hb d_M_add_24 rfl hl (by decide) rfl (fun ls hl => ?_)
    have hl : lv_has ls 5 [(3, .int (nI 0)), (0, .ref mo), (1, .int x), (2, .int y)] := hl
    refine lv_iload_n hx hb d_M_add_25 rfl (lv_at hl 0 rfl) ?_
    refine lv_if_eq (tgt := 46) hx hb d_M_add_26 rfl (fun _ => ?_) (fun hc26 => absurd hc26 (by decide))
    refine lv_iconst (v := nI 0) hx hb d_M_add_46 (by decide) ?_
    refine lv_istore hx hb d_M_add_47 hl (by decide) rfl (fun ls hl => ?_)
    have hl : lv_has ls 5 [(4, .int (nI 0)), (3, .int (nI 0)), (0, .ref mo), (1, .int x), (2, .int y)] := hl
    refine lv_aload_n hx hb d_M_add_49 rfl (lv_at hl 2 rfl) ?_
    refine lv_iload_n hx hb d_M_add_50 rfl (lv_at hl 1 rfl) ?_
    refine lv_if_ne (tgt := 58) hx hb d_M_add_51 rfl (fun hc51 => absurd hc51 (by decide)) (fun _ => ?_)
    refine lv_iconst (v := nI 1) hx hb d_M_add_54 (by decide) ?_
    refine lv_goto (tgt := 77) hx hb d_M_add_55 rfl ?_
    refine va_put (D := D) (ci := 5) (v := .int (nI 1)) (ty := .int) (C := R_M) (T := F_M) (N := 10) hx hb hB in_M t_M t_M_ok n_M hown hK hP hD hS 0 rfl rfl 0 (by decide) (hB _ mf_M_31) (fun _ h9 => h9) rfl (by decide +kernel) rfl rfl (Nat.le_of_ble_eq_true rfl) d_M_add_77 (fun H locs hP hD hS => ?_)
    have hP : va_P D cls [(mo, .inr (5, [.int (nI 1), .int mn, .ref m0, .int mg, .ref m1, .ref m2, .ref m3, .ref m4, .ref m5, .ref m6])), (m0, .inl (o0, 16, .inl h)), (m1, .inl (o1, 16, .inl mO)), (m2, .inl (o2, 16, .inl mG)), (m3, .inl (o3, 16, .inl mF)), (m4, .inl (o4, 32, .inl mA)), (m5, .inl (o5, 32, .inl mU)), (m6, .inl (o6, 32, .inl mR))] H := hP
    have hD : va_D A [(mo, .inr (5, [.int (nI 1), .int mn, .ref m0, .int mg, .ref m1, .ref m2, .ref m3, .ref m4, .ref m5, .ref m6])), (m0, .inl (o0, 16, .inl h)), (m1, .inl (o1, 16, .inl mO)), (m2, .inl (o2, 16, .inl mG)), (m3, .inl (o3, 16, .inl mF)), (m4, .inl (o4, 32, .inl mA)), (m5, .inl (o5, 32, .inl mU)), (m6, .inl (o6, 32, .inl mR))] := hD
    refine lv_aload_n hx hb d_M_add_80 rfl (lv_at hl 2 rfl) ?_
    refine va_get (D := D) (ci := 5) (v := .int (nI 1)) (C := R_M) (T := F_M) (N := 10) hx hb hB in_M hown hK hP 0 rfl rfl 0 (by decide) (hB _ mf_M_31) (fun _ h9 => h9) rfl d_M_add_81 ?_
    refine lv_if_gt (tgt := 92) hx hb d_M_add_84 rfl (fun _ => ?_) (fun hc84 => absurd hc84 (by decide))
    refine lv_iconst (v := nI 0) hx hb d_M_add_92 (by decide) ?_
    have hP9 := hP.sub (ws' := [(mo, .inr (5, [.int (nI 1), .int mn, .ref m0, .int mg, .ref m1, .ref m2, .ref m3, .ref m4, .ref m5, .ref m6])), (m0, .inl (o0, 16, .inl h)), (m1, .inl (o1, 16, .inl mO)), (m2, .inl (o2, 16, .inl mG)), (m3, .inl (o3, 16, .inl mF)), (m4, .inl (o4, 32, .inl mA)), (m5, .inl (o5, 32, .inl mU)), (m6, .inl (o6, 32, .inl mR))]) [0, 1, 2, 3, 4, 5, 6, 7] rfl
    have hD9 := hD.sub (ws' := [(mo, .inr (5, [.int (nI 1), .int mn, .ref m0, .int mg, .ref m1, .ref m2, .ref m3, .ref m4, .ref m5, .ref m6])), (m0, .inl (o0, 16, .inl h)), (m1, .inl (o1, 16, .inl mO)), (m2, .inl (o2, 16, .inl mG)), (m3, .inl (o3, 16, .inl mF)), (m4, .inl (o4, 32, .inl mA)), (m5, .inl (o5, 32, .inl mU)), (m6, .inl (o6, 32, .inl mR))]) [0, 1, 2, 3, 4, 5, 6, 7] (by decide) rfl
    subst hAe
    refine xv_top (x' := b2i false) (rfl) ?_
    exact W.zret (v := b2i false) hx hb hr (b2i_nar _) (fun t ht hW => ⟨⟨_, (), rfl, rfl, by rw [ht]; exact hP9, va_K.moved hW.alike hK, hD9⟩, hS.F ht⟩) hS.2.2 d_M_add_93
  · have hc4 := b2i_n.mp hc4
    refine lv_iload_n hx hb d_M_add_7 rfl (lv_at hl 2 rfl) ?_
    refine xr_cal (va_runS (As := [.int y]) (rest := []) ⟨hx, hb, hml, hown, hB⟩ (k_M_isPlace l D  y) ⟨callB_of 1 hB (xg0 mc_M_isPlace) rfl rfl rfl (hB _ mz_M) (hB _ ml_M_44) (by decide +kernel) ⟨Nat.le_of_ble_eq_true rfl, Nat.le_of_ble_eq_true rfl⟩, hB _ ms_M_isPlace⟩ (xpS (ws := []) (tys := []) (hP.sub [] rfl) (hK.sub [] rfl) hN) rfl rfl hl.1 rfl (lv_room (Nat.le_of_ble_eq_true rfl)) d_M_add_8 ⟨Nat.le_of_ble_eq_true rfl, Nat.le_of_ble_eq_true rfl⟩) ?_
    refine lv_if_eq (tgt := 23) hx hb d_M_add_11 rfl (fun hc11 => ?_) (fun hc11 => ?_)
    · have hc11 := b2i_0.mp hc11
      refine lv_iconst (v := nI 0) hx hb d_M_add_23 (by decide) ?_
      refine lv_istore_n hx hb d_M_add_24 rfl hl (by decide) rfl (fun ls hl => ?_)
      have hl : lv_has ls 5 [(3, .int (nI 0)), (0, .ref mo), (1, .int x), (2, .int y)] := hl
      refine lv_iload_n hx hb d_M_add_25 rfl (lv_at hl 0 rfl) ?_
      refine lv_if_eq (tgt := 46) hx hb d_M_add_26 rfl (fun _ => ?_) (fun hc26 => absurd hc26 (by decide))
      refine lv_iconst (v := nI 0) hx hb d_M_add_46 (by decide) ?_
      refine lv_istore hx hb d_M_add_47 hl (by decide) rfl (fun ls hl => ?_)
      have hl : lv_has ls 5 [(4, .int (nI 0)), (3, .int (nI 0)), (0, .ref mo), (1, .int x), (2, .int y)] := hl
      refine lv_aload_n hx hb d_M_add_49 rfl (lv_at hl 2 rfl) ?_
      refine lv_iload_n hx hb d_M_add_50 rfl (lv_at hl 1 rfl) ?_
      refine lv_if_ne (tgt := 58) hx hb d_M_add_51 rfl (fun hc51 => absurd hc51 (by decide)) (fun _ => ?_)
      refine lv_iconst (v := nI 1) hx hb d_M_add_54 (by decide) ?_
      refine lv_goto (tgt := 77) hx hb d_M_add_55 rfl ?_
      refine va_put (D := D) (ci := 5) (v := .int (nI 1)) (ty := .int) (C := R_M) (T := F_M) (N := 10) hx hb hB in_M t_M t_M_ok n_M hown hK hP hD hS 0 rfl rfl 0 (by decide) (hB _ mf_M_31) (fun _ h9 => h9) rfl (by decide +kernel) rfl rfl (Nat.le_of_ble_eq_true rfl) d_M_add_77 (fun H locs hP hD hS => ?_)
      have hP : va_P D cls [(mo, .inr (5, [.int (nI 1), .int mn, .ref m0, .int mg, .ref m1, .ref m2, .ref m3, .ref m4, .ref m5, .ref m6])), (m0, .inl (o0, 16, .inl h)), (m1, .inl (o1, 16, .inl mO)), (m2, .inl (o2, 16, .inl mG)), (m3, .inl (o3, 16, .inl mF)), (m4, .inl (o4, 32, .inl mA)), (m5, .inl (o5, 32, .inl mU)), (m6, .inl (o6, 32, .inl mR))] H := hP
      have hD : va_D A [(mo, .inr (5, [.int (nI 1), .int mn, .ref m0, .int mg, .ref m1, .ref m2, .ref m3, .ref m4, .ref m5, .ref m6])), (m0, .inl (o0, 16, .inl h)), (m1, .inl (o1, 16, .inl mO)), (m2, .inl (o2, 16, .inl mG)), (m3, .inl (o3, 16, .inl mF)), (m4, .inl (o4, 32, .inl mA)), (m5, .inl (o5, 32, .inl mU)), (m6, .inl (o6, 32, .inl mR))] := hD
      refine lv_aload_n hx hb d_M_add_80 rfl (lv_at hl 2 rfl) ?_
      refine va_get (D := D) (ci := 5) (v := .int (nI 1)) (C := R_M) (T := F_M) (N := 10) hx hb hB in_M hown hK hP 0 rfl rfl 0 (by decide) (hB _ mf_M_31) (fun _ h9 => h9) rfl d_M_add_81 ?_
      refine lv_if_gt (tgt := 92) hx hb d_M_add_84 rfl (fun _ => ?_) (fun hc84 => absurd hc84 (by decide))
      refine lv_iconst (v := nI 0) hx hb d_M_add_92 (by decide) ?_
      have hP9 := hP.sub (ws' := [(mo, .inr (5, [.int (nI 1), .int mn, .ref m0, .int mg, .ref m1, .ref m2, .ref m3, .ref m4, .ref m5, .ref m6])), (m0, .inl (o0, 16, .inl h)), (m1, .inl (o1, 16, .inl mO)), (m2, .inl (o2, 16, .inl mG)), (m3, .inl (o3, 16, .inl mF)), (m4, .inl (o4, 32, .inl mA)), (m5, .inl (o5, 32, .inl mU)), (m6, .inl (o6, 32, .inl mR))]) [0, 1, 2, 3, 4, 5, 6, 7] rfl
      have hD9 := hD.sub (ws' := [(mo, .inr (5, [.int (nI 1), .int mn, .ref m0, .int mg, .ref m1, .ref m2, .ref m3, .ref m4, .ref m5, .ref m6])), (m0, .inl (o0, 16, .inl h)), (m1, .inl (o1, 16, .inl mO)), (m2, .inl (o2, 16, .inl mG)), (m3, .inl (o3, 16, .inl mF)), (m4, .inl (o4, 32, .inl mA)), (m5, .inl (o5, 32, .inl mU)), (m6, .inl (o6, 32, .inl mR))]) [0, 1, 2, 3, 4, 5, 6, 7] (by decide) rfl
      subst hAe
      refine xv_top (x' := b2i false) (rfl) ?_
      exact W.zret (v := b2i false) hx hb hr (b2i_nar _) (fun t ht hW => ⟨⟨_, (), rfl, rfl, by rw [ht]; exact hP9, va_K.moved hW.alike hK, hD9⟩, hS.F ht⟩) hS.2.2 d_M_add_93
    · have hc11 := b2i_n.mp hc11
      refine lv_iload_n hx hb d_M_add_14 rfl (lv_at hl 1 rfl) ?_
      refine lv_iload_n hx hb d_M_add_15 rfl (lv_at hl 2 rfl) ?_
      refine lv_icmp_eq (tgt := 23) hx hb d_M_add_16 rfl (fun hc16 => ?_) (fun hc16 => ?_)
      · refine lv_iconst (v := nI 0) hx hb d_M_add_23 (by decide) ?_
        refine lv_istore_n hx hb d_M_add_24 rfl hl (by decide) rfl (fun ls hl => ?_)
        have hl : lv_has ls 5 [(3, .int (nI 0)), (0, .ref mo), (1, .int x), (2, .int y)] := hl
        refine lv_iload_n hx hb d_M_add_25 rfl (lv_at hl 0 rfl) ?_
        refine lv_if_eq (tgt := 46) hx hb d_M_add_26 rfl (fun _ => ?_) (fun hc26 => absurd hc26 (by decide))
        refine lv_iconst (v := nI 0) hx hb d_M_add_46 (by decide) ?_
        refine lv_istore hx hb d_M_add_47 hl (by decide) rfl (fun ls hl => ?_)
        have hl : lv_has ls 5 [(4, .int (nI 0)), (3, .int (nI 0)), (0, .ref mo), (1, .int x), (2, .int y)] := hl
        refine lv_aload_n hx hb d_M_add_49 rfl (lv_at hl 2 rfl) ?_
        refine lv_iload_n hx hb d_M_add_50 rfl (lv_at hl 1 rfl) ?_
        refine lv_if_ne (tgt := 58) hx hb d_M_add_51 rfl (fun hc51 => absurd hc51 (by decide)) (fun _ => ?_)
        refine lv_iconst (v := nI 1) hx hb d_M_add_54 (by decide) ?_
        refine lv_goto (tgt := 77) hx hb d_M_add_55 rfl ?_
        refine va_put (D := D) (ci := 5) (v := .int (nI 1)) (ty := .int) (C := R_M) (T := F_M) (N := 10) hx hb hB in_M t_M t_M_ok n_M hown hK hP hD hS 0 rfl rfl 0 (by decide) (hB _ mf_M_31) (fun _ h9 => h9) rfl (by decide +kernel) rfl rfl (Nat.le_of_ble_eq_true rfl) d_M_add_77 (fun H locs hP hD hS => ?_)
        have hP : va_P D cls [(mo, .inr (5, [.int (nI 1), .int mn, .ref m0, .int mg, .ref m1, .ref m2, .ref m3, .ref m4, .ref m5, .ref m6])), (m0, .inl (o0, 16, .inl h)), (m1, .inl (o1, 16, .inl mO)), (m2, .inl (o2, 16, .inl mG)), (m3, .inl (o3, 16, .inl mF)), (m4, .inl (o4, 32, .inl mA)), (m5, .inl (o5, 32, .inl mU)), (m6, .inl (o6, 32, .inl mR))] H := hP
        have hD : va_D A [(mo, .inr (5, [.int (nI 1), .int mn, .ref m0, .int mg, .ref m1, .ref m2, .ref m3, .ref m4, .ref m5, .ref m6])), (m0, .inl (o0, 16, .inl h)), (m1, .inl (o1, 16, .inl mO)), (m2, .inl (o2, 16, .inl mG)), (m3, .inl (o3, 16, .inl mF)), (m4, .inl (o4, 32, .inl mA)), (m5, .inl (o5, 32, .inl mU)), (m6, .inl (o6, 32, .inl mR))] := hD
        refine lv_aload_n hx hb d_M_add_80 rfl (lv_at hl 2 rfl) ?_
        refine va_get (D := D) (ci := 5) (v := .int (nI 1)) (C := R_M) (T := F_M) (N := 10) hx hb hB in_M hown hK hP 0 rfl rfl 0 (by decide) (hB _ mf_M_31) (fun _ h9 => h9) rfl d_M_add_81 ?_
        refine lv_if_gt (tgt := 92) hx hb d_M_add_84 rfl (fun _ => ?_) (fun hc84 => absurd hc84 (by decide))
        refine lv_iconst (v := nI 0) hx hb d_M_add_92 (by decide) ?_
        have hP9 := hP.sub (ws' := [(mo, .inr (5, [.int (nI 1), .int mn, .ref m0, .int mg, .ref m1, .ref m2, .ref m3, .ref m4, .ref m5, .ref m6])), (m0, .inl (o0, 16, .inl h)), (m1, .inl (o1, 16, .inl mO)), (m2, .inl (o2, 16, .inl mG)), (m3, .inl (o3, 16, .inl mF)), (m4, .inl (o4, 32, .inl mA)), (m5, .inl (o5, 32, .inl mU)), (m6, .inl (o6, 32, .inl mR))]) [0, 1, 2, 3, 4, 5, 6, 7] rfl
        have hD9 := hD.sub (ws' := [(mo, .inr (5, [.int (nI 1), .int mn, .ref m0, .int mg, .ref m1, .ref m2, .ref m3, .ref m4, .ref m5, .ref m6])), (m0, .inl (o0, 16, .inl h)), (m1, .inl (o1, 16, .inl mO)), (m2, .inl (o2, 16, .inl mG)), (m3, .inl (o3, 16, .inl mF)), (m4, .inl (o4, 32, .inl mA)), (m5, .inl (o5, 32, .inl mU)), (m6, .inl (o6, 32, .inl mR))]) [0, 1, 2, 3, 4, 5, 6, 7] (by decide) rfl
        subst hAe
        refine xv_top (x' := b2i false) (rfl) ?_
        exact W.zret (v := b2i false) hx hb hr (b2i_nar _) (fun t ht hW => ⟨⟨_, (), rfl, rfl, by rw [ht]; exact hP9, va_K.moved hW.alike hK, hD9⟩, hS.F ht⟩) hS.2.2 d_M_add_93
      · exact absurd hb9 (by rw [hc4, hc11, decide_eq_false hc16]; decide)
set_option maxHeartbeats 4000000 in
set_option maxRecDepth 100000 in
theorem k_M_add_there (l : Launch) (D : va_G) (mo m0 m1 m2 m3 m4 m5 m6 : Nat) (o0 o1 o2 o3 o4 o5 o6 : ClassId) (mc : Int32) (mn : Int32) (mg : Int32) (h : Nat → Int32) (mO : Nat → Int32) (mG : Nat → Int32) (mF : Nat → Int32) (mA : Nat → Int32) (mU : Nat → Int32) (mR : Nat → Int32) (u v : Nat) (hu : u < 16) (hv : v < 16) (huv : ¬ u = v) (hb9 : bt (h u) v = true) (sz : Nat) : Met l y_M_add (Cond.code y_M_add c_M_add 5 (some .boolean) :: BS) { frames := 1, cells := 0, slots := 0, locals := 21 } (va_Pc [.ref mo, .int (nI u), .int (nI v)] (xWp D [(mo, .inr (5, [.int mc, .int mn, .ref m0, .int mg, .ref m1, .ref m2, .ref m3, .ref m4, .ref m5, .ref m6])), (m0, .inl (o0, 16, .inl h)), (m1, .inl (o1, 16, .inl mO)), (m2, .inl (o2, 16, .inl mG)), (m3, .inl (o3, 16, .inl mF)), (m4, .inl (o4, 32, .inl mA)), (m5, .inl (o5, 32, .inl mU)), (m6, .inl (o6, 32, .inl mR))] [(o0, .int), (o1, .int), (o2, .int), (o3, .int), (o4, .int), (o5, .int), (o6, .int)] sz)) (xQi D [(mo, .inr (5, [.int mc, .int mn, .ref m0, .int mg, .ref m1, .ref m2, .ref m3, .ref m4, .ref m5, .ref m6])), (m0, .inl (o0, 16, .inl h)), (m1, .inl (o1, 16, .inl mO)), (m2, .inl (o2, 16, .inl mG)), (m3, .inl (o3, 16, .inl mF)), (m4, .inl (o4, 32, .inl mA)), (m5, .inl (o5, 32, .inl mU)), (m6, .inl (o6, 32, .inl mR))] [(mo, .inr (5, [.int (nI 0), .int mn, .ref m0, .int mg, .ref m1, .ref m2, .ref m3, .ref m4, .ref m5, .ref m6])), (m0, .inl (o0, 16, .inl h)), (m1, .inl (o1, 16, .inl mO)), (m2, .inl (o2, 16, .inl mG)), (m3, .inl (o3, 16, .inl mF)), (m4, .inl (o4, 32, .inl mA)), (m5, .inl (o5, 32, .inl mU)), (m6, .inl (o6, 32, .inl mR))] [(o0, .int), (o1, .int), (o2, .int), (o3, .int), (o4, .int), (o5, .int), (o6, .int)] sz (b2i false)) 0 0 (va_A [(mo, .inr (5, [.int mc, .int mn, .ref m0, .int mg, .ref m1, .ref m2, .ref m3, .ref m4, .ref m5, .ref m6])), (m0, .inl (o0, 16, .inl h)), (m1, .inl (o1, 16, .inl mO)), (m2, .inl (o2, 16, .inl mG)), (m3, .inl (o3, 16, .inl mF)), (m4, .inl (o4, 32, .inl mA)), (m5, .inl (o5, 32, .inl mU)), (m6, .inl (o6, 32, .inl mR))] sz) := by
  refine Met.ofW (cc := c_M_add) (maxL := 5) (ret := (some .boolean)) (by decide) rfl ?_
  intro p e s m args below meth c s₁ B hml hv
  obtain ⟨rfl, hsz, hP, hK, hD0, hN⟩ := hv
  have hx := B.exec
  have hb := B.bytes
  have hr := B.returns
  have hB := xB B.pre
  have hown : s.vm.findClass R_M = some m.cls := findClass_of_methodNamed B.named
  have hlocks := B.notSynchronized
  subst hsz
  have hD := hD0.self (sz := s.heap.size)
  obtain ⟨A, hAe⟩ : ∃ A, A = va_A [(mo, .inr (5, [.int mc, .int mn, .ref m0, .int mg, .ref m1, .ref m2, .ref m3, .ref m4, .ref m5, .ref m6])), (m0, .inl (o0, 16, .inl h)), (m1, .inl (o1, 16, .inl mO)), (m2, .inl (o2, 16, .inl mG)), (m3, .inl (o3, 16, .inl mF)), (m4, .inl (o4, 32, .inl mA)), (m5, .inl (o5, 32, .inl mU)), (m6, .inl (o6, 32, .inl mR))] s.heap.size := ⟨_, rfl⟩
  rw [← hAe] at hD
  have hA : ∀ q : Nat, s.heap.size ≤ q → A q := fun q h => by rw [hAe]; exact Or.inr h
  have hS : va_S A s.heap s.heap [] := va_S.rf
  have hl := lv_entry ([.ref mo, .int (nI u), .int (nI v)]) (n := 5) (Nat.le_of_ble_eq_true rfl)
  rw [lg_entry_eq]
  generalize (lg_sl ([.ref mo, .int (nI u), .int (nI v)]) ++ List.replicate (5 - (lg_sl ([.ref mo, .int (nI u), .int (nI v)])).length) Slot.unset).toArray = ls at hl ⊢
  have hl : lv_has ls 5 [(0, .ref mo), (1, .int (nI u)), (2, .int (nI v))] := hl
  refine lv_iload_n hx hb d_M_add_0 rfl (lv_at hl 1 rfl) ?_
  refine xr_cal (va_runS (As := [.int (nI u)]) (rest := []) ⟨hx, hb, hml, hown, hB⟩ (k_M_isPlace l D  (nI u)) ⟨callB_of 1 hB (xg0 mc_M_isPlace) rfl rfl rfl (hB _ mz_M) (hB _ ml_M_44) (by decide +kernel) ⟨Nat.le_of_ble_eq_true rfl, Nat.le_of_ble_eq_true rfl⟩, hB _ ms_M_isPlace⟩ (xpS (ws := []) (tys := []) (hP.sub [] rfl) (hK.sub [] rfl) hN) rfl rfl hl.1 rfl (lv_room (Nat.le_of_ble_eq_true rfl)) d_M_add_1 ⟨Nat.le_of_ble_eq_true rfl, Nat.le_of_ble_eq_true rfl⟩) ?_
  refine lv_if_eq (tgt := 23) hx hb d_M_add_4 rfl (fun hc4 => ?_) (fun hc4 => ?_)
  · have hc4 := b2i_0.mp hc4
    exact absurd hc4 (by rw [isP_nI (by omega)]; decide)
  · have hc4 := b2i_n.mp hc4
    refine lv_iload_n hx hb d_M_add_7 rfl (lv_at hl 2 rfl) ?_
    refine xr_cal (va_runS (As := [.int (nI v)]) (rest := []) ⟨hx, hb, hml, hown, hB⟩ (k_M_isPlace l D  (nI v)) ⟨callB_of 1 hB (xg0 mc_M_isPlace) rfl rfl rfl (hB _ mz_M) (hB _ ml_M_44) (by decide +kernel) ⟨Nat.le_of_ble_eq_true rfl, Nat.le_of_ble_eq_true rfl⟩, hB _ ms_M_isPlace⟩ (xpS (ws := []) (tys := []) (hP.sub [] rfl) (hK.sub [] rfl) hN) rfl rfl hl.1 rfl (lv_room (Nat.le_of_ble_eq_true rfl)) d_M_add_8 ⟨Nat.le_of_ble_eq_true rfl, Nat.le_of_ble_eq_true rfl⟩) ?_
    refine lv_if_eq (tgt := 23) hx hb d_M_add_11 rfl (fun hc11 => ?_) (fun hc11 => ?_)
    · have hc11 := b2i_0.mp hc11
      exact absurd hc11 (by rw [isP_nI (by omega)]; decide)
    · have hc11 := b2i_n.mp hc11
      refine lv_iload_n hx hb d_M_add_14 rfl (lv_at hl 1 rfl) ?_
      refine lv_iload_n hx hb d_M_add_15 rfl (lv_at hl 2 rfl) ?_
      refine lv_icmp_eq (tgt := 23) hx hb d_M_add_16 rfl (fun hc16 => ?_) (fun hc16 => ?_)
      · have hc16 : u = v := (nI_eq (by omega) (by omega)).mp hc16
        exact absurd hc16 huv
      · have hc16 : ¬ (u = v) := fun q9 => hc16 ((nI_eq (by omega) (by omega)).mpr q9)
        refine lv_iconst (v := nI 1) hx hb d_M_add_19 (by decide) ?_
        refine lv_goto (tgt := 24) hx hb d_M_add_20 rfl ?_
        refine lv_istore_n hx hb d_M_add_24 rfl hl (by decide) rfl (fun ls hl => ?_)
        have hl : lv_has ls 5 [(3, .int (nI 1)), (0, .ref mo), (1, .int (nI u)), (2, .int (nI v))] := hl
        refine lv_iload_n hx hb d_M_add_25 rfl (lv_at hl 0 rfl) ?_
        refine lv_if_eq (tgt := 46) hx hb d_M_add_26 rfl (fun hc26 => absurd hc26 (by decide)) (fun _ => ?_)
        refine lv_aload_n hx hb d_M_add_29 rfl (lv_at hl 1 rfl) ?_
        refine va_get (D := D) (ci := 5) (v := .ref m0) (C := R_M) (T := F_M) (N := 10) hx hb hB in_M hown hK hP 0 rfl rfl 2 (by decide) (hB _ mf_M_7) (fun _ h9 => h9) rfl d_M_add_30 ?_
        refine lv_iload_n hx hb d_M_add_33 rfl (lv_at hl 2 rfl) ?_
        refine xa_ld (u := u) hx hb hK hP 1 0 rfl rfl (by omega) (by decide) d_M_add_34 ?_
        refine lv_iload_n hx hb d_M_add_35 rfl (lv_at hl 3 rfl) ?_
        refine xr_cal (va_runS (As := [.int (h u), .int (nI v)]) (rest := []) ⟨hx, hb, hml, hown, hB⟩ (k_M_has l D  (h u) v (by omega)) ⟨callB_of 2 hB (xg0 mc_M_has) rfl rfl rfl (hB _ mz_M) (hB _ ml_M_35) (by decide +kernel) ⟨Nat.le_of_ble_eq_true rfl, Nat.le_of_ble_eq_true rfl⟩, hB _ ms_M_has⟩ (xpS (ws := []) (tys := []) (hP.sub [] rfl) (hK.sub [] rfl) hN) rfl rfl hl.1 rfl (lv_room (Nat.le_of_ble_eq_true rfl)) d_M_add_36 ⟨Nat.le_of_ble_eq_true rfl, Nat.le_of_ble_eq_true rfl⟩) ?_
        refine lv_if_eq (tgt := 46) hx hb d_M_add_39 rfl (fun hc39 => ?_) (fun hc39 => ?_)
        · have hc39 := b2i_0.mp hc39
          exact absurd hb9 (by rw [hc39]; decide)
        · have hc39 := b2i_n.mp hc39
          refine lv_iconst (v := nI 1) hx hb d_M_add_42 (by decide) ?_
          refine lv_goto (tgt := 47) hx hb d_M_add_43 rfl ?_
          refine lv_istore hx hb d_M_add_47 hl (by decide) rfl (fun ls hl => ?_)
          have hl : lv_has ls 5 [(4, .int (nI 1)), (3, .int (nI 1)), (0, .ref mo), (1, .int (nI u)), (2, .int (nI v))] := hl
          refine lv_aload_n hx hb d_M_add_49 rfl (lv_at hl 2 rfl) ?_
          refine lv_iload_n hx hb d_M_add_50 rfl (lv_at hl 1 rfl) ?_
          refine lv_if_ne (tgt := 58) hx hb d_M_add_51 rfl (fun _ => ?_) (fun hc51 => absurd hc51 (by decide))
          refine lv_iload hx hb d_M_add_58 (lv_at hl 0 rfl) ?_
          refine lv_if_ne (tgt := 76) hx hb d_M_add_60 rfl (fun _ => ?_) (fun hc60 => absurd hc60 (by decide))
          refine lv_iconst (v := nI 0) hx hb d_M_add_76 (by decide) ?_
          refine va_put (D := D) (ci := 5) (v := .int (nI 0)) (ty := .int) (C := R_M) (T := F_M) (N := 10) hx hb hB in_M t_M t_M_ok n_M hown hK hP hD hS 0 rfl rfl 0 (by decide) (hB _ mf_M_31) (fun _ h9 => h9) rfl (by decide +kernel) rfl rfl (Nat.le_of_ble_eq_true rfl) d_M_add_77 (fun H locs hP hD hS => ?_)
          have hP : va_P D cls [(mo, .inr (5, [.int (nI 0), .int mn, .ref m0, .int mg, .ref m1, .ref m2, .ref m3, .ref m4, .ref m5, .ref m6])), (m0, .inl (o0, 16, .inl h)), (m1, .inl (o1, 16, .inl mO)), (m2, .inl (o2, 16, .inl mG)), (m3, .inl (o3, 16, .inl mF)), (m4, .inl (o4, 32, .inl mA)), (m5, .inl (o5, 32, .inl mU)), (m6, .inl (o6, 32, .inl mR))] H := hP
          have hD : va_D A [(mo, .inr (5, [.int (nI 0), .int mn, .ref m0, .int mg, .ref m1, .ref m2, .ref m3, .ref m4, .ref m5, .ref m6])), (m0, .inl (o0, 16, .inl h)), (m1, .inl (o1, 16, .inl mO)), (m2, .inl (o2, 16, .inl mG)), (m3, .inl (o3, 16, .inl mF)), (m4, .inl (o4, 32, .inl mA)), (m5, .inl (o5, 32, .inl mU)), (m6, .inl (o6, 32, .inl mR))] := hD
          refine lv_aload_n hx hb d_M_add_80 rfl (lv_at hl 2 rfl) ?_
          refine va_get (D := D) (ci := 5) (v := .int (nI 0)) (C := R_M) (T := F_M) (N := 10) hx hb hB in_M hown hK hP 0 rfl rfl 0 (by decide) (hB _ mf_M_31) (fun _ h9 => h9) rfl d_M_add_81 ?_
          refine lv_if_gt (tgt := 92) hx hb d_M_add_84 rfl (fun hc84 => absurd hc84 (by decide)) (fun _ => ?_)
          refine lv_iload hx hb d_M_add_87 (lv_at hl 0 rfl) ?_
          refine lv_if_eq (tgt := 94) hx hb d_M_add_89 rfl (fun hc89 => absurd hc89 (by decide)) (fun _ => ?_)
          refine lv_iconst (v := nI 0) hx hb d_M_add_92 (by decide) ?_
          have hP9 := hP.sub (ws' := [(mo, .inr (5, [.int (nI 0), .int mn, .ref m0, .int mg, .ref m1, .ref m2, .ref m3, .ref m4, .ref m5, .ref m6])), (m0, .inl (o0, 16, .inl h)), (m1, .inl (o1, 16, .inl mO)), (m2, .inl (o2, 16, .inl mG)), (m3, .inl (o3, 16, .inl mF)), (m4, .inl (o4, 32, .inl mA)), (m5, .inl (o5, 32, .inl mU)), (m6, .inl (o6, 32, .inl mR))]) [0, 1, 2, 3, 4, 5, 6, 7] rfl
          have hD9 := hD.sub (ws' := [(mo, .inr (5, [.int (nI 0), .int mn, .ref m0, .int mg, .ref m1, .ref m2, .ref m3, .ref m4, .ref m5, .ref m6])), (m0, .inl (o0, 16, .inl h)), (m1, .inl (o1, 16, .inl mO)), (m2, .inl (o2, 16, .inl mG)), (m3, .inl (o3, 16, .inl mF)), (m4, .inl (o4, 32, .inl mA)), (m5, .inl (o5, 32, .inl mU)), (m6, .inl (o6, 32, .inl mR))]) [0, 1, 2, 3, 4, 5, 6, 7] (by decide) rfl
          subst hAe
          refine xv_top (x' := b2i false) (rfl) ?_
          exact W.zret (v := b2i false) hx hb hr (b2i_nar _) (fun t ht hW => ⟨⟨_, (), rfl, rfl, by rw [ht]; exact hP9, va_K.moved hW.alike hK, hD9⟩, hS.F ht⟩) hS.2.2 d_M_add_93
set_option maxHeartbeats 4000000 in
set_option maxRecDepth 100000 in
theorem k_M_add_full (l : Launch) (D : va_G) (mo m0 m1 m2 m3 m4 m5 m6 : Nat) (o0 o1 o2 o3 o4 o5 o6 : ClassId) (mc : Int32) (mn : Int32) (mg : Int32) (h : Nat → Int32) (mO : Nat → Int32) (mG : Nat → Int32) (mF : Nat → Int32) (mA : Nat → Int32) (mU : Nat → Int32) (mR : Nat → Int32) (u v : Nat) (hu : u < 16) (hv : v < 16) (huv : ¬ u = v) (hb9 : bt (h u) v = false) (hf9 : mn = nI 80) (sz : Nat) : Met l y_M_add (Cond.code y_M_add c_M_add 5 (some .boolean) :: BS) { frames := 1, cells := 0, slots := 0, locals := 21 } (va_Pc [.ref mo, .int (nI u), .int (nI v)] (xWp D [(mo, .inr (5, [.int mc, .int mn, .ref m0, .int mg, .ref m1, .ref m2, .ref m3, .ref m4, .ref m5, .ref m6])), (m0, .inl (o0, 16, .inl h)), (m1, .inl (o1, 16, .inl mO)), (m2, .inl (o2, 16, .inl mG)), (m3, .inl (o3, 16, .inl mF)), (m4, .inl (o4, 32, .inl mA)), (m5, .inl (o5, 32, .inl mU)), (m6, .inl (o6, 32, .inl mR))] [(o0, .int), (o1, .int), (o2, .int), (o3, .int), (o4, .int), (o5, .int), (o6, .int)] sz)) (xQi D [(mo, .inr (5, [.int mc, .int mn, .ref m0, .int mg, .ref m1, .ref m2, .ref m3, .ref m4, .ref m5, .ref m6])), (m0, .inl (o0, 16, .inl h)), (m1, .inl (o1, 16, .inl mO)), (m2, .inl (o2, 16, .inl mG)), (m3, .inl (o3, 16, .inl mF)), (m4, .inl (o4, 32, .inl mA)), (m5, .inl (o5, 32, .inl mU)), (m6, .inl (o6, 32, .inl mR))] [(mo, .inr (5, [.int (nI 2), .int mn, .ref m0, .int mg, .ref m1, .ref m2, .ref m3, .ref m4, .ref m5, .ref m6])), (m0, .inl (o0, 16, .inl h)), (m1, .inl (o1, 16, .inl mO)), (m2, .inl (o2, 16, .inl mG)), (m3, .inl (o3, 16, .inl mF)), (m4, .inl (o4, 32, .inl mA)), (m5, .inl (o5, 32, .inl mU)), (m6, .inl (o6, 32, .inl mR))] [(o0, .int), (o1, .int), (o2, .int), (o3, .int), (o4, .int), (o5, .int), (o6, .int)] sz (b2i false)) 0 0 (va_A [(mo, .inr (5, [.int mc, .int mn, .ref m0, .int mg, .ref m1, .ref m2, .ref m3, .ref m4, .ref m5, .ref m6])), (m0, .inl (o0, 16, .inl h)), (m1, .inl (o1, 16, .inl mO)), (m2, .inl (o2, 16, .inl mG)), (m3, .inl (o3, 16, .inl mF)), (m4, .inl (o4, 32, .inl mA)), (m5, .inl (o5, 32, .inl mU)), (m6, .inl (o6, 32, .inl mR))] sz) := by
  refine Met.ofW (cc := c_M_add) (maxL := 5) (ret := (some .boolean)) (by decide) rfl ?_
  intro p e s m args below meth c s₁ B hml hv
  obtain ⟨rfl, hsz, hP, hK, hD0, hN⟩ := hv
  have hx := B.exec
  have hb := B.bytes
  have hr := B.returns
  have hB := xB B.pre
  have hown : s.vm.findClass R_M = some m.cls := findClass_of_methodNamed B.named
  have hlocks := B.notSynchronized
  subst hsz
  have hD := hD0.self (sz := s.heap.size)
  obtain ⟨A, hAe⟩ : ∃ A, A = va_A [(mo, .inr (5, [.int mc, .int mn, .ref m0, .int mg, .ref m1, .ref m2, .ref m3, .ref m4, .ref m5, .ref m6])), (m0, .inl (o0, 16, .inl h)), (m1, .inl (o1, 16, .inl mO)), (m2, .inl (o2, 16, .inl mG)), (m3, .inl (o3, 16, .inl mF)), (m4, .inl (o4, 32, .inl mA)), (m5, .inl (o5, 32, .inl mU)), (m6, .inl (o6, 32, .inl mR))] s.heap.size := ⟨_, rfl⟩
  rw [← hAe] at hD
  have hA : ∀ q : Nat, s.heap.size ≤ q → A q := fun q h => by rw [hAe]; exact Or.inr h
  have hS : va_S A s.heap s.heap [] := va_S.rf
  have hl := lv_entry ([.ref mo, .int (nI u), .int (nI v)]) (n := 5) (Nat.le_of_ble_eq_true rfl)
  rw [lg_entry_eq]
  generalize (lg_sl ([.ref mo, .int (nI u), .int (nI v)]) ++ List.replicate (5 - (lg_sl ([.ref mo, .int (nI u), .int (nI v)])).length) Slot.unset).toArray = ls at hl ⊢
  have hl : lv_has ls 5 [(0, .ref mo), (1, .int (nI u)), (2, .int (nI v))] := hl
  refine lv_iload_n hx hb d_M_add_0 rfl (lv_at hl 1 rfl) ?_
  refine xr_cal (va_runS (As := [.int (nI u)]) (rest := []) ⟨hx, hb, hml, hown, hB⟩ (k_M_isPlace l D  (nI u)) ⟨callB_of 1 hB (xg0 mc_M_isPlace) rfl rfl rfl (hB _ mz_M) (hB _ ml_M_44) (by decide +kernel) ⟨Nat.le_of_ble_eq_true rfl, Nat.le_of_ble_eq_true rfl⟩, hB _ ms_M_isPlace⟩ (xpS (ws := []) (tys := []) (hP.sub [] rfl) (hK.sub [] rfl) hN) rfl rfl hl.1 rfl (lv_room (Nat.le_of_ble_eq_true rfl)) d_M_add_1 ⟨Nat.le_of_ble_eq_true rfl, Nat.le_of_ble_eq_true rfl⟩) ?_
  refine lv_if_eq (tgt := 23) hx hb d_M_add_4 rfl (fun hc4 => ?_) (fun hc4 => ?_)
  · have hc4 := b2i_0.mp hc4
    exact absurd hc4 (by rw [isP_nI (by omega)]; decide)
  · have hc4 := b2i_n.mp hc4
    refine lv_iload_n hx hb d_M_add_7 rfl (lv_at hl 2 rfl) ?_
    refine xr_cal (va_runS (As := [.int (nI v)]) (rest := []) ⟨hx, hb, hml, hown, hB⟩ (k_M_isPlace l D  (nI v)) ⟨callB_of 1 hB (xg0 mc_M_isPlace) rfl rfl rfl (hB _ mz_M) (hB _ ml_M_44) (by decide +kernel) ⟨Nat.le_of_ble_eq_true rfl, Nat.le_of_ble_eq_true rfl⟩, hB _ ms_M_isPlace⟩ (xpS (ws := []) (tys := []) (hP.sub [] rfl) (hK.sub [] rfl) hN) rfl rfl hl.1 rfl (lv_room (Nat.le_of_ble_eq_true rfl)) d_M_add_8 ⟨Nat.le_of_ble_eq_true rfl, Nat.le_of_ble_eq_true rfl⟩) ?_
    refine lv_if_eq (tgt := 23) hx hb d_M_add_11 rfl (fun hc11 => ?_) (fun hc11 => ?_)
    · have hc11 := b2i_0.mp hc11
      exact absurd hc11 (by rw [isP_nI (by omega)]; decide)
    · have hc11 := b2i_n.mp hc11
      refine lv_iload_n hx hb d_M_add_14 rfl (lv_at hl 1 rfl) ?_
      refine lv_iload_n hx hb d_M_add_15 rfl (lv_at hl 2 rfl) ?_
      refine lv_icmp_eq (tgt := 23) hx hb d_M_add_16 rfl (fun hc16 => ?_) (fun hc16 => ?_)
      · have hc16 : u = v := (nI_eq (by omega) (by omega)).mp hc16
        exact absurd hc16 huv
      · have hc16 : ¬ (u = v) := fun q9 => hc16 ((nI_eq (by omega) (by omega)).mpr q9)
        refine lv_iconst (v := nI 1) hx hb d_M_add_19 (by decide) ?_
        refine lv_goto (tgt := 24) hx hb d_M_add_20 rfl ?_
        refine lv_istore_n hx hb d_M_add_24 rfl hl (by decide) rfl (fun ls hl => ?_)
        have hl : lv_has ls 5 [(3, .int (nI 1)), (0, .ref mo), (1, .int (nI u)), (2, .int (nI v))] := hl
        refine lv_iload_n hx hb d_M_add_25 rfl (lv_at hl 0 rfl) ?_
        refine lv_if_eq (tgt := 46) hx hb d_M_add_26 rfl (fun hc26 => absurd hc26 (by decide)) (fun _ => ?_)
        refine lv_aload_n hx hb d_M_add_29 rfl (lv_at hl 1 rfl) ?_
        refine va_get (D := D) (ci := 5) (v := .ref m0) (C := R_M) (T := F_M) (N := 10) hx hb hB in_M hown hK hP 0 rfl rfl 2 (by decide) (hB _ mf_M_7) (fun _ h9 => h9) rfl d_M_add_30 ?_
        refine lv_iload_n hx hb d_M_add_33 rfl (lv_at hl 2 rfl) ?_
        refine xa_ld (u := u) hx hb hK hP 1 0 rfl rfl (by omega) (by decide) d_M_add_34 ?_
        refine lv_iload_n hx hb d_M_add_35 rfl (lv_at hl 3 rfl) ?_
        refine xr_cal (va_runS (As := [.int (h u), .int (nI v)]) (rest := []) ⟨hx, hb, hml, hown, hB⟩ (k_M_has l D  (h u) v (by omega)) ⟨callB_of 2 hB (xg0 mc_M_has) rfl rfl rfl (hB _ mz_M) (hB _ ml_M_35) (by decide +kernel) ⟨Nat.le_of_ble_eq_true rfl, Nat.le_of_ble_eq_true rfl⟩, hB _ ms_M_has⟩ (xpS (ws := []) (tys := []) (hP.sub [] rfl) (hK.sub [] rfl) hN) rfl rfl hl.1 rfl (lv_room (Nat.le_of_ble_eq_true rfl)) d_M_add_36 ⟨Nat.le_of_ble_eq_true rfl, Nat.le_of_ble_eq_true rfl⟩) ?_
        refine lv_if_eq (tgt := 46) hx hb d_M_add_39 rfl (fun hc39 => ?_) (fun hc39 => ?_)
        · have hc39 := b2i_0.mp hc39
          refine lv_iconst (v := nI 0) hx hb d_M_add_46 (by decide) ?_
          refine lv_istore hx hb d_M_add_47 hl (by decide) rfl (fun ls hl => ?_)
          have hl : lv_has ls 5 [(4, .int (nI 0)), (3, .int (nI 1)), (0, .ref mo), (1, .int (nI u)), (2, .int (nI v))] := hl
          refine lv_aload_n hx hb d_M_add_49 rfl (lv_at hl 2 rfl) ?_
          refine lv_iload_n hx hb d_M_add_50 rfl (lv_at hl 1 rfl) ?_
          refine lv_if_ne (tgt := 58) hx hb d_M_add_51 rfl (fun _ => ?_) (fun hc51 => absurd hc51 (by decide))
          refine lv_iload hx hb d_M_add_58 (lv_at hl 0 rfl) ?_
          refine lv_if_ne (tgt := 76) hx hb d_M_add_60 rfl (fun hc60 => absurd hc60 (by decide)) (fun _ => ?_)
          refine lv_aload_n hx hb d_M_add_63 rfl (lv_at hl 2 rfl) ?_
          refine va_get (D := D) (ci := 5) (v := .int mn) (C := R_M) (T := F_M) (N := 10) hx hb hB in_M hown hK hP 0 rfl rfl 1 (by decide) (hB _ mf_M_48) (fun _ h9 => h9) rfl d_M_add_64 ?_
          refine lv_bipush (v := nI 80) hx hb d_M_add_67 (by decide) ?_
          refine lv_icmp_ne (tgt := 76) hx hb d_M_add_69 rfl (fun hc69 => ?_) (fun hc69 => ?_)
          · exact absurd hf9 hc69
          · refine lv_iconst (v := nI 2) hx hb d_M_add_72 (by decide) ?_
            refine lv_goto (tgt := 77) hx hb d_M_add_73 rfl ?_
            refine va_put (D := D) (ci := 5) (v := .int (nI 2)) (ty := .int) (C := R_M) (T := F_M) (N := 10) hx hb hB in_M t_M t_M_ok n_M hown hK hP hD hS 0 rfl rfl 0 (by decide) (hB _ mf_M_31) (fun _ h9 => h9) rfl (by decide +kernel) rfl rfl (Nat.le_of_ble_eq_true rfl) d_M_add_77 (fun H locs hP hD hS => ?_)
            have hP : va_P D cls [(mo, .inr (5, [.int (nI 2), .int mn, .ref m0, .int mg, .ref m1, .ref m2, .ref m3, .ref m4, .ref m5, .ref m6])), (m0, .inl (o0, 16, .inl h)), (m1, .inl (o1, 16, .inl mO)), (m2, .inl (o2, 16, .inl mG)), (m3, .inl (o3, 16, .inl mF)), (m4, .inl (o4, 32, .inl mA)), (m5, .inl (o5, 32, .inl mU)), (m6, .inl (o6, 32, .inl mR))] H := hP
            have hD : va_D A [(mo, .inr (5, [.int (nI 2), .int mn, .ref m0, .int mg, .ref m1, .ref m2, .ref m3, .ref m4, .ref m5, .ref m6])), (m0, .inl (o0, 16, .inl h)), (m1, .inl (o1, 16, .inl mO)), (m2, .inl (o2, 16, .inl mG)), (m3, .inl (o3, 16, .inl mF)), (m4, .inl (o4, 32, .inl mA)), (m5, .inl (o5, 32, .inl mU)), (m6, .inl (o6, 32, .inl mR))] := hD
            refine lv_aload_n hx hb d_M_add_80 rfl (lv_at hl 2 rfl) ?_
            refine va_get (D := D) (ci := 5) (v := .int (nI 2)) (C := R_M) (T := F_M) (N := 10) hx hb hB in_M hown hK hP 0 rfl rfl 0 (by decide) (hB _ mf_M_31) (fun _ h9 => h9) rfl d_M_add_81 ?_
            refine lv_if_gt (tgt := 92) hx hb d_M_add_84 rfl (fun _ => ?_) (fun hc84 => absurd hc84 (by decide))
            refine lv_iconst (v := nI 0) hx hb d_M_add_92 (by decide) ?_
            have hP9 := hP.sub (ws' := [(mo, .inr (5, [.int (nI 2), .int mn, .ref m0, .int mg, .ref m1, .ref m2, .ref m3, .ref m4, .ref m5, .ref m6])), (m0, .inl (o0, 16, .inl h)), (m1, .inl (o1, 16, .inl mO)), (m2, .inl (o2, 16, .inl mG)), (m3, .inl (o3, 16, .inl mF)), (m4, .inl (o4, 32, .inl mA)), (m5, .inl (o5, 32, .inl mU)), (m6, .inl (o6, 32, .inl mR))]) [0, 1, 2, 3, 4, 5, 6, 7] rfl
            have hD9 := hD.sub (ws' := [(mo, .inr (5, [.int (nI 2), .int mn, .ref m0, .int mg, .ref m1, .ref m2, .ref m3, .ref m4, .ref m5, .ref m6])), (m0, .inl (o0, 16, .inl h)), (m1, .inl (o1, 16, .inl mO)), (m2, .inl (o2, 16, .inl mG)), (m3, .inl (o3, 16, .inl mF)), (m4, .inl (o4, 32, .inl mA)), (m5, .inl (o5, 32, .inl mU)), (m6, .inl (o6, 32, .inl mR))]) [0, 1, 2, 3, 4, 5, 6, 7] (by decide) rfl
            subst hAe
            refine xv_top (x' := b2i false) (rfl) ?_
            exact W.zret (v := b2i false) hx hb hr (b2i_nar _) (fun t ht hW => ⟨⟨_, (), rfl, rfl, by rw [ht]; exact hP9, va_K.moved hW.alike hK, hD9⟩, hS.F ht⟩) hS.2.2 d_M_add_93
        · have hc39 := b2i_n.mp hc39
          exact absurd hc39 (by rw [hb9]; decide)
set_option maxHeartbeats 4000000 in
set_option maxRecDepth 100000 in
theorem k_M_add_put (l : Launch) (D : va_G) (mo m0 m1 m2 m3 m4 m5 m6 : Nat) (o0 o1 o2 o3 o4 o5 o6 : ClassId) (mc : Int32) (mn : Int32) (mg : Int32) (h : Nat → Int32) (mO : Nat → Int32) (mG : Nat → Int32) (mF : Nat → Int32) (mA : Nat → Int32) (mU : Nat → Int32) (mR : Nat → Int32) (u v : Nat) (hu : u < 16) (hv : v < 16) (huv : ¬ u = v) (hb9 : bt (h u) v = false) (hf9 : ¬ mn = nI 80) (sz : Nat) : Met l y_M_add (Cond.code y_M_add c_M_add 5 (some .boolean) :: BS) { frames := 1, cells := 0, slots := 0, locals := 21 } (va_Pc [.ref mo, .int (nI u), .int (nI v)] (xWp D [(mo, .inr (5, [.int mc, .int mn, .ref m0, .int mg, .ref m1, .ref m2, .ref m3, .ref m4, .ref m5, .ref m6])), (m0, .inl (o0, 16, .inl h)), (m1, .inl (o1, 16, .inl mO)), (m2, .inl (o2, 16, .inl mG)), (m3, .inl (o3, 16, .inl mF)), (m4, .inl (o4, 32, .inl mA)), (m5, .inl (o5, 32, .inl mU)), (m6, .inl (o6, 32, .inl mR))] [(o0, .int), (o1, .int), (o2, .int), (o3, .int), (o4, .int), (o5, .int), (o6, .int)] sz)) (xQi D [(mo, .inr (5, [.int mc, .int mn, .ref m0, .int mg, .ref m1, .ref m2, .ref m3, .ref m4, .ref m5, .ref m6])), (m0, .inl (o0, 16, .inl h)), (m1, .inl (o1, 16, .inl mO)), (m2, .inl (o2, 16, .inl mG)), (m3, .inl (o3, 16, .inl mF)), (m4, .inl (o4, 32, .inl mA)), (m5, .inl (o5, 32, .inl mU)), (m6, .inl (o6, 32, .inl mR))] [(mo, .inr (5, [.int (nI 0), .int (mn + nI 1), .ref m0, .int mg, .ref m1, .ref m2, .ref m3, .ref m4, .ref m5, .ref m6])), (m0, .inl (o0, 16, .inl (upd h u (h u ||| bit v)))), (m1, .inl (o1, 16, .inl mO)), (m2, .inl (o2, 16, .inl mG)), (m3, .inl (o3, 16, .inl mF)), (m4, .inl (o4, 32, .inl mA)), (m5, .inl (o5, 32, .inl mU)), (m6, .inl (o6, 32, .inl mR))] [(o0, .int), (o1, .int), (o2, .int), (o3, .int), (o4, .int), (o5, .int), (o6, .int)] sz (b2i true)) 0 0 (va_A [(mo, .inr (5, [.int mc, .int mn, .ref m0, .int mg, .ref m1, .ref m2, .ref m3, .ref m4, .ref m5, .ref m6])), (m0, .inl (o0, 16, .inl h)), (m1, .inl (o1, 16, .inl mO)), (m2, .inl (o2, 16, .inl mG)), (m3, .inl (o3, 16, .inl mF)), (m4, .inl (o4, 32, .inl mA)), (m5, .inl (o5, 32, .inl mU)), (m6, .inl (o6, 32, .inl mR))] sz) := by
  refine Met.ofW (cc := c_M_add) (maxL := 5) (ret := (some .boolean)) (by decide) rfl ?_
  intro p e s m args below meth c s₁ B hml hv
  obtain ⟨rfl, hsz, hP, hK, hD0, hN⟩ := hv
  have hx := B.exec
  have hb := B.bytes
  have hr := B.returns
  have hB := xB B.pre
  have hown : s.vm.findClass R_M = some m.cls := findClass_of_methodNamed B.named
  have hlocks := B.notSynchronized
  subst hsz
  have hD := hD0.self (sz := s.heap.size)
  obtain ⟨A, hAe⟩ : ∃ A, A = va_A [(mo, .inr (5, [.int mc, .int mn, .ref m0, .int mg, .ref m1, .ref m2, .ref m3, .ref m4, .ref m5, .ref m6])), (m0, .inl (o0, 16, .inl h)), (m1, .inl (o1, 16, .inl mO)), (m2, .inl (o2, 16, .inl mG)), (m3, .inl (o3, 16, .inl mF)), (m4, .inl (o4, 32, .inl mA)), (m5, .inl (o5, 32, .inl mU)), (m6, .inl (o6, 32, .inl mR))] s.heap.size := ⟨_, rfl⟩
  rw [← hAe] at hD
  have hA : ∀ q : Nat, s.heap.size ≤ q → A q := fun q h => by rw [hAe]; exact Or.inr h
  have hS : va_S A s.heap s.heap [] := va_S.rf
  have hl := lv_entry ([.ref mo, .int (nI u), .int (nI v)]) (n := 5) (Nat.le_of_ble_eq_true rfl)
  rw [lg_entry_eq]
  generalize (lg_sl ([.ref mo, .int (nI u), .int (nI v)]) ++ List.replicate (5 - (lg_sl ([.ref mo, .int (nI u), .int (nI v)])).length) Slot.unset).toArray = ls at hl ⊢
  have hl : lv_has ls 5 [(0, .ref mo), (1, .int (nI u)), (2, .int (nI v))] := hl
  refine lv_iload_n hx hb d_M_add_0 rfl (lv_at hl 1 rfl) ?_
  refine xr_cal (va_runS (As := [.int (nI u)]) (rest := []) ⟨hx, hb, hml, hown, hB⟩ (k_M_isPlace l D  (nI u)) ⟨callB_of 1 hB (xg0 mc_M_isPlace) rfl rfl rfl (hB _ mz_M) (hB _ ml_M_44) (by decide +kernel) ⟨Nat.le_of_ble_eq_true rfl, Nat.le_of_ble_eq_true rfl⟩, hB _ ms_M_isPlace⟩ (xpS (ws := []) (tys := []) (hP.sub [] rfl) (hK.sub [] rfl) hN) rfl rfl hl.1 rfl (lv_room (Nat.le_of_ble_eq_true rfl)) d_M_add_1 ⟨Nat.le_of_ble_eq_true rfl, Nat.le_of_ble_eq_true rfl⟩) ?_
  refine lv_if_eq (tgt := 23) hx hb d_M_add_4 rfl (fun hc4 => ?_) (fun hc4 => ?_)
  · have hc4 := b2i_0.mp hc4
    exact absurd hc4 (by rw [isP_nI (by omega)]; decide)
  · have hc4 := b2i_n.mp hc4
    refine lv_iload_n hx hb d_M_add_7 rfl (lv_at hl 2 rfl) ?_
    refine xr_cal (va_runS (As := [.int (nI v)]) (rest := []) ⟨hx, hb, hml, hown, hB⟩ (k_M_isPlace l D  (nI v)) ⟨callB_of 1 hB (xg0 mc_M_isPlace) rfl rfl rfl (hB _ mz_M) (hB _ ml_M_44) (by decide +kernel) ⟨Nat.le_of_ble_eq_true rfl, Nat.le_of_ble_eq_true rfl⟩, hB _ ms_M_isPlace⟩ (xpS (ws := []) (tys := []) (hP.sub [] rfl) (hK.sub [] rfl) hN) rfl rfl hl.1 rfl (lv_room (Nat.le_of_ble_eq_true rfl)) d_M_add_8 ⟨Nat.le_of_ble_eq_true rfl, Nat.le_of_ble_eq_true rfl⟩) ?_
    refine lv_if_eq (tgt := 23) hx hb d_M_add_11 rfl (fun hc11 => ?_) (fun hc11 => ?_)
    · have hc11 := b2i_0.mp hc11
      exact absurd hc11 (by rw [isP_nI (by omega)]; decide)
    · have hc11 := b2i_n.mp hc11
      refine lv_iload_n hx hb d_M_add_14 rfl (lv_at hl 1 rfl) ?_
      refine lv_iload_n hx hb d_M_add_15 rfl (lv_at hl 2 rfl) ?_
      refine lv_icmp_eq (tgt := 23) hx hb d_M_add_16 rfl (fun hc16 => ?_) (fun hc16 => ?_)
      · have hc16 : u = v := (nI_eq (by omega) (by omega)).mp hc16
        exact absurd hc16 huv
      · have hc16 : ¬ (u = v) := fun q9 => hc16 ((nI_eq (by omega) (by omega)).mpr q9)
        refine lv_iconst (v := nI 1) hx hb d_M_add_19 (by decide) ?_
        refine lv_goto (tgt := 24) hx hb d_M_add_20 rfl ?_
        refine lv_istore_n hx hb d_M_add_24 rfl hl (by decide) rfl (fun ls hl => ?_)
        have hl : lv_has ls 5 [(3, .int (nI 1)), (0, .ref mo), (1, .int (nI u)), (2, .int (nI v))] := hl
        refine lv_iload_n hx hb d_M_add_25 rfl (lv_at hl 0 rfl) ?_
        refine lv_if_eq (tgt := 46) hx hb d_M_add_26 rfl (fun hc26 => absurd hc26 (by decide)) (fun _ => ?_)
        refine lv_aload_n hx hb d_M_add_29 rfl (lv_at hl 1 rfl) ?_
        refine va_get (D := D) (ci := 5) (v := .ref m0) (C := R_M) (T := F_M) (N := 10) hx hb hB in_M hown hK hP 0 rfl rfl 2 (by decide) (hB _ mf_M_7) (fun _ h9 => h9) rfl d_M_add_30 ?_
        refine lv_iload_n hx hb d_M_add_33 rfl (lv_at hl 2 rfl) ?_
        refine xa_ld (u := u) hx hb hK hP 1 0 rfl rfl (by omega) (by decide) d_M_add_34 ?_
        refine lv_iload_n hx hb d_M_add_35 rfl (lv_at hl 3 rfl) ?_
        refine xr_cal (va_runS (As := [.int (h u), .int (nI v)]) (rest := []) ⟨hx, hb, hml, hown, hB⟩ (k_M_has l D  (h u) v (by omega)) ⟨callB_of 2 hB (xg0 mc_M_has) rfl rfl rfl (hB _ mz_M) (hB _ ml_M_35) (by decide +kernel) ⟨Nat.le_of_ble_eq_true rfl, Nat.le_of_ble_eq_true rfl⟩, hB _ ms_M_has⟩ (xpS (ws := []) (tys := []) (hP.sub [] rfl) (hK.sub [] rfl) hN) rfl rfl hl.1 rfl (lv_room (Nat.le_of_ble_eq_true rfl)) d_M_add_36 ⟨Nat.le_of_ble_eq_true rfl, Nat.le_of_ble_eq_true rfl⟩) ?_
        refine lv_if_eq (tgt := 46) hx hb d_M_add_39 rfl (fun hc39 => ?_) (fun hc39 => ?_)
        · have hc39 := b2i_0.mp hc39
          refine lv_iconst (v := nI 0) hx hb d_M_add_46 (by decide) ?_
          refine lv_istore hx hb d_M_add_47 hl (by decide) rfl (fun ls hl => ?_)
          have hl : lv_has ls 5 [(4, .int (nI 0)), (3, .int (nI 1)), (0, .ref mo), (1, .int (nI u)), (2, .int (nI v))] := hl
          refine lv_aload_n hx hb d_M_add_49 rfl (lv_at hl 2 rfl) ?_
          refine lv_iload_n hx hb d_M_add_50 rfl (lv_at hl 1 rfl) ?_
          refine lv_if_ne (tgt := 58) hx hb d_M_add_51 rfl (fun _ => ?_) (fun hc51 => absurd hc51 (by decide))
          refine lv_iload hx hb d_M_add_58 (lv_at hl 0 rfl) ?_
          refine lv_if_ne (tgt := 76) hx hb d_M_add_60 rfl (fun hc60 => absurd hc60 (by decide)) (fun _ => ?_)
          refine lv_aload_n hx hb d_M_add_63 rfl (lv_at hl 2 rfl) ?_
          refine va_get (D := D) (ci := 5) (v := .int mn) (C := R_M) (T := F_M) (N := 10) hx hb hB in_M hown hK hP 0 rfl rfl 1 (by decide) (hB _ mf_M_48) (fun _ h9 => h9) rfl d_M_add_64 ?_
          refine lv_bipush (v := nI 80) hx hb d_M_add_67 (by decide) ?_
          refine lv_icmp_ne (tgt := 76) hx hb d_M_add_69 rfl (fun hc69 => ?_) (fun hc69 => ?_)
          · refine lv_iconst (v := nI 0) hx hb d_M_add_76 (by decide) ?_
            refine va_put (D := D) (ci := 5) (v := .int (nI 0)) (ty := .int) (C := R_M) (T := F_M) (N := 10) hx hb hB in_M t_M t_M_ok n_M hown hK hP hD hS 0 rfl rfl 0 (by decide) (hB _ mf_M_31) (fun _ h9 => h9) rfl (by decide +kernel) rfl rfl (Nat.le_of_ble_eq_true rfl) d_M_add_77 (fun H locs hP hD hS => ?_)
            have hP : va_P D cls [(mo, .inr (5, [.int (nI 0), .int mn, .ref m0, .int mg, .ref m1, .ref m2, .ref m3, .ref m4, .ref m5, .ref m6])), (m0, .inl (o0, 16, .inl h)), (m1, .inl (o1, 16, .inl mO)), (m2, .inl (o2, 16, .inl mG)), (m3, .inl (o3, 16, .inl mF)), (m4, .inl (o4, 32, .inl mA)), (m5, .inl (o5, 32, .inl mU)), (m6, .inl (o6, 32, .inl mR))] H := hP
            have hD : va_D A [(mo, .inr (5, [.int (nI 0), .int mn, .ref m0, .int mg, .ref m1, .ref m2, .ref m3, .ref m4, .ref m5, .ref m6])), (m0, .inl (o0, 16, .inl h)), (m1, .inl (o1, 16, .inl mO)), (m2, .inl (o2, 16, .inl mG)), (m3, .inl (o3, 16, .inl mF)), (m4, .inl (o4, 32, .inl mA)), (m5, .inl (o5, 32, .inl mU)), (m6, .inl (o6, 32, .inl mR))] := hD
            refine lv_aload_n hx hb d_M_add_80 rfl (lv_at hl 2 rfl) ?_
            refine va_get (D := D) (ci := 5) (v := .int (nI 0)) (C := R_M) (T := F_M) (N := 10) hx hb hB in_M hown hK hP 0 rfl rfl 0 (by decide) (hB _ mf_M_31) (fun _ h9 => h9) rfl d_M_add_81 ?_
            refine lv_if_gt (tgt := 92) hx hb d_M_add_84 rfl (fun hc84 => absurd hc84 (by decide)) (fun _ => ?_)
            refine lv_iload hx hb d_M_add_87 (lv_at hl 0 rfl) ?_
            refine lv_if_eq (tgt := 94) hx hb d_M_add_89 rfl (fun _ => ?_) (fun hc89 => absurd hc89 (by decide))
            refine lv_aload_n hx hb d_M_add_94 rfl (lv_at hl 2 rfl) ?_
            refine va_get (D := D) (ci := 5) (v := .ref m0) (C := R_M) (T := F_M) (N := 10) hx hb hB in_M hown hK hP 0 rfl rfl 2 (by decide) (hB _ mf_M_7) (fun _ h9 => h9) rfl d_M_add_95 ?_
            refine lv_iload_n hx hb d_M_add_98 rfl (lv_at hl 3 rfl) ?_
            refine lv_dup2_11 hx hb d_M_add_99 rfl rfl ?_
            refine xa_ld (u := u) hx hb hK hP 1 0 rfl rfl (by omega) (by decide) d_M_add_100 ?_
            refine lv_iconst (v := nI 1) hx hb d_M_add_101 (by decide) ?_
            refine lv_iload_n hx hb d_M_add_102 rfl (lv_at hl 4 rfl) ?_
            refine lv_ishl hx hb d_M_add_103 ?_
            refine lv_ior hx hb d_M_add_104 ?_
            refine xa_st (u := u) hx hb hK hP hD hS 1 0 rfl rfl (by omega) (by decide) d_M_add_105 (fun H locs hP hD hS => ?_)
            have hP : va_P D cls [(mo, .inr (5, [.int (nI 0), .int mn, .ref m0, .int mg, .ref m1, .ref m2, .ref m3, .ref m4, .ref m5, .ref m6])), (m0, .inl (o0, 16, .inl (upd h u ((h u) ||| ((nI 1) <<< (nI v &&& 31)))))), (m1, .inl (o1, 16, .inl mO)), (m2, .inl (o2, 16, .inl mG)), (m3, .inl (o3, 16, .inl mF)), (m4, .inl (o4, 32, .inl mA)), (m5, .inl (o5, 32, .inl mU)), (m6, .inl (o6, 32, .inl mR))] H := hP
            have hD : va_D A [(mo, .inr (5, [.int (nI 0), .int mn, .ref m0, .int mg, .ref m1, .ref m2, .ref m3, .ref m4, .ref m5, .ref m6])), (m0, .inl (o0, 16, .inl (upd h u ((h u) ||| ((nI 1) <<< (nI v &&& 31)))))), (m1, .inl (o1, 16, .inl mO)), (m2, .inl (o2, 16, .inl mG)), (m3, .inl (o3, 16, .inl mF)), (m4, .inl (o4, 32, .inl mA)), (m5, .inl (o5, 32, .inl mU)), (m6, .inl (o6, 32, .inl mR))] := hD
            refine lv_aload_n hx hb d_M_add_106 rfl (lv_at hl 2 rfl) ?_
            refine lv_dup hx hb d_M_add_107 rfl ?_
            refine va_get (D := D) (ci := 5) (v := .int mn) (C := R_M) (T := F_M) (N := 10) hx hb hB in_M hown hK hP 0 rfl rfl 1 (by decide) (hB _ mf_M_48) (fun _ h9 => h9) rfl d_M_add_108 ?_
            refine lv_iconst (v := nI 1) hx hb d_M_add_111 (by decide) ?_
            refine lv_iadd hx hb d_M_add_112 ?_
            refine va_put (D := D) (ci := 5) (v := .int (mn + (nI 1))) (ty := .int) (C := R_M) (T := F_M) (N := 10) hx hb hB in_M t_M t_M_ok n_M hown hK hP hD hS 0 rfl rfl 1 (by decide) (hB _ mf_M_48) (fun _ h9 => h9) rfl (by decide +kernel) rfl rfl (Nat.le_of_ble_eq_true rfl) d_M_add_113 (fun H locs hP hD hS => ?_)
            have hP : va_P D cls [(mo, .inr (5, [.int (nI 0), .int (mn + (nI 1)), .ref m0, .int mg, .ref m1, .ref m2, .ref m3, .ref m4, .ref m5, .ref m6])), (m0, .inl (o0, 16, .inl (upd h u ((h u) ||| ((nI 1) <<< (nI v &&& 31)))))), (m1, .inl (o1, 16, .inl mO)), (m2, .inl (o2, 16, .inl mG)), (m3, .inl (o3, 16, .inl mF)), (m4, .inl (o4, 32, .inl mA)), (m5, .inl (o5, 32, .inl mU)), (m6, .inl (o6, 32, .inl mR))] H := hP
            have hD : va_D A [(mo, .inr (5, [.int (nI 0), .int (mn + (nI 1)), .ref m0, .int mg, .ref m1, .ref m2, .ref m3, .ref m4, .ref m5, .ref m6])), (m0, .inl (o0, 16, .inl (upd h u ((h u) ||| ((nI 1) <<< (nI v &&& 31)))))), (m1, .inl (o1, 16, .inl mO)), (m2, .inl (o2, 16, .inl mG)), (m3, .inl (o3, 16, .inl mF)), (m4, .inl (o4, 32, .inl mA)), (m5, .inl (o5, 32, .inl mU)), (m6, .inl (o6, 32, .inl mR))] := hD
            refine lv_iconst (v := nI 1) hx hb d_M_add_116 (by decide) ?_
            have hP9 := hP.sub (ws' := [(mo, .inr (5, [.int (nI 0), .int (mn + nI 1), .ref m0, .int mg, .ref m1, .ref m2, .ref m3, .ref m4, .ref m5, .ref m6])), (m0, .inl (o0, 16, .inl (upd h u (h u ||| bit v)))), (m1, .inl (o1, 16, .inl mO)), (m2, .inl (o2, 16, .inl mG)), (m3, .inl (o3, 16, .inl mF)), (m4, .inl (o4, 32, .inl mA)), (m5, .inl (o5, 32, .inl mU)), (m6, .inl (o6, 32, .inl mR))]) [0, 1, 2, 3, 4, 5, 6, 7] rfl
            have hD9 := hD.sub (ws' := [(mo, .inr (5, [.int (nI 0), .int (mn + nI 1), .ref m0, .int mg, .ref m1, .ref m2, .ref m3, .ref m4, .ref m5, .ref m6])), (m0, .inl (o0, 16, .inl (upd h u (h u ||| bit v)))), (m1, .inl (o1, 16, .inl mO)), (m2, .inl (o2, 16, .inl mG)), (m3, .inl (o3, 16, .inl mF)), (m4, .inl (o4, 32, .inl mA)), (m5, .inl (o5, 32, .inl mU)), (m6, .inl (o6, 32, .inl mR))]) [0, 1, 2, 3, 4, 5, 6, 7] (by decide) rfl
            subst hAe
            refine xv_top (x' := b2i true) (rfl) ?_
            exact W.zret (v := b2i true) hx hb hr (b2i_nar _) (fun t ht hW => ⟨⟨_, (), rfl, rfl, by rw [ht]; exact hP9, va_K.moved hW.alike hK, hD9⟩, hS.F ht⟩) hS.2.2 d_M_add_117
          · exact absurd hc69 hf9
        · have hc39 := b2i_n.mp hc39
          exact absurd hc39 (by rw [hb9]; decide)
set_option maxHeartbeats 4000000 in
set_option maxRecDepth 100000 in
theorem k_M_remove_bad (l : Launch) (D : va_G) (mo m0 m1 m2 m3 m4 m5 m6 : Nat) (o0 o1 o2 o3 o4 o5 o6 : ClassId) (mc : Int32) (mn : Int32) (mg : Int32) (h : Nat → Int32) (mO : Nat → Int32) (mG : Nat → Int32) (mF : Nat → Int32) (mA : Nat → Int32) (mU : Nat → Int32) (mR : Nat → Int32) (x y : Int32) (hb9 : (isP x && isP y) = false) (sz : Nat) : Met l y_M_remove (Cond.code y_M_remove c_M_remove 3 (some .boolean) :: BS) { frames := 1, cells := 0, slots := 0, locals := 20 } (va_Pc [.ref mo, .int x, .int y] (xWp D [(mo, .inr (5, [.int mc, .int mn, .ref m0, .int mg, .ref m1, .ref m2, .ref m3, .ref m4, .ref m5, .ref m6])), (m0, .inl (o0, 16, .inl h)), (m1, .inl (o1, 16, .inl mO)), (m2, .inl (o2, 16, .inl mG)), (m3, .inl (o3, 16, .inl mF)), (m4, .inl (o4, 32, .inl mA)), (m5, .inl (o5, 32, .inl mU)), (m6, .inl (o6, 32, .inl mR))] [(o0, .int), (o1, .int), (o2, .int), (o3, .int), (o4, .int), (o5, .int), (o6, .int)] sz)) (xQi D [(mo, .inr (5, [.int mc, .int mn, .ref m0, .int mg, .ref m1, .ref m2, .ref m3, .ref m4, .ref m5, .ref m6])), (m0, .inl (o0, 16, .inl h)), (m1, .inl (o1, 16, .inl mO)), (m2, .inl (o2, 16, .inl mG)), (m3, .inl (o3, 16, .inl mF)), (m4, .inl (o4, 32, .inl mA)), (m5, .inl (o5, 32, .inl mU)), (m6, .inl (o6, 32, .inl mR))] [(mo, .inr (5, [.int (nI 1), .int mn, .ref m0, .int mg, .ref m1, .ref m2, .ref m3, .ref m4, .ref m5, .ref m6])), (m0, .inl (o0, 16, .inl h)), (m1, .inl (o1, 16, .inl mO)), (m2, .inl (o2, 16, .inl mG)), (m3, .inl (o3, 16, .inl mF)), (m4, .inl (o4, 32, .inl mA)), (m5, .inl (o5, 32, .inl mU)), (m6, .inl (o6, 32, .inl mR))] [(o0, .int), (o1, .int), (o2, .int), (o3, .int), (o4, .int), (o5, .int), (o6, .int)] sz (b2i false)) 0 0 (va_A [(mo, .inr (5, [.int mc, .int mn, .ref m0, .int mg, .ref m1, .ref m2, .ref m3, .ref m4, .ref m5, .ref m6])), (m0, .inl (o0, 16, .inl h)), (m1, .inl (o1, 16, .inl mO)), (m2, .inl (o2, 16, .inl mG)), (m3, .inl (o3, 16, .inl mF)), (m4, .inl (o4, 32, .inl mA)), (m5, .inl (o5, 32, .inl mU)), (m6, .inl (o6, 32, .inl mR))] sz) := by
  refine Met.ofW (cc := c_M_remove) (maxL := 3) (ret := (some .boolean)) (by decide) rfl ?_
  intro p e s m args below meth c s₁ B hml hv
  obtain ⟨rfl, hsz, hP, hK, hD0, hN⟩ := hv
  have hx := B.exec
  have hb := B.bytes
  have hr := B.returns
  have hB := xB B.pre
  have hown : s.vm.findClass R_M = some m.cls := findClass_of_methodNamed B.named
  have hlocks := B.notSynchronized
  subst hsz
  have hD := hD0.self (sz := s.heap.size)
  obtain ⟨A, hAe⟩ : ∃ A, A = va_A [(mo, .inr (5, [.int mc, .int mn, .ref m0, .int mg, .ref m1, .ref m2, .ref m3, .ref m4, .ref m5, .ref m6])), (m0, .inl (o0, 16, .inl h)), (m1, .inl (o1, 16, .inl mO)), (m2, .inl (o2, 16, .inl mG)), (m3, .inl (o3, 16, .inl mF)), (m4, .inl (o4, 32, .inl mA)), (m5, .inl (o5, 32, .inl mU)), (m6, .inl (o6, 32, .inl mR))] s.heap.size := ⟨_, rfl⟩
  rw [← hAe] at hD
  have hA : ∀ q : Nat, s.heap.size ≤ q → A q := fun q h => by rw [hAe]; exact Or.inr h
  have hS : va_S A s.heap s.heap [] := va_S.rf
  have hl := lv_entry ([.ref mo, .int x, .int y]) (n := 3) (Nat.le_of_ble_eq_true rfl)
  rw [lg_entry_eq]
  generalize (lg_sl ([.ref mo, .int x, .int y]) ++ List.replicate (3 - (lg_sl ([.ref mo, .int x, .int y])).length) Slot.unset).toArray = ls at hl ⊢
  have hl : lv_has ls 3 [(0, .ref mo), (1, .int x), (2, .int y)] := hl
  refine lv_aload_n hx hb d_M_remove_0 rfl (lv_at hl 0 rfl) ?_
  refine lv_iload_n hx hb d_M_remove_1 rfl (lv_at hl 1 rfl) ?_
  refine xr_cal (va_runS (As := [.int x]) (rest := [.ref mo]) ⟨hx, hb, hml, hown, hB⟩ (k_M_isPlace l D  x) ⟨callB_of 1 hB (xg0 mc_M_isPlace) rfl rfl rfl (hB _ mz_M) (hB _ ml_M_44) (by decide +kernel) ⟨Nat.le_of_ble_eq_true rfl, Nat.le_of_ble_eq_true rfl⟩, hB _ ms_M_isPlace⟩ (xpS (ws := []) (tys := []) (hP.sub [] rfl) (hK.sub [] rfl) hN) rfl rfl hl.1 rfl (lv_room (Nat.le_of_ble_eq_true rfl)) d_M_remove_2 ⟨Nat.le_of_ble_eq_true rfl, Nat.le_of_ble_eq_true rfl⟩) ?_
  refine lv_if_eq (tgt := 19) hx hb d_M_remove_5 rfl (fun hc5 => ?_) (fun hc5 => ?_)
  · have hc5 := b2i_0.mp hc5
    refine lv_iconst (v := nI 1) hx hb d_M_remove_19 (by decide) ?_
    refine va_put (D := D) (ci := 5) (v := .int (nI 1)) (ty := .int) (C := R_M) (T := F_M) (N := 10) hx hb hB in_M t_M t_M_ok n_M hown hK hP hD hS 0 rfl rfl 0 (by decide) (hB _ mf_M_31) (fun _ h9 => h9) rfl (by decide +kernel) rfl rfl (Nat.le_of_ble_eq_true rfl) d_M_remove_20 (fun H locs hP hD hS => ?_)
    have hP : va_P D cls [(mo, .inr (5, [.int (nI 1), .int mn, .ref m0, .int mg, .ref m1, .ref m2, .ref m3, .ref m4, .ref m5, .ref m6])), (m0, .inl (o0, 16, .inl h)), (m1, .inl (o1, 16, .inl mO)), (m2, .inl (o2, 16, .inl mG)), (m3, .inl (o3, 16, .inl mF)), (m4, .inl (o4, 32, .inl mA)), (m5, .inl (o5, 32, .inl mU)), (m6, .inl (o6, 32, .inl mR))] H := hP
    have hD : va_D A [(mo, .inr (5, [.int (nI 1), .int mn, .ref m0, .int mg, .ref m1, .ref m2, .ref m3, .ref m4, .ref m5, .ref m6])), (m0, .inl (o0, 16, .inl h)), (m1, .inl (o1, 16, .inl mO)), (m2, .inl (o2, 16, .inl mG)), (m3, .inl (o3, 16, .inl mF)), (m4, .inl (o4, 32, .inl mA)), (m5, .inl (o5, 32, .inl mU)), (m6, .inl (o6, 32, .inl mR))] := hD
    refine lv_aload_n hx hb d_M_remove_23 rfl (lv_at hl 0 rfl) ?_
    refine va_get (D := D) (ci := 5) (v := .int (nI 1)) (C := R_M) (T := F_M) (N := 10) hx hb hB in_M hown hK hP 0 rfl rfl 0 (by decide) (hB _ mf_M_31) (fun _ h9 => h9) rfl d_M_remove_24 ?_
    refine lv_if_gt (tgt := 43) hx hb d_M_remove_27 rfl (fun _ => ?_) (fun hc27 => absurd hc27 (by decide))
    refine lv_iconst (v := nI 0) hx hb d_M_remove_43 (by decide) ?_
    have hP9 := hP.sub (ws' := [(mo, .inr (5, [.int (nI 1), .int mn, .ref m0, .int mg, .ref m1, .ref m2, .ref m3, .ref m4, .ref m5, .ref m6])), (m0, .inl (o0, 16, .inl h)), (m1, .inl (o1, 16, .inl mO)), (m2, .inl (o2, 16, .inl mG)), (m3, .inl (o3, 16, .inl mF)), (m4, .inl (o4, 32, .inl mA)), (m5, .inl (o5, 32, .inl mU)), (m6, .inl (o6, 32, .inl mR))]) [0, 1, 2, 3, 4, 5, 6, 7] rfl
    have hD9 := hD.sub (ws' := [(mo, .inr (5, [.int (nI 1), .int mn, .ref m0, .int mg, .ref m1, .ref m2, .ref m3, .ref m4, .ref m5, .ref m6])), (m0, .inl (o0, 16, .inl h)), (m1, .inl (o1, 16, .inl mO)), (m2, .inl (o2, 16, .inl mG)), (m3, .inl (o3, 16, .inl mF)), (m4, .inl (o4, 32, .inl mA)), (m5, .inl (o5, 32, .inl mU)), (m6, .inl (o6, 32, .inl mR))]) [0, 1, 2, 3, 4, 5, 6, 7] (by decide) rfl
    subst hAe
    refine xv_top (x' := b2i false) (rfl) ?_
    exact W.zret (v := b2i false) hx hb hr (b2i_nar _) (fun t ht hW => ⟨⟨_, (), rfl, rfl, by rw [ht]; exact hP9, va_K.moved hW.alike hK, hD9⟩, hS.F ht⟩) hS.2.2 d_M_remove_44
  · have hc5 := b2i_n.mp hc5
    refine lv_iload_n hx hb d_M_remove_8 rfl (lv_at hl 2 rfl) ?_
    refine xr_cal (va_runS (As := [.int y]) (rest := [.ref mo]) ⟨hx, hb, hml, hown, hB⟩ (k_M_isPlace l D  y) ⟨callB_of 1 hB (xg0 mc_M_isPlace) rfl rfl rfl (hB _ mz_M) (hB _ ml_M_44) (by decide +kernel) ⟨Nat.le_of_ble_eq_true rfl, Nat.le_of_ble_eq_true rfl⟩, hB _ ms_M_isPlace⟩ (xpS (ws := []) (tys := []) (hP.sub [] rfl) (hK.sub [] rfl) hN) rfl rfl hl.1 rfl (lv_room (Nat.le_of_ble_eq_true rfl)) d_M_remove_9 ⟨Nat.le_of_ble_eq_true rfl, Nat.le_of_ble_eq_true rfl⟩) ?_
    refine lv_if_eq (tgt := 19) hx hb d_M_remove_12 rfl (fun hc12 => ?_) (fun hc12 => ?_)
    · have hc12 := b2i_0.mp hc12
      refine lv_iconst (v := nI 1) hx hb d_M_remove_19 (by decide) ?_
      refine va_put (D := D) (ci := 5) (v := .int (nI 1)) (ty := .int) (C := R_M) (T := F_M) (N := 10) hx hb hB in_M t_M t_M_ok n_M hown hK hP hD hS 0 rfl rfl 0 (by decide) (hB _ mf_M_31) (fun _ h9 => h9) rfl (by decide +kernel) rfl rfl (Nat.le_of_ble_eq_true rfl) d_M_remove_20 (fun H locs hP hD hS => ?_)
      have hP : va_P D cls [(mo, .inr (5, [.int (nI 1), .int mn, .ref m0, .int mg, .ref m1, .ref m2, .ref m3, .ref m4, .ref m5, .ref m6])), (m0, .inl (o0, 16, .inl h)), (m1, .inl (o1, 16, .inl mO)), (m2, .inl (o2, 16, .inl mG)), (m3, .inl (o3, 16, .inl mF)), (m4, .inl (o4, 32, .inl mA)), (m5, .inl (o5, 32, .inl mU)), (m6, .inl (o6, 32, .inl mR))] H := hP
      have hD : va_D A [(mo, .inr (5, [.int (nI 1), .int mn, .ref m0, .int mg, .ref m1, .ref m2, .ref m3, .ref m4, .ref m5, .ref m6])), (m0, .inl (o0, 16, .inl h)), (m1, .inl (o1, 16, .inl mO)), (m2, .inl (o2, 16, .inl mG)), (m3, .inl (o3, 16, .inl mF)), (m4, .inl (o4, 32, .inl mA)), (m5, .inl (o5, 32, .inl mU)), (m6, .inl (o6, 32, .inl mR))] := hD
      refine lv_aload_n hx hb d_M_remove_23 rfl (lv_at hl 0 rfl) ?_
      refine va_get (D := D) (ci := 5) (v := .int (nI 1)) (C := R_M) (T := F_M) (N := 10) hx hb hB in_M hown hK hP 0 rfl rfl 0 (by decide) (hB _ mf_M_31) (fun _ h9 => h9) rfl d_M_remove_24 ?_
      refine lv_if_gt (tgt := 43) hx hb d_M_remove_27 rfl (fun _ => ?_) (fun hc27 => absurd hc27 (by decide))
      refine lv_iconst (v := nI 0) hx hb d_M_remove_43 (by decide) ?_
      have hP9 := hP.sub (ws' := [(mo, .inr (5, [.int (nI 1), .int mn, .ref m0, .int mg, .ref m1, .ref m2, .ref m3, .ref m4, .ref m5, .ref m6])), (m0, .inl (o0, 16, .inl h)), (m1, .inl (o1, 16, .inl mO)), (m2, .inl (o2, 16, .inl mG)), (m3, .inl (o3, 16, .inl mF)), (m4, .inl (o4, 32, .inl mA)), (m5, .inl (o5, 32, .inl mU)), (m6, .inl (o6, 32, .inl mR))]) [0, 1, 2, 3, 4, 5, 6, 7] rfl
      have hD9 := hD.sub (ws' := [(mo, .inr (5, [.int (nI 1), .int mn, .ref m0, .int mg, .ref m1, .ref m2, .ref m3, .ref m4, .ref m5, .ref m6])), (m0, .inl (o0, 16, .inl h)), (m1, .inl (o1, 16, .inl mO)), (m2, .inl (o2, 16, .inl mG)), (m3, .inl (o3, 16, .inl mF)), (m4, .inl (o4, 32, .inl mA)), (m5, .inl (o5, 32, .inl mU)), (m6, .inl (o6, 32, .inl mR))]) [0, 1, 2, 3, 4, 5, 6, 7] (by decide) rfl
      subst hAe
      refine xv_top (x' := b2i false) (rfl) ?_
      exact W.zret (v := b2i false) hx hb hr (b2i_nar _) (fun t ht hW => ⟨⟨_, (), rfl, rfl, by rw [ht]; exact hP9, va_K.moved hW.alike hK, hD9⟩, hS.F ht⟩) hS.2.2 d_M_remove_44
    · have hc12 := b2i_n.mp hc12
      exact absurd hb9 (by rw [hc5, hc12]; decide)
set_option maxHeartbeats 4000000 in
set_option maxRecDepth 100000 in
theorem k_M_remove_none (l : Launch) (D : va_G) (mo m0 m1 m2 m3 m4 m5 m6 : Nat) (o0 o1 o2 o3 o4 o5 o6 : ClassId) (mc : Int32) (mn : Int32) (mg : Int32) (h : Nat → Int32) (mO : Nat → Int32) (mG : Nat → Int32) (mF : Nat → Int32) (mA : Nat → Int32) (mU : Nat → Int32) (mR : Nat → Int32) (u v : Nat) (hu : u < 16) (hv : v < 16) (hb9 : bt (h u) v = false) (sz : Nat) : Met l y_M_remove (Cond.code y_M_remove c_M_remove 3 (some .boolean) :: BS) { frames := 1, cells := 0, slots := 0, locals := 21 } (va_Pc [.ref mo, .int (nI u), .int (nI v)] (xWp D [(mo, .inr (5, [.int mc, .int mn, .ref m0, .int mg, .ref m1, .ref m2, .ref m3, .ref m4, .ref m5, .ref m6])), (m0, .inl (o0, 16, .inl h)), (m1, .inl (o1, 16, .inl mO)), (m2, .inl (o2, 16, .inl mG)), (m3, .inl (o3, 16, .inl mF)), (m4, .inl (o4, 32, .inl mA)), (m5, .inl (o5, 32, .inl mU)), (m6, .inl (o6, 32, .inl mR))] [(o0, .int), (o1, .int), (o2, .int), (o3, .int), (o4, .int), (o5, .int), (o6, .int)] sz)) (xQi D [(mo, .inr (5, [.int mc, .int mn, .ref m0, .int mg, .ref m1, .ref m2, .ref m3, .ref m4, .ref m5, .ref m6])), (m0, .inl (o0, 16, .inl h)), (m1, .inl (o1, 16, .inl mO)), (m2, .inl (o2, 16, .inl mG)), (m3, .inl (o3, 16, .inl mF)), (m4, .inl (o4, 32, .inl mA)), (m5, .inl (o5, 32, .inl mU)), (m6, .inl (o6, 32, .inl mR))] [(mo, .inr (5, [.int (nI 0), .int mn, .ref m0, .int mg, .ref m1, .ref m2, .ref m3, .ref m4, .ref m5, .ref m6])), (m0, .inl (o0, 16, .inl h)), (m1, .inl (o1, 16, .inl mO)), (m2, .inl (o2, 16, .inl mG)), (m3, .inl (o3, 16, .inl mF)), (m4, .inl (o4, 32, .inl mA)), (m5, .inl (o5, 32, .inl mU)), (m6, .inl (o6, 32, .inl mR))] [(o0, .int), (o1, .int), (o2, .int), (o3, .int), (o4, .int), (o5, .int), (o6, .int)] sz (b2i false)) 0 0 (va_A [(mo, .inr (5, [.int mc, .int mn, .ref m0, .int mg, .ref m1, .ref m2, .ref m3, .ref m4, .ref m5, .ref m6])), (m0, .inl (o0, 16, .inl h)), (m1, .inl (o1, 16, .inl mO)), (m2, .inl (o2, 16, .inl mG)), (m3, .inl (o3, 16, .inl mF)), (m4, .inl (o4, 32, .inl mA)), (m5, .inl (o5, 32, .inl mU)), (m6, .inl (o6, 32, .inl mR))] sz) := by
  refine Met.ofW (cc := c_M_remove) (maxL := 3) (ret := (some .boolean)) (by decide) rfl ?_
  intro p e s m args below meth c s₁ B hml hv
  obtain ⟨rfl, hsz, hP, hK, hD0, hN⟩ := hv
  have hx := B.exec
  have hb := B.bytes
  have hr := B.returns
  have hB := xB B.pre
  have hown : s.vm.findClass R_M = some m.cls := findClass_of_methodNamed B.named
  have hlocks := B.notSynchronized
  subst hsz
  have hD := hD0.self (sz := s.heap.size)
  obtain ⟨A, hAe⟩ : ∃ A, A = va_A [(mo, .inr (5, [.int mc, .int mn, .ref m0, .int mg, .ref m1, .ref m2, .ref m3, .ref m4, .ref m5, .ref m6])), (m0, .inl (o0, 16, .inl h)), (m1, .inl (o1, 16, .inl mO)), (m2, .inl (o2, 16, .inl mG)), (m3, .inl (o3, 16, .inl mF)), (m4, .inl (o4, 32, .inl mA)), (m5, .inl (o5, 32, .inl mU)), (m6, .inl (o6, 32, .inl mR))] s.heap.size := ⟨_, rfl⟩
  rw [← hAe] at hD
  have hA : ∀ q : Nat, s.heap.size ≤ q → A q := fun q h => by rw [hAe]; exact Or.inr h
  have hS : va_S A s.heap s.heap [] := va_S.rf
  have hl := lv_entry ([.ref mo, .int (nI u), .int (nI v)]) (n := 3) (Nat.le_of_ble_eq_true rfl)
  rw [lg_entry_eq]
  generalize (lg_sl ([.ref mo, .int (nI u), .int (nI v)]) ++ List.replicate (3 - (lg_sl ([.ref mo, .int (nI u), .int (nI v)])).length) Slot.unset).toArray = ls at hl ⊢
  have hl : lv_has ls 3 [(0, .ref mo), (1, .int (nI u)), (2, .int (nI v))] := hl
  refine lv_aload_n hx hb d_M_remove_0 rfl (lv_at hl 0 rfl) ?_
  refine lv_iload_n hx hb d_M_remove_1 rfl (lv_at hl 1 rfl) ?_
  refine xr_cal (va_runS (As := [.int (nI u)]) (rest := [.ref mo]) ⟨hx, hb, hml, hown, hB⟩ (k_M_isPlace l D  (nI u)) ⟨callB_of 1 hB (xg0 mc_M_isPlace) rfl rfl rfl (hB _ mz_M) (hB _ ml_M_44) (by decide +kernel) ⟨Nat.le_of_ble_eq_true rfl, Nat.le_of_ble_eq_true rfl⟩, hB _ ms_M_isPlace⟩ (xpS (ws := []) (tys := []) (hP.sub [] rfl) (hK.sub [] rfl) hN) rfl rfl hl.1 rfl (lv_room (Nat.le_of_ble_eq_true rfl)) d_M_remove_2 ⟨Nat.le_of_ble_eq_true rfl, Nat.le_of_ble_eq_true rfl⟩) ?_
  refine lv_if_eq (tgt := 19) hx hb d_M_remove_5 rfl (fun hc5 => ?_) (fun hc5 => ?_)
  · have hc5 := b2i_0.mp hc5
    exact absurd hc5 (by rw [isP_nI (by omega)]; decide)
  · have hc5 := b2i_n.mp hc5
    refine lv_iload_n hx hb d_M_remove_8 rfl (lv_at hl 2 rfl) ?_
    refine xr_cal (va_runS (As := [.int (nI v)]) (rest := [.ref mo]) ⟨hx, hb, hml, hown, hB⟩ (k_M_isPlace l D  (nI v)) ⟨callB_of 1 hB (xg0 mc_M_isPlace) rfl rfl rfl (hB _ mz_M) (hB _ ml_M_44) (by decide +kernel) ⟨Nat.le_of_ble_eq_true rfl, Nat.le_of_ble_eq_true rfl⟩, hB _ ms_M_isPlace⟩ (xpS (ws := []) (tys := []) (hP.sub [] rfl) (hK.sub [] rfl) hN) rfl rfl hl.1 rfl (lv_room (Nat.le_of_ble_eq_true rfl)) d_M_remove_9 ⟨Nat.le_of_ble_eq_true rfl, Nat.le_of_ble_eq_true rfl⟩) ?_
    refine lv_if_eq (tgt := 19) hx hb d_M_remove_12 rfl (fun hc12 => ?_) (fun hc12 => ?_)
    · have hc12 := b2i_0.mp hc12
      exact absurd hc12 (by rw [isP_nI (by omega)]; decide)
    · have hc12 := b2i_n.mp hc12
      refine lv_iconst (v := nI 0) hx hb d_M_remove_15 (by decide) ?_
      refine lv_goto (tgt := 20) hx hb d_M_remove_16 rfl ?_
      refine va_put (D := D) (ci := 5) (v := .int (nI 0)) (ty := .int) (C := R_M) (T := F_M) (N := 10) hx hb hB in_M t_M t_M_ok n_M hown hK hP hD hS 0 rfl rfl 0 (by decide) (hB _ mf_M_31) (fun _ h9 => h9) rfl (by decide +kernel) rfl rfl (Nat.le_of_ble_eq_true rfl) d_M_remove_20 (fun H locs hP hD hS => ?_)
      have hP : va_P D cls [(mo, .inr (5, [.int (nI 0), .int mn, .ref m0, .int mg, .ref m1, .ref m2, .ref m3, .ref m4, .ref m5, .ref m6])), (m0, .inl (o0, 16, .inl h)), (m1, .inl (o1, 16, .inl mO)), (m2, .inl (o2, 16, .inl mG)), (m3, .inl (o3, 16, .inl mF)), (m4, .inl (o4, 32, .inl mA)), (m5, .inl (o5, 32, .inl mU)), (m6, .inl (o6, 32, .inl mR))] H := hP
      have hD : va_D A [(mo, .inr (5, [.int (nI 0), .int mn, .ref m0, .int mg, .ref m1, .ref m2, .ref m3, .ref m4, .ref m5, .ref m6])), (m0, .inl (o0, 16, .inl h)), (m1, .inl (o1, 16, .inl mO)), (m2, .inl (o2, 16, .inl mG)), (m3, .inl (o3, 16, .inl mF)), (m4, .inl (o4, 32, .inl mA)), (m5, .inl (o5, 32, .inl mU)), (m6, .inl (o6, 32, .inl mR))] := hD
      refine lv_aload_n hx hb d_M_remove_23 rfl (lv_at hl 0 rfl) ?_
      refine va_get (D := D) (ci := 5) (v := .int (nI 0)) (C := R_M) (T := F_M) (N := 10) hx hb hB in_M hown hK hP 0 rfl rfl 0 (by decide) (hB _ mf_M_31) (fun _ h9 => h9) rfl d_M_remove_24 ?_
      refine lv_if_gt (tgt := 43) hx hb d_M_remove_27 rfl (fun hc27 => absurd hc27 (by decide)) (fun _ => ?_)
      refine lv_aload_n hx hb d_M_remove_30 rfl (lv_at hl 0 rfl) ?_
      refine va_get (D := D) (ci := 5) (v := .ref m0) (C := R_M) (T := F_M) (N := 10) hx hb hB in_M hown hK hP 0 rfl rfl 2 (by decide) (hB _ mf_M_7) (fun _ h9 => h9) rfl d_M_remove_31 ?_
      refine lv_iload_n hx hb d_M_remove_34 rfl (lv_at hl 1 rfl) ?_
      refine xa_ld (u := u) hx hb hK hP 1 0 rfl rfl (by omega) (by decide) d_M_remove_35 ?_
      refine lv_iload_n hx hb d_M_remove_36 rfl (lv_at hl 2 rfl) ?_
      refine xr_cal (va_runS (As := [.int (h u), .int (nI v)]) (rest := []) ⟨hx, hb, hml, hown, hB⟩ (k_M_has l D  (h u) v (by omega)) ⟨callB_of 2 hB (xg0 mc_M_has) rfl rfl rfl (hB _ mz_M) (hB _ ml_M_35) (by decide +kernel) ⟨Nat.le_of_ble_eq_true rfl, Nat.le_of_ble_eq_true rfl⟩, hB _ ms_M_has⟩ (xpS (ws := []) (tys := []) (hP.sub [] rfl) (hK.sub [] rfl) hN) rfl rfl hl.1 rfl (lv_room (Nat.le_of_ble_eq_true rfl)) d_M_remove_37 ⟨Nat.le_of_ble_eq_true rfl, Nat.le_of_ble_eq_true rfl⟩) ?_
      refine lv_if_ne (tgt := 45) hx hb d_M_remove_40 rfl (fun hc40 => ?_) (fun hc40 => ?_)
      · have hc40 := b2i_n.mp hc40
        exact absurd hc40 (by rw [hb9]; decide)
      · have hc40 := b2i_0.mp hc40
        refine lv_iconst (v := nI 0) hx hb d_M_remove_43 (by decide) ?_
        have hP9 := hP.sub (ws' := [(mo, .inr (5, [.int (nI 0), .int mn, .ref m0, .int mg, .ref m1, .ref m2, .ref m3, .ref m4, .ref m5, .ref m6])), (m0, .inl (o0, 16, .inl h)), (m1, .inl (o1, 16, .inl mO)), (m2, .inl (o2, 16, .inl mG)), (m3, .inl (o3, 16, .inl mF)), (m4, .inl (o4, 32, .inl mA)), (m5, .inl (o5, 32, .inl mU)), (m6, .inl (o6, 32, .inl mR))]) [0, 1, 2, 3, 4, 5, 6, 7] rfl
        have hD9 := hD.sub (ws' := [(mo, .inr (5, [.int (nI 0), .int mn, .ref m0, .int mg, .ref m1, .ref m2, .ref m3, .ref m4, .ref m5, .ref m6])), (m0, .inl (o0, 16, .inl h)), (m1, .inl (o1, 16, .inl mO)), (m2, .inl (o2, 16, .inl mG)), (m3, .inl (o3, 16, .inl mF)), (m4, .inl (o4, 32, .inl mA)), (m5, .inl (o5, 32, .inl mU)), (m6, .inl (o6, 32, .inl mR))]) [0, 1, 2, 3, 4, 5, 6, 7] (by decide) rfl
        subst hAe
        refine xv_top (x' := b2i false) (rfl) ?_
        exact W.zret (v := b2i false) hx hb hr (b2i_nar _) (fun t ht hW => ⟨⟨_, (), rfl, rfl, by rw [ht]; exact hP9, va_K.moved hW.alike hK, hD9⟩, hS.F ht⟩) hS.2.2 d_M_remove_44
set_option maxHeartbeats 4000000 in
set_option maxRecDepth 100000 in
theorem k_M_remove_take (l : Launch) (D : va_G) (mo m0 m1 m2 m3 m4 m5 m6 : Nat) (o0 o1 o2 o3 o4 o5 o6 : ClassId) (mc : Int32) (mn : Int32) (mg : Int32) (h : Nat → Int32) (mO : Nat → Int32) (mG : Nat → Int32) (mF : Nat → Int32) (mA : Nat → Int32) (mU : Nat → Int32) (mR : Nat → Int32) (u v : Nat) (hu : u < 16) (hv : v < 16) (hb9 : bt (h u) v = true) (sz : Nat) : Met l y_M_remove (Cond.code y_M_remove c_M_remove 3 (some .boolean) :: BS) { frames := 1, cells := 0, slots := 0, locals := 21 } (va_Pc [.ref mo, .int (nI u), .int (nI v)] (xWp D [(mo, .inr (5, [.int mc, .int mn, .ref m0, .int mg, .ref m1, .ref m2, .ref m3, .ref m4, .ref m5, .ref m6])), (m0, .inl (o0, 16, .inl h)), (m1, .inl (o1, 16, .inl mO)), (m2, .inl (o2, 16, .inl mG)), (m3, .inl (o3, 16, .inl mF)), (m4, .inl (o4, 32, .inl mA)), (m5, .inl (o5, 32, .inl mU)), (m6, .inl (o6, 32, .inl mR))] [(o0, .int), (o1, .int), (o2, .int), (o3, .int), (o4, .int), (o5, .int), (o6, .int)] sz)) (xQi D [(mo, .inr (5, [.int mc, .int mn, .ref m0, .int mg, .ref m1, .ref m2, .ref m3, .ref m4, .ref m5, .ref m6])), (m0, .inl (o0, 16, .inl h)), (m1, .inl (o1, 16, .inl mO)), (m2, .inl (o2, 16, .inl mG)), (m3, .inl (o3, 16, .inl mF)), (m4, .inl (o4, 32, .inl mA)), (m5, .inl (o5, 32, .inl mU)), (m6, .inl (o6, 32, .inl mR))] [(mo, .inr (5, [.int (nI 0), .int (mn - nI 1), .ref m0, .int mg, .ref m1, .ref m2, .ref m3, .ref m4, .ref m5, .ref m6])), (m0, .inl (o0, 16, .inl (upd h u (h u &&& (bit v ^^^ (-1)))))), (m1, .inl (o1, 16, .inl mO)), (m2, .inl (o2, 16, .inl mG)), (m3, .inl (o3, 16, .inl mF)), (m4, .inl (o4, 32, .inl mA)), (m5, .inl (o5, 32, .inl mU)), (m6, .inl (o6, 32, .inl mR))] [(o0, .int), (o1, .int), (o2, .int), (o3, .int), (o4, .int), (o5, .int), (o6, .int)] sz (b2i true)) 0 0 (va_A [(mo, .inr (5, [.int mc, .int mn, .ref m0, .int mg, .ref m1, .ref m2, .ref m3, .ref m4, .ref m5, .ref m6])), (m0, .inl (o0, 16, .inl h)), (m1, .inl (o1, 16, .inl mO)), (m2, .inl (o2, 16, .inl mG)), (m3, .inl (o3, 16, .inl mF)), (m4, .inl (o4, 32, .inl mA)), (m5, .inl (o5, 32, .inl mU)), (m6, .inl (o6, 32, .inl mR))] sz) := by
  refine Met.ofW (cc := c_M_remove) (maxL := 3) (ret := (some .boolean)) (by decide) rfl ?_
  intro p e s m args below meth c s₁ B hml hv
  obtain ⟨rfl, hsz, hP, hK, hD0, hN⟩ := hv
  have hx := B.exec
  have hb := B.bytes
  have hr := B.returns
  have hB := xB B.pre
  have hown : s.vm.findClass R_M = some m.cls := findClass_of_methodNamed B.named
  have hlocks := B.notSynchronized
  subst hsz
  have hD := hD0.self (sz := s.heap.size)
  obtain ⟨A, hAe⟩ : ∃ A, A = va_A [(mo, .inr (5, [.int mc, .int mn, .ref m0, .int mg, .ref m1, .ref m2, .ref m3, .ref m4, .ref m5, .ref m6])), (m0, .inl (o0, 16, .inl h)), (m1, .inl (o1, 16, .inl mO)), (m2, .inl (o2, 16, .inl mG)), (m3, .inl (o3, 16, .inl mF)), (m4, .inl (o4, 32, .inl mA)), (m5, .inl (o5, 32, .inl mU)), (m6, .inl (o6, 32, .inl mR))] s.heap.size := ⟨_, rfl⟩
  rw [← hAe] at hD
  have hA : ∀ q : Nat, s.heap.size ≤ q → A q := fun q h => by rw [hAe]; exact Or.inr h
  have hS : va_S A s.heap s.heap [] := va_S.rf
  have hl := lv_entry ([.ref mo, .int (nI u), .int (nI v)]) (n := 3) (Nat.le_of_ble_eq_true rfl)
  rw [lg_entry_eq]
  generalize (lg_sl ([.ref mo, .int (nI u), .int (nI v)]) ++ List.replicate (3 - (lg_sl ([.ref mo, .int (nI u), .int (nI v)])).length) Slot.unset).toArray = ls at hl ⊢
  have hl : lv_has ls 3 [(0, .ref mo), (1, .int (nI u)), (2, .int (nI v))] := hl
  refine lv_aload_n hx hb d_M_remove_0 rfl (lv_at hl 0 rfl) ?_
  refine lv_iload_n hx hb d_M_remove_1 rfl (lv_at hl 1 rfl) ?_
  refine xr_cal (va_runS (As := [.int (nI u)]) (rest := [.ref mo]) ⟨hx, hb, hml, hown, hB⟩ (k_M_isPlace l D  (nI u)) ⟨callB_of 1 hB (xg0 mc_M_isPlace) rfl rfl rfl (hB _ mz_M) (hB _ ml_M_44) (by decide +kernel) ⟨Nat.le_of_ble_eq_true rfl, Nat.le_of_ble_eq_true rfl⟩, hB _ ms_M_isPlace⟩ (xpS (ws := []) (tys := []) (hP.sub [] rfl) (hK.sub [] rfl) hN) rfl rfl hl.1 rfl (lv_room (Nat.le_of_ble_eq_true rfl)) d_M_remove_2 ⟨Nat.le_of_ble_eq_true rfl, Nat.le_of_ble_eq_true rfl⟩) ?_
  refine lv_if_eq (tgt := 19) hx hb d_M_remove_5 rfl (fun hc5 => ?_) (fun hc5 => ?_)
  · have hc5 := b2i_0.mp hc5
    exact absurd hc5 (by rw [isP_nI (by omega)]; decide)
  · have hc5 := b2i_n.mp hc5
    refine lv_iload_n hx hb d_M_remove_8 rfl (lv_at hl 2 rfl) ?_
    refine xr_cal (va_runS (As := [.int (nI v)]) (rest := [.ref mo]) ⟨hx, hb, hml, hown, hB⟩ (k_M_isPlace l D  (nI v)) ⟨callB_of 1 hB (xg0 mc_M_isPlace) rfl rfl rfl (hB _ mz_M) (hB _ ml_M_44) (by decide +kernel) ⟨Nat.le_of_ble_eq_true rfl, Nat.le_of_ble_eq_true rfl⟩, hB _ ms_M_isPlace⟩ (xpS (ws := []) (tys := []) (hP.sub [] rfl) (hK.sub [] rfl) hN) rfl rfl hl.1 rfl (lv_room (Nat.le_of_ble_eq_true rfl)) d_M_remove_9 ⟨Nat.le_of_ble_eq_true rfl, Nat.le_of_ble_eq_true rfl⟩) ?_
    refine lv_if_eq (tgt := 19) hx hb d_M_remove_12 rfl (fun hc12 => ?_) (fun hc12 => ?_)
    · have hc12 := b2i_0.mp hc12
      exact absurd hc12 (by rw [isP_nI (by omega)]; decide)
    · have hc12 := b2i_n.mp hc12
      refine lv_iconst (v := nI 0) hx hb d_M_remove_15 (by decide) ?_
      refine lv_goto (tgt := 20) hx hb d_M_remove_16 rfl ?_
      refine va_put (D := D) (ci := 5) (v := .int (nI 0)) (ty := .int) (C := R_M) (T := F_M) (N := 10) hx hb hB in_M t_M t_M_ok n_M hown hK hP hD hS 0 rfl rfl 0 (by decide) (hB _ mf_M_31) (fun _ h9 => h9) rfl (by decide +kernel) rfl rfl (Nat.le_of_ble_eq_true rfl) d_M_remove_20 (fun H locs hP hD hS => ?_)
      have hP : va_P D cls [(mo, .inr (5, [.int (nI 0), .int mn, .ref m0, .int mg, .ref m1, .ref m2, .ref m3, .ref m4, .ref m5, .ref m6])), (m0, .inl (o0, 16, .inl h)), (m1, .inl (o1, 16, .inl mO)), (m2, .inl (o2, 16, .inl mG)), (m3, .inl (o3, 16, .inl mF)), (m4, .inl (o4, 32, .inl mA)), (m5, .inl (o5, 32, .inl mU)), (m6, .inl (o6, 32, .inl mR))] H := hP
      have hD : va_D A [(mo, .inr (5, [.int (nI 0), .int mn, .ref m0, .int mg, .ref m1, .ref m2, .ref m3, .ref m4, .ref m5, .ref m6])), (m0, .inl (o0, 16, .inl h)), (m1, .inl (o1, 16, .inl mO)), (m2, .inl (o2, 16, .inl mG)), (m3, .inl (o3, 16, .inl mF)), (m4, .inl (o4, 32, .inl mA)), (m5, .inl (o5, 32, .inl mU)), (m6, .inl (o6, 32, .inl mR))] := hD
      refine lv_aload_n hx hb d_M_remove_23 rfl (lv_at hl 0 rfl) ?_
      refine va_get (D := D) (ci := 5) (v := .int (nI 0)) (C := R_M) (T := F_M) (N := 10) hx hb hB in_M hown hK hP 0 rfl rfl 0 (by decide) (hB _ mf_M_31) (fun _ h9 => h9) rfl d_M_remove_24 ?_
      refine lv_if_gt (tgt := 43) hx hb d_M_remove_27 rfl (fun hc27 => absurd hc27 (by decide)) (fun _ => ?_)
      refine lv_aload_n hx hb d_M_remove_30 rfl (lv_at hl 0 rfl) ?_
      refine va_get (D := D) (ci := 5) (v := .ref m0) (C := R_M) (T := F_M) (N := 10) hx hb hB in_M hown hK hP 0 rfl rfl 2 (by decide) (hB _ mf_M_7) (fun _ h9 => h9) rfl d_M_remove_31 ?_
      refine lv_iload_n hx hb d_M_remove_34 rfl (lv_at hl 1 rfl) ?_
      refine xa_ld (u := u) hx hb hK hP 1 0 rfl rfl (by omega) (by decide) d_M_remove_35 ?_
      refine lv_iload_n hx hb d_M_remove_36 rfl (lv_at hl 2 rfl) ?_
      refine xr_cal (va_runS (As := [.int (h u), .int (nI v)]) (rest := []) ⟨hx, hb, hml, hown, hB⟩ (k_M_has l D  (h u) v (by omega)) ⟨callB_of 2 hB (xg0 mc_M_has) rfl rfl rfl (hB _ mz_M) (hB _ ml_M_35) (by decide +kernel) ⟨Nat.le_of_ble_eq_true rfl, Nat.le_of_ble_eq_true rfl⟩, hB _ ms_M_has⟩ (xpS (ws := []) (tys := []) (hP.sub [] rfl) (hK.sub [] rfl) hN) rfl rfl hl.1 rfl (lv_room (Nat.le_of_ble_eq_true rfl)) d_M_remove_37 ⟨Nat.le_of_ble_eq_true rfl, Nat.le_of_ble_eq_true rfl⟩) ?_
      refine lv_if_ne (tgt := 45) hx hb d_M_remove_40 rfl (fun hc40 => ?_) (fun hc40 => ?_)
      · have hc40 := b2i_n.mp hc40
        refine lv_aload_n hx hb d_M_remove_45 rfl (lv_at hl 0 rfl) ?_
        refine va_get (D := D) (ci := 5) (v := .ref m0) (C := R_M) (T := F_M) (N := 10) hx hb hB in_M hown hK hP 0 rfl rfl 2 (by decide) (hB _ mf_M_7) (fun _ h9 => h9) rfl d_M_remove_46 ?_
        refine lv_iload_n hx hb d_M_remove_49 rfl (lv_at hl 1 rfl) ?_
        refine lv_dup2_11 hx hb d_M_remove_50 rfl rfl ?_
        refine xa_ld (u := u) hx hb hK hP 1 0 rfl rfl (by omega) (by decide) d_M_remove_51 ?_
        refine lv_iconst (v := nI 1) hx hb d_M_remove_52 (by decide) ?_
        refine lv_iload_n hx hb d_M_remove_53 rfl (lv_at hl 2 rfl) ?_
        refine lv_ishl hx hb d_M_remove_54 ?_
        refine lv_iconst (v := -1) hx hb d_M_remove_55 (by decide) ?_
        refine lv_ixor hx hb d_M_remove_56 ?_
        refine lv_iand hx hb d_M_remove_57 ?_
        refine xa_st (u := u) hx hb hK hP hD hS 1 0 rfl rfl (by omega) (by decide) d_M_remove_58 (fun H locs hP hD hS => ?_)
        have hP : va_P D cls [(mo, .inr (5, [.int (nI 0), .int mn, .ref m0, .int mg, .ref m1, .ref m2, .ref m3, .ref m4, .ref m5, .ref m6])), (m0, .inl (o0, 16, .inl (upd h u ((h u) &&& (((nI 1) <<< (nI v &&& 31)) ^^^ (-1)))))), (m1, .inl (o1, 16, .inl mO)), (m2, .inl (o2, 16, .inl mG)), (m3, .inl (o3, 16, .inl mF)), (m4, .inl (o4, 32, .inl mA)), (m5, .inl (o5, 32, .inl mU)), (m6, .inl (o6, 32, .inl mR))] H := hP
        have hD : va_D A [(mo, .inr (5, [.int (nI 0), .int mn, .ref m0, .int mg, .ref m1, .ref m2, .ref m3, .ref m4, .ref m5, .ref m6])), (m0, .inl (o0, 16, .inl (upd h u ((h u) &&& (((nI 1) <<< (nI v &&& 31)) ^^^ (-1)))))), (m1, .inl (o1, 16, .inl mO)), (m2, .inl (o2, 16, .inl mG)), (m3, .inl (o3, 16, .inl mF)), (m4, .inl (o4, 32, .inl mA)), (m5, .inl (o5, 32, .inl mU)), (m6, .inl (o6, 32, .inl mR))] := hD
        refine lv_aload_n hx hb d_M_remove_59 rfl (lv_at hl 0 rfl) ?_
        refine lv_dup hx hb d_M_remove_60 rfl ?_
        refine va_get (D := D) (ci := 5) (v := .int mn) (C := R_M) (T := F_M) (N := 10) hx hb hB in_M hown hK hP 0 rfl rfl 1 (by decide) (hB _ mf_M_48) (fun _ h9 => h9) rfl d_M_remove_61 ?_
        refine lv_iconst (v := nI 1) hx hb d_M_remove_64 (by decide) ?_
        refine lv_isub hx hb d_M_remove_65 ?_
        refine va_put (D := D) (ci := 5) (v := .int (mn - (nI 1))) (ty := .int) (C := R_M) (T := F_M) (N := 10) hx hb hB in_M t_M t_M_ok n_M hown hK hP hD hS 0 rfl rfl 1 (by decide) (hB _ mf_M_48) (fun _ h9 => h9) rfl (by decide +kernel) rfl rfl (Nat.le_of_ble_eq_true rfl) d_M_remove_66 (fun H locs hP hD hS => ?_)
        have hP : va_P D cls [(mo, .inr (5, [.int (nI 0), .int (mn - (nI 1)), .ref m0, .int mg, .ref m1, .ref m2, .ref m3, .ref m4, .ref m5, .ref m6])), (m0, .inl (o0, 16, .inl (upd h u ((h u) &&& (((nI 1) <<< (nI v &&& 31)) ^^^ (-1)))))), (m1, .inl (o1, 16, .inl mO)), (m2, .inl (o2, 16, .inl mG)), (m3, .inl (o3, 16, .inl mF)), (m4, .inl (o4, 32, .inl mA)), (m5, .inl (o5, 32, .inl mU)), (m6, .inl (o6, 32, .inl mR))] H := hP
        have hD : va_D A [(mo, .inr (5, [.int (nI 0), .int (mn - (nI 1)), .ref m0, .int mg, .ref m1, .ref m2, .ref m3, .ref m4, .ref m5, .ref m6])), (m0, .inl (o0, 16, .inl (upd h u ((h u) &&& (((nI 1) <<< (nI v &&& 31)) ^^^ (-1)))))), (m1, .inl (o1, 16, .inl mO)), (m2, .inl (o2, 16, .inl mG)), (m3, .inl (o3, 16, .inl mF)), (m4, .inl (o4, 32, .inl mA)), (m5, .inl (o5, 32, .inl mU)), (m6, .inl (o6, 32, .inl mR))] := hD
        refine lv_iconst (v := nI 1) hx hb d_M_remove_69 (by decide) ?_
        have hP9 := hP.sub (ws' := [(mo, .inr (5, [.int (nI 0), .int (mn - nI 1), .ref m0, .int mg, .ref m1, .ref m2, .ref m3, .ref m4, .ref m5, .ref m6])), (m0, .inl (o0, 16, .inl (upd h u (h u &&& (bit v ^^^ (-1)))))), (m1, .inl (o1, 16, .inl mO)), (m2, .inl (o2, 16, .inl mG)), (m3, .inl (o3, 16, .inl mF)), (m4, .inl (o4, 32, .inl mA)), (m5, .inl (o5, 32, .inl mU)), (m6, .inl (o6, 32, .inl mR))]) [0, 1, 2, 3, 4, 5, 6, 7] rfl
        have hD9 := hD.sub (ws' := [(mo, .inr (5, [.int (nI 0), .int (mn - nI 1), .ref m0, .int mg, .ref m1, .ref m2, .ref m3, .ref m4, .ref m5, .ref m6])), (m0, .inl (o0, 16, .inl (upd h u (h u &&& (bit v ^^^ (-1)))))), (m1, .inl (o1, 16, .inl mO)), (m2, .inl (o2, 16, .inl mG)), (m3, .inl (o3, 16, .inl mF)), (m4, .inl (o4, 32, .inl mA)), (m5, .inl (o5, 32, .inl mU)), (m6, .inl (o6, 32, .inl mR))]) [0, 1, 2, 3, 4, 5, 6, 7] (by decide) rfl
        subst hAe
        refine xv_top (x' := b2i true) (rfl) ?_
        exact W.zret (v := b2i true) hx hb hr (b2i_nar _) (fun t ht hW => ⟨⟨_, (), rfl, rfl, by rw [ht]; exact hP9, va_K.moved hW.alike hK, hD9⟩, hS.F ht⟩) hS.2.2 d_M_remove_70
      · have hc40 := b2i_0.mp hc40
        exact absurd hb9 (by rw [hc40]; decide)
set_option maxHeartbeats 4000000 in
set_option maxRecDepth 100000 in
theorem k_M_findGroups (l : Launch) (D : va_G) (mo m0 m1 m2 m3 m4 m5 m6 : Nat) (o0 o1 o2 o3 o4 o5 o6 : ClassId) (mc : Int32) (mn : Int32) (mg : Int32) (h : Nat → Int32) (mO : Nat → Int32) (mG : Nat → Int32) (mF : Nat → Int32) (mA : Nat → Int32) (mU : Nat → Int32) (mR : Nat → Int32) (hg : gd h) (sz : Nat) : Met l y_M_findGroups (Cond.code y_M_findGroups c_M_findGroups 4 none :: BS) { frames := 3, cells := 0, slots := 0, locals := 67 } (va_Pc [.ref mo] (xWp D [(mo, .inr (5, [.int mc, .int mn, .ref m0, .int mg, .ref m1, .ref m2, .ref m3, .ref m4, .ref m5, .ref m6])), (m0, .inl (o0, 16, .inl h)), (m1, .inl (o1, 16, .inl mO)), (m2, .inl (o2, 16, .inl mG)), (m3, .inl (o3, 16, .inl mF)), (m4, .inl (o4, 32, .inl mA)), (m5, .inl (o5, 32, .inl mU)), (m6, .inl (o6, 32, .inl mR))] [(o0, .int), (o1, .int), (o2, .int), (o3, .int), (o4, .int), (o5, .int), (o6, .int)] sz)) (xQv D [(mo, .inr (5, [.int mc, .int mn, .ref m0, .int mg, .ref m1, .ref m2, .ref m3, .ref m4, .ref m5, .ref m6])), (m0, .inl (o0, 16, .inl h)), (m1, .inl (o1, 16, .inl mO)), (m2, .inl (o2, 16, .inl mG)), (m3, .inl (o3, 16, .inl mF)), (m4, .inl (o4, 32, .inl mA)), (m5, .inl (o5, 32, .inl mU)), (m6, .inl (o6, 32, .inl mR))] [(mo, .inr (5, [.int mc, .int mn, .ref m0, .int mg, .ref m1, .ref m2, .ref m3, .ref m4, .ref m5, .ref m6])), (m0, .inl (o0, 16, .inl h)), (m1, .inl (o1, 16, .inl mO)), (m2, .inl (o2, 16, .inl (GR h))), (m3, .inl (o3, 16, .inl mF)), (m4, .inl (o4, 32, .inl mA)), (m5, .inl (o5, 32, .inl mU)), (m6, .inl (o6, 32, .inl mR))] [(o0, .int), (o1, .int), (o2, .int), (o3, .int), (o4, .int), (o5, .int), (o6, .int)] sz) 0 0 (va_A [(mo, .inr (5, [.int mc, .int mn, .ref m0, .int mg, .ref m1, .ref m2, .ref m3, .ref m4, .ref m5, .ref m6])), (m0, .inl (o0, 16, .inl h)), (m1, .inl (o1, 16, .inl mO)), (m2, .inl (o2, 16, .inl mG)), (m3, .inl (o3, 16, .inl mF)), (m4, .inl (o4, 32, .inl mA)), (m5, .inl (o5, 32, .inl mU)), (m6, .inl (o6, 32, .inl mR))] sz) := by
  refine Met.ofW (cc := c_M_findGroups) (maxL := 4) (ret := none) (by decide) rfl ?_
  intro p e s m args below meth c s₁ B hml hv
  obtain ⟨rfl, hsz, hP, hK, hD0, hN⟩ := hv
  have hx := B.exec
  have hb := B.bytes
  have hr := B.returns
  have hB := xB B.pre
  have hown : s.vm.findClass R_M = some m.cls := findClass_of_methodNamed B.named
  have hlocks := B.notSynchronized
  subst hsz
  have hD := hD0.self (sz := s.heap.size)
  obtain ⟨A, hAe⟩ : ∃ A, A = va_A [(mo, .inr (5, [.int mc, .int mn, .ref m0, .int mg, .ref m1, .ref m2, .ref m3, .ref m4, .ref m5, .ref m6])), (m0, .inl (o0, 16, .inl h)), (m1, .inl (o1, 16, .inl mO)), (m2, .inl (o2, 16, .inl mG)), (m3, .inl (o3, 16, .inl mF)), (m4, .inl (o4, 32, .inl mA)), (m5, .inl (o5, 32, .inl mU)), (m6, .inl (o6, 32, .inl mR))] s.heap.size := ⟨_, rfl⟩
  rw [← hAe] at hD
  have hA : ∀ q : Nat, s.heap.size ≤ q → A q := fun q h => by rw [hAe]; exact Or.inr h
  have hS : va_S A s.heap s.heap [] := va_S.rf
  have hl := lv_entry ([.ref mo]) (n := 4) (Nat.le_of_ble_eq_true rfl)
  rw [lg_entry_eq]
  generalize (lg_sl ([.ref mo]) ++ List.replicate (4 - (lg_sl ([.ref mo])).length) Slot.unset).toArray = ls at hl ⊢
  have hl : lv_has ls 4 [(0, .ref mo)] := hl
  refine lv_iconst (v := nI 0) hx hb d_M_findGroups_0 (by decide) ?_
  refine lv_istore_n hx hb d_M_findGroups_1 rfl hl (by decide) rfl (fun ls hl => ?_)
  have hl : lv_has ls 4 [(1, .int (nI 0)), (0, .ref mo)] := hl
  have hP := xP_ext hP 3 (fun k => if k < 0 then GR h k else mG k) rfl (fun j9 hj9 => congrFun lt0_f j9)
  have hD := xD_ext hD 3 (y := .inl (o2, 16, .inl (fun k => if k < 0 then GR h k else mG k))) rfl
  have hP : va_P D cls [(mo, .inr (5, [.int mc, .int mn, .ref m0, .int mg, .ref m1, .ref m2, .ref m3, .ref m4, .ref m5, .ref m6])), (m0, .inl (o0, 16, .inl h)), (m1, .inl (o1, 16, .inl mO)), (m2, .inl (o2, 16, .inl (fun k => if k < 0 then GR h k else mG k))), (m3, .inl (o3, 16, .inl mF)), (m4, .inl (o4, 32, .inl mA)), (m5, .inl (o5, 32, .inl mU)), (m6, .inl (o6, 32, .inl mR))] _ := hP
  have hD : va_D A [(mo, .inr (5, [.int mc, .int mn, .ref m0, .int mg, .ref m1, .ref m2, .ref m3, .ref m4, .ref m5, .ref m6])), (m0, .inl (o0, 16, .inl h)), (m1, .inl (o1, 16, .inl mO)), (m2, .inl (o2, 16, .inl (fun k => if k < 0 then GR h k else mG k))), (m3, .inl (o3, 16, .inl mF)), (m4, .inl (o4, 32, .inl mA)), (m5, .inl (o5, 32, .inl mU)), (m6, .inl (o6, 32, .inl mR))] := hD
  refine xl_w (fun (u : Nat) ls H locs => ((u ≤ 16)) ∧ lv_has ls 4 [(1, .int (nI u)), (0, .ref mo)] ∧ va_P D cls [(mo, .inr (5, [.int mc, .int mn, .ref m0, .int mg, .ref m1, .ref m2, .ref m3, .ref m4, .ref m5, .ref m6])), (m0, .inl (o0, 16, .inl h)), (m1, .inl (o1, 16, .inl mO)), (m2, .inl (o2, 16, .inl (fun k => if k < u then GR h k else mG k))), (m3, .inl (o3, 16, .inl mF)), (m4, .inl (o4, 32, .inl mA)), (m5, .inl (o5, 32, .inl mU)), (m6, .inl (o6, 32, .inl mR))] H ∧ va_D A [(mo, .inr (5, [.int mc, .int mn, .ref m0, .int mg, .ref m1, .ref m2, .ref m3, .ref m4, .ref m5, .ref m6])), (m0, .inl (o0, 16, .inl h)), (m1, .inl (o1, 16, .inl mO)), (m2, .inl (o2, 16, .inl (fun k => if k < u then GR h k else mG k))), (m3, .inl (o3, 16, .inl mF)), (m4, .inl (o4, 32, .inl mA)), (m5, .inl (o5, 32, .inl mU)), (m6, .inl (o6, 32, .inl mR))] ∧ va_S A s.heap H locs) (fun u => 16 - u) (fun u ls H locs hI ih2 => ?_) 0 _ ⟨Nat.zero_le _, hl, hP, hD, hS⟩
  obtain ⟨hI, hl, hP, hD, hS⟩ := hI
  have hu := hI
  refine lv_iload_n hx hb d_M_findGroups_2 rfl (lv_at hl 0 rfl) ?_
  refine lv_bipush (v := nI 16) hx hb d_M_findGroups_3 (by decide) ?_
  refine lv_icmp_ge (tgt := 79) hx hb d_M_findGroups_5 rfl (fun hc5 => ?_) (fun hc5 => ?_)
  · have hc5 : 16 ≤ u := (nI_leI (by omega) (by omega)).mp hc5
    have hP := xP_ext hP 3 (GR h) rfl (fun j9 hj9 => if_pos (by omega))
    have hD := xD_ext hD 3 (y := .inl (o2, 16, .inl (GR h))) rfl
    have hP : va_P D cls [(mo, .inr (5, [.int mc, .int mn, .ref m0, .int mg, .ref m1, .ref m2, .ref m3, .ref m4, .ref m5, .ref m6])), (m0, .inl (o0, 16, .inl h)), (m1, .inl (o1, 16, .inl mO)), (m2, .inl (o2, 16, .inl (GR h))), (m3, .inl (o3, 16, .inl mF)), (m4, .inl (o4, 32, .inl mA)), (m5, .inl (o5, 32, .inl mU)), (m6, .inl (o6, 32, .inl mR))] _ := hP
    have hD : va_D A [(mo, .inr (5, [.int mc, .int mn, .ref m0, .int mg, .ref m1, .ref m2, .ref m3, .ref m4, .ref m5, .ref m6])), (m0, .inl (o0, 16, .inl h)), (m1, .inl (o1, 16, .inl mO)), (m2, .inl (o2, 16, .inl (GR h))), (m3, .inl (o3, 16, .inl mF)), (m4, .inl (o4, 32, .inl mA)), (m5, .inl (o5, 32, .inl mU)), (m6, .inl (o6, 32, .inl mR))] := hD
    have hP9 := hP.sub (ws' := [(mo, .inr (5, [.int mc, .int mn, .ref m0, .int mg, .ref m1, .ref m2, .ref m3, .ref m4, .ref m5, .ref m6])), (m0, .inl (o0, 16, .inl h)), (m1, .inl (o1, 16, .inl mO)), (m2, .inl (o2, 16, .inl (GR h))), (m3, .inl (o3, 16, .inl mF)), (m4, .inl (o4, 32, .inl mA)), (m5, .inl (o5, 32, .inl mU)), (m6, .inl (o6, 32, .inl mR))]) [0, 1, 2, 3, 4, 5, 6, 7] rfl
    have hD9 := hD.sub (ws' := [(mo, .inr (5, [.int mc, .int mn, .ref m0, .int mg, .ref m1, .ref m2, .ref m3, .ref m4, .ref m5, .ref m6])), (m0, .inl (o0, 16, .inl h)), (m1, .inl (o1, 16, .inl mO)), (m2, .inl (o2, 16, .inl (GR h))), (m3, .inl (o3, 16, .inl mF)), (m4, .inl (o4, 32, .inl mA)), (m5, .inl (o5, 32, .inl mU)), (m6, .inl (o6, 32, .inl mR))]) [0, 1, 2, 3, 4, 5, 6, 7] (by decide) rfl
    subst hAe
    exact W.vret hx hb hr (fun t ht hW => ⟨⟨(), rfl, trivial, by rw [ht]; exact hP9, va_K.moved hW.alike hK, hD9⟩, hS.F ht⟩) hS.2.2 d_M_findGroups_79
  · have hc5 : ¬ (16 ≤ u) := fun q9 => hc5 ((nI_leI (by omega) (by omega)).mpr q9)
    refine lv_aload_n hx hb d_M_findGroups_8 rfl (lv_at hl 1 rfl) ?_
    refine lv_iload_n hx hb d_M_findGroups_9 rfl (lv_at hl 0 rfl) ?_
    refine xr_cal (va_runV (As := [.int (nI u)]) (rest := []) ⟨hx, hb, hml, hown, hB⟩ (k_M_reach l D mo m0 m1 m2 m3 m4 m5 m6 o0 o1 o2 o3 o4 o5 o6 mc mn mg h mO (fun k => if k < u then GR h k else mG k) mF mA mU mR hg u (by omega)) ⟨callB_of 1 hB (xg0 mc_M_reach) rfl rfl rfl (hB _ mz_M) (hB _ ml_M_51) (by decide +kernel) ⟨Nat.le_of_ble_eq_true rfl, Nat.le_of_ble_eq_true rfl⟩, hB _ mi_M_reach, hB _ me_M_reach⟩ (xpV (ws := [(mo, .inr (5, [.int mc, .int mn, .ref m0, .int mg, .ref m1, .ref m2, .ref m3, .ref m4, .ref m5, .ref m6])), (m0, .inl (o0, 16, .inl h)), (m1, .inl (o1, 16, .inl mO)), (m2, .inl (o2, 16, .inl (fun k => if k < u then GR h k else mG k))), (m3, .inl (o3, 16, .inl mF)), (m4, .inl (o4, 32, .inl mA)), (m5, .inl (o5, 32, .inl mU)), (m6, .inl (o6, 32, .inl mR))]) (tys := [(o0, .int), (o1, .int), (o2, .int), (o3, .int), (o4, .int), (o5, .int), (o6, .int)]) (hP.sub [0, 1, 2, 3, 4, 5, 6, 7] rfl) (hK.sub [0, 1, 2, 3, 4, 5, 6] rfl) hN (va_recv (ci := 5) (q0 := 0) (q := (R_M, F_M, 10)) hK hP rfl rfl)) rfl rfl hl.1 rfl (lv_room (Nat.le_of_ble_eq_true rfl)) d_M_findGroups_10 ⟨Nat.le_of_ble_eq_true rfl, Nat.le_of_ble_eq_true rfl⟩) ?_
    refine lv_istore_n hx hb d_M_findGroups_13 rfl hl (by decide) rfl (fun ls hl => ?_)
    have hl : lv_has ls 4 [(2, .int (RE h u)), (1, .int (nI u)), (0, .ref mo)] := hl
    refine lv_aload_n hx hb d_M_findGroups_14 rfl (lv_at hl 2 rfl) ?_
    refine va_get (D := D) (ci := 5) (v := .ref m2) (C := R_M) (T := F_M) (N := 10) hx hb hB in_M hown hK hP 0 rfl rfl 5 (by decide) (hB _ mf_M_16) (fun _ h9 => h9) rfl d_M_findGroups_15 ?_
    refine lv_iload_n hx hb d_M_findGroups_18 rfl (lv_at hl 1 rfl) ?_
    refine lv_iconst (v := nI 1) hx hb d_M_findGroups_19 (by decide) ?_
    refine lv_iload_n hx hb d_M_findGroups_20 rfl (lv_at hl 1 rfl) ?_
    refine lv_ishl hx hb d_M_findGroups_21 ?_
    refine xa_st (u := u) hx hb hK hP hD hS 3 2 rfl rfl (by omega) (by decide) d_M_findGroups_22 (fun H locs hP hD hS => ?_)
    have hP : va_P D cls [(mo, .inr (5, [.int mc, .int mn, .ref m0, .int mg, .ref m1, .ref m2, .ref m3, .ref m4, .ref m5, .ref m6])), (m0, .inl (o0, 16, .inl h)), (m1, .inl (o1, 16, .inl mO)), (m2, .inl (o2, 16, .inl (upd (fun k => if k < u then GR h k else mG k) u ((nI 1) <<< (nI u &&& 31))))), (m3, .inl (o3, 16, .inl mF)), (m4, .inl (o4, 32, .inl mA)), (m5, .inl (o5, 32, .inl mU)), (m6, .inl (o6, 32, .inl mR))] H := hP
    have hD : va_D A [(mo, .inr (5, [.int mc, .int mn, .ref m0, .int mg, .ref m1, .ref m2, .ref m3, .ref m4, .ref m5, .ref m6])), (m0, .inl (o0, 16, .inl h)), (m1, .inl (o1, 16, .inl mO)), (m2, .inl (o2, 16, .inl (upd (fun k => if k < u then GR h k else mG k) u ((nI 1) <<< (nI u &&& 31))))), (m3, .inl (o3, 16, .inl mF)), (m4, .inl (o4, 32, .inl mA)), (m5, .inl (o5, 32, .inl mU)), (m6, .inl (o6, 32, .inl mR))] := hD
    refine lv_iconst (v := nI 0) hx hb d_M_findGroups_23 (by decide) ?_
    refine lv_istore_n hx hb d_M_findGroups_24 rfl hl (by decide) rfl (fun ls hl => ?_)
    have hl : lv_has ls 4 [(3, .int (nI 0)), (2, .int (RE h u)), (1, .int (nI u)), (0, .ref mo)] := hl
    have hP := xP_ext hP 3 (upd (fun k => if k < u then GR h k else mG k) u (gr h u 0)) rfl (fun j9 hj9 => rfl)
    have hD := xD_ext hD 3 (y := .inl (o2, 16, .inl (upd (fun k => if k < u then GR h k else mG k) u (gr h u 0)))) rfl
    have hP : va_P D cls [(mo, .inr (5, [.int mc, .int mn, .ref m0, .int mg, .ref m1, .ref m2, .ref m3, .ref m4, .ref m5, .ref m6])), (m0, .inl (o0, 16, .inl h)), (m1, .inl (o1, 16, .inl mO)), (m2, .inl (o2, 16, .inl (upd (fun k => if k < u then GR h k else mG k) u (gr h u 0)))), (m3, .inl (o3, 16, .inl mF)), (m4, .inl (o4, 32, .inl mA)), (m5, .inl (o5, 32, .inl mU)), (m6, .inl (o6, 32, .inl mR))] _ := hP
    have hD : va_D A [(mo, .inr (5, [.int mc, .int mn, .ref m0, .int mg, .ref m1, .ref m2, .ref m3, .ref m4, .ref m5, .ref m6])), (m0, .inl (o0, 16, .inl h)), (m1, .inl (o1, 16, .inl mO)), (m2, .inl (o2, 16, .inl (upd (fun k => if k < u then GR h k else mG k) u (gr h u 0)))), (m3, .inl (o3, 16, .inl mF)), (m4, .inl (o4, 32, .inl mA)), (m5, .inl (o5, 32, .inl mU)), (m6, .inl (o6, 32, .inl mR))] := hD
    refine xl_w (fun (w9 : Nat) ls H locs => ((w9 ≤ 16)) ∧ lv_has ls 4 [(3, .int (nI w9)), (2, .int (RE h u)), (1, .int (nI u)), (0, .ref mo)] ∧ va_P D cls [(mo, .inr (5, [.int mc, .int mn, .ref m0, .int mg, .ref m1, .ref m2, .ref m3, .ref m4, .ref m5, .ref m6])), (m0, .inl (o0, 16, .inl h)), (m1, .inl (o1, 16, .inl mO)), (m2, .inl (o2, 16, .inl (upd (fun k => if k < u then GR h k else mG k) u (gr h u w9)))), (m3, .inl (o3, 16, .inl mF)), (m4, .inl (o4, 32, .inl mA)), (m5, .inl (o5, 32, .inl mU)), (m6, .inl (o6, 32, .inl mR))] H ∧ va_D A [(mo, .inr (5, [.int mc, .int mn, .ref m0, .int mg, .ref m1, .ref m2, .ref m3, .ref m4, .ref m5, .ref m6])), (m0, .inl (o0, 16, .inl h)), (m1, .inl (o1, 16, .inl mO)), (m2, .inl (o2, 16, .inl (upd (fun k => if k < u then GR h k else mG k) u (gr h u w9)))), (m3, .inl (o3, 16, .inl mF)), (m4, .inl (o4, 32, .inl mA)), (m5, .inl (o5, 32, .inl mU)), (m6, .inl (o6, 32, .inl mR))] ∧ va_S A s.heap H locs) (fun w9 => 16 - w9) (fun w9 ls H locs hI ih25 => ?_) 0 _ ⟨Nat.zero_le _, hl, hP, hD, hS⟩
    obtain ⟨hI, hl, hP, hD, hS⟩ := hI
    have hw9 := hI
    refine lv_iload_n hx hb d_M_findGroups_25 rfl (lv_at hl 0 rfl) ?_
    refine lv_bipush (v := nI 16) hx hb d_M_findGroups_26 (by decide) ?_
    refine lv_icmp_ge (tgt := 73) hx hb d_M_findGroups_28 rfl (fun hc28 => ?_) (fun hc28 => ?_)
    · have hc28 : 16 ≤ w9 := (nI_leI (by omega) (by omega)).mp hc28
      have hz : (upd (fun k => if k < u then GR h k else mG k) u (gr h u w9)) = (fun k => if k < u + 1 then GR h k else mG k) := by rw [show w9 = 16 by omega]; exact upd_ltf rfl
      rw [hz] at hP hD
      refine lv_iinc hx hb d_M_findGroups_73 hl (k := 2) rfl (v := nI (u + 1)) (nI_1 u) (by decide) rfl (fun ls hl => ?_)
      have hl : lv_has ls 4 [(1, .int (nI (u + 1))), (3, .int (nI w9)), (2, .int (RE h u)), (0, .ref mo)] := hl
      refine lv_goto (tgt := 2) hx hb d_M_findGroups_76 rfl ?_
      exact ih2 (u + 1) _ H locs ⟨by omega, lv_sub hl [0, 3] rfl, hP, hD, hS⟩ (by omega)
    · have hc28 : ¬ (16 ≤ w9) := fun q9 => hc28 ((nI_leI (by omega) (by omega)).mpr q9)
      refine lv_aload_n hx hb d_M_findGroups_31 rfl (lv_at hl 3 rfl) ?_
      refine va_get (D := D) (ci := 5) (v := .ref m2) (C := R_M) (T := F_M) (N := 10) hx hb hB in_M hown hK hP 0 rfl rfl 5 (by decide) (hB _ mf_M_16) (fun _ h9 => h9) rfl d_M_findGroups_32 ?_
      refine lv_iload_n hx hb d_M_findGroups_35 rfl (lv_at hl 2 rfl) ?_
      refine lv_dup2_11 hx hb d_M_findGroups_36 rfl rfl ?_
      refine xa_ld (u := u) hx hb hK hP 3 2 rfl rfl (by omega) (by decide) d_M_findGroups_37 ?_
      refine xv_top (x' := gr h u w9) (pk_us) ?_
      refine lv_iload_n hx hb d_M_findGroups_38 rfl (lv_at hl 1 rfl) ?_
      refine lv_iload_n hx hb d_M_findGroups_39 rfl (lv_at hl 0 rfl) ?_
      refine xr_cal (va_runS (As := [.int (RE h u), .int (nI w9)]) (rest := [.int (gr h u w9), .int (nI u), .ref m2]) ⟨hx, hb, hml, hown, hB⟩ (k_M_has l D  (RE h u) w9 (by omega)) ⟨callB_of 2 hB (xg0 mc_M_has) rfl rfl rfl (hB _ mz_M) (hB _ ml_M_35) (by decide +kernel) ⟨Nat.le_of_ble_eq_true rfl, Nat.le_of_ble_eq_true rfl⟩, hB _ ms_M_has⟩ (xpS (ws := []) (tys := []) (hP.sub [] rfl) (hK.sub [] rfl) hN) rfl rfl hl.1 rfl (lv_room (Nat.le_of_ble_eq_true rfl)) d_M_findGroups_40 ⟨Nat.le_of_ble_eq_true rfl, Nat.le_of_ble_eq_true rfl⟩) ?_
      refine lv_if_eq (tgt := 64) hx hb d_M_findGroups_43 rfl (fun hc43 => ?_) (fun hc43 => ?_)
      · have hc43 := b2i_0.mp hc43
        refine lv_iconst (v := nI 0) hx hb d_M_findGroups_64 (by decide) ?_
        refine lv_ior hx hb d_M_findGroups_65 ?_
        refine xa_st (u := u) hx hb hK hP hD hS 3 2 rfl rfl (by omega) (by decide) d_M_findGroups_66 (fun H locs hP hD hS => ?_)
        have hP : va_P D cls [(mo, .inr (5, [.int mc, .int mn, .ref m0, .int mg, .ref m1, .ref m2, .ref m3, .ref m4, .ref m5, .ref m6])), (m0, .inl (o0, 16, .inl h)), (m1, .inl (o1, 16, .inl mO)), (m2, .inl (o2, 16, .inl (upd (upd (fun k => if k < u then GR h k else mG k) u (gr h u w9)) u ((gr h u w9) ||| (nI 0))))), (m3, .inl (o3, 16, .inl mF)), (m4, .inl (o4, 32, .inl mA)), (m5, .inl (o5, 32, .inl mU)), (m6, .inl (o6, 32, .inl mR))] H := hP
        have hD : va_D A [(mo, .inr (5, [.int mc, .int mn, .ref m0, .int mg, .ref m1, .ref m2, .ref m3, .ref m4, .ref m5, .ref m6])), (m0, .inl (o0, 16, .inl h)), (m1, .inl (o1, 16, .inl mO)), (m2, .inl (o2, 16, .inl (upd (upd (fun k => if k < u then GR h k else mG k) u (gr h u w9)) u ((gr h u w9) ||| (nI 0))))), (m3, .inl (o3, 16, .inl mF)), (m4, .inl (o4, 32, .inl mA)), (m5, .inl (o5, 32, .inl mU)), (m6, .inl (o6, 32, .inl mR))] := hD
        have hz : (upd (upd (fun k => if k < u then GR h k else mG k) u (gr h u w9)) u ((gr h u w9) ||| (nI 0))) = (upd (fun k => if k < u then GR h k else mG k) u (gr h u (w9 + 1))) := upd_uu ((or_z _).trans (if_neg (by first | (intro q9; rw [hc43] at q9; exact absurd q9.1 (by decide)) | (intro q9; rw [hc55] at q9; exact absurd q9.2 (by decide)))).symm)
        rw [hz] at hP hD
        refine lv_iinc hx hb d_M_findGroups_67 hl (k := 0) rfl (v := nI (w9 + 1)) (nI_1 w9) (by decide) rfl (fun ls hl => ?_)
        have hl : lv_has ls 4 [(3, .int (nI (w9 + 1))), (2, .int (RE h u)), (1, .int (nI u)), (0, .ref mo)] := hl
        refine lv_goto (tgt := 25) hx hb d_M_findGroups_70 rfl ?_
        exact ih25 (w9 + 1) _ H locs ⟨by omega, lv_sub hl [0, 1, 2, 3] rfl, hP, hD, hS⟩ (by omega)
      · have hc43 := b2i_n.mp hc43
        refine lv_aload_n hx hb d_M_findGroups_46 rfl (lv_at hl 3 rfl) ?_
        refine lv_iload_n hx hb d_M_findGroups_47 rfl (lv_at hl 0 rfl) ?_
        refine xr_cal (va_runV (As := [.int (nI w9)]) (rest := [.int (gr h u w9), .int (nI u), .ref m2]) ⟨hx, hb, hml, hown, hB⟩ (k_M_reach l D mo m0 m1 m2 m3 m4 m5 m6 o0 o1 o2 o3 o4 o5 o6 mc mn mg h mO (upd (fun k => if k < u then GR h k else mG k) u (gr h u w9)) mF mA mU mR hg w9 (by omega)) ⟨callB_of 1 hB (xg0 mc_M_reach) rfl rfl rfl (hB _ mz_M) (hB _ ml_M_51) (by decide +kernel) ⟨Nat.le_of_ble_eq_true rfl, Nat.le_of_ble_eq_true rfl⟩, hB _ mi_M_reach, hB _ me_M_reach⟩ (xpV (ws := [(mo, .inr (5, [.int mc, .int mn, .ref m0, .int mg, .ref m1, .ref m2, .ref m3, .ref m4, .ref m5, .ref m6])), (m0, .inl (o0, 16, .inl h)), (m1, .inl (o1, 16, .inl mO)), (m2, .inl (o2, 16, .inl (upd (fun k => if k < u then GR h k else mG k) u (gr h u w9)))), (m3, .inl (o3, 16, .inl mF)), (m4, .inl (o4, 32, .inl mA)), (m5, .inl (o5, 32, .inl mU)), (m6, .inl (o6, 32, .inl mR))]) (tys := [(o0, .int), (o1, .int), (o2, .int), (o3, .int), (o4, .int), (o5, .int), (o6, .int)]) (hP.sub [0, 1, 2, 3, 4, 5, 6, 7] rfl) (hK.sub [0, 1, 2, 3, 4, 5, 6] rfl) hN (va_recv (ci := 5) (q0 := 0) (q := (R_M, F_M, 10)) hK hP rfl rfl)) rfl rfl hl.1 rfl (lv_room (Nat.le_of_ble_eq_true rfl)) d_M_findGroups_48 ⟨Nat.le_of_ble_eq_true rfl, Nat.le_of_ble_eq_true rfl⟩) ?_
        refine lv_iload_n hx hb d_M_findGroups_51 rfl (lv_at hl 2 rfl) ?_
        refine xr_cal (va_runS (As := [.int (RE h w9), .int (nI u)]) (rest := [.int (gr h u w9), .int (nI u), .ref m2]) ⟨hx, hb, hml, hown, hB⟩ (k_M_has l D  (RE h w9) u (by omega)) ⟨callB_of 2 hB (xg0 mc_M_has) rfl rfl rfl (hB _ mz_M) (hB _ ml_M_35) (by decide +kernel) ⟨Nat.le_of_ble_eq_true rfl, Nat.le_of_ble_eq_true rfl⟩, hB _ ms_M_has⟩ (xpS (ws := []) (tys := []) (hP.sub [] rfl) (hK.sub [] rfl) hN) rfl rfl hl.1 rfl (lv_room (Nat.le_of_ble_eq_true rfl)) d_M_findGroups_52 ⟨Nat.le_of_ble_eq_true rfl, Nat.le_of_ble_eq_true rfl⟩) ?_
        refine lv_if_eq (tgt := 64) hx hb d_M_findGroups_55 rfl (fun hc55 => ?_) (fun hc55 => ?_)
        · have hc55 := b2i_0.mp hc55
          refine lv_iconst (v := nI 0) hx hb d_M_findGroups_64 (by decide) ?_
          refine lv_ior hx hb d_M_findGroups_65 ?_
          refine xa_st (u := u) hx hb hK hP hD hS 3 2 rfl rfl (by omega) (by decide) d_M_findGroups_66 (fun H locs hP hD hS => ?_)
          have hP : va_P D cls [(mo, .inr (5, [.int mc, .int mn, .ref m0, .int mg, .ref m1, .ref m2, .ref m3, .ref m4, .ref m5, .ref m6])), (m0, .inl (o0, 16, .inl h)), (m1, .inl (o1, 16, .inl mO)), (m2, .inl (o2, 16, .inl (upd (upd (fun k => if k < u then GR h k else mG k) u (gr h u w9)) u ((gr h u w9) ||| (nI 0))))), (m3, .inl (o3, 16, .inl mF)), (m4, .inl (o4, 32, .inl mA)), (m5, .inl (o5, 32, .inl mU)), (m6, .inl (o6, 32, .inl mR))] H := hP
          have hD : va_D A [(mo, .inr (5, [.int mc, .int mn, .ref m0, .int mg, .ref m1, .ref m2, .ref m3, .ref m4, .ref m5, .ref m6])), (m0, .inl (o0, 16, .inl h)), (m1, .inl (o1, 16, .inl mO)), (m2, .inl (o2, 16, .inl (upd (upd (fun k => if k < u then GR h k else mG k) u (gr h u w9)) u ((gr h u w9) ||| (nI 0))))), (m3, .inl (o3, 16, .inl mF)), (m4, .inl (o4, 32, .inl mA)), (m5, .inl (o5, 32, .inl mU)), (m6, .inl (o6, 32, .inl mR))] := hD
          have hz : (upd (upd (fun k => if k < u then GR h k else mG k) u (gr h u w9)) u ((gr h u w9) ||| (nI 0))) = (upd (fun k => if k < u then GR h k else mG k) u (gr h u (w9 + 1))) := upd_uu ((or_z _).trans (if_neg (by first | (intro q9; rw [hc43] at q9; exact absurd q9.1 (by decide)) | (intro q9; rw [hc55] at q9; exact absurd q9.2 (by decide)))).symm)
          rw [hz] at hP hD
          refine lv_iinc hx hb d_M_findGroups_67 hl (k := 0) rfl (v := nI (w9 + 1)) (nI_1 w9) (by decide) rfl (fun ls hl => ?_)
          have hl : lv_has ls 4 [(3, .int (nI (w9 + 1))), (2, .int (RE h u)), (1, .int (nI u)), (0, .ref mo)] := hl
          refine lv_goto (tgt := 25) hx hb d_M_findGroups_70 rfl ?_
          exact ih25 (w9 + 1) _ H locs ⟨by omega, lv_sub hl [0, 1, 2, 3] rfl, hP, hD, hS⟩ (by omega)
        · have hc55 := b2i_n.mp hc55
          refine lv_iconst (v := nI 1) hx hb d_M_findGroups_58 (by decide) ?_
          refine lv_iload_n hx hb d_M_findGroups_59 rfl (lv_at hl 0 rfl) ?_
          refine lv_ishl hx hb d_M_findGroups_60 ?_
          refine lv_goto (tgt := 65) hx hb d_M_findGroups_61 rfl ?_
          refine lv_ior hx hb d_M_findGroups_65 ?_
          refine xa_st (u := u) hx hb hK hP hD hS 3 2 rfl rfl (by omega) (by decide) d_M_findGroups_66 (fun H locs hP hD hS => ?_)
          have hP : va_P D cls [(mo, .inr (5, [.int mc, .int mn, .ref m0, .int mg, .ref m1, .ref m2, .ref m3, .ref m4, .ref m5, .ref m6])), (m0, .inl (o0, 16, .inl h)), (m1, .inl (o1, 16, .inl mO)), (m2, .inl (o2, 16, .inl (upd (upd (fun k => if k < u then GR h k else mG k) u (gr h u w9)) u ((gr h u w9) ||| ((nI 1) <<< (nI w9 &&& 31)))))), (m3, .inl (o3, 16, .inl mF)), (m4, .inl (o4, 32, .inl mA)), (m5, .inl (o5, 32, .inl mU)), (m6, .inl (o6, 32, .inl mR))] H := hP
          have hD : va_D A [(mo, .inr (5, [.int mc, .int mn, .ref m0, .int mg, .ref m1, .ref m2, .ref m3, .ref m4, .ref m5, .ref m6])), (m0, .inl (o0, 16, .inl h)), (m1, .inl (o1, 16, .inl mO)), (m2, .inl (o2, 16, .inl (upd (upd (fun k => if k < u then GR h k else mG k) u (gr h u w9)) u ((gr h u w9) ||| ((nI 1) <<< (nI w9 &&& 31)))))), (m3, .inl (o3, 16, .inl mF)), (m4, .inl (o4, 32, .inl mA)), (m5, .inl (o5, 32, .inl mU)), (m6, .inl (o6, 32, .inl mR))] := hD
          have hz : (upd (upd (fun k => if k < u then GR h k else mG k) u (gr h u w9)) u ((gr h u w9) ||| ((nI 1) <<< (nI w9 &&& 31)))) = (upd (fun k => if k < u then GR h k else mG k) u (gr h u (w9 + 1))) := upd_uu (if_pos ⟨hc43, hc55⟩).symm
          rw [hz] at hP hD
          refine lv_iinc hx hb d_M_findGroups_67 hl (k := 0) rfl (v := nI (w9 + 1)) (nI_1 w9) (by decide) rfl (fun ls hl => ?_)
          have hl : lv_has ls 4 [(3, .int (nI (w9 + 1))), (2, .int (RE h u)), (1, .int (nI u)), (0, .ref mo)] := hl
          refine lv_goto (tgt := 25) hx hb d_M_findGroups_70 rfl ?_
          exact ih25 (w9 + 1) _ H locs ⟨by omega, lv_sub hl [0, 1, 2, 3] rfl, hP, hD, hS⟩ (by omega)
set_option maxHeartbeats 4000000 in
set_option maxRecDepth 100000 in
theorem k_M_measure (l : Launch) (D : va_G) (mo m0 m1 m2 m3 m4 m5 m6 : Nat) (o0 o1 o2 o3 o4 o5 o6 : ClassId) (mc : Int32) (mn : Int32) (mg : Int32) (h : Nat → Int32) (mO : Nat → Int32) (mG : Nat → Int32) (mF : Nat → Int32) (mA : Nat → Int32) (mU : Nat → Int32) (mR : Nat → Int32) (hg : gd h) (v : Nat) (hv : v < 16) (sz : Nat) : Met l y_M_measure (Cond.code y_M_measure c_M_measure 6 none :: BS) { frames := 1, cells := 0, slots := 0, locals := 21 } (va_Pc [.ref mo, .int (nI v)] (xWp D [(mo, .inr (5, [.int mc, .int mn, .ref m0, .int mg, .ref m1, .ref m2, .ref m3, .ref m4, .ref m5, .ref m6])), (m0, .inl (o0, 16, .inl h)), (m1, .inl (o1, 16, .inl mO)), (m2, .inl (o2, 16, .inl mG)), (m3, .inl (o3, 16, .inl mF)), (m4, .inl (o4, 32, .inl mA)), (m5, .inl (o5, 32, .inl mU)), (m6, .inl (o6, 32, .inl mR))] [(o0, .int), (o1, .int), (o2, .int), (o3, .int), (o4, .int), (o5, .int), (o6, .int)] sz)) (xQv D [(mo, .inr (5, [.int mc, .int mn, .ref m0, .int mg, .ref m1, .ref m2, .ref m3, .ref m4, .ref m5, .ref m6])), (m0, .inl (o0, 16, .inl h)), (m1, .inl (o1, 16, .inl mO)), (m2, .inl (o2, 16, .inl mG)), (m3, .inl (o3, 16, .inl mF)), (m4, .inl (o4, 32, .inl mA)), (m5, .inl (o5, 32, .inl mU)), (m6, .inl (o6, 32, .inl mR))] [(mo, .inr (5, [.int mc, .int mn, .ref m0, .int mg, .ref m1, .ref m2, .ref m3, .ref m4, .ref m5, .ref m6])), (m0, .inl (o0, 16, .inl h)), (m1, .inl (o1, 16, .inl mO)), (m2, .inl (o2, 16, .inl mG)), (m3, .inl (o3, 16, .inl (fun k => DS h k v))), (m4, .inl (o4, 32, .inl mA)), (m5, .inl (o5, 32, .inl mU)), (m6, .inl (o6, 32, .inl mR))] [(o0, .int), (o1, .int), (o2, .int), (o3, .int), (o4, .int), (o5, .int), (o6, .int)] sz) 0 0 (va_A [(mo, .inr (5, [.int mc, .int mn, .ref m0, .int mg, .ref m1, .ref m2, .ref m3, .ref m4, .ref m5, .ref m6])), (m0, .inl (o0, 16, .inl h)), (m1, .inl (o1, 16, .inl mO)), (m2, .inl (o2, 16, .inl mG)), (m3, .inl (o3, 16, .inl mF)), (m4, .inl (o4, 32, .inl mA)), (m5, .inl (o5, 32, .inl mU)), (m6, .inl (o6, 32, .inl mR))] sz) := by
  refine Met.ofW (cc := c_M_measure) (maxL := 6) (ret := none) (by decide) rfl ?_
  intro p e s m args below meth c s₁ B hml hv
  obtain ⟨rfl, hsz, hP, hK, hD0, hN⟩ := hv
  have hx := B.exec
  have hb := B.bytes
  have hr := B.returns
  have hB := xB B.pre
  have hown : s.vm.findClass R_M = some m.cls := findClass_of_methodNamed B.named
  have hlocks := B.notSynchronized
  subst hsz
  have hD := hD0.self (sz := s.heap.size)
  obtain ⟨A, hAe⟩ : ∃ A, A = va_A [(mo, .inr (5, [.int mc, .int mn, .ref m0, .int mg, .ref m1, .ref m2, .ref m3, .ref m4, .ref m5, .ref m6])), (m0, .inl (o0, 16, .inl h)), (m1, .inl (o1, 16, .inl mO)), (m2, .inl (o2, 16, .inl mG)), (m3, .inl (o3, 16, .inl mF)), (m4, .inl (o4, 32, .inl mA)), (m5, .inl (o5, 32, .inl mU)), (m6, .inl (o6, 32, .inl mR))] s.heap.size := ⟨_, rfl⟩
  rw [← hAe] at hD
  have hA : ∀ q : Nat, s.heap.size ≤ q → A q := fun q h => by rw [hAe]; exact Or.inr h
  have hS : va_S A s.heap s.heap [] := va_S.rf
  have hl := lv_entry ([.ref mo, .int (nI v)]) (n := 6) (Nat.le_of_ble_eq_true rfl)
  rw [lg_entry_eq]
  generalize (lg_sl ([.ref mo, .int (nI v)]) ++ List.replicate (6 - (lg_sl ([.ref mo, .int (nI v)])).length) Slot.unset).toArray = ls at hl ⊢
  have hl : lv_has ls 6 [(0, .ref mo), (1, .int (nI v))] := hl
  refine lv_iconst (v := nI 1) hx hb d_M_measure_0 (by decide) ?_
  refine lv_iload_n hx hb d_M_measure_1 rfl (lv_at hl 1 rfl) ?_
  refine lv_ishl hx hb d_M_measure_2 ?_
  refine lv_istore_n hx hb d_M_measure_3 rfl hl (by decide) rfl (fun ls hl => ?_)
  have hl : lv_has ls 6 [(2, .int ((nI 1) <<< (nI v &&& 31))), (0, .ref mo), (1, .int (nI v))] := hl
  have hl : lv_has ls 6 [(2, .int (sN h v 0 0)), (0, .ref mo), (1, .int (nI v))] := by
    have hz : ((nI 1) <<< (nI v &&& 31)) = sN h v 0 0 := sN_00 hv
    rw [← hz]; exact hl
  refine lv_iconst (v := nI 0) hx hb d_M_measure_4 (by decide) ?_
  refine lv_istore_n hx hb d_M_measure_5 rfl hl (by decide) rfl (fun ls hl => ?_)
  have hl : lv_has ls 6 [(3, .int (nI 0)), (2, .int (sN h v 0 0)), (0, .ref mo), (1, .int (nI v))] := hl
  have hP := xP_ext hP 4 (fun k => if k < 0 then far0 v k else mF k) rfl (fun j9 hj9 => congrFun lt0_f j9)
  have hD := xD_ext hD 4 (y := .inl (o3, 16, .inl (fun k => if k < 0 then far0 v k else mF k))) rfl
  have hP : va_P D cls [(mo, .inr (5, [.int mc, .int mn, .ref m0, .int mg, .ref m1, .ref m2, .ref m3, .ref m4, .ref m5, .ref m6])), (m0, .inl (o0, 16, .inl h)), (m1, .inl (o1, 16, .inl mO)), (m2, .inl (o2, 16, .inl mG)), (m3, .inl (o3, 16, .inl (fun k => if k < 0 then far0 v k else mF k))), (m4, .inl (o4, 32, .inl mA)), (m5, .inl (o5, 32, .inl mU)), (m6, .inl (o6, 32, .inl mR))] _ := hP
  have hD : va_D A [(mo, .inr (5, [.int mc, .int mn, .ref m0, .int mg, .ref m1, .ref m2, .ref m3, .ref m4, .ref m5, .ref m6])), (m0, .inl (o0, 16, .inl h)), (m1, .inl (o1, 16, .inl mO)), (m2, .inl (o2, 16, .inl mG)), (m3, .inl (o3, 16, .inl (fun k => if k < 0 then far0 v k else mF k))), (m4, .inl (o4, 32, .inl mA)), (m5, .inl (o5, 32, .inl mU)), (m6, .inl (o6, 32, .inl mR))] := hD
  refine xl_w (fun (u : Nat) ls H locs => ((u ≤ 16)) ∧ lv_has ls 6 [(3, .int (nI u)), (2, .int (sN h v 0 0)), (0, .ref mo), (1, .int (nI v))] ∧ va_P D cls [(mo, .inr (5, [.int mc, .int mn, .ref m0, .int mg, .ref m1, .ref m2, .ref m3, .ref m4, .ref m5, .ref m6])), (m0, .inl (o0, 16, .inl h)), (m1, .inl (o1, 16, .inl mO)), (m2, .inl (o2, 16, .inl mG)), (m3, .inl (o3, 16, .inl (fun k => if k < u then far0 v k else mF k))), (m4, .inl (o4, 32, .inl mA)), (m5, .inl (o5, 32, .inl mU)), (m6, .inl (o6, 32, .inl mR))] H ∧ va_D A [(mo, .inr (5, [.int mc, .int mn, .ref m0, .int mg, .ref m1, .ref m2, .ref m3, .ref m4, .ref m5, .ref m6])), (m0, .inl (o0, 16, .inl h)), (m1, .inl (o1, 16, .inl mO)), (m2, .inl (o2, 16, .inl mG)), (m3, .inl (o3, 16, .inl (fun k => if k < u then far0 v k else mF k))), (m4, .inl (o4, 32, .inl mA)), (m5, .inl (o5, 32, .inl mU)), (m6, .inl (o6, 32, .inl mR))] ∧ va_S A s.heap H locs) (fun u => 16 - u) (fun u ls H locs hI ih6 => ?_) 0 _ ⟨Nat.zero_le _, hl, hP, hD, hS⟩
  obtain ⟨hI, hl, hP, hD, hS⟩ := hI
  have hu := hI
  refine lv_iload_n hx hb d_M_measure_6 rfl (lv_at hl 0 rfl) ?_
  refine lv_bipush (v := nI 16) hx hb d_M_measure_7 (by decide) ?_
  refine lv_icmp_ge (tgt := 34) hx hb d_M_measure_9 rfl (fun hc9 => ?_) (fun hc9 => ?_)
  · have hc9 : 16 ≤ u := (nI_leI (by omega) (by omega)).mp hc9
    have hP := xP_ext hP 4 (fN h v 0 0) rfl (fun j9 hj9 => by rw [if_pos (by omega)]; exact fN_00 hv)
    have hD := xD_ext hD 4 (y := .inl (o3, 16, .inl (fN h v 0 0))) rfl
    have hP : va_P D cls [(mo, .inr (5, [.int mc, .int mn, .ref m0, .int mg, .ref m1, .ref m2, .ref m3, .ref m4, .ref m5, .ref m6])), (m0, .inl (o0, 16, .inl h)), (m1, .inl (o1, 16, .inl mO)), (m2, .inl (o2, 16, .inl mG)), (m3, .inl (o3, 16, .inl (fN h v 0 0))), (m4, .inl (o4, 32, .inl mA)), (m5, .inl (o5, 32, .inl mU)), (m6, .inl (o6, 32, .inl mR))] _ := hP
    have hD : va_D A [(mo, .inr (5, [.int mc, .int mn, .ref m0, .int mg, .ref m1, .ref m2, .ref m3, .ref m4, .ref m5, .ref m6])), (m0, .inl (o0, 16, .inl h)), (m1, .inl (o1, 16, .inl mO)), (m2, .inl (o2, 16, .inl mG)), (m3, .inl (o3, 16, .inl (fN h v 0 0))), (m4, .inl (o4, 32, .inl mA)), (m5, .inl (o5, 32, .inl mU)), (m6, .inl (o6, 32, .inl mR))] := hD
    refine lv_iconst (v := nI 1) hx hb d_M_measure_34 (by decide) ?_
    refine lv_istore_n hx hb d_M_measure_35 rfl hl (by decide) rfl (fun ls hl => ?_)
    have hl : lv_has ls 6 [(3, .int (nI 1)), (2, .int (sN h v 0 0)), (0, .ref mo), (1, .int (nI v))] := hl
    refine xl_w (fun (n : Nat) ls H locs => ((n ≤ 15)) ∧ lv_has ls 6 [(3, .int (nI (n + 1))), (2, .int (sN h v n 0)), (0, .ref mo), (1, .int (nI v))] ∧ va_P D cls [(mo, .inr (5, [.int mc, .int mn, .ref m0, .int mg, .ref m1, .ref m2, .ref m3, .ref m4, .ref m5, .ref m6])), (m0, .inl (o0, 16, .inl h)), (m1, .inl (o1, 16, .inl mO)), (m2, .inl (o2, 16, .inl mG)), (m3, .inl (o3, 16, .inl (fN h v n 0))), (m4, .inl (o4, 32, .inl mA)), (m5, .inl (o5, 32, .inl mU)), (m6, .inl (o6, 32, .inl mR))] H ∧ va_D A [(mo, .inr (5, [.int mc, .int mn, .ref m0, .int mg, .ref m1, .ref m2, .ref m3, .ref m4, .ref m5, .ref m6])), (m0, .inl (o0, 16, .inl h)), (m1, .inl (o1, 16, .inl mO)), (m2, .inl (o2, 16, .inl mG)), (m3, .inl (o3, 16, .inl (fN h v n 0))), (m4, .inl (o4, 32, .inl mA)), (m5, .inl (o5, 32, .inl mU)), (m6, .inl (o6, 32, .inl mR))] ∧ va_S A s.heap H locs) (fun n => 15 - n) (fun n ls H locs hI ih36 => ?_) 0 _ ⟨Nat.zero_le _, hl, hP, hD, hS⟩
    obtain ⟨hI, hl, hP, hD, hS⟩ := hI
    have hn := hI
    refine lv_iload_n hx hb d_M_measure_36 rfl (lv_at hl 0 rfl) ?_
    refine lv_bipush (v := nI 16) hx hb d_M_measure_37 (by decide) ?_
    refine lv_icmp_ge (tgt := 108) hx hb d_M_measure_39 rfl (fun hc39 => ?_) (fun hc39 => ?_)
    · have hc39 : 16 ≤ (n + 1) := (nI_leI (by omega) (by omega)).mp hc39
      have hP := xP_ext hP 4 (fun k => DS h k v) rfl (fun j9 hj9 => by rw [show n = 15 by omega]; exact fN_end)
      have hD := xD_ext hD 4 (y := .inl (o3, 16, .inl (fun k => DS h k v))) rfl
      have hP : va_P D cls [(mo, .inr (5, [.int mc, .int mn, .ref m0, .int mg, .ref m1, .ref m2, .ref m3, .ref m4, .ref m5, .ref m6])), (m0, .inl (o0, 16, .inl h)), (m1, .inl (o1, 16, .inl mO)), (m2, .inl (o2, 16, .inl mG)), (m3, .inl (o3, 16, .inl (fun k => DS h k v))), (m4, .inl (o4, 32, .inl mA)), (m5, .inl (o5, 32, .inl mU)), (m6, .inl (o6, 32, .inl mR))] _ := hP
      have hD : va_D A [(mo, .inr (5, [.int mc, .int mn, .ref m0, .int mg, .ref m1, .ref m2, .ref m3, .ref m4, .ref m5, .ref m6])), (m0, .inl (o0, 16, .inl h)), (m1, .inl (o1, 16, .inl mO)), (m2, .inl (o2, 16, .inl mG)), (m3, .inl (o3, 16, .inl (fun k => DS h k v))), (m4, .inl (o4, 32, .inl mA)), (m5, .inl (o5, 32, .inl mU)), (m6, .inl (o6, 32, .inl mR))] := hD
      have hP9 := hP.sub (ws' := [(mo, .inr (5, [.int mc, .int mn, .ref m0, .int mg, .ref m1, .ref m2, .ref m3, .ref m4, .ref m5, .ref m6])), (m0, .inl (o0, 16, .inl h)), (m1, .inl (o1, 16, .inl mO)), (m2, .inl (o2, 16, .inl mG)), (m3, .inl (o3, 16, .inl (fun k => DS h k v))), (m4, .inl (o4, 32, .inl mA)), (m5, .inl (o5, 32, .inl mU)), (m6, .inl (o6, 32, .inl mR))]) [0, 1, 2, 3, 4, 5, 6, 7] rfl
      have hD9 := hD.sub (ws' := [(mo, .inr (5, [.int mc, .int mn, .ref m0, .int mg, .ref m1, .ref m2, .ref m3, .ref m4, .ref m5, .ref m6])), (m0, .inl (o0, 16, .inl h)), (m1, .inl (o1, 16, .inl mO)), (m2, .inl (o2, 16, .inl mG)), (m3, .inl (o3, 16, .inl (fun k => DS h k v))), (m4, .inl (o4, 32, .inl mA)), (m5, .inl (o5, 32, .inl mU)), (m6, .inl (o6, 32, .inl mR))]) [0, 1, 2, 3, 4, 5, 6, 7] (by decide) rfl
      subst hAe
      exact W.vret hx hb hr (fun t ht hW => ⟨⟨(), rfl, trivial, by rw [ht]; exact hP9, va_K.moved hW.alike hK, hD9⟩, hS.F ht⟩) hS.2.2 d_M_measure_108
    · have hc39 : ¬ (16 ≤ (n + 1)) := fun q9 => hc39 ((nI_leI (by omega) (by omega)).mpr q9)
      refine lv_iload_n hx hb d_M_measure_42 rfl (lv_at hl 1 rfl) ?_
      refine lv_istore hx hb d_M_measure_43 hl (by decide) rfl (fun ls hl => ?_)
      have hl : lv_has ls 6 [(4, .int (sN h v n 0)), (3, .int (nI (n + 1))), (2, .int (sN h v n 0)), (0, .ref mo), (1, .int (nI v))] := hl
      refine lv_iconst (v := nI 0) hx hb d_M_measure_45 (by decide) ?_
      refine lv_istore hx hb d_M_measure_46 hl (by decide) rfl (fun ls hl => ?_)
      have hl : lv_has ls 6 [(5, .int (nI 0)), (4, .int (sN h v n 0)), (3, .int (nI (n + 1))), (2, .int (sN h v n 0)), (0, .ref mo), (1, .int (nI v))] := hl
      refine xl_w (fun (w9 : Nat) ls H locs => ((w9 ≤ 16)) ∧ lv_has ls 6 [(5, .int (nI w9)), (4, .int (sN h v n w9)), (3, .int (nI (n + 1))), (2, .int (sN h v n 0)), (0, .ref mo), (1, .int (nI v))] ∧ va_P D cls [(mo, .inr (5, [.int mc, .int mn, .ref m0, .int mg, .ref m1, .ref m2, .ref m3, .ref m4, .ref m5, .ref m6])), (m0, .inl (o0, 16, .inl h)), (m1, .inl (o1, 16, .inl mO)), (m2, .inl (o2, 16, .inl mG)), (m3, .inl (o3, 16, .inl (fN h v n w9))), (m4, .inl (o4, 32, .inl mA)), (m5, .inl (o5, 32, .inl mU)), (m6, .inl (o6, 32, .inl mR))] H ∧ va_D A [(mo, .inr (5, [.int mc, .int mn, .ref m0, .int mg, .ref m1, .ref m2, .ref m3, .ref m4, .ref m5, .ref m6])), (m0, .inl (o0, 16, .inl h)), (m1, .inl (o1, 16, .inl mO)), (m2, .inl (o2, 16, .inl mG)), (m3, .inl (o3, 16, .inl (fN h v n w9))), (m4, .inl (o4, 32, .inl mA)), (m5, .inl (o5, 32, .inl mU)), (m6, .inl (o6, 32, .inl mR))] ∧ va_S A s.heap H locs) (fun w9 => 16 - w9) (fun w9 ls H locs hI ih48 => ?_) 0 _ ⟨Nat.zero_le _, hl, hP, hD, hS⟩
      obtain ⟨hI, hl, hP, hD, hS⟩ := hI
      have hw9 := hI
      refine lv_iload hx hb d_M_measure_48 (lv_at hl 0 rfl) ?_
      refine lv_bipush (v := nI 16) hx hb d_M_measure_50 (by decide) ?_
      refine lv_icmp_ge (tgt := 99) hx hb d_M_measure_52 rfl (fun hc52 => ?_) (fun hc52 => ?_)
      · have hc52 : 16 ≤ w9 := (nI_leI (by omega) (by omega)).mp hc52
        refine lv_iload hx hb d_M_measure_99 (lv_at hl 1 rfl) ?_
        refine lv_istore_n hx hb d_M_measure_101 rfl hl (by decide) rfl (fun ls hl => ?_)
        have hl : lv_has ls 6 [(2, .int (sN h v n w9)), (5, .int (nI w9)), (4, .int (sN h v n w9)), (3, .int (nI (n + 1))), (0, .ref mo), (1, .int (nI v))] := hl
        have hl : lv_has ls 6 [(2, .int (sN h v (n + 1) 0)), (5, .int (nI w9)), (4, .int (sN h v n w9)), (3, .int (nI (n + 1))), (0, .ref mo), (1, .int (nI v))] := by
          have hz : (sN h v n w9) = sN h v (n + 1) 0 := by rw [show w9 = 16 by omega]; exact sN_row
          rw [← hz]; exact hl
        have hP := xP_ext hP 4 (fN h v (n + 1) 0) rfl (fun j9 hj9 => by rw [show w9 = 16 by omega]; exact fN_row hj9)
        have hD := xD_ext hD 4 (y := .inl (o3, 16, .inl (fN h v (n + 1) 0))) rfl
        have hP : va_P D cls [(mo, .inr (5, [.int mc, .int mn, .ref m0, .int mg, .ref m1, .ref m2, .ref m3, .ref m4, .ref m5, .ref m6])), (m0, .inl (o0, 16, .inl h)), (m1, .inl (o1, 16, .inl mO)), (m2, .inl (o2, 16, .inl mG)), (m3, .inl (o3, 16, .inl (fN h v (n + 1) 0))), (m4, .inl (o4, 32, .inl mA)), (m5, .inl (o5, 32, .inl mU)), (m6, .inl (o6, 32, .inl mR))] _ := hP
        have hD : va_D A [(mo, .inr (5, [.int mc, .int mn, .ref m0, .int mg, .ref m1, .ref m2, .ref m3, .ref m4, .ref m5, .ref m6])), (m0, .inl (o0, 16, .inl h)), (m1, .inl (o1, 16, .inl mO)), (m2, .inl (o2, 16, .inl mG)), (m3, .inl (o3, 16, .inl (fN h v (n + 1) 0))), (m4, .inl (o4, 32, .inl mA)), (m5, .inl (o5, 32, .inl mU)), (m6, .inl (o6, 32, .inl mR))] := hD
        refine lv_iinc hx hb d_M_measure_102 hl (k := 3) rfl (v := nI ((n + 1) + 1)) (nI_1 (n + 1)) (by decide) rfl (fun ls hl => ?_)
        have hl : lv_has ls 6 [(3, .int (nI ((n + 1) + 1))), (2, .int (sN h v (n + 1) 0)), (5, .int (nI w9)), (4, .int (sN h v n w9)), (0, .ref mo), (1, .int (nI v))] := hl
        refine lv_goto (tgt := 36) hx hb d_M_measure_105 rfl ?_
        exact ih36 (n + 1) _ H locs ⟨by omega, lv_sub hl [0, 1, 4, 5] rfl, hP, hD, hS⟩ (by omega)
      · have hc52 : ¬ (16 ≤ w9) := fun q9 => hc52 ((nI_leI (by omega) (by omega)).mpr q9)
        refine lv_iload_n hx hb d_M_measure_55 rfl (lv_at hl 3 rfl) ?_
        refine lv_iload hx hb d_M_measure_56 (lv_at hl 0 rfl) ?_
        refine xr_cal (va_runS (As := [.int (sN h v n 0), .int (nI w9)]) (rest := []) ⟨hx, hb, hml, hown, hB⟩ (k_M_has l D  (sN h v n 0) w9 (by omega)) ⟨callB_of 2 hB (xg0 mc_M_has) rfl rfl rfl (hB _ mz_M) (hB _ ml_M_35) (by decide +kernel) ⟨Nat.le_of_ble_eq_true rfl, Nat.le_of_ble_eq_true rfl⟩, hB _ ms_M_has⟩ (xpS (ws := []) (tys := []) (hP.sub [] rfl) (hK.sub [] rfl) hN) rfl rfl hl.1 rfl (lv_room (Nat.le_of_ble_eq_true rfl)) d_M_measure_58 ⟨Nat.le_of_ble_eq_true rfl, Nat.le_of_ble_eq_true rfl⟩) ?_
        refine lv_if_ne (tgt := 93) hx hb d_M_measure_61 rfl (fun hc61 => ?_) (fun hc61 => ?_)
        · have hc61 := b2i_n.mp hc61
          have hds : ¬ ds h w9 v = n + 1 := fun q9 => by
            have q8 := (ds_next hg hv (by omega) (by omega)).mpr q9
            first | (rw [hc61] at q8; exact absurd q8.1 (by decide)) | exact q8.2 hc73
          have hl : lv_has ls 6 [(5, .int (nI w9)), (4, .int (sN h v n (w9 + 1))), (3, .int (nI (n + 1))), (2, .int (sN h v n 0)), (0, .ref mo), (1, .int (nI v))] := by
            have hz : (sN h v n w9) = sN h v n (w9 + 1) := sN_f hds
            rw [← hz]; exact hl
          have hz : (fN h v n w9) = (fN h v n (w9 + 1)) := fN_f hds
          rw [hz] at hP hD
          refine lv_iinc hx hb d_M_measure_93 hl (k := 0) rfl (v := nI (w9 + 1)) (nI_1 w9) (by decide) rfl (fun ls hl => ?_)
          have hl : lv_has ls 6 [(5, .int (nI (w9 + 1))), (4, .int (sN h v n (w9 + 1))), (3, .int (nI (n + 1))), (2, .int (sN h v n 0)), (0, .ref mo), (1, .int (nI v))] := hl
          refine lv_goto (tgt := 48) hx hb d_M_measure_96 rfl ?_
          exact ih48 (w9 + 1) _ H locs ⟨by omega, lv_sub hl [0, 1, 2, 3, 4, 5] rfl, hP, hD, hS⟩ (by omega)
        · have hc61 := b2i_0.mp hc61
          refine lv_aload_n hx hb d_M_measure_64 rfl (lv_at hl 4 rfl) ?_
          refine va_get (D := D) (ci := 5) (v := .ref m0) (C := R_M) (T := F_M) (N := 10) hx hb hB in_M hown hK hP 0 rfl rfl 2 (by decide) (hB _ mf_M_7) (fun _ h9 => h9) rfl d_M_measure_65 ?_
          refine lv_iload hx hb d_M_measure_68 (lv_at hl 0 rfl) ?_
          refine xa_ld (u := w9) hx hb hK hP 1 0 rfl rfl (by omega) (by decide) d_M_measure_70 ?_
          refine lv_iload_n hx hb d_M_measure_71 rfl (lv_at hl 3 rfl) ?_
          refine lv_iand hx hb d_M_measure_72 ?_
          refine lv_if_eq (tgt := 93) hx hb d_M_measure_73 rfl (fun hc73 => ?_) (fun hc73 => ?_)
          · have hds : ¬ ds h w9 v = n + 1 := fun q9 => by
              have q8 := (ds_next hg hv (by omega) (by omega)).mpr q9
              first | (rw [hc61] at q8; exact absurd q8.1 (by decide)) | exact q8.2 hc73
            have hl : lv_has ls 6 [(5, .int (nI w9)), (4, .int (sN h v n (w9 + 1))), (3, .int (nI (n + 1))), (2, .int (sN h v n 0)), (0, .ref mo), (1, .int (nI v))] := by
              have hz : (sN h v n w9) = sN h v n (w9 + 1) := sN_f hds
              rw [← hz]; exact hl
            have hz : (fN h v n w9) = (fN h v n (w9 + 1)) := fN_f hds
            rw [hz] at hP hD
            refine lv_iinc hx hb d_M_measure_93 hl (k := 0) rfl (v := nI (w9 + 1)) (nI_1 w9) (by decide) rfl (fun ls hl => ?_)
            have hl : lv_has ls 6 [(5, .int (nI (w9 + 1))), (4, .int (sN h v n (w9 + 1))), (3, .int (nI (n + 1))), (2, .int (sN h v n 0)), (0, .ref mo), (1, .int (nI v))] := hl
            refine lv_goto (tgt := 48) hx hb d_M_measure_96 rfl ?_
            exact ih48 (w9 + 1) _ H locs ⟨by omega, lv_sub hl [0, 1, 2, 3, 4, 5] rfl, hP, hD, hS⟩ (by omega)
          · refine lv_aload_n hx hb d_M_measure_76 rfl (lv_at hl 4 rfl) ?_
            refine va_get (D := D) (ci := 5) (v := .ref m3) (C := R_M) (T := F_M) (N := 10) hx hb hB in_M hown hK hP 0 rfl rfl 6 (by decide) (hB _ mf_M_19) (fun _ h9 => h9) rfl d_M_measure_77 ?_
            refine lv_iload hx hb d_M_measure_80 (lv_at hl 0 rfl) ?_
            refine lv_iload_n hx hb d_M_measure_82 rfl (lv_at hl 2 rfl) ?_
            refine xa_st (u := w9) hx hb hK hP hD hS 4 3 rfl rfl (by omega) (by decide) d_M_measure_83 (fun H locs hP hD hS => ?_)
            have hP : va_P D cls [(mo, .inr (5, [.int mc, .int mn, .ref m0, .int mg, .ref m1, .ref m2, .ref m3, .ref m4, .ref m5, .ref m6])), (m0, .inl (o0, 16, .inl h)), (m1, .inl (o1, 16, .inl mO)), (m2, .inl (o2, 16, .inl mG)), (m3, .inl (o3, 16, .inl (upd (fN h v n w9) w9 (nI (n + 1))))), (m4, .inl (o4, 32, .inl mA)), (m5, .inl (o5, 32, .inl mU)), (m6, .inl (o6, 32, .inl mR))] H := hP
            have hD : va_D A [(mo, .inr (5, [.int mc, .int mn, .ref m0, .int mg, .ref m1, .ref m2, .ref m3, .ref m4, .ref m5, .ref m6])), (m0, .inl (o0, 16, .inl h)), (m1, .inl (o1, 16, .inl mO)), (m2, .inl (o2, 16, .inl mG)), (m3, .inl (o3, 16, .inl (upd (fN h v n w9) w9 (nI (n + 1))))), (m4, .inl (o4, 32, .inl mA)), (m5, .inl (o5, 32, .inl mU)), (m6, .inl (o6, 32, .inl mR))] := hD
            refine lv_iload hx hb d_M_measure_84 (lv_at hl 1 rfl) ?_
            refine lv_iconst (v := nI 1) hx hb d_M_measure_86 (by decide) ?_
            refine lv_iload hx hb d_M_measure_87 (lv_at hl 0 rfl) ?_
            refine lv_ishl hx hb d_M_measure_89 ?_
            refine lv_ior hx hb d_M_measure_90 ?_
            refine lv_istore hx hb d_M_measure_91 hl (by decide) rfl (fun ls hl => ?_)
            have hl : lv_has ls 6 [(4, .int ((sN h v n w9) ||| ((nI 1) <<< (nI w9 &&& 31)))), (5, .int (nI w9)), (3, .int (nI (n + 1))), (2, .int (sN h v n 0)), (0, .ref mo), (1, .int (nI v))] := hl
            have hds := (ds_next hg hv (by omega) (by omega)).mp ⟨hc61, hc73⟩
            have hl : lv_has ls 6 [(4, .int (sN h v n (w9 + 1))), (5, .int (nI w9)), (3, .int (nI (n + 1))), (2, .int (sN h v n 0)), (0, .ref mo), (1, .int (nI v))] := by
              have hz : ((sN h v n w9) ||| ((nI 1) <<< (nI w9 &&& 31))) = sN h v n (w9 + 1) := sN_t (by omega) hds
              rw [← hz]; exact hl
            have hz : (upd (fN h v n w9) w9 (nI (n + 1))) = (fN h v n (w9 + 1)) := fN_t hds
            rw [hz] at hP hD
            refine lv_iinc hx hb d_M_measure_93 hl (k := 1) rfl (v := nI (w9 + 1)) (nI_1 w9) (by decide) rfl (fun ls hl => ?_)
            have hl : lv_has ls 6 [(5, .int (nI (w9 + 1))), (4, .int (sN h v n (w9 + 1))), (3, .int (nI (n + 1))), (2, .int (sN h v n 0)), (0, .ref mo), (1, .int (nI v))] := hl
            refine lv_goto (tgt := 48) hx hb d_M_measure_96 rfl ?_
            exact ih48 (w9 + 1) _ H locs ⟨by omega, lv_sub hl [0, 1, 2, 3, 4, 5] rfl, hP, hD, hS⟩ (by omega)
  · have hc9 : ¬ (16 ≤ u) := fun q9 => hc9 ((nI_leI (by omega) (by omega)).mpr q9)
    refine lv_aload_n hx hb d_M_measure_12 rfl (lv_at hl 2 rfl) ?_
    refine va_get (D := D) (ci := 5) (v := .ref m3) (C := R_M) (T := F_M) (N := 10) hx hb hB in_M hown hK hP 0 rfl rfl 6 (by decide) (hB _ mf_M_19) (fun _ h9 => h9) rfl d_M_measure_13 ?_
    refine lv_iload_n hx hb d_M_measure_16 rfl (lv_at hl 0 rfl) ?_
    refine lv_iload_n hx hb d_M_measure_17 rfl (lv_at hl 0 rfl) ?_
    refine lv_iload_n hx hb d_M_measure_18 rfl (lv_at hl 3 rfl) ?_
    refine lv_icmp_ne (tgt := 26) hx hb d_M_measure_19 rfl (fun hc19 => ?_) (fun hc19 => ?_)
    · have hc19 : ¬ (u = v) := fun q9 => hc19 ((nI_eq (by omega) (by omega)).mpr q9)
      refine lv_iconst (v := -1) hx hb d_M_measure_26 (by decide) ?_
      refine xv_top (x' := far0 v u) ((if_neg hc19).symm) ?_
      refine xa_st (u := u) hx hb hK hP hD hS 4 3 rfl rfl (by omega) (by decide) d_M_measure_27 (fun H locs hP hD hS => ?_)
      have hP : va_P D cls [(mo, .inr (5, [.int mc, .int mn, .ref m0, .int mg, .ref m1, .ref m2, .ref m3, .ref m4, .ref m5, .ref m6])), (m0, .inl (o0, 16, .inl h)), (m1, .inl (o1, 16, .inl mO)), (m2, .inl (o2, 16, .inl mG)), (m3, .inl (o3, 16, .inl (upd (fun k => if k < u then far0 v k else mF k) u (far0 v u)))), (m4, .inl (o4, 32, .inl mA)), (m5, .inl (o5, 32, .inl mU)), (m6, .inl (o6, 32, .inl mR))] H := hP
      have hD : va_D A [(mo, .inr (5, [.int mc, .int mn, .ref m0, .int mg, .ref m1, .ref m2, .ref m3, .ref m4, .ref m5, .ref m6])), (m0, .inl (o0, 16, .inl h)), (m1, .inl (o1, 16, .inl mO)), (m2, .inl (o2, 16, .inl mG)), (m3, .inl (o3, 16, .inl (upd (fun k => if k < u then far0 v k else mF k) u (far0 v u)))), (m4, .inl (o4, 32, .inl mA)), (m5, .inl (o5, 32, .inl mU)), (m6, .inl (o6, 32, .inl mR))] := hD
      have hz : (upd (fun k => if k < u then far0 v k else mF k) u (far0 v u)) = (fun k => if k < u + 1 then far0 v k else mF k) := upd_ltf rfl
      rw [hz] at hP hD
      refine lv_iinc hx hb d_M_measure_28 hl (k := 0) rfl (v := nI (u + 1)) (nI_1 u) (by decide) rfl (fun ls hl => ?_)
      have hl : lv_has ls 6 [(3, .int (nI (u + 1))), (2, .int (sN h v 0 0)), (0, .ref mo), (1, .int (nI v))] := hl
      refine lv_goto (tgt := 6) hx hb d_M_measure_31 rfl ?_
      exact ih6 (u + 1) _ H locs ⟨by omega, lv_sub hl [0, 1, 2, 3] rfl, hP, hD, hS⟩ (by omega)
    · have hc19 : u = v := (nI_eq (by omega) (by omega)).mp hc19
      refine lv_iconst (v := nI 0) hx hb d_M_measure_22 (by decide) ?_
      refine lv_goto (tgt := 27) hx hb d_M_measure_23 rfl ?_
      refine xv_top (x' := far0 v u) ((if_pos hc19).symm) ?_
      refine xa_st (u := u) hx hb hK hP hD hS 4 3 rfl rfl (by omega) (by decide) d_M_measure_27 (fun H locs hP hD hS => ?_)
      have hP : va_P D cls [(mo, .inr (5, [.int mc, .int mn, .ref m0, .int mg, .ref m1, .ref m2, .ref m3, .ref m4, .ref m5, .ref m6])), (m0, .inl (o0, 16, .inl h)), (m1, .inl (o1, 16, .inl mO)), (m2, .inl (o2, 16, .inl mG)), (m3, .inl (o3, 16, .inl (upd (fun k => if k < u then far0 v k else mF k) u (far0 v u)))), (m4, .inl (o4, 32, .inl mA)), (m5, .inl (o5, 32, .inl mU)), (m6, .inl (o6, 32, .inl mR))] H := hP
      have hD : va_D A [(mo, .inr (5, [.int mc, .int mn, .ref m0, .int mg, .ref m1, .ref m2, .ref m3, .ref m4, .ref m5, .ref m6])), (m0, .inl (o0, 16, .inl h)), (m1, .inl (o1, 16, .inl mO)), (m2, .inl (o2, 16, .inl mG)), (m3, .inl (o3, 16, .inl (upd (fun k => if k < u then far0 v k else mF k) u (far0 v u)))), (m4, .inl (o4, 32, .inl mA)), (m5, .inl (o5, 32, .inl mU)), (m6, .inl (o6, 32, .inl mR))] := hD
      have hz : (upd (fun k => if k < u then far0 v k else mF k) u (far0 v u)) = (fun k => if k < u + 1 then far0 v k else mF k) := upd_ltf rfl
      rw [hz] at hP hD
      refine lv_iinc hx hb d_M_measure_28 hl (k := 0) rfl (v := nI (u + 1)) (nI_1 u) (by decide) rfl (fun ls hl => ?_)
      have hl : lv_has ls 6 [(3, .int (nI (u + 1))), (2, .int (sN h v 0 0)), (0, .ref mo), (1, .int (nI v))] := hl
      refine lv_goto (tgt := 6) hx hb d_M_measure_31 rfl ?_
      exact ih6 (u + 1) _ H locs ⟨by omega, lv_sub hl [0, 1, 2, 3] rfl, hP, hD, hS⟩ (by omega)
