set_option maxHeartbeats 4000000 in
set_option maxRecDepth 100000 in
theorem k_M_way_none (l : Launch) (D : va_G) (mo m0 m1 m2 m3 m4 m5 m6 : Nat) (o0 o1 o2 o3 o4 o5 o6 : ClassId) (mc : Int32) (mn : Int32) (mg : Int32) (h : Nat → Int32) (mO : Nat → Int32) (mG : Nat → Int32) (mF : Nat → Int32) (mA : Nat → Int32) (mU : Nat → Int32) (mR : Nat → Int32) (hg : gd h) (u v : Nat) (hu : u < 16) (hv : v < 16) (z : Int32) (hd9 : DS h u v < 0) (sz : Nat) : Met l y_M_way (Cond.code y_M_way c_M_way 8 (some .int) :: BS) { frames := 2, cells := 0, slots := 0, locals := 46 } (va_Pc [.ref mo, .int (nI u), .int (nI v), .int z] (xWp D [(mo, .inr (5, [.int mc, .int mn, .ref m0, .int mg, .ref m1, .ref m2, .ref m3, .ref m4, .ref m5, .ref m6])), (m0, .inl (o0, 16, .inl h)), (m1, .inl (o1, 16, .inl mO)), (m2, .inl (o2, 16, .inl mG)), (m3, .inl (o3, 16, .inl mF)), (m4, .inl (o4, 32, .inl mA)), (m5, .inl (o5, 32, .inl mU)), (m6, .inl (o6, 32, .inl mR))] [(o0, .int), (o1, .int), (o2, .int), (o3, .int), (o4, .int), (o5, .int), (o6, .int)] sz)) (xQi D [(mo, .inr (5, [.int mc, .int mn, .ref m0, .int mg, .ref m1, .ref m2, .ref m3, .ref m4, .ref m5, .ref m6])), (m0, .inl (o0, 16, .inl h)), (m1, .inl (o1, 16, .inl mO)), (m2, .inl (o2, 16, .inl mG)), (m3, .inl (o3, 16, .inl mF)), (m4, .inl (o4, 32, .inl mA)), (m5, .inl (o5, 32, .inl mU)), (m6, .inl (o6, 32, .inl mR))] [(mo, .inr (5, [.int (nI 2), .int mn, .ref m0, .int mg, .ref m1, .ref m2, .ref m3, .ref m4, .ref m5, .ref m6])), (m0, .inl (o0, 16, .inl h)), (m1, .inl (o1, 16, .inl mO)), (m2, .inl (o2, 16, .inl mG)), (m3, .inl (o3, 16, .inl (fun k => DS h k v))), (m4, .inl (o4, 32, .inl mA)), (m5, .inl (o5, 32, .inl mU)), (m6, .inl (o6, 32, .inl mR))] [(o0, .int), (o1, .int), (o2, .int), (o3, .int), (o4, .int), (o5, .int), (o6, .int)] sz (nI 0)) 0 0 (va_A [(mo, .inr (5, [.int mc, .int mn, .ref m0, .int mg, .ref m1, .ref m2, .ref m3, .ref m4, .ref m5, .ref m6])), (m0, .inl (o0, 16, .inl h)), (m1, .inl (o1, 16, .inl mO)), (m2, .inl (o2, 16, .inl mG)), (m3, .inl (o3, 16, .inl mF)), (m4, .inl (o4, 32, .inl mA)), (m5, .inl (o5, 32, .inl mU)), (m6, .inl (o6, 32, .inl mR))] sz) := by
  refine Met.ofW (cc := c_M_way) (maxL := 8) (ret := (some .int)) (by decide) rfl ?_
  intro p e s m args below meth c s₁ B hml hv
  obtain ⟨rfl, hsz, hP, hK, hD0, hN⟩ := hv
  have hx := B.exec
  have hb := B.bytes
  have hr := B.returns
  have hB := xB B.pre
  have hown : s.vm.findClass R_M = some m.cls := findClass_of_methodNamed B.named
  have hlocks := B.notSynchronized
  subst hsz
  have hD := hD0.self (sz := s.heap.size)
  obtain ⟨A, hAe⟩ : ∃ A, A = va_A [(mo, .inr (5, [.int mc, .int mn, .ref m0, .int mg, .ref m1, .ref m2, .ref m3, .ref m4, .ref m5, .ref m6])), (m0, .inl (o0, 16, .inl h)), (m1, .inl (o1, 16, .inl mO)), (m2, .inl (o2, 16, .inl mG)), (m3, .inl (o3, 16, .inl mF)), (m4, .inl (o4, 32, .inl mA)), (m5, .inl (o5, 32, .inl mU)), (m6, .inl (o6, 32, .inl mR))] s.heap.size := ⟨_, rfl⟩
  rw [← hAe] at hD
  have hA : ∀ q : Nat, s.heap.size ≤ q → A q := fun q h => by rw [hAe]; exact Or.inr h
  have hS : va_S A s.heap s.heap [] := va_S.rf
  have hl := lv_entry ([.ref mo, .int (nI u), .int (nI v), .int z]) (n := 8) (Nat.le_of_ble_eq_true rfl)
  rw [lg_entry_eq]
  generalize (lg_sl ([.ref mo, .int (nI u), .int (nI v), .int z]) ++ List.replicate (8 - (lg_sl ([.ref mo, .int (nI u), .int (nI v), .int z])).length) Slot.unset).toArray = ls at hl ⊢
  have hl : lv_has ls 8 [(0, .ref mo), (1, .int (nI u)), (2, .int (nI v)), (3, .int z)] := hl
  refine lv_aload_n hx hb d_M_way_0 rfl (lv_at hl 0 rfl) ?_
  refine lv_iload_n hx hb d_M_way_1 rfl (lv_at hl 1 rfl) ?_
  refine lv_iload_n hx hb d_M_way_2 rfl (lv_at hl 2 rfl) ?_
  refine xw_i (wc := [(mo, .inr (5, [.int mc, .int mn, .ref m0, .int mg, .ref m1, .ref m2, .ref m3, .ref m4, .ref m5, .ref m6])), (m0, .inl (o0, 16, .inl h)), (m1, .inl (o1, 16, .inl mO)), (m2, .inl (o2, 16, .inl mG)), (m3, .inl (o3, 16, .inl mF)), (m4, .inl (o4, 32, .inl mA)), (m5, .inl (o5, 32, .inl mU)), (m6, .inl (o6, 32, .inl mR))]) (wr := []) (w1 := [(mo, .inr (5, [.int (b2i (!(isP (nI u) && isP (nI v)))), .int mn, .ref m0, .int mg, .ref m1, .ref m2, .ref m3, .ref m4, .ref m5, .ref m6])), (m0, .inl (o0, 16, .inl h)), (m1, .inl (o1, 16, .inl mO)), (m2, .inl (o2, 16, .inl mG)), (m3, .inl (o3, 16, .inl mF)), (m4, .inl (o4, 32, .inl mA)), (m5, .inl (o5, 32, .inl mU)), (m6, .inl (o6, 32, .inl mR))]) (va_runV (As := [.int (nI u), .int (nI v)]) (rest := []) ⟨hx, hb, hml, hown, hB⟩ (k_M_lacks l D mo m0 m1 m2 m3 m4 m5 m6 o0 o1 o2 o3 o4 o5 o6 mc mn mg h mO mG mF mA mU mR (nI u) (nI v) _) ⟨callB_of 2 hB (xg0 mc_M_lacks) rfl rfl rfl (hB _ mz_M) (hB _ ml_M_67) (by decide +kernel) ⟨Nat.le_of_ble_eq_true rfl, Nat.le_of_ble_eq_true rfl⟩, hB _ mi_M_lacks, hB _ me_M_lacks⟩ (xqV (ws := [(mo, .inr (5, [.int mc, .int mn, .ref m0, .int mg, .ref m1, .ref m2, .ref m3, .ref m4, .ref m5, .ref m6])), (m0, .inl (o0, 16, .inl h)), (m1, .inl (o1, 16, .inl mO)), (m2, .inl (o2, 16, .inl mG)), (m3, .inl (o3, 16, .inl mF)), (m4, .inl (o4, 32, .inl mA)), (m5, .inl (o5, 32, .inl mU)), (m6, .inl (o6, 32, .inl mR))]) (tys := [(o0, .int), (o1, .int), (o2, .int), (o3, .int), (o4, .int), (o5, .int), (o6, .int)]) (hP.sub [0, 1, 2, 3, 4, 5, 6, 7] rfl) (hD.sub [0, 1, 2, 3, 4, 5, 6, 7] (by decide) rfl) (hK.sub [0, 1, 2, 3, 4, 5, 6] rfl) hN (va_recv (ci := 5) (q0 := 0) (q := (R_M, F_M, 10)) hK hP rfl rfl)) rfl rfl hl.1 rfl (lv_room (Nat.le_of_ble_eq_true rfl)) d_M_way_3 ⟨Nat.le_of_ble_eq_true rfl, Nat.le_of_ble_eq_true rfl⟩) hP hD hS hA [0, 1, 2, 3, 4, 5, 6, 7] [] rfl rfl (by decide) (by decide) (fun H locs hP hD hS => ?_)
  have hP : va_P D cls [(mo, .inr (5, [.int (b2i (!(isP (nI u) && isP (nI v)))), .int mn, .ref m0, .int mg, .ref m1, .ref m2, .ref m3, .ref m4, .ref m5, .ref m6])), (m0, .inl (o0, 16, .inl h)), (m1, .inl (o1, 16, .inl mO)), (m2, .inl (o2, 16, .inl mG)), (m3, .inl (o3, 16, .inl mF)), (m4, .inl (o4, 32, .inl mA)), (m5, .inl (o5, 32, .inl mU)), (m6, .inl (o6, 32, .inl mR))] H := hP
  have hD : va_D A [(mo, .inr (5, [.int (b2i (!(isP (nI u) && isP (nI v)))), .int mn, .ref m0, .int mg, .ref m1, .ref m2, .ref m3, .ref m4, .ref m5, .ref m6])), (m0, .inl (o0, 16, .inl h)), (m1, .inl (o1, 16, .inl mO)), (m2, .inl (o2, 16, .inl mG)), (m3, .inl (o3, 16, .inl mF)), (m4, .inl (o4, 32, .inl mA)), (m5, .inl (o5, 32, .inl mU)), (m6, .inl (o6, 32, .inl mR))] := hD
  have hz : (b2i (!(isP (nI u) && isP (nI v)))) = nI 0 := by rw [isP2 (by omega) (by omega)]; rfl
  rw [hz] at hP hD
  refine lv_if_eq (tgt := 11) hx hb d_M_way_6 rfl (fun hc6 => ?_) (fun hc6 => ?_)
  · have hc6 := b2i_0.mp hc6
    refine lv_aload_n hx hb d_M_way_11 rfl (lv_at hl 0 rfl) ?_
    refine lv_iload_n hx hb d_M_way_12 rfl (lv_at hl 2 rfl) ?_
    refine xw_v (wc := [(mo, .inr (5, [.int (nI 0), .int mn, .ref m0, .int mg, .ref m1, .ref m2, .ref m3, .ref m4, .ref m5, .ref m6])), (m0, .inl (o0, 16, .inl h)), (m1, .inl (o1, 16, .inl mO)), (m2, .inl (o2, 16, .inl mG)), (m3, .inl (o3, 16, .inl mF)), (m4, .inl (o4, 32, .inl mA)), (m5, .inl (o5, 32, .inl mU)), (m6, .inl (o6, 32, .inl mR))]) (wr := []) (w1 := [(mo, .inr (5, [.int (nI 0), .int mn, .ref m0, .int mg, .ref m1, .ref m2, .ref m3, .ref m4, .ref m5, .ref m6])), (m0, .inl (o0, 16, .inl h)), (m1, .inl (o1, 16, .inl mO)), (m2, .inl (o2, 16, .inl mG)), (m3, .inl (o3, 16, .inl (fun k => DS h k v))), (m4, .inl (o4, 32, .inl mA)), (m5, .inl (o5, 32, .inl mU)), (m6, .inl (o6, 32, .inl mR))]) (va_runV (As := [.int (nI v)]) (rest := []) ⟨hx, hb, hml, hown, hB⟩ (k_M_measure l D mo m0 m1 m2 m3 m4 m5 m6 o0 o1 o2 o3 o4 o5 o6 (nI 0) mn mg h mO mG mF mA mU mR hg v (by omega) _) ⟨callB_of 1 hB (xg0 mc_M_measure) rfl rfl rfl (hB _ mz_M) (hB _ ml_M_76) (by decide +kernel) ⟨Nat.le_of_ble_eq_true rfl, Nat.le_of_ble_eq_true rfl⟩, hB _ mi_M_measure, hB _ me_M_measure⟩ (xqV (ws := [(mo, .inr (5, [.int (nI 0), .int mn, .ref m0, .int mg, .ref m1, .ref m2, .ref m3, .ref m4, .ref m5, .ref m6])), (m0, .inl (o0, 16, .inl h)), (m1, .inl (o1, 16, .inl mO)), (m2, .inl (o2, 16, .inl mG)), (m3, .inl (o3, 16, .inl mF)), (m4, .inl (o4, 32, .inl mA)), (m5, .inl (o5, 32, .inl mU)), (m6, .inl (o6, 32, .inl mR))]) (tys := [(o0, .int), (o1, .int), (o2, .int), (o3, .int), (o4, .int), (o5, .int), (o6, .int)]) (hP.sub [0, 1, 2, 3, 4, 5, 6, 7] rfl) (hD.sub [0, 1, 2, 3, 4, 5, 6, 7] (by decide) rfl) (hK.sub [0, 1, 2, 3, 4, 5, 6] rfl) hN (va_recv (ci := 5) (q0 := 0) (q := (R_M, F_M, 10)) hK hP rfl rfl)) rfl rfl hl.1 rfl (lv_room (Nat.le_of_ble_eq_true rfl)) d_M_way_13 ⟨Nat.le_of_ble_eq_true rfl, Nat.le_of_ble_eq_true rfl⟩) hP hD hS hA [0, 1, 2, 3, 4, 5, 6, 7] [] rfl rfl (by decide) (by decide) (fun H locs hP hD hS => ?_)
    have hP : va_P D cls [(mo, .inr (5, [.int (nI 0), .int mn, .ref m0, .int mg, .ref m1, .ref m2, .ref m3, .ref m4, .ref m5, .ref m6])), (m0, .inl (o0, 16, .inl h)), (m1, .inl (o1, 16, .inl mO)), (m2, .inl (o2, 16, .inl mG)), (m3, .inl (o3, 16, .inl (fun k => DS h k v))), (m4, .inl (o4, 32, .inl mA)), (m5, .inl (o5, 32, .inl mU)), (m6, .inl (o6, 32, .inl mR))] H := hP
    have hD : va_D A [(mo, .inr (5, [.int (nI 0), .int mn, .ref m0, .int mg, .ref m1, .ref m2, .ref m3, .ref m4, .ref m5, .ref m6])), (m0, .inl (o0, 16, .inl h)), (m1, .inl (o1, 16, .inl mO)), (m2, .inl (o2, 16, .inl mG)), (m3, .inl (o3, 16, .inl (fun k => DS h k v))), (m4, .inl (o4, 32, .inl mA)), (m5, .inl (o5, 32, .inl mU)), (m6, .inl (o6, 32, .inl mR))] := hD
    refine lv_aload_n hx hb d_M_way_16 rfl (lv_at hl 0 rfl) ?_
    refine lv_aload_n hx hb d_M_way_17 rfl (lv_at hl 0 rfl) ?_
    refine va_get (D := D) (ci := 5) (v := .ref m3) (C := R_M) (T := F_M) (N := 10) hx hb hB in_M hown hK hP 0 rfl rfl 6 (by decide) (hB _ mf_M_19) (fun _ h9 => h9) rfl d_M_way_18 ?_
    refine lv_iload_n hx hb d_M_way_21 rfl (lv_at hl 1 rfl) ?_
    refine xa_ld (u := u) hx hb hK hP 4 3 rfl rfl (by omega) (by decide) d_M_way_22 ?_
    refine xv_top (x' := DS h u v) (rfl) ?_
    refine lv_if_ge (tgt := 30) hx hb d_M_way_23 rfl (fun hc23 => ?_) (fun hc23 => ?_)
    · exact absurd hc23 (by first | exact Int32.not_le.mpr hd9 | (intro q9; simp only [Int32.le_iff_toInt_le, Int32.lt_iff_toInt_lt] at *; omega))
    · refine lv_iconst (v := nI 2) hx hb d_M_way_26 (by decide) ?_
      refine lv_goto (tgt := 49) hx hb d_M_way_27 rfl ?_
      refine va_put (D := D) (ci := 5) (v := .int (nI 2)) (ty := .int) (C := R_M) (T := F_M) (N := 10) hx hb hB in_M t_M t_M_ok n_M hown hK hP hD hS 0 rfl rfl 0 (by decide) (hB _ mf_M_31) (fun _ h9 => h9) rfl (by decide +kernel) rfl rfl (Nat.le_of_ble_eq_true rfl) d_M_way_49 (fun H locs hP hD hS => ?_)
      have hP : va_P D cls [(mo, .inr (5, [.int (nI 2), .int mn, .ref m0, .int mg, .ref m1, .ref m2, .ref m3, .ref m4, .ref m5, .ref m6])), (m0, .inl (o0, 16, .inl h)), (m1, .inl (o1, 16, .inl mO)), (m2, .inl (o2, 16, .inl mG)), (m3, .inl (o3, 16, .inl (fun k => DS h k v))), (m4, .inl (o4, 32, .inl mA)), (m5, .inl (o5, 32, .inl mU)), (m6, .inl (o6, 32, .inl mR))] H := hP
      have hD : va_D A [(mo, .inr (5, [.int (nI 2), .int mn, .ref m0, .int mg, .ref m1, .ref m2, .ref m3, .ref m4, .ref m5, .ref m6])), (m0, .inl (o0, 16, .inl h)), (m1, .inl (o1, 16, .inl mO)), (m2, .inl (o2, 16, .inl mG)), (m3, .inl (o3, 16, .inl (fun k => DS h k v))), (m4, .inl (o4, 32, .inl mA)), (m5, .inl (o5, 32, .inl mU)), (m6, .inl (o6, 32, .inl mR))] := hD
      refine lv_aload_n hx hb d_M_way_52 rfl (lv_at hl 0 rfl) ?_
      refine va_get (D := D) (ci := 5) (v := .int (nI 2)) (C := R_M) (T := F_M) (N := 10) hx hb hB in_M hown hK hP 0 rfl rfl 0 (by decide) (hB _ mf_M_31) (fun _ h9 => h9) rfl d_M_way_53 ?_
      refine lv_if_le (tgt := 61) hx hb d_M_way_56 rfl (fun hc56 => absurd hc56 (by decide)) (fun _ => ?_)
      refine lv_iconst (v := nI 0) hx hb d_M_way_59 (by decide) ?_
      have hP9 := hP.sub (ws' := [(mo, .inr (5, [.int (nI 2), .int mn, .ref m0, .int mg, .ref m1, .ref m2, .ref m3, .ref m4, .ref m5, .ref m6])), (m0, .inl (o0, 16, .inl h)), (m1, .inl (o1, 16, .inl mO)), (m2, .inl (o2, 16, .inl mG)), (m3, .inl (o3, 16, .inl (fun k => DS h k v))), (m4, .inl (o4, 32, .inl mA)), (m5, .inl (o5, 32, .inl mU)), (m6, .inl (o6, 32, .inl mR))]) [0, 1, 2, 3, 4, 5, 6, 7] rfl
      have hD9 := hD.sub (ws' := [(mo, .inr (5, [.int (nI 2), .int mn, .ref m0, .int mg, .ref m1, .ref m2, .ref m3, .ref m4, .ref m5, .ref m6])), (m0, .inl (o0, 16, .inl h)), (m1, .inl (o1, 16, .inl mO)), (m2, .inl (o2, 16, .inl mG)), (m3, .inl (o3, 16, .inl (fun k => DS h k v))), (m4, .inl (o4, 32, .inl mA)), (m5, .inl (o5, 32, .inl mU)), (m6, .inl (o6, 32, .inl mR))]) [0, 1, 2, 3, 4, 5, 6, 7] (by decide) rfl
      subst hAe
      exact W.iret (v := nI 0) hx hb hr (fun t ht hW => ⟨⟨_, (), rfl, rfl, by rw [ht]; exact hP9, va_K.moved hW.alike hK, hD9⟩, hS.F ht⟩) hS.2.2 d_M_way_60
  · have hc6 := b2i_n.mp hc6
    exact absurd hc6 (by rw [isP2 (by omega) (by omega)]; decide)
set_option maxHeartbeats 4000000 in
set_option maxRecDepth 100000 in
theorem k_M_way_out (l : Launch) (D : va_G) (mo m0 m1 m2 m3 m4 m5 m6 : Nat) (o0 o1 o2 o3 o4 o5 o6 : ClassId) (mc : Int32) (mn : Int32) (mg : Int32) (h : Nat → Int32) (mO : Nat → Int32) (mG : Nat → Int32) (mF : Nat → Int32) (mA : Nat → Int32) (mU : Nat → Int32) (mR : Nat → Int32) (hg : gd h) (u v : Nat) (hu : u < 16) (hv : v < 16) (z : Int32) (n : Nat) (hn : n < 16) (hd9 : DS h u v = nI n) (hz9 : z < 0 ∨ ¬ z ≤ nI n) (sz : Nat) : Met l y_M_way (Cond.code y_M_way c_M_way 8 (some .int) :: BS) { frames := 2, cells := 0, slots := 0, locals := 46 } (va_Pc [.ref mo, .int (nI u), .int (nI v), .int z] (xWp D [(mo, .inr (5, [.int mc, .int mn, .ref m0, .int mg, .ref m1, .ref m2, .ref m3, .ref m4, .ref m5, .ref m6])), (m0, .inl (o0, 16, .inl h)), (m1, .inl (o1, 16, .inl mO)), (m2, .inl (o2, 16, .inl mG)), (m3, .inl (o3, 16, .inl mF)), (m4, .inl (o4, 32, .inl mA)), (m5, .inl (o5, 32, .inl mU)), (m6, .inl (o6, 32, .inl mR))] [(o0, .int), (o1, .int), (o2, .int), (o3, .int), (o4, .int), (o5, .int), (o6, .int)] sz)) (xQi D [(mo, .inr (5, [.int mc, .int mn, .ref m0, .int mg, .ref m1, .ref m2, .ref m3, .ref m4, .ref m5, .ref m6])), (m0, .inl (o0, 16, .inl h)), (m1, .inl (o1, 16, .inl mO)), (m2, .inl (o2, 16, .inl mG)), (m3, .inl (o3, 16, .inl mF)), (m4, .inl (o4, 32, .inl mA)), (m5, .inl (o5, 32, .inl mU)), (m6, .inl (o6, 32, .inl mR))] [(mo, .inr (5, [.int (nI 3), .int mn, .ref m0, .int mg, .ref m1, .ref m2, .ref m3, .ref m4, .ref m5, .ref m6])), (m0, .inl (o0, 16, .inl h)), (m1, .inl (o1, 16, .inl mO)), (m2, .inl (o2, 16, .inl mG)), (m3, .inl (o3, 16, .inl (fun k => DS h k v))), (m4, .inl (o4, 32, .inl mA)), (m5, .inl (o5, 32, .inl mU)), (m6, .inl (o6, 32, .inl mR))] [(o0, .int), (o1, .int), (o2, .int), (o3, .int), (o4, .int), (o5, .int), (o6, .int)] sz (nI 0)) 0 0 (va_A [(mo, .inr (5, [.int mc, .int mn, .ref m0, .int mg, .ref m1, .ref m2, .ref m3, .ref m4, .ref m5, .ref m6])), (m0, .inl (o0, 16, .inl h)), (m1, .inl (o1, 16, .inl mO)), (m2, .inl (o2, 16, .inl mG)), (m3, .inl (o3, 16, .inl mF)), (m4, .inl (o4, 32, .inl mA)), (m5, .inl (o5, 32, .inl mU)), (m6, .inl (o6, 32, .inl mR))] sz) := by
  refine Met.ofW (cc := c_M_way) (maxL := 8) (ret := (some .int)) (by decide) rfl ?_
  intro p e s m args below meth c s₁ B hml hv
  obtain ⟨rfl, hsz, hP, hK, hD0, hN⟩ := hv
  have hx := B.exec
  have hb := B.bytes
  have hr := B.returns
  have hB := xB B.pre
  have hown : s.vm.findClass R_M = some m.cls := findClass_of_methodNamed B.named
  have hlocks := B.notSynchronized
  subst hsz
  have hD := hD0.self (sz := s.heap.size)
  obtain ⟨A, hAe⟩ : ∃ A, A = va_A [(mo, .inr (5, [.int mc, .int mn, .ref m0, .int mg, .ref m1, .ref m2, .ref m3, .ref m4, .ref m5, .ref m6])), (m0, .inl (o0, 16, .inl h)), (m1, .inl (o1, 16, .inl mO)), (m2, .inl (o2, 16, .inl mG)), (m3, .inl (o3, 16, .inl mF)), (m4, .inl (o4, 32, .inl mA)), (m5, .inl (o5, 32, .inl mU)), (m6, .inl (o6, 32, .inl mR))] s.heap.size := ⟨_, rfl⟩
  rw [← hAe] at hD
  have hA : ∀ q : Nat, s.heap.size ≤ q → A q := fun q h => by rw [hAe]; exact Or.inr h
  have hS : va_S A s.heap s.heap [] := va_S.rf
  have hl := lv_entry ([.ref mo, .int (nI u), .int (nI v), .int z]) (n := 8) (Nat.le_of_ble_eq_true rfl)
  rw [lg_entry_eq]
  generalize (lg_sl ([.ref mo, .int (nI u), .int (nI v), .int z]) ++ List.replicate (8 - (lg_sl ([.ref mo, .int (nI u), .int (nI v), .int z])).length) Slot.unset).toArray = ls at hl ⊢
  have hl : lv_has ls 8 [(0, .ref mo), (1, .int (nI u)), (2, .int (nI v)), (3, .int z)] := hl
  refine lv_aload_n hx hb d_M_way_0 rfl (lv_at hl 0 rfl) ?_
  refine lv_iload_n hx hb d_M_way_1 rfl (lv_at hl 1 rfl) ?_
  refine lv_iload_n hx hb d_M_way_2 rfl (lv_at hl 2 rfl) ?_
  refine xw_i (wc := [(mo, .inr (5, [.int mc, .int mn, .ref m0, .int mg, .ref m1, .ref m2, .ref m3, .ref m4, .ref m5, .ref m6])), (m0, .inl (o0, 16, .inl h)), (m1, .inl (o1, 16, .inl mO)), (m2, .inl (o2, 16, .inl mG)), (m3, .inl (o3, 16, .inl mF)), (m4, .inl (o4, 32, .inl mA)), (m5, .inl (o5, 32, .inl mU)), (m6, .inl (o6, 32, .inl mR))]) (wr := []) (w1 := [(mo, .inr (5, [.int (b2i (!(isP (nI u) && isP (nI v)))), .int mn, .ref m0, .int mg, .ref m1, .ref m2, .ref m3, .ref m4, .ref m5, .ref m6])), (m0, .inl (o0, 16, .inl h)), (m1, .inl (o1, 16, .inl mO)), (m2, .inl (o2, 16, .inl mG)), (m3, .inl (o3, 16, .inl mF)), (m4, .inl (o4, 32, .inl mA)), (m5, .inl (o5, 32, .inl mU)), (m6, .inl (o6, 32, .inl mR))]) (va_runV (As := [.int (nI u), .int (nI v)]) (rest := []) ⟨hx, hb, hml, hown, hB⟩ (k_M_lacks l D mo m0 m1 m2 m3 m4 m5 m6 o0 o1 o2 o3 o4 o5 o6 mc mn mg h mO mG mF mA mU mR (nI u) (nI v) _) ⟨callB_of 2 hB (xg0 mc_M_lacks) rfl rfl rfl (hB _ mz_M) (hB _ ml_M_67) (by decide +kernel) ⟨Nat.le_of_ble_eq_true rfl, Nat.le_of_ble_eq_true rfl⟩, hB _ mi_M_lacks, hB _ me_M_lacks⟩ (xqV (ws := [(mo, .inr (5, [.int mc, .int mn, .ref m0, .int mg, .ref m1, .ref m2, .ref m3, .ref m4, .ref m5, .ref m6])), (m0, .inl (o0, 16, .inl h)), (m1, .inl (o1, 16, .inl mO)), (m2, .inl (o2, 16, .inl mG)), (m3, .inl (o3, 16, .inl mF)), (m4, .inl (o4, 32, .inl mA)), (m5, .inl (o5, 32, .inl mU)), (m6, .inl (o6, 32, .inl mR))]) (tys := [(o0, .int), (o1, .int), (o2, .int), (o3, .int), (o4, .int), (o5, .int), (o6, .int)]) (hP.sub [0, 1, 2, 3, 4, 5, 6, 7] rfl) (hD.sub [0, 1, 2, 3, 4, 5, 6, 7] (by decide) rfl) (hK.sub [0, 1, 2, 3, 4, 5, 6] rfl) hN (va_recv (ci := 5) (q0 := 0) (q := (R_M, F_M, 10)) hK hP rfl rfl)) rfl rfl hl.1 rfl (lv_room (Nat.le_of_ble_eq_true rfl)) d_M_way_3 ⟨Nat.le_of_ble_eq_true rfl, Nat.le_of_ble_eq_true rfl⟩) hP hD hS hA [0, 1, 2, 3, 4, 5, 6, 7] [] rfl rfl (by decide) (by decide) (fun H locs hP hD hS => ?_)
  have hP : va_P D cls [(mo, .inr (5, [.int (b2i (!(isP (nI u) && isP (nI v)))), .int mn, .ref m0, .int mg, .ref m1, .ref m2, .ref m3, .ref m4, .ref m5, .ref m6])), (m0, .inl (o0, 16, .inl h)), (m1, .inl (o1, 16, .inl mO)), (m2, .inl (o2, 16, .inl mG)), (m3, .inl (o3, 16, .inl mF)), (m4, .inl (o4, 32, .inl mA)), (m5, .inl (o5, 32, .inl mU)), (m6, .inl (o6, 32, .inl mR))] H := hP
  have hD : va_D A [(mo, .inr (5, [.int (b2i (!(isP (nI u) && isP (nI v)))), .int mn, .ref m0, .int mg, .ref m1, .ref m2, .ref m3, .ref m4, .ref m5, .ref m6])), (m0, .inl (o0, 16, .inl h)), (m1, .inl (o1, 16, .inl mO)), (m2, .inl (o2, 16, .inl mG)), (m3, .inl (o3, 16, .inl mF)), (m4, .inl (o4, 32, .inl mA)), (m5, .inl (o5, 32, .inl mU)), (m6, .inl (o6, 32, .inl mR))] := hD
  have hz : (b2i (!(isP (nI u) && isP (nI v)))) = nI 0 := by rw [isP2 (by omega) (by omega)]; rfl
  rw [hz] at hP hD
  refine lv_if_eq (tgt := 11) hx hb d_M_way_6 rfl (fun hc6 => ?_) (fun hc6 => ?_)
  · have hc6 := b2i_0.mp hc6
    refine lv_aload_n hx hb d_M_way_11 rfl (lv_at hl 0 rfl) ?_
    refine lv_iload_n hx hb d_M_way_12 rfl (lv_at hl 2 rfl) ?_
    refine xw_v (wc := [(mo, .inr (5, [.int (nI 0), .int mn, .ref m0, .int mg, .ref m1, .ref m2, .ref m3, .ref m4, .ref m5, .ref m6])), (m0, .inl (o0, 16, .inl h)), (m1, .inl (o1, 16, .inl mO)), (m2, .inl (o2, 16, .inl mG)), (m3, .inl (o3, 16, .inl mF)), (m4, .inl (o4, 32, .inl mA)), (m5, .inl (o5, 32, .inl mU)), (m6, .inl (o6, 32, .inl mR))]) (wr := []) (w1 := [(mo, .inr (5, [.int (nI 0), .int mn, .ref m0, .int mg, .ref m1, .ref m2, .ref m3, .ref m4, .ref m5, .ref m6])), (m0, .inl (o0, 16, .inl h)), (m1, .inl (o1, 16, .inl mO)), (m2, .inl (o2, 16, .inl mG)), (m3, .inl (o3, 16, .inl (fun k => DS h k v))), (m4, .inl (o4, 32, .inl mA)), (m5, .inl (o5, 32, .inl mU)), (m6, .inl (o6, 32, .inl mR))]) (va_runV (As := [.int (nI v)]) (rest := []) ⟨hx, hb, hml, hown, hB⟩ (k_M_measure l D mo m0 m1 m2 m3 m4 m5 m6 o0 o1 o2 o3 o4 o5 o6 (nI 0) mn mg h mO mG mF mA mU mR hg v (by omega) _) ⟨callB_of 1 hB (xg0 mc_M_measure) rfl rfl rfl (hB _ mz_M) (hB _ ml_M_76) (by decide +kernel) ⟨Nat.le_of_ble_eq_true rfl, Nat.le_of_ble_eq_true rfl⟩, hB _ mi_M_measure, hB _ me_M_measure⟩ (xqV (ws := [(mo, .inr (5, [.int (nI 0), .int mn, .ref m0, .int mg, .ref m1, .ref m2, .ref m3, .ref m4, .ref m5, .ref m6])), (m0, .inl (o0, 16, .inl h)), (m1, .inl (o1, 16, .inl mO)), (m2, .inl (o2, 16, .inl mG)), (m3, .inl (o3, 16, .inl mF)), (m4, .inl (o4, 32, .inl mA)), (m5, .inl (o5, 32, .inl mU)), (m6, .inl (o6, 32, .inl mR))]) (tys := [(o0, .int), (o1, .int), (o2, .int), (o3, .int), (o4, .int), (o5, .int), (o6, .int)]) (hP.sub [0, 1, 2, 3, 4, 5, 6, 7] rfl) (hD.sub [0, 1, 2, 3, 4, 5, 6, 7] (by decide) rfl) (hK.sub [0, 1, 2, 3, 4, 5, 6] rfl) hN (va_recv (ci := 5) (q0 := 0) (q := (R_M, F_M, 10)) hK hP rfl rfl)) rfl rfl hl.1 rfl (lv_room (Nat.le_of_ble_eq_true rfl)) d_M_way_13 ⟨Nat.le_of_ble_eq_true rfl, Nat.le_of_ble_eq_true rfl⟩) hP hD hS hA [0, 1, 2, 3, 4, 5, 6, 7] [] rfl rfl (by decide) (by decide) (fun H locs hP hD hS => ?_)
    have hP : va_P D cls [(mo, .inr (5, [.int (nI 0), .int mn, .ref m0, .int mg, .ref m1, .ref m2, .ref m3, .ref m4, .ref m5, .ref m6])), (m0, .inl (o0, 16, .inl h)), (m1, .inl (o1, 16, .inl mO)), (m2, .inl (o2, 16, .inl mG)), (m3, .inl (o3, 16, .inl (fun k => DS h k v))), (m4, .inl (o4, 32, .inl mA)), (m5, .inl (o5, 32, .inl mU)), (m6, .inl (o6, 32, .inl mR))] H := hP
    have hD : va_D A [(mo, .inr (5, [.int (nI 0), .int mn, .ref m0, .int mg, .ref m1, .ref m2, .ref m3, .ref m4, .ref m5, .ref m6])), (m0, .inl (o0, 16, .inl h)), (m1, .inl (o1, 16, .inl mO)), (m2, .inl (o2, 16, .inl mG)), (m3, .inl (o3, 16, .inl (fun k => DS h k v))), (m4, .inl (o4, 32, .inl mA)), (m5, .inl (o5, 32, .inl mU)), (m6, .inl (o6, 32, .inl mR))] := hD
    refine lv_aload_n hx hb d_M_way_16 rfl (lv_at hl 0 rfl) ?_
    refine lv_aload_n hx hb d_M_way_17 rfl (lv_at hl 0 rfl) ?_
    refine va_get (D := D) (ci := 5) (v := .ref m3) (C := R_M) (T := F_M) (N := 10) hx hb hB in_M hown hK hP 0 rfl rfl 6 (by decide) (hB _ mf_M_19) (fun _ h9 => h9) rfl d_M_way_18 ?_
    refine lv_iload_n hx hb d_M_way_21 rfl (lv_at hl 1 rfl) ?_
    refine xa_ld (u := u) hx hb hK hP 4 3 rfl rfl (by omega) (by decide) d_M_way_22 ?_
    refine xv_top (x' := nI n) (hd9) ?_
    refine lv_if_ge (tgt := 30) hx hb d_M_way_23 rfl (fun hc23 => ?_) (fun hc23 => ?_)
    · have hc23 : 0 ≤ n := (nI_leI (a := 0) (b := n) (by omega) (by omega)).mp hc23
      refine lv_iload_n hx hb d_M_way_30 rfl (lv_at hl 3 rfl) ?_
      refine lv_if_lt (tgt := 44) hx hb d_M_way_31 rfl (fun hc31 => ?_) (fun hc31 => ?_)
      · refine lv_iconst (v := nI 3) hx hb d_M_way_44 (by decide) ?_
        refine lv_goto (tgt := 49) hx hb d_M_way_45 rfl ?_
        refine va_put (D := D) (ci := 5) (v := .int (nI 3)) (ty := .int) (C := R_M) (T := F_M) (N := 10) hx hb hB in_M t_M t_M_ok n_M hown hK hP hD hS 0 rfl rfl 0 (by decide) (hB _ mf_M_31) (fun _ h9 => h9) rfl (by decide +kernel) rfl rfl (Nat.le_of_ble_eq_true rfl) d_M_way_49 (fun H locs hP hD hS => ?_)
        have hP : va_P D cls [(mo, .inr (5, [.int (nI 3), .int mn, .ref m0, .int mg, .ref m1, .ref m2, .ref m3, .ref m4, .ref m5, .ref m6])), (m0, .inl (o0, 16, .inl h)), (m1, .inl (o1, 16, .inl mO)), (m2, .inl (o2, 16, .inl mG)), (m3, .inl (o3, 16, .inl (fun k => DS h k v))), (m4, .inl (o4, 32, .inl mA)), (m5, .inl (o5, 32, .inl mU)), (m6, .inl (o6, 32, .inl mR))] H := hP
        have hD : va_D A [(mo, .inr (5, [.int (nI 3), .int mn, .ref m0, .int mg, .ref m1, .ref m2, .ref m3, .ref m4, .ref m5, .ref m6])), (m0, .inl (o0, 16, .inl h)), (m1, .inl (o1, 16, .inl mO)), (m2, .inl (o2, 16, .inl mG)), (m3, .inl (o3, 16, .inl (fun k => DS h k v))), (m4, .inl (o4, 32, .inl mA)), (m5, .inl (o5, 32, .inl mU)), (m6, .inl (o6, 32, .inl mR))] := hD
        refine lv_aload_n hx hb d_M_way_52 rfl (lv_at hl 0 rfl) ?_
        refine va_get (D := D) (ci := 5) (v := .int (nI 3)) (C := R_M) (T := F_M) (N := 10) hx hb hB in_M hown hK hP 0 rfl rfl 0 (by decide) (hB _ mf_M_31) (fun _ h9 => h9) rfl d_M_way_53 ?_
        refine lv_if_le (tgt := 61) hx hb d_M_way_56 rfl (fun hc56 => absurd hc56 (by decide)) (fun _ => ?_)
        refine lv_iconst (v := nI 0) hx hb d_M_way_59 (by decide) ?_
        have hP9 := hP.sub (ws' := [(mo, .inr (5, [.int (nI 3), .int mn, .ref m0, .int mg, .ref m1, .ref m2, .ref m3, .ref m4, .ref m5, .ref m6])), (m0, .inl (o0, 16, .inl h)), (m1, .inl (o1, 16, .inl mO)), (m2, .inl (o2, 16, .inl mG)), (m3, .inl (o3, 16, .inl (fun k => DS h k v))), (m4, .inl (o4, 32, .inl mA)), (m5, .inl (o5, 32, .inl mU)), (m6, .inl (o6, 32, .inl mR))]) [0, 1, 2, 3, 4, 5, 6, 7] rfl
        have hD9 := hD.sub (ws' := [(mo, .inr (5, [.int (nI 3), .int mn, .ref m0, .int mg, .ref m1, .ref m2, .ref m3, .ref m4, .ref m5, .ref m6])), (m0, .inl (o0, 16, .inl h)), (m1, .inl (o1, 16, .inl mO)), (m2, .inl (o2, 16, .inl mG)), (m3, .inl (o3, 16, .inl (fun k => DS h k v))), (m4, .inl (o4, 32, .inl mA)), (m5, .inl (o5, 32, .inl mU)), (m6, .inl (o6, 32, .inl mR))]) [0, 1, 2, 3, 4, 5, 6, 7] (by decide) rfl
        subst hAe
        exact W.iret (v := nI 0) hx hb hr (fun t ht hW => ⟨⟨_, (), rfl, rfl, by rw [ht]; exact hP9, va_K.moved hW.alike hK, hD9⟩, hS.F ht⟩) hS.2.2 d_M_way_60
      · refine lv_iload_n hx hb d_M_way_34 rfl (lv_at hl 3 rfl) ?_
        refine lv_aload_n hx hb d_M_way_35 rfl (lv_at hl 0 rfl) ?_
        refine va_get (D := D) (ci := 5) (v := .ref m3) (C := R_M) (T := F_M) (N := 10) hx hb hB in_M hown hK hP 0 rfl rfl 6 (by decide) (hB _ mf_M_19) (fun _ h9 => h9) rfl d_M_way_36 ?_
        refine lv_iload_n hx hb d_M_way_39 rfl (lv_at hl 1 rfl) ?_
        refine xa_ld (u := u) hx hb hK hP 4 3 rfl rfl (by omega) (by decide) d_M_way_40 ?_
        refine xv_top (x' := nI n) (hd9) ?_
        refine lv_icmp_le (tgt := 48) hx hb d_M_way_41 rfl (fun hc41 => ?_) (fun hc41 => ?_)
        · exact (hz9.elim (fun q9 => absurd q9 hc31) (fun q9 => absurd hc41 q9))
        · refine lv_iconst (v := nI 3) hx hb d_M_way_44 (by decide) ?_
          refine lv_goto (tgt := 49) hx hb d_M_way_45 rfl ?_
          refine va_put (D := D) (ci := 5) (v := .int (nI 3)) (ty := .int) (C := R_M) (T := F_M) (N := 10) hx hb hB in_M t_M t_M_ok n_M hown hK hP hD hS 0 rfl rfl 0 (by decide) (hB _ mf_M_31) (fun _ h9 => h9) rfl (by decide +kernel) rfl rfl (Nat.le_of_ble_eq_true rfl) d_M_way_49 (fun H locs hP hD hS => ?_)
          have hP : va_P D cls [(mo, .inr (5, [.int (nI 3), .int mn, .ref m0, .int mg, .ref m1, .ref m2, .ref m3, .ref m4, .ref m5, .ref m6])), (m0, .inl (o0, 16, .inl h)), (m1, .inl (o1, 16, .inl mO)), (m2, .inl (o2, 16, .inl mG)), (m3, .inl (o3, 16, .inl (fun k => DS h k v))), (m4, .inl (o4, 32, .inl mA)), (m5, .inl (o5, 32, .inl mU)), (m6, .inl (o6, 32, .inl mR))] H := hP
          have hD : va_D A [(mo, .inr (5, [.int (nI 3), .int mn, .ref m0, .int mg, .ref m1, .ref m2, .ref m3, .ref m4, .ref m5, .ref m6])), (m0, .inl (o0, 16, .inl h)), (m1, .inl (o1, 16, .inl mO)), (m2, .inl (o2, 16, .inl mG)), (m3, .inl (o3, 16, .inl (fun k => DS h k v))), (m4, .inl (o4, 32, .inl mA)), (m5, .inl (o5, 32, .inl mU)), (m6, .inl (o6, 32, .inl mR))] := hD
          refine lv_aload_n hx hb d_M_way_52 rfl (lv_at hl 0 rfl) ?_
          refine va_get (D := D) (ci := 5) (v := .int (nI 3)) (C := R_M) (T := F_M) (N := 10) hx hb hB in_M hown hK hP 0 rfl rfl 0 (by decide) (hB _ mf_M_31) (fun _ h9 => h9) rfl d_M_way_53 ?_
          refine lv_if_le (tgt := 61) hx hb d_M_way_56 rfl (fun hc56 => absurd hc56 (by decide)) (fun _ => ?_)
          refine lv_iconst (v := nI 0) hx hb d_M_way_59 (by decide) ?_
          have hP9 := hP.sub (ws' := [(mo, .inr (5, [.int (nI 3), .int mn, .ref m0, .int mg, .ref m1, .ref m2, .ref m3, .ref m4, .ref m5, .ref m6])), (m0, .inl (o0, 16, .inl h)), (m1, .inl (o1, 16, .inl mO)), (m2, .inl (o2, 16, .inl mG)), (m3, .inl (o3, 16, .inl (fun k => DS h k v))), (m4, .inl (o4, 32, .inl mA)), (m5, .inl (o5, 32, .inl mU)), (m6, .inl (o6, 32, .inl mR))]) [0, 1, 2, 3, 4, 5, 6, 7] rfl
          have hD9 := hD.sub (ws' := [(mo, .inr (5, [.int (nI 3), .int mn, .ref m0, .int mg, .ref m1, .ref m2, .ref m3, .ref m4, .ref m5, .ref m6])), (m0, .inl (o0, 16, .inl h)), (m1, .inl (o1, 16, .inl mO)), (m2, .inl (o2, 16, .inl mG)), (m3, .inl (o3, 16, .inl (fun k => DS h k v))), (m4, .inl (o4, 32, .inl mA)), (m5, .inl (o5, 32, .inl mU)), (m6, .inl (o6, 32, .inl mR))]) [0, 1, 2, 3, 4, 5, 6, 7] (by decide) rfl
          subst hAe
          exact W.iret (v := nI 0) hx hb hr (fun t ht hW => ⟨⟨_, (), rfl, rfl, by rw [ht]; exact hP9, va_K.moved hW.alike hK, hD9⟩, hS.F ht⟩) hS.2.2 d_M_way_60
    · have hc23 : ¬ (0 ≤ n) := fun q9 => hc23 ((nI_leI (a := 0) (b := n) (by omega) (by omega)).mpr q9)
      exact absurd hc23 (by omega)
  · have hc6 := b2i_n.mp hc6
    exact absurd hc6 (by rw [isP2 (by omega) (by omega)]; decide)
set_option maxHeartbeats 4000000 in
set_option maxRecDepth 100000 in
theorem k_M_way_ok (l : Launch) (D : va_G) (mo m0 m1 m2 m3 m4 m5 m6 : Nat) (o0 o1 o2 o3 o4 o5 o6 : ClassId) (mc : Int32) (mn : Int32) (mg : Int32) (h : Nat → Int32) (mO : Nat → Int32) (mG : Nat → Int32) (mF : Nat → Int32) (mA : Nat → Int32) (mU : Nat → Int32) (mR : Nat → Int32) (hg : gd h) (u v : Nat) (hu : u < 16) (hv : v < 16) (n i9 : Nat) (hn : n < 16) (hd9 : DS h u v = nI n) (hi9 : i9 ≤ n) (sz : Nat) : Met l y_M_way (Cond.code y_M_way c_M_way 8 (some .int) :: BS) { frames := 2, cells := 0, slots := 0, locals := 46 } (va_Pc [.ref mo, .int (nI u), .int (nI v), .int (nI i9)] (xWp D [(mo, .inr (5, [.int mc, .int mn, .ref m0, .int mg, .ref m1, .ref m2, .ref m3, .ref m4, .ref m5, .ref m6])), (m0, .inl (o0, 16, .inl h)), (m1, .inl (o1, 16, .inl mO)), (m2, .inl (o2, 16, .inl mG)), (m3, .inl (o3, 16, .inl mF)), (m4, .inl (o4, 32, .inl mA)), (m5, .inl (o5, 32, .inl mU)), (m6, .inl (o6, 32, .inl mR))] [(o0, .int), (o1, .int), (o2, .int), (o3, .int), (o4, .int), (o5, .int), (o6, .int)] sz)) (xQi D [(mo, .inr (5, [.int mc, .int mn, .ref m0, .int mg, .ref m1, .ref m2, .ref m3, .ref m4, .ref m5, .ref m6])), (m0, .inl (o0, 16, .inl h)), (m1, .inl (o1, 16, .inl mO)), (m2, .inl (o2, 16, .inl mG)), (m3, .inl (o3, 16, .inl mF)), (m4, .inl (o4, 32, .inl mA)), (m5, .inl (o5, 32, .inl mU)), (m6, .inl (o6, 32, .inl mR))] [(mo, .inr (5, [.int (nI 0), .int mn, .ref m0, .int mg, .ref m1, .ref m2, .ref m3, .ref m4, .ref m5, .ref m6])), (m0, .inl (o0, 16, .inl h)), (m1, .inl (o1, 16, .inl mO)), (m2, .inl (o2, 16, .inl mG)), (m3, .inl (o3, 16, .inl (fun k => DS h k v))), (m4, .inl (o4, 32, .inl mA)), (m5, .inl (o5, 32, .inl mU)), (m6, .inl (o6, 32, .inl mR))] [(o0, .int), (o1, .int), (o2, .int), (o3, .int), (o4, .int), (o5, .int), (o6, .int)] sz (nI (wyP h v u i9))) 0 0 (va_A [(mo, .inr (5, [.int mc, .int mn, .ref m0, .int mg, .ref m1, .ref m2, .ref m3, .ref m4, .ref m5, .ref m6])), (m0, .inl (o0, 16, .inl h)), (m1, .inl (o1, 16, .inl mO)), (m2, .inl (o2, 16, .inl mG)), (m3, .inl (o3, 16, .inl mF)), (m4, .inl (o4, 32, .inl mA)), (m5, .inl (o5, 32, .inl mU)), (m6, .inl (o6, 32, .inl mR))] sz) := by
  refine Met.ofW (cc := c_M_way) (maxL := 8) (ret := (some .int)) (by decide) rfl ?_
  intro p e s m args below meth c s₁ B hml hv
  obtain ⟨rfl, hsz, hP, hK, hD0, hN⟩ := hv
  have hx := B.exec
  have hb := B.bytes
  have hr := B.returns
  have hB := xB B.pre
  have hown : s.vm.findClass R_M = some m.cls := findClass_of_methodNamed B.named
  have hlocks := B.notSynchronized
  subst hsz
  have hD := hD0.self (sz := s.heap.size)
  obtain ⟨A, hAe⟩ : ∃ A, A = va_A [(mo, .inr (5, [.int mc, .int mn, .ref m0, .int mg, .ref m1, .ref m2, .ref m3, .ref m4, .ref m5, .ref m6])), (m0, .inl (o0, 16, .inl h)), (m1, .inl (o1, 16, .inl mO)), (m2, .inl (o2, 16, .inl mG)), (m3, .inl (o3, 16, .inl mF)), (m4, .inl (o4, 32, .inl mA)), (m5, .inl (o5, 32, .inl mU)), (m6, .inl (o6, 32, .inl mR))] s.heap.size := ⟨_, rfl⟩
  rw [← hAe] at hD
  have hA : ∀ q : Nat, s.heap.size ≤ q → A q := fun q h => by rw [hAe]; exact Or.inr h
  have hS : va_S A s.heap s.heap [] := va_S.rf
  have hl := lv_entry ([.ref mo, .int (nI u), .int (nI v), .int (nI i9)]) (n := 8) (Nat.le_of_ble_eq_true rfl)
  rw [lg_entry_eq]
  generalize (lg_sl ([.ref mo, .int (nI u), .int (nI v), .int (nI i9)]) ++ List.replicate (8 - (lg_sl ([.ref mo, .int (nI u), .int (nI v), .int (nI i9)])).length) Slot.unset).toArray = ls at hl ⊢
  have hl : lv_has ls 8 [(0, .ref mo), (1, .int (nI u)), (2, .int (nI v)), (3, .int (nI i9))] := hl
  refine lv_aload_n hx hb d_M_way_0 rfl (lv_at hl 0 rfl) ?_
  refine lv_iload_n hx hb d_M_way_1 rfl (lv_at hl 1 rfl) ?_
  refine lv_iload_n hx hb d_M_way_2 rfl (lv_at hl 2 rfl) ?_
  refine xw_i (wc := [(mo, .inr (5, [.int mc, .int mn, .ref m0, .int mg, .ref m1, .ref m2, .ref m3, .ref m4, .ref m5, .ref m6])), (m0, .inl (o0, 16, .inl h)), (m1, .inl (o1, 16, .inl mO)), (m2, .inl (o2, 16, .inl mG)), (m3, .inl (o3, 16, .inl mF)), (m4, .inl (o4, 32, .inl mA)), (m5, .inl (o5, 32, .inl mU)), (m6, .inl (o6, 32, .inl mR))]) (wr := []) (w1 := [(mo, .inr (5, [.int (b2i (!(isP (nI u) && isP (nI v)))), .int mn, .ref m0, .int mg, .ref m1, .ref m2, .ref m3, .ref m4, .ref m5, .ref m6])), (m0, .inl (o0, 16, .inl h)), (m1, .inl (o1, 16, .inl mO)), (m2, .inl (o2, 16, .inl mG)), (m3, .inl (o3, 16, .inl mF)), (m4, .inl (o4, 32, .inl mA)), (m5, .inl (o5, 32, .inl mU)), (m6, .inl (o6, 32, .inl mR))]) (va_runV (As := [.int (nI u), .int (nI v)]) (rest := []) ⟨hx, hb, hml, hown, hB⟩ (k_M_lacks l D mo m0 m1 m2 m3 m4 m5 m6 o0 o1 o2 o3 o4 o5 o6 mc mn mg h mO mG mF mA mU mR (nI u) (nI v) _) ⟨callB_of 2 hB (xg0 mc_M_lacks) rfl rfl rfl (hB _ mz_M) (hB _ ml_M_67) (by decide +kernel) ⟨Nat.le_of_ble_eq_true rfl, Nat.le_of_ble_eq_true rfl⟩, hB _ mi_M_lacks, hB _ me_M_lacks⟩ (xqV (ws := [(mo, .inr (5, [.int mc, .int mn, .ref m0, .int mg, .ref m1, .ref m2, .ref m3, .ref m4, .ref m5, .ref m6])), (m0, .inl (o0, 16, .inl h)), (m1, .inl (o1, 16, .inl mO)), (m2, .inl (o2, 16, .inl mG)), (m3, .inl (o3, 16, .inl mF)), (m4, .inl (o4, 32, .inl mA)), (m5, .inl (o5, 32, .inl mU)), (m6, .inl (o6, 32, .inl mR))]) (tys := [(o0, .int), (o1, .int), (o2, .int), (o3, .int), (o4, .int), (o5, .int), (o6, .int)]) (hP.sub [0, 1, 2, 3, 4, 5, 6, 7] rfl) (hD.sub [0, 1, 2, 3, 4, 5, 6, 7] (by decide) rfl) (hK.sub [0, 1, 2, 3, 4, 5, 6] rfl) hN (va_recv (ci := 5) (q0 := 0) (q := (R_M, F_M, 10)) hK hP rfl rfl)) rfl rfl hl.1 rfl (lv_room (Nat.le_of_ble_eq_true rfl)) d_M_way_3 ⟨Nat.le_of_ble_eq_true rfl, Nat.le_of_ble_eq_true rfl⟩) hP hD hS hA [0, 1, 2, 3, 4, 5, 6, 7] [] rfl rfl (by decide) (by decide) (fun H locs hP hD hS => ?_)
  have hP : va_P D cls [(mo, .inr (5, [.int (b2i (!(isP (nI u) && isP (nI v)))), .int mn, .ref m0, .int mg, .ref m1, .ref m2, .ref m3, .ref m4, .ref m5, .ref m6])), (m0, .inl (o0, 16, .inl h)), (m1, .inl (o1, 16, .inl mO)), (m2, .inl (o2, 16, .inl mG)), (m3, .inl (o3, 16, .inl mF)), (m4, .inl (o4, 32, .inl mA)), (m5, .inl (o5, 32, .inl mU)), (m6, .inl (o6, 32, .inl mR))] H := hP
  have hD : va_D A [(mo, .inr (5, [.int (b2i (!(isP (nI u) && isP (nI v)))), .int mn, .ref m0, .int mg, .ref m1, .ref m2, .ref m3, .ref m4, .ref m5, .ref m6])), (m0, .inl (o0, 16, .inl h)), (m1, .inl (o1, 16, .inl mO)), (m2, .inl (o2, 16, .inl mG)), (m3, .inl (o3, 16, .inl mF)), (m4, .inl (o4, 32, .inl mA)), (m5, .inl (o5, 32, .inl mU)), (m6, .inl (o6, 32, .inl mR))] := hD
  have hz : (b2i (!(isP (nI u) && isP (nI v)))) = nI 0 := by rw [isP2 (by omega) (by omega)]; rfl
  rw [hz] at hP hD
  refine lv_if_eq (tgt := 11) hx hb d_M_way_6 rfl (fun hc6 => ?_) (fun hc6 => ?_)
  · have hc6 := b2i_0.mp hc6
    refine lv_aload_n hx hb d_M_way_11 rfl (lv_at hl 0 rfl) ?_
    refine lv_iload_n hx hb d_M_way_12 rfl (lv_at hl 2 rfl) ?_
    refine xw_v (wc := [(mo, .inr (5, [.int (nI 0), .int mn, .ref m0, .int mg, .ref m1, .ref m2, .ref m3, .ref m4, .ref m5, .ref m6])), (m0, .inl (o0, 16, .inl h)), (m1, .inl (o1, 16, .inl mO)), (m2, .inl (o2, 16, .inl mG)), (m3, .inl (o3, 16, .inl mF)), (m4, .inl (o4, 32, .inl mA)), (m5, .inl (o5, 32, .inl mU)), (m6, .inl (o6, 32, .inl mR))]) (wr := []) (w1 := [(mo, .inr (5, [.int (nI 0), .int mn, .ref m0, .int mg, .ref m1, .ref m2, .ref m3, .ref m4, .ref m5, .ref m6])), (m0, .inl (o0, 16, .inl h)), (m1, .inl (o1, 16, .inl mO)), (m2, .inl (o2, 16, .inl mG)), (m3, .inl (o3, 16, .inl (fun k => DS h k v))), (m4, .inl (o4, 32, .inl mA)), (m5, .inl (o5, 32, .inl mU)), (m6, .inl (o6, 32, .inl mR))]) (va_runV (As := [.int (nI v)]) (rest := []) ⟨hx, hb, hml, hown, hB⟩ (k_M_measure l D mo m0 m1 m2 m3 m4 m5 m6 o0 o1 o2 o3 o4 o5 o6 (nI 0) mn mg h mO mG mF mA mU mR hg v (by omega) _) ⟨callB_of 1 hB (xg0 mc_M_measure) rfl rfl rfl (hB _ mz_M) (hB _ ml_M_76) (by decide +kernel) ⟨Nat.le_of_ble_eq_true rfl, Nat.le_of_ble_eq_true rfl⟩, hB _ mi_M_measure, hB _ me_M_measure⟩ (xqV (ws := [(mo, .inr (5, [.int (nI 0), .int mn, .ref m0, .int mg, .ref m1, .ref m2, .ref m3, .ref m4, .ref m5, .ref m6])), (m0, .inl (o0, 16, .inl h)), (m1, .inl (o1, 16, .inl mO)), (m2, .inl (o2, 16, .inl mG)), (m3, .inl (o3, 16, .inl mF)), (m4, .inl (o4, 32, .inl mA)), (m5, .inl (o5, 32, .inl mU)), (m6, .inl (o6, 32, .inl mR))]) (tys := [(o0, .int), (o1, .int), (o2, .int), (o3, .int), (o4, .int), (o5, .int), (o6, .int)]) (hP.sub [0, 1, 2, 3, 4, 5, 6, 7] rfl) (hD.sub [0, 1, 2, 3, 4, 5, 6, 7] (by decide) rfl) (hK.sub [0, 1, 2, 3, 4, 5, 6] rfl) hN (va_recv (ci := 5) (q0 := 0) (q := (R_M, F_M, 10)) hK hP rfl rfl)) rfl rfl hl.1 rfl (lv_room (Nat.le_of_ble_eq_true rfl)) d_M_way_13 ⟨Nat.le_of_ble_eq_true rfl, Nat.le_of_ble_eq_true rfl⟩) hP hD hS hA [0, 1, 2, 3, 4, 5, 6, 7] [] rfl rfl (by decide) (by decide) (fun H locs hP hD hS => ?_)
    have hP : va_P D cls [(mo, .inr (5, [.int (nI 0), .int mn, .ref m0, .int mg, .ref m1, .ref m2, .ref m3, .ref m4, .ref m5, .ref m6])), (m0, .inl (o0, 16, .inl h)), (m1, .inl (o1, 16, .inl mO)), (m2, .inl (o2, 16, .inl mG)), (m3, .inl (o3, 16, .inl (fun k => DS h k v))), (m4, .inl (o4, 32, .inl mA)), (m5, .inl (o5, 32, .inl mU)), (m6, .inl (o6, 32, .inl mR))] H := hP
    have hD : va_D A [(mo, .inr (5, [.int (nI 0), .int mn, .ref m0, .int mg, .ref m1, .ref m2, .ref m3, .ref m4, .ref m5, .ref m6])), (m0, .inl (o0, 16, .inl h)), (m1, .inl (o1, 16, .inl mO)), (m2, .inl (o2, 16, .inl mG)), (m3, .inl (o3, 16, .inl (fun k => DS h k v))), (m4, .inl (o4, 32, .inl mA)), (m5, .inl (o5, 32, .inl mU)), (m6, .inl (o6, 32, .inl mR))] := hD
    refine lv_aload_n hx hb d_M_way_16 rfl (lv_at hl 0 rfl) ?_
    refine lv_aload_n hx hb d_M_way_17 rfl (lv_at hl 0 rfl) ?_
    refine va_get (D := D) (ci := 5) (v := .ref m3) (C := R_M) (T := F_M) (N := 10) hx hb hB in_M hown hK hP 0 rfl rfl 6 (by decide) (hB _ mf_M_19) (fun _ h9 => h9) rfl d_M_way_18 ?_
    refine lv_iload_n hx hb d_M_way_21 rfl (lv_at hl 1 rfl) ?_
    refine xa_ld (u := u) hx hb hK hP 4 3 rfl rfl (by omega) (by decide) d_M_way_22 ?_
    refine xv_top (x' := nI n) (hd9) ?_
    refine lv_if_ge (tgt := 30) hx hb d_M_way_23 rfl (fun hc23 => ?_) (fun hc23 => ?_)
    · have hc23 : 0 ≤ n := (nI_leI (a := 0) (b := n) (by omega) (by omega)).mp hc23
      refine lv_iload_n hx hb d_M_way_30 rfl (lv_at hl 3 rfl) ?_
      refine lv_if_lt (tgt := 44) hx hb d_M_way_31 rfl (fun hc31 => ?_) (fun hc31 => ?_)
      · have hc31 : i9 < 0 := (nI_ltI (a := i9) (b := 0) (by omega) (by omega)).mp hc31
        exact absurd hc31 (by omega)
      · have hc31 : ¬ (i9 < 0) := fun q9 => hc31 ((nI_ltI (a := i9) (b := 0) (by omega) (by omega)).mpr q9)
        refine lv_iload_n hx hb d_M_way_34 rfl (lv_at hl 3 rfl) ?_
        refine lv_aload_n hx hb d_M_way_35 rfl (lv_at hl 0 rfl) ?_
        refine va_get (D := D) (ci := 5) (v := .ref m3) (C := R_M) (T := F_M) (N := 10) hx hb hB in_M hown hK hP 0 rfl rfl 6 (by decide) (hB _ mf_M_19) (fun _ h9 => h9) rfl d_M_way_36 ?_
        refine lv_iload_n hx hb d_M_way_39 rfl (lv_at hl 1 rfl) ?_
        refine xa_ld (u := u) hx hb hK hP 4 3 rfl rfl (by omega) (by decide) d_M_way_40 ?_
        refine xv_top (x' := nI n) (hd9) ?_
        refine lv_icmp_le (tgt := 48) hx hb d_M_way_41 rfl (fun hc41 => ?_) (fun hc41 => ?_)
        · have hc41 : i9 ≤ n := (nI_leI (by omega) (by omega)).mp hc41
          refine lv_iconst (v := nI 0) hx hb d_M_way_48 (by decide) ?_
          refine va_put (D := D) (ci := 5) (v := .int (nI 0)) (ty := .int) (C := R_M) (T := F_M) (N := 10) hx hb hB in_M t_M t_M_ok n_M hown hK hP hD hS 0 rfl rfl 0 (by decide) (hB _ mf_M_31) (fun _ h9 => h9) rfl (by decide +kernel) rfl rfl (Nat.le_of_ble_eq_true rfl) d_M_way_49 (fun H locs hP hD hS => ?_)
          have hP : va_P D cls [(mo, .inr (5, [.int (nI 0), .int mn, .ref m0, .int mg, .ref m1, .ref m2, .ref m3, .ref m4, .ref m5, .ref m6])), (m0, .inl (o0, 16, .inl h)), (m1, .inl (o1, 16, .inl mO)), (m2, .inl (o2, 16, .inl mG)), (m3, .inl (o3, 16, .inl (fun k => DS h k v))), (m4, .inl (o4, 32, .inl mA)), (m5, .inl (o5, 32, .inl mU)), (m6, .inl (o6, 32, .inl mR))] H := hP
          have hD : va_D A [(mo, .inr (5, [.int (nI 0), .int mn, .ref m0, .int mg, .ref m1, .ref m2, .ref m3, .ref m4, .ref m5, .ref m6])), (m0, .inl (o0, 16, .inl h)), (m1, .inl (o1, 16, .inl mO)), (m2, .inl (o2, 16, .inl mG)), (m3, .inl (o3, 16, .inl (fun k => DS h k v))), (m4, .inl (o4, 32, .inl mA)), (m5, .inl (o5, 32, .inl mU)), (m6, .inl (o6, 32, .inl mR))] := hD
          refine lv_aload_n hx hb d_M_way_52 rfl (lv_at hl 0 rfl) ?_
          refine va_get (D := D) (ci := 5) (v := .int (nI 0)) (C := R_M) (T := F_M) (N := 10) hx hb hB in_M hown hK hP 0 rfl rfl 0 (by decide) (hB _ mf_M_31) (fun _ h9 => h9) rfl d_M_way_53 ?_
          refine lv_if_le (tgt := 61) hx hb d_M_way_56 rfl (fun _ => ?_) (fun hc56 => absurd hc56 (by decide))
          refine lv_iload_n hx hb d_M_way_61 rfl (lv_at hl 1 rfl) ?_
          refine lv_istore hx hb d_M_way_62 hl (by decide) rfl (fun ls hl => ?_)
          have hl : lv_has ls 8 [(4, .int (nI u)), (0, .ref mo), (1, .int (nI u)), (2, .int (nI v)), (3, .int (nI i9))] := hl
          refine lv_iconst (v := nI 0) hx hb d_M_way_64 (by decide) ?_
          refine lv_istore hx hb d_M_way_65 hl (by decide) rfl (fun ls hl => ?_)
          have hl : lv_has ls 8 [(5, .int (nI 0)), (4, .int (nI u)), (0, .ref mo), (1, .int (nI u)), (2, .int (nI v)), (3, .int (nI i9))] := hl
          refine xl_w (fun (k : Nat) ls H locs => ((k ≤ i9) ∧ (wyP h v u k < 16)) ∧ lv_has ls 8 [(5, .int (nI k)), (4, .int (nI (wyP h v u k))), (0, .ref mo), (1, .int (nI u)), (2, .int (nI v)), (3, .int (nI i9))] ∧ va_P D cls [(mo, .inr (5, [.int (nI 0), .int mn, .ref m0, .int mg, .ref m1, .ref m2, .ref m3, .ref m4, .ref m5, .ref m6])), (m0, .inl (o0, 16, .inl h)), (m1, .inl (o1, 16, .inl mO)), (m2, .inl (o2, 16, .inl mG)), (m3, .inl (o3, 16, .inl (fun k => DS h k v))), (m4, .inl (o4, 32, .inl mA)), (m5, .inl (o5, 32, .inl mU)), (m6, .inl (o6, 32, .inl mR))] H ∧ va_D A [(mo, .inr (5, [.int (nI 0), .int mn, .ref m0, .int mg, .ref m1, .ref m2, .ref m3, .ref m4, .ref m5, .ref m6])), (m0, .inl (o0, 16, .inl h)), (m1, .inl (o1, 16, .inl mO)), (m2, .inl (o2, 16, .inl mG)), (m3, .inl (o3, 16, .inl (fun k => DS h k v))), (m4, .inl (o4, 32, .inl mA)), (m5, .inl (o5, 32, .inl mU)), (m6, .inl (o6, 32, .inl mR))] ∧ va_S A s.heap H locs) (fun k => i9 - k) (fun k ls H locs hI ih67 => ?_) 0 _ ⟨⟨Nat.zero_le _, hu⟩, hl, hP, hD, hS⟩
          obtain ⟨hI, hl, hP, hD, hS⟩ := hI
          obtain ⟨hk, hq⟩ := hI
          refine lv_iload hx hb d_M_way_67 (lv_at hl 0 rfl) ?_
          refine lv_iload_n hx hb d_M_way_69 rfl (lv_at hl 5 rfl) ?_
          refine lv_icmp_ge (tgt := 145) hx hb d_M_way_70 rfl (fun hc70 => ?_) (fun hc70 => ?_)
          · have hc70 : i9 ≤ k := (nI_leI (by omega) (by omega)).mp hc70
            refine lv_iload hx hb d_M_way_145 (lv_at hl 1 rfl) ?_
            have hP9 := hP.sub (ws' := [(mo, .inr (5, [.int (nI 0), .int mn, .ref m0, .int mg, .ref m1, .ref m2, .ref m3, .ref m4, .ref m5, .ref m6])), (m0, .inl (o0, 16, .inl h)), (m1, .inl (o1, 16, .inl mO)), (m2, .inl (o2, 16, .inl mG)), (m3, .inl (o3, 16, .inl (fun k => DS h k v))), (m4, .inl (o4, 32, .inl mA)), (m5, .inl (o5, 32, .inl mU)), (m6, .inl (o6, 32, .inl mR))]) [0, 1, 2, 3, 4, 5, 6, 7] rfl
            have hD9 := hD.sub (ws' := [(mo, .inr (5, [.int (nI 0), .int mn, .ref m0, .int mg, .ref m1, .ref m2, .ref m3, .ref m4, .ref m5, .ref m6])), (m0, .inl (o0, 16, .inl h)), (m1, .inl (o1, 16, .inl mO)), (m2, .inl (o2, 16, .inl mG)), (m3, .inl (o3, 16, .inl (fun k => DS h k v))), (m4, .inl (o4, 32, .inl mA)), (m5, .inl (o5, 32, .inl mU)), (m6, .inl (o6, 32, .inl mR))]) [0, 1, 2, 3, 4, 5, 6, 7] (by decide) rfl
            subst hAe
            refine xv_top (x' := nI (wyP h v u i9)) (by rw [show k = i9 by omega]) ?_
            exact W.iret (v := nI (wyP h v u i9)) hx hb hr (fun t ht hW => ⟨⟨_, (), rfl, rfl, by rw [ht]; exact hP9, va_K.moved hW.alike hK, hD9⟩, hS.F ht⟩) hS.2.2 d_M_way_147
          · have hc70 : ¬ (i9 ≤ k) := fun q9 => hc70 ((nI_leI (by omega) (by omega)).mpr q9)
            refine lv_bipush (v := nI 15) hx hb d_M_way_73 (by decide) ?_
            refine lv_istore hx hb d_M_way_75 hl (by decide) rfl (fun ls hl => ?_)
            have hl : lv_has ls 8 [(6, .int (nI 15)), (5, .int (nI k)), (4, .int (nI (wyP h v u k))), (0, .ref mo), (1, .int (nI u)), (2, .int (nI v)), (3, .int (nI i9))] := hl
            have hl : lv_has ls 8 [(6, .int (nI (wyN h v (wyP h v u k) 16))), (5, .int (nI k)), (4, .int (nI (wyP h v u k))), (0, .ref mo), (1, .int (nI u)), (2, .int (nI v)), (3, .int (nI i9))] := by
              have hz : (nI 15) = nI (wyN h v (wyP h v u k) 16) := wyN_16 _ _ _
              rw [← hz]; exact hl
            refine lv_bipush (v := nI 15) hx hb d_M_way_77 (by decide) ?_
            refine lv_istore hx hb d_M_way_79 hl (by decide) rfl (fun ls hl => ?_)
            have hl : lv_has ls 8 [(7, .int (nI 15)), (6, .int (nI (wyN h v (wyP h v u k) 16))), (5, .int (nI k)), (4, .int (nI (wyP h v u k))), (0, .ref mo), (1, .int (nI u)), (2, .int (nI v)), (3, .int (nI i9))] := hl
            refine xl_w (fun (j : Nat) ls H locs => ((j ≤ 16)) ∧ lv_has ls 8 [(7, .int (dj j)), (6, .int (nI (wyN h v (wyP h v u k) j))), (5, .int (nI k)), (4, .int (nI (wyP h v u k))), (0, .ref mo), (1, .int (nI u)), (2, .int (nI v)), (3, .int (nI i9))] ∧ va_P D cls [(mo, .inr (5, [.int (nI 0), .int mn, .ref m0, .int mg, .ref m1, .ref m2, .ref m3, .ref m4, .ref m5, .ref m6])), (m0, .inl (o0, 16, .inl h)), (m1, .inl (o1, 16, .inl mO)), (m2, .inl (o2, 16, .inl mG)), (m3, .inl (o3, 16, .inl (fun k => DS h k v))), (m4, .inl (o4, 32, .inl mA)), (m5, .inl (o5, 32, .inl mU)), (m6, .inl (o6, 32, .inl mR))] H ∧ va_D A [(mo, .inr (5, [.int (nI 0), .int mn, .ref m0, .int mg, .ref m1, .ref m2, .ref m3, .ref m4, .ref m5, .ref m6])), (m0, .inl (o0, 16, .inl h)), (m1, .inl (o1, 16, .inl mO)), (m2, .inl (o2, 16, .inl mG)), (m3, .inl (o3, 16, .inl (fun k => DS h k v))), (m4, .inl (o4, 32, .inl mA)), (m5, .inl (o5, 32, .inl mU)), (m6, .inl (o6, 32, .inl mR))] ∧ va_S A s.heap H locs) (fun j => j) (fun j ls H locs hI ih81 => ?_) 16 _ ⟨Nat.le_refl _, hl, hP, hD, hS⟩
            obtain ⟨hI, hl, hP, hD, hS⟩ := hI
            have hj := hI
            refine lv_iload hx hb d_M_way_81 (lv_at hl 0 rfl) ?_
            refine lv_if_lt (tgt := 135) hx hb d_M_way_83 rfl (fun hc83 => ?_) (fun hc83 => ?_)
            · have hj0 : j = 0 := (dj_lt j hj).mp hc83
              subst hj0
              refine lv_iload hx hb d_M_way_135 (lv_at hl 1 rfl) ?_
              refine lv_istore hx hb d_M_way_137 hl (by decide) rfl (fun ls hl => ?_)
              have hl : lv_has ls 8 [(4, .int (nI (wyN h v (wyP h v u k) 0))), (7, .int (dj 0)), (6, .int (nI (wyN h v (wyP h v u k) 0))), (5, .int (nI k)), (0, .ref mo), (1, .int (nI u)), (2, .int (nI v)), (3, .int (nI i9))] := hl
              have hl : lv_has ls 8 [(4, .int (nI (wyP h v u (k + 1)))), (7, .int (dj 0)), (6, .int (nI (wyN h v (wyP h v u k) 0))), (5, .int (nI k)), (0, .ref mo), (1, .int (nI u)), (2, .int (nI v)), (3, .int (nI i9))] := by
                have hz : (nI (wyN h v (wyP h v u k) 0)) = nI (wyP h v u (k + 1)) := rfl
                rw [← hz]; exact hl
              refine lv_iinc hx hb d_M_way_139 hl (k := 3) rfl (v := nI (k + 1)) (nI_1 k) (by decide) rfl (fun ls hl => ?_)
              have hl : lv_has ls 8 [(5, .int (nI (k + 1))), (4, .int (nI (wyP h v u (k + 1)))), (7, .int (dj 0)), (6, .int (nI (wyN h v (wyP h v u k) 0))), (0, .ref mo), (1, .int (nI u)), (2, .int (nI v)), (3, .int (nI i9))] := hl
              refine lv_goto (tgt := 67) hx hb d_M_way_142 rfl ?_
              exact ih67 (k + 1) _ H locs ⟨⟨by omega, wyP_lt hu (k + 1)⟩, lv_sub hl [0, 1, 4, 5, 6, 7] rfl, hP, hD, hS⟩ (by omega)
            · obtain ⟨i, rfl⟩ : ∃ i, j = i + 1 := ⟨j - 1, by have := mt (dj_lt j hj).mpr hc83; omega⟩
              have hl : lv_has ls 8 [(7, .int (dj (i + 1))), (6, .int (nI (wyN h v (wyP h v u k) (i + 1)))), (5, .int (nI k)), (4, .int (nI (wyP h v u k))), (0, .ref mo), (1, .int (nI u)), (2, .int (nI v)), (3, .int (nI i9))] := hl
              have hl : lv_has ls 8 [(7, .int (nI i)), (6, .int (nI (wyN h v (wyP h v u k) (i + 1)))), (5, .int (nI k)), (4, .int (nI (wyP h v u k))), (0, .ref mo), (1, .int (nI u)), (2, .int (nI v)), (3, .int (nI i9))] := by
                have hz : (dj (i + 1)) = nI i := dj_s i
                rw [← hz]; exact hl
              refine lv_aload_n hx hb d_M_way_86 rfl (lv_at hl 4 rfl) ?_
              refine va_get (D := D) (ci := 5) (v := .ref m0) (C := R_M) (T := F_M) (N := 10) hx hb hB in_M hown hK hP 0 rfl rfl 2 (by decide) (hB _ mf_M_7) (fun _ h9 => h9) rfl d_M_way_87 ?_
              refine lv_iload hx hb d_M_way_90 (lv_at hl 3 rfl) ?_
              refine xa_ld (u := (wyP h v u k)) hx hb hK hP 1 0 rfl rfl (by omega) (by decide) d_M_way_92 ?_
              refine lv_iload hx hb d_M_way_93 (lv_at hl 0 rfl) ?_
              refine xr_cal (va_runS (As := [.int (h (wyP h v u k)), .int (nI i)]) (rest := []) ⟨hx, hb, hml, hown, hB⟩ (k_M_has l D  (h (wyP h v u k)) i (by omega)) ⟨callB_of 2 hB (xg0 mc_M_has) rfl rfl rfl (hB _ mz_M) (hB _ ml_M_35) (by decide +kernel) ⟨Nat.le_of_ble_eq_true rfl, Nat.le_of_ble_eq_true rfl⟩, hB _ ms_M_has⟩ (xpS (ws := []) (tys := []) (hP.sub [] rfl) (hK.sub [] rfl) hN) rfl rfl hl.1 rfl (lv_room (Nat.le_of_ble_eq_true rfl)) d_M_way_95 ⟨Nat.le_of_ble_eq_true rfl, Nat.le_of_ble_eq_true rfl⟩) ?_
              refine lv_if_eq (tgt := 125) hx hb d_M_way_98 rfl (fun hc98 => ?_) (fun hc98 => ?_)
              · have hc98 := b2i_0.mp hc98
                refine lv_iload hx hb d_M_way_125 (lv_at hl 1 rfl) ?_
                refine lv_istore hx hb d_M_way_127 hl (by decide) rfl (fun ls hl => ?_)
                have hl : lv_has ls 8 [(6, .int (nI (wyN h v (wyP h v u k) (i + 1)))), (7, .int (nI i)), (5, .int (nI k)), (4, .int (nI (wyP h v u k))), (0, .ref mo), (1, .int (nI u)), (2, .int (nI v)), (3, .int (nI i9))] := hl
                have hl : lv_has ls 8 [(6, .int (nI (wyN h v (wyP h v u k) i))), (7, .int (nI i)), (5, .int (nI k)), (4, .int (nI (wyP h v u k))), (0, .ref mo), (1, .int (nI u)), (2, .int (nI v)), (3, .int (nI i9))] := by
                  have hz : (nI (wyN h v (wyP h v u k) (i + 1))) = nI (wyN h v (wyP h v u k) i) := wyN_f (by first | (rw [decide_eq_false hc117, Bool.and_false]) | (rw [hc98]; rfl))
                  rw [← hz]; exact hl
                refine lv_iinc hx hb d_M_way_129 hl (k := 1) rfl (v := dj i) rfl (by decide) rfl (fun ls hl => ?_)
                have hl : lv_has ls 8 [(7, .int (dj i)), (6, .int (nI (wyN h v (wyP h v u k) i))), (5, .int (nI k)), (4, .int (nI (wyP h v u k))), (0, .ref mo), (1, .int (nI u)), (2, .int (nI v)), (3, .int (nI i9))] := hl
                refine lv_goto (tgt := 81) hx hb d_M_way_132 rfl ?_
                exact ih81 i _ H locs ⟨by omega, lv_sub hl [0, 1, 2, 3, 4, 5, 6, 7] rfl, hP, hD, hS⟩ (by omega)
              · have hc98 := b2i_n.mp hc98
                refine lv_aload_n hx hb d_M_way_101 rfl (lv_at hl 4 rfl) ?_
                refine va_get (D := D) (ci := 5) (v := .ref m3) (C := R_M) (T := F_M) (N := 10) hx hb hB in_M hown hK hP 0 rfl rfl 6 (by decide) (hB _ mf_M_19) (fun _ h9 => h9) rfl d_M_way_102 ?_
                refine lv_iload hx hb d_M_way_105 (lv_at hl 0 rfl) ?_
                refine xa_ld (u := i) hx hb hK hP 4 3 rfl rfl (by omega) (by decide) d_M_way_107 ?_
                refine xv_top (x' := DS h i v) (rfl) ?_
                refine lv_aload_n hx hb d_M_way_108 rfl (lv_at hl 4 rfl) ?_
                refine va_get (D := D) (ci := 5) (v := .ref m3) (C := R_M) (T := F_M) (N := 10) hx hb hB in_M hown hK hP 0 rfl rfl 6 (by decide) (hB _ mf_M_19) (fun _ h9 => h9) rfl d_M_way_109 ?_
                refine lv_iload hx hb d_M_way_112 (lv_at hl 3 rfl) ?_
                refine xa_ld (u := (wyP h v u k)) hx hb hK hP 4 3 rfl rfl (by omega) (by decide) d_M_way_114 ?_
                refine lv_iconst (v := nI 1) hx hb d_M_way_115 (by decide) ?_
                refine lv_isub hx hb d_M_way_116 ?_
                refine xv_top (x' := DS h (wyP h v u k) v - nI 1) (rfl) ?_
                refine lv_icmp_ne (tgt := 125) hx hb d_M_way_117 rfl (fun hc117 => ?_) (fun hc117 => ?_)
                · refine lv_iload hx hb d_M_way_125 (lv_at hl 1 rfl) ?_
                  refine lv_istore hx hb d_M_way_127 hl (by decide) rfl (fun ls hl => ?_)
                  have hl : lv_has ls 8 [(6, .int (nI (wyN h v (wyP h v u k) (i + 1)))), (7, .int (nI i)), (5, .int (nI k)), (4, .int (nI (wyP h v u k))), (0, .ref mo), (1, .int (nI u)), (2, .int (nI v)), (3, .int (nI i9))] := hl
                  have hl : lv_has ls 8 [(6, .int (nI (wyN h v (wyP h v u k) i))), (7, .int (nI i)), (5, .int (nI k)), (4, .int (nI (wyP h v u k))), (0, .ref mo), (1, .int (nI u)), (2, .int (nI v)), (3, .int (nI i9))] := by
                    have hz : (nI (wyN h v (wyP h v u k) (i + 1))) = nI (wyN h v (wyP h v u k) i) := wyN_f (by first | (rw [decide_eq_false hc117, Bool.and_false]) | (rw [hc98]; rfl))
                    rw [← hz]; exact hl
                  refine lv_iinc hx hb d_M_way_129 hl (k := 1) rfl (v := dj i) rfl (by decide) rfl (fun ls hl => ?_)
                  have hl : lv_has ls 8 [(7, .int (dj i)), (6, .int (nI (wyN h v (wyP h v u k) i))), (5, .int (nI k)), (4, .int (nI (wyP h v u k))), (0, .ref mo), (1, .int (nI u)), (2, .int (nI v)), (3, .int (nI i9))] := hl
                  refine lv_goto (tgt := 81) hx hb d_M_way_132 rfl ?_
                  exact ih81 i _ H locs ⟨by omega, lv_sub hl [0, 1, 2, 3, 4, 5, 6, 7] rfl, hP, hD, hS⟩ (by omega)
                · refine lv_iload hx hb d_M_way_120 (lv_at hl 0 rfl) ?_
                  refine lv_goto (tgt := 127) hx hb d_M_way_122 rfl ?_
                  refine lv_istore hx hb d_M_way_127 hl (by decide) rfl (fun ls hl => ?_)
                  have hl : lv_has ls 8 [(6, .int (nI i)), (7, .int (nI i)), (5, .int (nI k)), (4, .int (nI (wyP h v u k))), (0, .ref mo), (1, .int (nI u)), (2, .int (nI v)), (3, .int (nI i9))] := hl
                  have hl : lv_has ls 8 [(6, .int (nI (wyN h v (wyP h v u k) i))), (7, .int (nI i)), (5, .int (nI k)), (4, .int (nI (wyP h v u k))), (0, .ref mo), (1, .int (nI u)), (2, .int (nI v)), (3, .int (nI i9))] := by
                    have hz : (nI i) = nI (wyN h v (wyP h v u k) i) := wyN_t (by omega) hc98 hc117
                    rw [← hz]; exact hl
                  refine lv_iinc hx hb d_M_way_129 hl (k := 1) rfl (v := dj i) rfl (by decide) rfl (fun ls hl => ?_)
                  have hl : lv_has ls 8 [(7, .int (dj i)), (6, .int (nI (wyN h v (wyP h v u k) i))), (5, .int (nI k)), (4, .int (nI (wyP h v u k))), (0, .ref mo), (1, .int (nI u)), (2, .int (nI v)), (3, .int (nI i9))] := hl
                  refine lv_goto (tgt := 81) hx hb d_M_way_132 rfl ?_
                  exact ih81 i _ H locs ⟨by omega, lv_sub hl [0, 1, 2, 3, 4, 5, 6, 7] rfl, hP, hD, hS⟩ (by omega)
        · have hc41 : ¬ (i9 ≤ n) := fun q9 => hc41 ((nI_leI (by omega) (by omega)).mpr q9)
          exact absurd hi9 hc41
    · have hc23 : ¬ (0 ≤ n) := fun q9 => hc23 ((nI_leI (a := 0) (b := n) (by omega) (by omega)).mpr q9)
      exact absurd hc23 (by omega)
  · have hc6 := b2i_n.mp hc6
    exact absurd hc6 (by rw [isP2 (by omega) (by omega)]; decide)
