set_option maxHeartbeats 4000000 in
set_option maxRecDepth 100000 in
theorem k_M_findOrder (l : Launch) (D : va_G) (mo m0 m1 m2 m3 m4 m5 m6 : Nat) (o0 o1 o2 o3 o4 o5 o6 : ClassId) (mc : Int32) (mn : Int32) (mg : Int32) (h : Nat → Int32) (mO : Nat → Int32) (mG : Nat → Int32) (mF : Nat → Int32) (mA : Nat → Int32) (mU : Nat → Int32) (mR : Nat → Int32) (hg : gd h) (sz : Nat) : Met l y_M_findOrder (Cond.code y_M_findOrder c_M_findOrder 5 none :: BS) { frames := 4, cells := 0, slots := 0, locals := 90 } (va_Pc [.ref mo] (xWp D [(mo, .inr (5, [.int mc, .int mn, .ref m0, .int mg, .ref m1, .ref m2, .ref m3, .ref m4, .ref m5, .ref m6])), (m0, .inl (o0, 16, .inl h)), (m1, .inl (o1, 16, .inl mO)), (m2, .inl (o2, 16, .inl mG)), (m3, .inl (o3, 16, .inl mF)), (m4, .inl (o4, 32, .inl mA)), (m5, .inl (o5, 32, .inl mU)), (m6, .inl (o6, 32, .inl mR))] [(o0, .int), (o1, .int), (o2, .int), (o3, .int), (o4, .int), (o5, .int), (o6, .int)] sz)) (xQv D [(mo, .inr (5, [.int mc, .int mn, .ref m0, .int mg, .ref m1, .ref m2, .ref m3, .ref m4, .ref m5, .ref m6])), (m0, .inl (o0, 16, .inl h)), (m1, .inl (o1, 16, .inl mO)), (m2, .inl (o2, 16, .inl mG)), (m3, .inl (o3, 16, .inl mF)), (m4, .inl (o4, 32, .inl mA)), (m5, .inl (o5, 32, .inl mU)), (m6, .inl (o6, 32, .inl mR))] [(mo, .inr (5, [.int mc, .int mn, .ref m0, .int (nI (ct h)), .ref m1, .ref m2, .ref m3, .ref m4, .ref m5, .ref m6])), (m0, .inl (o0, 16, .inl h)), (m1, .inl (o1, 16, .inl (fun k => if k < ct h then nI (nx h (pl h k)) else mO k))), (m2, .inl (o2, 16, .inl (GR h))), (m3, .inl (o3, 16, .inl mF)), (m4, .inl (o4, 32, .inl mA)), (m5, .inl (o5, 32, .inl mU)), (m6, .inl (o6, 32, .inl mR))] [(o0, .int), (o1, .int), (o2, .int), (o3, .int), (o4, .int), (o5, .int), (o6, .int)] sz) 0 0 (va_A [(mo, .inr (5, [.int mc, .int mn, .ref m0, .int mg, .ref m1, .ref m2, .ref m3, .ref m4, .ref m5, .ref m6])), (m0, .inl (o0, 16, .inl h)), (m1, .inl (o1, 16, .inl mO)), (m2, .inl (o2, 16, .inl mG)), (m3, .inl (o3, 16, .inl mF)), (m4, .inl (o4, 32, .inl mA)), (m5, .inl (o5, 32, .inl mU)), (m6, .inl (o6, 32, .inl mR))] sz) := by
  refine Met.ofW (cc := c_M_findOrder) (maxL := 5) (ret := none) (by decide) rfl ?_
  intro p e s m args below meth c s₁ B hml hv
  obtain ⟨rfl, hsz, hP, hK, hD0, hN⟩ := hv
  have hx := B.exec
  have hb := B.bytes
  have hr := B.returns
  have hB := xB B.pre
  have hown : s.vm.findClass R_M = some m.cls := findClass_of_methodNamed B.named
  have hlocks := B.notSynchronized
  subst hsz
  have hD := hD0.self (sz := s.heap.size)
  obtain ⟨A, hAe⟩ : ∃ A, A = va_A [(mo, .inr (5, [.int mc, .int mn, .ref m0, .int mg, .ref m1, .ref m2, .ref m3, .ref m4, .ref m5, .ref m6])), (m0, .inl (o0, 16, .inl h)), (m1, .inl (o1, 16, .inl mO)), (m2, .inl (o2, 16, .inl mG)), (m3, .inl (o3, 16, .inl mF)), (m4, .inl (o4, 32, .inl mA)), (m5, .inl (o5, 32, .inl mU)), (m6, .inl (o6, 32, .inl mR))] s.heap.size := ⟨_, rfl⟩
  rw [← hAe] at hD
  have hA : ∀ q : Nat, s.heap.size ≤ q → A q := fun q h => by rw [hAe]; exact Or.inr h
  have hS : va_S A s.heap s.heap [] := va_S.rf
  have hl := lv_entry ([.ref mo]) (n := 5) (Nat.le_of_ble_eq_true rfl)
  rw [lg_entry_eq]
  generalize (lg_sl ([.ref mo]) ++ List.replicate (5 - (lg_sl ([.ref mo])).length) Slot.unset).toArray = ls at hl ⊢
  have hl : lv_has ls 5 [(0, .ref mo)] := hl
  refine lv_aload_n hx hb d_M_findOrder_0 rfl (lv_at hl 0 rfl) ?_
  refine xw_v (wc := [(mo, .inr (5, [.int mc, .int mn, .ref m0, .int mg, .ref m1, .ref m2, .ref m3, .ref m4, .ref m5, .ref m6])), (m0, .inl (o0, 16, .inl h)), (m1, .inl (o1, 16, .inl mO)), (m2, .inl (o2, 16, .inl mG)), (m3, .inl (o3, 16, .inl mF)), (m4, .inl (o4, 32, .inl mA)), (m5, .inl (o5, 32, .inl mU)), (m6, .inl (o6, 32, .inl mR))]) (wr := []) (w1 := [(mo, .inr (5, [.int mc, .int mn, .ref m0, .int mg, .ref m1, .ref m2, .ref m3, .ref m4, .ref m5, .ref m6])), (m0, .inl (o0, 16, .inl h)), (m1, .inl (o1, 16, .inl mO)), (m2, .inl (o2, 16, .inl (GR h))), (m3, .inl (o3, 16, .inl mF)), (m4, .inl (o4, 32, .inl mA)), (m5, .inl (o5, 32, .inl mU)), (m6, .inl (o6, 32, .inl mR))]) (va_runV (As := []) (rest := []) ⟨hx, hb, hml, hown, hB⟩ (k_M_findGroups l D mo m0 m1 m2 m3 m4 m5 m6 o0 o1 o2 o3 o4 o5 o6 mc mn mg h mO mG mF mA mU mR hg _) ⟨callB_of 0 hB (xg0 mc_M_findGroups) rfl rfl rfl (hB _ mz_M) (hB _ ml_M_55) (by decide +kernel) ⟨Nat.le_of_ble_eq_true rfl, Nat.le_of_ble_eq_true rfl⟩, hB _ mi_M_findGroups, hB _ me_M_findGroups⟩ (xqV (ws := [(mo, .inr (5, [.int mc, .int mn, .ref m0, .int mg, .ref m1, .ref m2, .ref m3, .ref m4, .ref m5, .ref m6])), (m0, .inl (o0, 16, .inl h)), (m1, .inl (o1, 16, .inl mO)), (m2, .inl (o2, 16, .inl mG)), (m3, .inl (o3, 16, .inl mF)), (m4, .inl (o4, 32, .inl mA)), (m5, .inl (o5, 32, .inl mU)), (m6, .inl (o6, 32, .inl mR))]) (tys := [(o0, .int), (o1, .int), (o2, .int), (o3, .int), (o4, .int), (o5, .int), (o6, .int)]) (hP.sub [0, 1, 2, 3, 4, 5, 6, 7] rfl) (hD.sub [0, 1, 2, 3, 4, 5, 6, 7] (by decide) rfl) (hK.sub [0, 1, 2, 3, 4, 5, 6] rfl) hN (va_recv (ci := 5) (q0 := 0) (q := (R_M, F_M, 10)) hK hP rfl rfl)) rfl rfl hl.1 rfl (lv_room (Nat.le_of_ble_eq_true rfl)) d_M_findOrder_1 ⟨Nat.le_of_ble_eq_true rfl, Nat.le_of_ble_eq_true rfl⟩) hP hD hS hA [0, 1, 2, 3, 4, 5, 6, 7] [] rfl rfl (by decide) (by decide) (fun H locs hP hD hS => ?_)
  have hP : va_P D cls [(mo, .inr (5, [.int mc, .int mn, .ref m0, .int mg, .ref m1, .ref m2, .ref m3, .ref m4, .ref m5, .ref m6])), (m0, .inl (o0, 16, .inl h)), (m1, .inl (o1, 16, .inl mO)), (m2, .inl (o2, 16, .inl (GR h))), (m3, .inl (o3, 16, .inl mF)), (m4, .inl (o4, 32, .inl mA)), (m5, .inl (o5, 32, .inl mU)), (m6, .inl (o6, 32, .inl mR))] H := hP
  have hD : va_D A [(mo, .inr (5, [.int mc, .int mn, .ref m0, .int mg, .ref m1, .ref m2, .ref m3, .ref m4, .ref m5, .ref m6])), (m0, .inl (o0, 16, .inl h)), (m1, .inl (o1, 16, .inl mO)), (m2, .inl (o2, 16, .inl (GR h))), (m3, .inl (o3, 16, .inl mF)), (m4, .inl (o4, 32, .inl mA)), (m5, .inl (o5, 32, .inl mU)), (m6, .inl (o6, 32, .inl mR))] := hD
  refine lv_aload_n hx hb d_M_findOrder_4 rfl (lv_at hl 0 rfl) ?_
  refine lv_iconst (v := nI 0) hx hb d_M_findOrder_5 (by decide) ?_
  refine va_put (D := D) (ci := 5) (v := .int (nI 0)) (ty := .int) (C := R_M) (T := F_M) (N := 10) hx hb hB in_M t_M t_M_ok n_M hown hK hP hD hS 0 rfl rfl 3 (by decide) (hB _ mf_M_58) (fun _ h9 => h9) rfl (by decide +kernel) rfl rfl (Nat.le_of_ble_eq_true rfl) d_M_findOrder_6 (fun H locs hP hD hS => ?_)
  have hP : va_P D cls [(mo, .inr (5, [.int mc, .int mn, .ref m0, .int (nI 0), .ref m1, .ref m2, .ref m3, .ref m4, .ref m5, .ref m6])), (m0, .inl (o0, 16, .inl h)), (m1, .inl (o1, 16, .inl mO)), (m2, .inl (o2, 16, .inl (GR h))), (m3, .inl (o3, 16, .inl mF)), (m4, .inl (o4, 32, .inl mA)), (m5, .inl (o5, 32, .inl mU)), (m6, .inl (o6, 32, .inl mR))] H := hP
  have hD : va_D A [(mo, .inr (5, [.int mc, .int mn, .ref m0, .int (nI 0), .ref m1, .ref m2, .ref m3, .ref m4, .ref m5, .ref m6])), (m0, .inl (o0, 16, .inl h)), (m1, .inl (o1, 16, .inl mO)), (m2, .inl (o2, 16, .inl (GR h))), (m3, .inl (o3, 16, .inl mF)), (m4, .inl (o4, 32, .inl mA)), (m5, .inl (o5, 32, .inl mU)), (m6, .inl (o6, 32, .inl mR))] := hD
  refine lv_ldc (v := 65535) hx hb hown (hB _ mk_M_39) d_M_findOrder_9 ?_
  refine lv_istore_n hx hb d_M_findOrder_11 rfl hl (by decide) rfl (fun ls hl => ?_)
  have hl : lv_has ls 5 [(1, .int 65535), (0, .ref mo)] := hl
  have hl : lv_has ls 5 [(1, .int (lf9 h 0)), (0, .ref mo)] := by
    have hz : (65535) = lf9 h 0 := lf9_0 h
    rw [← hz]; exact hl
  have hP := xP_ext hP 2 (fun k => if k < 0 then nI (nx h (pl h k)) else mO k) rfl (fun j9 hj9 => (if_neg (Nat.not_lt_zero _)).symm)
  have hD := xD_ext hD 2 (y := .inl (o1, 16, .inl (fun k => if k < 0 then nI (nx h (pl h k)) else mO k))) rfl
  have hP : va_P D cls [(mo, .inr (5, [.int mc, .int mn, .ref m0, .int (nI 0), .ref m1, .ref m2, .ref m3, .ref m4, .ref m5, .ref m6])), (m0, .inl (o0, 16, .inl h)), (m1, .inl (o1, 16, .inl (fun k => if k < 0 then nI (nx h (pl h k)) else mO k))), (m2, .inl (o2, 16, .inl (GR h))), (m3, .inl (o3, 16, .inl mF)), (m4, .inl (o4, 32, .inl mA)), (m5, .inl (o5, 32, .inl mU)), (m6, .inl (o6, 32, .inl mR))] _ := hP
  have hD : va_D A [(mo, .inr (5, [.int mc, .int mn, .ref m0, .int (nI 0), .ref m1, .ref m2, .ref m3, .ref m4, .ref m5, .ref m6])), (m0, .inl (o0, 16, .inl h)), (m1, .inl (o1, 16, .inl (fun k => if k < 0 then nI (nx h (pl h k)) else mO k))), (m2, .inl (o2, 16, .inl (GR h))), (m3, .inl (o3, 16, .inl mF)), (m4, .inl (o4, 32, .inl mA)), (m5, .inl (o5, 32, .inl mU)), (m6, .inl (o6, 32, .inl mR))] := hD
  refine xl_w (fun (kk : Nat) ls H locs => ((kk ≤ ct h)) ∧ lv_has ls 5 [(1, .int (lf9 h kk)), (0, .ref mo)] ∧ va_P D cls [(mo, .inr (5, [.int mc, .int mn, .ref m0, .int (nI kk), .ref m1, .ref m2, .ref m3, .ref m4, .ref m5, .ref m6])), (m0, .inl (o0, 16, .inl h)), (m1, .inl (o1, 16, .inl (fun k => if k < kk then nI (nx h (pl h k)) else mO k))), (m2, .inl (o2, 16, .inl (GR h))), (m3, .inl (o3, 16, .inl mF)), (m4, .inl (o4, 32, .inl mA)), (m5, .inl (o5, 32, .inl mU)), (m6, .inl (o6, 32, .inl mR))] H ∧ va_D A [(mo, .inr (5, [.int mc, .int mn, .ref m0, .int (nI kk), .ref m1, .ref m2, .ref m3, .ref m4, .ref m5, .ref m6])), (m0, .inl (o0, 16, .inl h)), (m1, .inl (o1, 16, .inl (fun k => if k < kk then nI (nx h (pl h k)) else mO k))), (m2, .inl (o2, 16, .inl (GR h))), (m3, .inl (o3, 16, .inl mF)), (m4, .inl (o4, 32, .inl mA)), (m5, .inl (o5, 32, .inl mU)), (m6, .inl (o6, 32, .inl mR))] ∧ va_S A s.heap H locs) (fun kk => ct h - kk) (fun kk ls H locs hI ih12 => ?_) 0 _ ⟨Nat.zero_le _, hl, hP, hD, hS⟩
  obtain ⟨hI, hl, hP, hD, hS⟩ := hI
  have hk := hI
  refine lv_iload_n hx hb d_M_findOrder_12 rfl (lv_at hl 0 rfl) ?_
  refine lv_if_eq (tgt := 128) hx hb d_M_findOrder_13 rfl (fun hc13 => ?_) (fun hc13 => ?_)
  · have hke := lf9_end hg hk hc13
    have hP := xP_ext hP 2 (fun k => if k < ct h then nI (nx h (pl h k)) else mO k) rfl (fun j9 hj9 => by rw [hke])
    have hD := xD_ext hD 2 (y := .inl (o1, 16, .inl (fun k => if k < ct h then nI (nx h (pl h k)) else mO k))) rfl
    have hP : va_P D cls [(mo, .inr (5, [.int mc, .int mn, .ref m0, .int (nI kk), .ref m1, .ref m2, .ref m3, .ref m4, .ref m5, .ref m6])), (m0, .inl (o0, 16, .inl h)), (m1, .inl (o1, 16, .inl (fun k => if k < ct h then nI (nx h (pl h k)) else mO k))), (m2, .inl (o2, 16, .inl (GR h))), (m3, .inl (o3, 16, .inl mF)), (m4, .inl (o4, 32, .inl mA)), (m5, .inl (o5, 32, .inl mU)), (m6, .inl (o6, 32, .inl mR))] _ := hP
    have hD : va_D A [(mo, .inr (5, [.int mc, .int mn, .ref m0, .int (nI kk), .ref m1, .ref m2, .ref m3, .ref m4, .ref m5, .ref m6])), (m0, .inl (o0, 16, .inl h)), (m1, .inl (o1, 16, .inl (fun k => if k < ct h then nI (nx h (pl h k)) else mO k))), (m2, .inl (o2, 16, .inl (GR h))), (m3, .inl (o3, 16, .inl mF)), (m4, .inl (o4, 32, .inl mA)), (m5, .inl (o5, 32, .inl mU)), (m6, .inl (o6, 32, .inl mR))] := hD
    have hz : (nI kk) = nI (ct h) := by rw [hke]
    rw [hz] at hP hD
    have hP9 := hP.sub (ws' := [(mo, .inr (5, [.int mc, .int mn, .ref m0, .int (nI (ct h)), .ref m1, .ref m2, .ref m3, .ref m4, .ref m5, .ref m6])), (m0, .inl (o0, 16, .inl h)), (m1, .inl (o1, 16, .inl (fun k => if k < ct h then nI (nx h (pl h k)) else mO k))), (m2, .inl (o2, 16, .inl (GR h))), (m3, .inl (o3, 16, .inl mF)), (m4, .inl (o4, 32, .inl mA)), (m5, .inl (o5, 32, .inl mU)), (m6, .inl (o6, 32, .inl mR))]) [0, 1, 2, 3, 4, 5, 6, 7] rfl
    have hD9 := hD.sub (ws' := [(mo, .inr (5, [.int mc, .int mn, .ref m0, .int (nI (ct h)), .ref m1, .ref m2, .ref m3, .ref m4, .ref m5, .ref m6])), (m0, .inl (o0, 16, .inl h)), (m1, .inl (o1, 16, .inl (fun k => if k < ct h then nI (nx h (pl h k)) else mO k))), (m2, .inl (o2, 16, .inl (GR h))), (m3, .inl (o3, 16, .inl mF)), (m4, .inl (o4, 32, .inl mA)), (m5, .inl (o5, 32, .inl mU)), (m6, .inl (o6, 32, .inl mR))]) [0, 1, 2, 3, 4, 5, 6, 7] (by decide) rfl
    subst hAe
    exact W.vret hx hb hr (fun t ht hW => ⟨⟨(), rfl, trivial, by rw [ht]; exact hP9, va_K.moved hW.alike hK, hD9⟩, hS.F ht⟩) hS.2.2 d_M_findOrder_128
  · have hkl := lf9_lt hg hk hc13
    have hc16 := ct_le h
    refine lv_iconst (v := -1) hx hb d_M_findOrder_16 (by decide) ?_
    refine lv_istore_n hx hb d_M_findOrder_17 rfl hl (by decide) rfl (fun ls hl => ?_)
    have hl : lv_has ls 5 [(2, .int (-1)), (1, .int (lf9 h kk)), (0, .ref mo)] := hl
    have hl : lv_has ls 5 [(2, .int (ndq h (pl h kk) 16)), (1, .int (lf9 h kk)), (0, .ref mo)] := by
      have hz : (-1) = ndq h (pl h kk) 16 := ndq_16 _ _
      rw [← hz]; exact hl
    refine lv_bipush (v := nI 15) hx hb d_M_findOrder_18 (by decide) ?_
    refine lv_istore_n hx hb d_M_findOrder_20 rfl hl (by decide) rfl (fun ls hl => ?_)
    have hl : lv_has ls 5 [(3, .int (nI 15)), (2, .int (ndq h (pl h kk) 16)), (1, .int (lf9 h kk)), (0, .ref mo)] := hl
    refine xl_w (fun (j : Nat) ls H locs => ((j ≤ 16)) ∧ lv_has ls 5 [(3, .int (dj j)), (2, .int (ndq h (pl h kk) j)), (1, .int (lf9 h kk)), (0, .ref mo)] ∧ va_P D cls [(mo, .inr (5, [.int mc, .int mn, .ref m0, .int (nI kk), .ref m1, .ref m2, .ref m3, .ref m4, .ref m5, .ref m6])), (m0, .inl (o0, 16, .inl h)), (m1, .inl (o1, 16, .inl (fun k => if k < kk then nI (nx h (pl h k)) else mO k))), (m2, .inl (o2, 16, .inl (GR h))), (m3, .inl (o3, 16, .inl mF)), (m4, .inl (o4, 32, .inl mA)), (m5, .inl (o5, 32, .inl mU)), (m6, .inl (o6, 32, .inl mR))] H ∧ va_D A [(mo, .inr (5, [.int mc, .int mn, .ref m0, .int (nI kk), .ref m1, .ref m2, .ref m3, .ref m4, .ref m5, .ref m6])), (m0, .inl (o0, 16, .inl h)), (m1, .inl (o1, 16, .inl (fun k => if k < kk then nI (nx h (pl h k)) else mO k))), (m2, .inl (o2, 16, .inl (GR h))), (m3, .inl (o3, 16, .inl mF)), (m4, .inl (o4, 32, .inl mA)), (m5, .inl (o5, 32, .inl mU)), (m6, .inl (o6, 32, .inl mR))] ∧ va_S A s.heap H locs) (fun j => j) (fun j ls H locs hI ih21 => ?_) 16 _ ⟨Nat.le_refl _, hl, hP, hD, hS⟩
    obtain ⟨hI, hl, hP, hD, hS⟩ := hI
    have hj := hI
    refine lv_iload_n hx hb d_M_findOrder_21 rfl (lv_at hl 0 rfl) ?_
    refine lv_if_lt (tgt := 94) hx hb d_M_findOrder_22 rfl (fun hc22 => ?_) (fun hc22 => ?_)
    · have hj0 : j = 0 := (dj_lt j hj).mp hc22
      subst hj0
      have hnx := nx_spec hg (pl_un hg hkl)
      have hl : lv_has ls 5 [(3, .int (dj 0)), (2, .int (nI (nx h (pl h kk)))), (1, .int (lf9 h kk)), (0, .ref mo)] := by
        have hz : (ndq h (pl h kk) 0) = nI (nx h (pl h kk)) := ndq_0 hg (pl_un hg hkl)
        rw [← hz]; exact hl
      refine lv_aload_n hx hb d_M_findOrder_94 rfl (lv_at hl 3 rfl) ?_
      refine va_get (D := D) (ci := 5) (v := .ref m1) (C := R_M) (T := F_M) (N := 10) hx hb hB in_M hown hK hP 0 rfl rfl 4 (by decide) (hB _ mf_M_13) (fun _ h9 => h9) rfl d_M_findOrder_95 ?_
      refine lv_aload_n hx hb d_M_findOrder_98 rfl (lv_at hl 3 rfl) ?_
      refine va_get (D := D) (ci := 5) (v := .int (nI kk)) (C := R_M) (T := F_M) (N := 10) hx hb hB in_M hown hK hP 0 rfl rfl 3 (by decide) (hB _ mf_M_58) (fun _ h9 => h9) rfl d_M_findOrder_99 ?_
      refine lv_iload_n hx hb d_M_findOrder_102 rfl (lv_at hl 1 rfl) ?_
      refine xa_st (u := kk) hx hb hK hP hD hS 2 1 rfl rfl (by omega) (by decide) d_M_findOrder_103 (fun H locs hP hD hS => ?_)
      have hP : va_P D cls [(mo, .inr (5, [.int mc, .int mn, .ref m0, .int (nI kk), .ref m1, .ref m2, .ref m3, .ref m4, .ref m5, .ref m6])), (m0, .inl (o0, 16, .inl h)), (m1, .inl (o1, 16, .inl (upd (fun k => if k < kk then nI (nx h (pl h k)) else mO k) kk (nI (nx h (pl h kk)))))), (m2, .inl (o2, 16, .inl (GR h))), (m3, .inl (o3, 16, .inl mF)), (m4, .inl (o4, 32, .inl mA)), (m5, .inl (o5, 32, .inl mU)), (m6, .inl (o6, 32, .inl mR))] H := hP
      have hD : va_D A [(mo, .inr (5, [.int mc, .int mn, .ref m0, .int (nI kk), .ref m1, .ref m2, .ref m3, .ref m4, .ref m5, .ref m6])), (m0, .inl (o0, 16, .inl h)), (m1, .inl (o1, 16, .inl (upd (fun k => if k < kk then nI (nx h (pl h k)) else mO k) kk (nI (nx h (pl h kk)))))), (m2, .inl (o2, 16, .inl (GR h))), (m3, .inl (o3, 16, .inl mF)), (m4, .inl (o4, 32, .inl mA)), (m5, .inl (o5, 32, .inl mU)), (m6, .inl (o6, 32, .inl mR))] := hD
      have hz : (upd (fun k => if k < kk then nI (nx h (pl h k)) else mO k) kk (nI (nx h (pl h kk)))) = (fun k => if k < kk + 1 then nI (nx h (pl h k)) else mO k) := upd_ltf rfl
      rw [hz] at hP hD
      refine lv_aload_n hx hb d_M_findOrder_104 rfl (lv_at hl 3 rfl) ?_
      refine lv_dup hx hb d_M_findOrder_105 rfl ?_
      refine va_get (D := D) (ci := 5) (v := .int (nI kk)) (C := R_M) (T := F_M) (N := 10) hx hb hB in_M hown hK hP 0 rfl rfl 3 (by decide) (hB _ mf_M_58) (fun _ h9 => h9) rfl d_M_findOrder_106 ?_
      refine lv_iconst (v := nI 1) hx hb d_M_findOrder_109 (by decide) ?_
      refine lv_iadd hx hb d_M_findOrder_110 ?_
      refine va_put (D := D) (ci := 5) (v := .int ((nI kk) + (nI 1))) (ty := .int) (C := R_M) (T := F_M) (N := 10) hx hb hB in_M t_M t_M_ok n_M hown hK hP hD hS 0 rfl rfl 3 (by decide) (hB _ mf_M_58) (fun _ h9 => h9) rfl (by decide +kernel) rfl rfl (Nat.le_of_ble_eq_true rfl) d_M_findOrder_111 (fun H locs hP hD hS => ?_)
      have hP : va_P D cls [(mo, .inr (5, [.int mc, .int mn, .ref m0, .int ((nI kk) + (nI 1)), .ref m1, .ref m2, .ref m3, .ref m4, .ref m5, .ref m6])), (m0, .inl (o0, 16, .inl h)), (m1, .inl (o1, 16, .inl (fun k => if k < kk + 1 then nI (nx h (pl h k)) else mO k))), (m2, .inl (o2, 16, .inl (GR h))), (m3, .inl (o3, 16, .inl mF)), (m4, .inl (o4, 32, .inl mA)), (m5, .inl (o5, 32, .inl mU)), (m6, .inl (o6, 32, .inl mR))] H := hP
      have hD : va_D A [(mo, .inr (5, [.int mc, .int mn, .ref m0, .int ((nI kk) + (nI 1)), .ref m1, .ref m2, .ref m3, .ref m4, .ref m5, .ref m6])), (m0, .inl (o0, 16, .inl h)), (m1, .inl (o1, 16, .inl (fun k => if k < kk + 1 then nI (nx h (pl h k)) else mO k))), (m2, .inl (o2, 16, .inl (GR h))), (m3, .inl (o3, 16, .inl mF)), (m4, .inl (o4, 32, .inl mA)), (m5, .inl (o5, 32, .inl mU)), (m6, .inl (o6, 32, .inl mR))] := hD
      have hz : ((nI kk) + (nI 1)) = nI (kk + 1) := nI_add kk 1
      rw [hz] at hP hD
      refine lv_iload_n hx hb d_M_findOrder_114 rfl (lv_at hl 2 rfl) ?_
      refine lv_aload_n hx hb d_M_findOrder_115 rfl (lv_at hl 3 rfl) ?_
      refine va_get (D := D) (ci := 5) (v := .ref m2) (C := R_M) (T := F_M) (N := 10) hx hb hB in_M hown hK hP 0 rfl rfl 5 (by decide) (hB _ mf_M_16) (fun _ h9 => h9) rfl d_M_findOrder_116 ?_
      refine lv_iload_n hx hb d_M_findOrder_119 rfl (lv_at hl 1 rfl) ?_
      refine xa_ld (u := (nx h (pl h kk))) hx hb hK hP 3 2 rfl rfl (by omega) (by decide) d_M_findOrder_120 ?_
      refine lv_iconst (v := -1) hx hb d_M_findOrder_121 (by decide) ?_
      refine lv_ixor hx hb d_M_findOrder_122 ?_
      refine lv_iand hx hb d_M_findOrder_123 ?_
      refine xv_top (x' := lf9 h (kk + 1)) (lf9_s hg hkl) ?_
      refine lv_istore_n hx hb d_M_findOrder_124 rfl hl (by decide) rfl (fun ls hl => ?_)
      have hl : lv_has ls 5 [(1, .int (lf9 h (kk + 1))), (3, .int (dj 0)), (2, .int (nI (nx h (pl h kk)))), (0, .ref mo)] := hl
      refine lv_goto (tgt := 12) hx hb d_M_findOrder_125 rfl ?_
      exact ih12 (kk + 1) _ H locs ⟨by omega, lv_sub hl [0, 3] rfl, hP, hD, hS⟩ (by omega)
    · obtain ⟨i, rfl⟩ : ∃ i, j = i + 1 := ⟨j - 1, by have := mt (dj_lt j hj).mpr hc22; omega⟩
      have hl : lv_has ls 5 [(3, .int (dj (i + 1))), (2, .int (ndq h (pl h kk) (i + 1))), (1, .int (lf9 h kk)), (0, .ref mo)] := hl
      have hl : lv_has ls 5 [(3, .int (nI i)), (2, .int (ndq h (pl h kk) (i + 1))), (1, .int (lf9 h kk)), (0, .ref mo)] := by
        have hz : (dj (i + 1)) = nI i := dj_s i
        rw [← hz]; exact hl
      refine lv_iload_n hx hb d_M_findOrder_25 rfl (lv_at hl 2 rfl) ?_
      refine lv_iload_n hx hb d_M_findOrder_26 rfl (lv_at hl 0 rfl) ?_
      refine xr_cal (va_runS (As := [.int (lf9 h kk), .int (nI i)]) (rest := []) ⟨hx, hb, hml, hown, hB⟩ (k_M_has l D  (lf9 h kk) i (by omega)) ⟨callB_of 2 hB (xg0 mc_M_has) rfl rfl rfl (hB _ mz_M) (hB _ ml_M_35) (by decide +kernel) ⟨Nat.le_of_ble_eq_true rfl, Nat.le_of_ble_eq_true rfl⟩, hB _ ms_M_has⟩ (xpS (ws := []) (tys := []) (hP.sub [] rfl) (hK.sub [] rfl) hN) rfl rfl hl.1 rfl (lv_room (Nat.le_of_ble_eq_true rfl)) d_M_findOrder_27 ⟨Nat.le_of_ble_eq_true rfl, Nat.le_of_ble_eq_true rfl⟩) ?_
      refine lv_if_eq (tgt := 50) hx hb d_M_findOrder_30 rfl (fun hc30 => ?_) (fun hc30 => ?_)
      · have hc30 := b2i_0.mp hc30
        refine lv_iconst (v := nI 0) hx hb d_M_findOrder_50 (by decide) ?_
        refine lv_istore hx hb d_M_findOrder_51 hl (by decide) rfl (fun ls hl => ?_)
        have hl : lv_has ls 5 [(4, .int (nI 0)), (3, .int (nI i)), (2, .int (ndq h (pl h kk) (i + 1))), (1, .int (lf9 h kk)), (0, .ref mo)] := hl
        refine lv_iload hx hb d_M_findOrder_53 (lv_at hl 0 rfl) ?_
        refine lv_if_eq (tgt := 86) hx hb d_M_findOrder_55 rfl (fun _ => ?_) (fun hc55 => absurd hc55 (by decide))
        refine lv_iload_n hx hb d_M_findOrder_86 rfl (lv_at hl 2 rfl) ?_
        refine lv_istore_n hx hb d_M_findOrder_87 rfl hl (by decide) rfl (fun ls hl => ?_)
        have hl : lv_has ls 5 [(2, .int (ndq h (pl h kk) (i + 1))), (4, .int (nI 0)), (3, .int (nI i)), (1, .int (lf9 h kk)), (0, .ref mo)] := hl
        have hl : lv_has ls 5 [(2, .int (ndq h (pl h kk) i)), (4, .int (nI 0)), (3, .int (nI i)), (1, .int (lf9 h kk)), (0, .ref mo)] := by
          have hz : (ndq h (pl h kk) (i + 1)) = ndq h (pl h kk) i := ndq_f (by first | (intro q9; have q8 := (fr_code hg (by omega) hc30 q9.1).mpr q9; exact hc79 q8) | exact (fun q9 => hc43 q9.1) | (intro q9; have q8 : bt (lf9 h kk) i = true := bt_st.mpr ⟨by omega, by rw [q9.1]; exact q9.2.1⟩; rw [hc30] at q8; cases q8))
          rw [← hz]; exact hl
        refine lv_iinc hx hb d_M_findOrder_88 hl (k := 2) rfl (v := dj i) rfl (by decide) rfl (fun ls hl => ?_)
        have hl : lv_has ls 5 [(3, .int (dj i)), (2, .int (ndq h (pl h kk) i)), (4, .int (nI 0)), (1, .int (lf9 h kk)), (0, .ref mo)] := hl
        refine lv_goto (tgt := 21) hx hb d_M_findOrder_91 rfl ?_
        exact ih21 i _ H locs ⟨by omega, lv_sub hl [0, 1, 3, 4] rfl, hP, hD, hS⟩ (by omega)
      · have hc30 := b2i_n.mp hc30
        refine lv_aload_n hx hb d_M_findOrder_33 rfl (lv_at hl 3 rfl) ?_
        refine va_get (D := D) (ci := 5) (v := .ref m2) (C := R_M) (T := F_M) (N := 10) hx hb hB in_M hown hK hP 0 rfl rfl 5 (by decide) (hB _ mf_M_16) (fun _ h9 => h9) rfl d_M_findOrder_34 ?_
        refine lv_iload_n hx hb d_M_findOrder_37 rfl (lv_at hl 0 rfl) ?_
        refine xa_ld (u := i) hx hb hK hP 3 2 rfl rfl (by omega) (by decide) d_M_findOrder_38 ?_
        refine xr_cal (va_runS (As := [.int ((GR h) i)]) (rest := []) ⟨hx, hb, hml, hown, hB⟩ (k_M_least l D  ((GR h) i) ⟨i, by omega, (GR_iff hg (by omega)).mpr ⟨by omega, Rc_rf _, Rc_rf _⟩⟩) ⟨callB_of 1 hB (xg0 mc_M_least) rfl rfl rfl (hB _ mz_M) (hB _ ml_M_61) (by decide +kernel) ⟨Nat.le_of_ble_eq_true rfl, Nat.le_of_ble_eq_true rfl⟩, hB _ ms_M_least⟩ (xpS (ws := []) (tys := []) (hP.sub [] rfl) (hK.sub [] rfl) hN) rfl rfl hl.1 rfl (lv_room (Nat.le_of_ble_eq_true rfl)) d_M_findOrder_39 ⟨Nat.le_of_ble_eq_true rfl, Nat.le_of_ble_eq_true rfl⟩) ?_
        refine xv_top (x' := nI (NM h i)) (rfl) ?_
        have hNM := (NM_spec hg (show i < 16 by omega)).1
        refine lv_iload_n hx hb d_M_findOrder_42 rfl (lv_at hl 0 rfl) ?_
        refine lv_icmp_ne (tgt := 50) hx hb d_M_findOrder_43 rfl (fun hc43 => ?_) (fun hc43 => ?_)
        · have hc43 : ¬ ((NM h i) = i) := fun q9 => hc43 ((nI_eq (by omega) (by omega)).mpr q9)
          refine lv_iconst (v := nI 0) hx hb d_M_findOrder_50 (by decide) ?_
          refine lv_istore hx hb d_M_findOrder_51 hl (by decide) rfl (fun ls hl => ?_)
          have hl : lv_has ls 5 [(4, .int (nI 0)), (3, .int (nI i)), (2, .int (ndq h (pl h kk) (i + 1))), (1, .int (lf9 h kk)), (0, .ref mo)] := hl
          refine lv_iload hx hb d_M_findOrder_53 (lv_at hl 0 rfl) ?_
          refine lv_if_eq (tgt := 86) hx hb d_M_findOrder_55 rfl (fun _ => ?_) (fun hc55 => absurd hc55 (by decide))
          refine lv_iload_n hx hb d_M_findOrder_86 rfl (lv_at hl 2 rfl) ?_
          refine lv_istore_n hx hb d_M_findOrder_87 rfl hl (by decide) rfl (fun ls hl => ?_)
          have hl : lv_has ls 5 [(2, .int (ndq h (pl h kk) (i + 1))), (4, .int (nI 0)), (3, .int (nI i)), (1, .int (lf9 h kk)), (0, .ref mo)] := hl
          have hl : lv_has ls 5 [(2, .int (ndq h (pl h kk) i)), (4, .int (nI 0)), (3, .int (nI i)), (1, .int (lf9 h kk)), (0, .ref mo)] := by
            have hz : (ndq h (pl h kk) (i + 1)) = ndq h (pl h kk) i := ndq_f (by first | (intro q9; have q8 := (fr_code hg (by omega) hc30 q9.1).mpr q9; exact hc79 q8) | exact (fun q9 => hc43 q9.1) | (intro q9; have q8 : bt (lf9 h kk) i = true := bt_st.mpr ⟨by omega, by rw [q9.1]; exact q9.2.1⟩; rw [hc30] at q8; cases q8))
            rw [← hz]; exact hl
          refine lv_iinc hx hb d_M_findOrder_88 hl (k := 2) rfl (v := dj i) rfl (by decide) rfl (fun ls hl => ?_)
          have hl : lv_has ls 5 [(3, .int (dj i)), (2, .int (ndq h (pl h kk) i)), (4, .int (nI 0)), (1, .int (lf9 h kk)), (0, .ref mo)] := hl
          refine lv_goto (tgt := 21) hx hb d_M_findOrder_91 rfl ?_
          exact ih21 i _ H locs ⟨by omega, lv_sub hl [0, 1, 3, 4] rfl, hP, hD, hS⟩ (by omega)
        · have hc43 : (NM h i) = i := (nI_eq (by omega) (by omega)).mp hc43
          refine lv_iconst (v := nI 1) hx hb d_M_findOrder_46 (by decide) ?_
          refine lv_goto (tgt := 51) hx hb d_M_findOrder_47 rfl ?_
          refine lv_istore hx hb d_M_findOrder_51 hl (by decide) rfl (fun ls hl => ?_)
          have hl : lv_has ls 5 [(4, .int (nI 1)), (3, .int (nI i)), (2, .int (ndq h (pl h kk) (i + 1))), (1, .int (lf9 h kk)), (0, .ref mo)] := hl
          refine lv_iload hx hb d_M_findOrder_53 (lv_at hl 0 rfl) ?_
          refine lv_if_eq (tgt := 86) hx hb d_M_findOrder_55 rfl (fun hc55 => absurd hc55 (by decide)) (fun _ => ?_)
          refine lv_aload_n hx hb d_M_findOrder_58 rfl (lv_at hl 4 rfl) ?_
          refine lv_iload_n hx hb d_M_findOrder_59 rfl (lv_at hl 3 rfl) ?_
          refine lv_aload_n hx hb d_M_findOrder_60 rfl (lv_at hl 4 rfl) ?_
          refine va_get (D := D) (ci := 5) (v := .ref m2) (C := R_M) (T := F_M) (N := 10) hx hb hB in_M hown hK hP 0 rfl rfl 5 (by decide) (hB _ mf_M_16) (fun _ h9 => h9) rfl d_M_findOrder_61 ?_
          refine lv_iload_n hx hb d_M_findOrder_64 rfl (lv_at hl 1 rfl) ?_
          refine xa_ld (u := i) hx hb hK hP 3 2 rfl rfl (by omega) (by decide) d_M_findOrder_65 ?_
          refine lv_iconst (v := -1) hx hb d_M_findOrder_66 (by decide) ?_
          refine lv_ixor hx hb d_M_findOrder_67 ?_
          refine lv_iand hx hb d_M_findOrder_68 ?_
          refine xr_cal (va_runV (As := [.int ((lf9 h kk) &&& (((GR h) i) ^^^ (-1)))]) (rest := []) ⟨hx, hb, hml, hown, hB⟩ (k_M_ends l D mo m0 m1 m2 m3 m4 m5 m6 o0 o1 o2 o3 o4 o5 o6 mc mn (nI kk) h (fun k => if k < kk then nI (nx h (pl h k)) else mO k) (GR h) mF mA mU mR ((lf9 h kk) &&& (((GR h) i) ^^^ (-1)))) ⟨callB_of 1 hB (xg0 mc_M_ends) rfl rfl rfl (hB _ mz_M) (hB _ ml_M_64) (by decide +kernel) ⟨Nat.le_of_ble_eq_true rfl, Nat.le_of_ble_eq_true rfl⟩, hB _ mi_M_ends, hB _ me_M_ends⟩ (xpV (ws := [(mo, .inr (5, [.int mc, .int mn, .ref m0, .int (nI kk), .ref m1, .ref m2, .ref m3, .ref m4, .ref m5, .ref m6])), (m0, .inl (o0, 16, .inl h)), (m1, .inl (o1, 16, .inl (fun k => if k < kk then nI (nx h (pl h k)) else mO k))), (m2, .inl (o2, 16, .inl (GR h))), (m3, .inl (o3, 16, .inl mF)), (m4, .inl (o4, 32, .inl mA)), (m5, .inl (o5, 32, .inl mU)), (m6, .inl (o6, 32, .inl mR))]) (tys := [(o0, .int), (o1, .int), (o2, .int), (o3, .int), (o4, .int), (o5, .int), (o6, .int)]) (hP.sub [0, 1, 2, 3, 4, 5, 6, 7] rfl) (hK.sub [0, 1, 2, 3, 4, 5, 6] rfl) hN (va_recv (ci := 5) (q0 := 0) (q := (R_M, F_M, 10)) hK hP rfl rfl)) rfl rfl hl.1 rfl (lv_room (Nat.le_of_ble_eq_true rfl)) d_M_findOrder_69 ⟨Nat.le_of_ble_eq_true rfl, Nat.le_of_ble_eq_true rfl⟩) ?_
          refine lv_aload_n hx hb d_M_findOrder_72 rfl (lv_at hl 4 rfl) ?_
          refine va_get (D := D) (ci := 5) (v := .ref m2) (C := R_M) (T := F_M) (N := 10) hx hb hB in_M hown hK hP 0 rfl rfl 5 (by decide) (hB _ mf_M_16) (fun _ h9 => h9) rfl d_M_findOrder_73 ?_
          refine lv_iload_n hx hb d_M_findOrder_76 rfl (lv_at hl 1 rfl) ?_
          refine xa_ld (u := i) hx hb hK hP 3 2 rfl rfl (by omega) (by decide) d_M_findOrder_77 ?_
          refine lv_iand hx hb d_M_findOrder_78 ?_
          refine lv_if_ne (tgt := 86) hx hb d_M_findOrder_79 rfl (fun hc79 => ?_) (fun hc79 => ?_)
          · refine lv_iload_n hx hb d_M_findOrder_86 rfl (lv_at hl 2 rfl) ?_
            refine lv_istore_n hx hb d_M_findOrder_87 rfl hl (by decide) rfl (fun ls hl => ?_)
            have hl : lv_has ls 5 [(2, .int (ndq h (pl h kk) (i + 1))), (4, .int (nI 1)), (3, .int (nI i)), (1, .int (lf9 h kk)), (0, .ref mo)] := hl
            have hl : lv_has ls 5 [(2, .int (ndq h (pl h kk) i)), (4, .int (nI 1)), (3, .int (nI i)), (1, .int (lf9 h kk)), (0, .ref mo)] := by
              have hz : (ndq h (pl h kk) (i + 1)) = ndq h (pl h kk) i := ndq_f (by first | (intro q9; have q8 := (fr_code hg (by omega) hc30 q9.1).mpr q9; exact hc79 q8) | exact (fun q9 => hc43 q9.1) | (intro q9; have q8 : bt (lf9 h kk) i = true := bt_st.mpr ⟨by omega, by rw [q9.1]; exact q9.2.1⟩; rw [hc30] at q8; cases q8))
              rw [← hz]; exact hl
            refine lv_iinc hx hb d_M_findOrder_88 hl (k := 2) rfl (v := dj i) rfl (by decide) rfl (fun ls hl => ?_)
            have hl : lv_has ls 5 [(3, .int (dj i)), (2, .int (ndq h (pl h kk) i)), (4, .int (nI 1)), (1, .int (lf9 h kk)), (0, .ref mo)] := hl
            refine lv_goto (tgt := 21) hx hb d_M_findOrder_91 rfl ?_
            exact ih21 i _ H locs ⟨by omega, lv_sub hl [0, 1, 3, 4] rfl, hP, hD, hS⟩ (by omega)
          · refine lv_iload_n hx hb d_M_findOrder_82 rfl (lv_at hl 1 rfl) ?_
            refine lv_goto (tgt := 87) hx hb d_M_findOrder_83 rfl ?_
            refine lv_istore_n hx hb d_M_findOrder_87 rfl hl (by decide) rfl (fun ls hl => ?_)
            have hl : lv_has ls 5 [(2, .int (nI i)), (4, .int (nI 1)), (3, .int (nI i)), (1, .int (lf9 h kk)), (0, .ref mo)] := hl
            have hl : lv_has ls 5 [(2, .int (ndq h (pl h kk) i)), (4, .int (nI 1)), (3, .int (nI i)), (1, .int (lf9 h kk)), (0, .ref mo)] := by
              have hz : (nI i) = ndq h (pl h kk) i := ndq_t (by omega) ((fr_code hg (by omega) hc30 hc43).mp hc79)
              rw [← hz]; exact hl
            refine lv_iinc hx hb d_M_findOrder_88 hl (k := 2) rfl (v := dj i) rfl (by decide) rfl (fun ls hl => ?_)
            have hl : lv_has ls 5 [(3, .int (dj i)), (2, .int (ndq h (pl h kk) i)), (4, .int (nI 1)), (1, .int (lf9 h kk)), (0, .ref mo)] := hl
            refine lv_goto (tgt := 21) hx hb d_M_findOrder_91 rfl ?_
            exact ih21 i _ H locs ⟨by omega, lv_sub hl [0, 1, 3, 4] rfl, hP, hD, hS⟩ (by omega)
