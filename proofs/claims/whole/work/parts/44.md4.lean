set_option maxHeartbeats 4000000 in
set_option maxRecDepth 100000 in
theorem k_M_group_bad (l : Launch) (D : va_G) (mo m0 m1 m2 m3 m4 m5 m6 : Nat) (o0 o1 o2 o3 o4 o5 o6 : ClassId) (mc : Int32) (mn : Int32) (mg : Int32) (h : Nat → Int32) (mO : Nat → Int32) (mG : Nat → Int32) (mF : Nat → Int32) (mA : Nat → Int32) (mU : Nat → Int32) (mR : Nat → Int32) (x : Int32) (hb9 : (isP x && isP x) = false) (sz : Nat) : Met l y_M_group (Cond.code y_M_group c_M_group 2 (some .int) :: BS) { frames := 2, cells := 0, slots := 0, locals := 42 } (va_Pc [.ref mo, .int x] (xWp D [(mo, .inr (5, [.int mc, .int mn, .ref m0, .int mg, .ref m1, .ref m2, .ref m3, .ref m4, .ref m5, .ref m6])), (m0, .inl (o0, 16, .inl h)), (m1, .inl (o1, 16, .inl mO)), (m2, .inl (o2, 16, .inl mG)), (m3, .inl (o3, 16, .inl mF)), (m4, .inl (o4, 32, .inl mA)), (m5, .inl (o5, 32, .inl mU)), (m6, .inl (o6, 32, .inl mR))] [(o0, .int), (o1, .int), (o2, .int), (o3, .int), (o4, .int), (o5, .int), (o6, .int)] sz)) (xQi D [(mo, .inr (5, [.int mc, .int mn, .ref m0, .int mg, .ref m1, .ref m2, .ref m3, .ref m4, .ref m5, .ref m6])), (m0, .inl (o0, 16, .inl h)), (m1, .inl (o1, 16, .inl mO)), (m2, .inl (o2, 16, .inl mG)), (m3, .inl (o3, 16, .inl mF)), (m4, .inl (o4, 32, .inl mA)), (m5, .inl (o5, 32, .inl mU)), (m6, .inl (o6, 32, .inl mR))] [(mo, .inr (5, [.int (nI 1), .int mn, .ref m0, .int mg, .ref m1, .ref m2, .ref m3, .ref m4, .ref m5, .ref m6])), (m0, .inl (o0, 16, .inl h)), (m1, .inl (o1, 16, .inl mO)), (m2, .inl (o2, 16, .inl mG)), (m3, .inl (o3, 16, .inl mF)), (m4, .inl (o4, 32, .inl mA)), (m5, .inl (o5, 32, .inl mU)), (m6, .inl (o6, 32, .inl mR))] [(o0, .int), (o1, .int), (o2, .int), (o3, .int), (o4, .int), (o5, .int), (o6, .int)] sz (nI 0)) 0 0 (va_A [(mo, .inr (5, [.int mc, .int mn, .ref m0, .int mg, .ref m1, .ref m2, .ref m3, .ref m4, .ref m5, .ref m6])), (m0, .inl (o0, 16, .inl h)), (m1, .inl (o1, 16, .inl mO)), (m2, .inl (o2, 16, .inl mG)), (m3, .inl (o3, 16, .inl mF)), (m4, .inl (o4, 32, .inl mA)), (m5, .inl (o5, 32, .inl mU)), (m6, .inl (o6, 32, .inl mR))] sz) := by
  refine Met.ofW (cc := c_M_group) (maxL := 2) (ret := (some .int)) (by decide) rfl ?_
  intro p e s m args below meth c s₁ B hml hv
  obtain ⟨rfl, hsz, hP, hK, hD0, hN⟩ := hv
  have hx := B.exec
  have hb := B.bytes
  have hr := B.returns
  have hB := xB B.pre
  have hown : s.vm.findClass R_M = some m.cls := findClass_of_methodNamed B.named
  have hlocks := B.notSynchronized
  subst hsz
  have hD := hD0.self (sz := s.heap.size)
  obtain ⟨A, hAe⟩ : ∃ A, A = va_A [(mo, .inr (5, [.int mc, .int mn, .ref m0, .int mg, .ref m1, .ref m2, .ref m3, .ref m4, .ref m5, .ref m6])), (m0, .inl (o0, 16, .inl h)), (m1, .inl (o1, 16, .inl mO)), (m2, .inl (o2, 16, .inl mG)), (m3, .inl (o3, 16, .inl mF)), (m4, .inl (o4, 32, .inl mA)), (m5, .inl (o5, 32, .inl mU)), (m6, .inl (o6, 32, .inl mR))] s.heap.size := ⟨_, rfl⟩
  rw [← hAe] at hD
  have hA : ∀ q : Nat, s.heap.size ≤ q → A q := fun q h => by rw [hAe]; exact Or.inr h
  have hS : va_S A s.heap s.heap [] := va_S.rf
  have hl := lv_entry ([.ref mo, .int x]) (n := 2) (Nat.le_of_ble_eq_true rfl)
  rw [lg_entry_eq]
  generalize (lg_sl ([.ref mo, .int x]) ++ List.replicate (2 - (lg_sl ([.ref mo, .int x])).length) Slot.unset).toArray = ls at hl ⊢
  have hl : lv_has ls 2 [(0, .ref mo), (1, .int x)] := hl
  refine lv_aload_n hx hb d_M_group_0 rfl (lv_at hl 0 rfl) ?_
  refine lv_iload_n hx hb d_M_group_1 rfl (lv_at hl 1 rfl) ?_
  refine lv_iload_n hx hb d_M_group_2 rfl (lv_at hl 1 rfl) ?_
  refine xw_i (wc := [(mo, .inr (5, [.int mc, .int mn, .ref m0, .int mg, .ref m1, .ref m2, .ref m3, .ref m4, .ref m5, .ref m6])), (m0, .inl (o0, 16, .inl h)), (m1, .inl (o1, 16, .inl mO)), (m2, .inl (o2, 16, .inl mG)), (m3, .inl (o3, 16, .inl mF)), (m4, .inl (o4, 32, .inl mA)), (m5, .inl (o5, 32, .inl mU)), (m6, .inl (o6, 32, .inl mR))]) (wr := []) (w1 := [(mo, .inr (5, [.int (b2i (!(isP x && isP x))), .int mn, .ref m0, .int mg, .ref m1, .ref m2, .ref m3, .ref m4, .ref m5, .ref m6])), (m0, .inl (o0, 16, .inl h)), (m1, .inl (o1, 16, .inl mO)), (m2, .inl (o2, 16, .inl mG)), (m3, .inl (o3, 16, .inl mF)), (m4, .inl (o4, 32, .inl mA)), (m5, .inl (o5, 32, .inl mU)), (m6, .inl (o6, 32, .inl mR))]) (va_runV (As := [.int x, .int x]) (rest := []) ⟨hx, hb, hml, hown, hB⟩ (k_M_lacks l D mo m0 m1 m2 m3 m4 m5 m6 o0 o1 o2 o3 o4 o5 o6 mc mn mg h mO mG mF mA mU mR x x _) ⟨callB_of 2 hB (xg0 mc_M_lacks) rfl rfl rfl (hB _ mz_M) (hB _ ml_M_67) (by decide +kernel) ⟨Nat.le_of_ble_eq_true rfl, Nat.le_of_ble_eq_true rfl⟩, hB _ mi_M_lacks, hB _ me_M_lacks⟩ (xqV (ws := [(mo, .inr (5, [.int mc, .int mn, .ref m0, .int mg, .ref m1, .ref m2, .ref m3, .ref m4, .ref m5, .ref m6])), (m0, .inl (o0, 16, .inl h)), (m1, .inl (o1, 16, .inl mO)), (m2, .inl (o2, 16, .inl mG)), (m3, .inl (o3, 16, .inl mF)), (m4, .inl (o4, 32, .inl mA)), (m5, .inl (o5, 32, .inl mU)), (m6, .inl (o6, 32, .inl mR))]) (tys := [(o0, .int), (o1, .int), (o2, .int), (o3, .int), (o4, .int), (o5, .int), (o6, .int)]) (hP.sub [0, 1, 2, 3, 4, 5, 6, 7] rfl) (hD.sub [0, 1, 2, 3, 4, 5, 6, 7] (by decide) rfl) (hK.sub [0, 1, 2, 3, 4, 5, 6] rfl) hN (va_recv (ci := 5) (q0 := 0) (q := (R_M, F_M, 10)) hK hP rfl rfl)) rfl rfl hl.1 rfl (lv_room (Nat.le_of_ble_eq_true rfl)) d_M_group_3 ⟨Nat.le_of_ble_eq_true rfl, Nat.le_of_ble_eq_true rfl⟩) hP hD hS hA [0, 1, 2, 3, 4, 5, 6, 7] [] rfl rfl (by decide) (by decide) (fun H locs hP hD hS => ?_)
  have hP : va_P D cls [(mo, .inr (5, [.int (b2i (!(isP x && isP x))), .int mn, .ref m0, .int mg, .ref m1, .ref m2, .ref m3, .ref m4, .ref m5, .ref m6])), (m0, .inl (o0, 16, .inl h)), (m1, .inl (o1, 16, .inl mO)), (m2, .inl (o2, 16, .inl mG)), (m3, .inl (o3, 16, .inl mF)), (m4, .inl (o4, 32, .inl mA)), (m5, .inl (o5, 32, .inl mU)), (m6, .inl (o6, 32, .inl mR))] H := hP
  have hD : va_D A [(mo, .inr (5, [.int (b2i (!(isP x && isP x))), .int mn, .ref m0, .int mg, .ref m1, .ref m2, .ref m3, .ref m4, .ref m5, .ref m6])), (m0, .inl (o0, 16, .inl h)), (m1, .inl (o1, 16, .inl mO)), (m2, .inl (o2, 16, .inl mG)), (m3, .inl (o3, 16, .inl mF)), (m4, .inl (o4, 32, .inl mA)), (m5, .inl (o5, 32, .inl mU)), (m6, .inl (o6, 32, .inl mR))] := hD
  have hz : (b2i (!(isP x && isP x))) = nI 1 := by rw [hb9]; rfl
  rw [hz] at hP hD
  refine lv_if_eq (tgt := 11) hx hb d_M_group_6 rfl (fun hc6 => ?_) (fun hc6 => ?_)
  · have hc6 := b2i_0.mp hc6
    exact absurd hc6 (by rw [hb9]; decide)
  · have hc6 := b2i_n.mp hc6
    refine lv_iconst (v := nI 0) hx hb d_M_group_9 (by decide) ?_
    have hP9 := hP.sub (ws' := [(mo, .inr (5, [.int (nI 1), .int mn, .ref m0, .int mg, .ref m1, .ref m2, .ref m3, .ref m4, .ref m5, .ref m6])), (m0, .inl (o0, 16, .inl h)), (m1, .inl (o1, 16, .inl mO)), (m2, .inl (o2, 16, .inl mG)), (m3, .inl (o3, 16, .inl mF)), (m4, .inl (o4, 32, .inl mA)), (m5, .inl (o5, 32, .inl mU)), (m6, .inl (o6, 32, .inl mR))]) [0, 1, 2, 3, 4, 5, 6, 7] rfl
    have hD9 := hD.sub (ws' := [(mo, .inr (5, [.int (nI 1), .int mn, .ref m0, .int mg, .ref m1, .ref m2, .ref m3, .ref m4, .ref m5, .ref m6])), (m0, .inl (o0, 16, .inl h)), (m1, .inl (o1, 16, .inl mO)), (m2, .inl (o2, 16, .inl mG)), (m3, .inl (o3, 16, .inl mF)), (m4, .inl (o4, 32, .inl mA)), (m5, .inl (o5, 32, .inl mU)), (m6, .inl (o6, 32, .inl mR))]) [0, 1, 2, 3, 4, 5, 6, 7] (by decide) rfl
    subst hAe
    exact W.iret (v := nI 0) hx hb hr (fun t ht hW => ⟨⟨_, (), rfl, rfl, by rw [ht]; exact hP9, va_K.moved hW.alike hK, hD9⟩, hS.F ht⟩) hS.2.2 d_M_group_10
set_option maxHeartbeats 4000000 in
set_option maxRecDepth 100000 in
theorem k_M_members_bad (l : Launch) (D : va_G) (mo m0 m1 m2 m3 m4 m5 m6 : Nat) (o0 o1 o2 o3 o4 o5 o6 : ClassId) (mc : Int32) (mn : Int32) (mg : Int32) (h : Nat → Int32) (mO : Nat → Int32) (mG : Nat → Int32) (mF : Nat → Int32) (mA : Nat → Int32) (mU : Nat → Int32) (mR : Nat → Int32) (x : Int32) (hb9 : (isP x && isP x) = false) (sz : Nat) : Met l y_M_members (Cond.code y_M_members c_M_members 2 (some .int) :: BS) { frames := 2, cells := 0, slots := 0, locals := 42 } (va_Pc [.ref mo, .int x] (xWp D [(mo, .inr (5, [.int mc, .int mn, .ref m0, .int mg, .ref m1, .ref m2, .ref m3, .ref m4, .ref m5, .ref m6])), (m0, .inl (o0, 16, .inl h)), (m1, .inl (o1, 16, .inl mO)), (m2, .inl (o2, 16, .inl mG)), (m3, .inl (o3, 16, .inl mF)), (m4, .inl (o4, 32, .inl mA)), (m5, .inl (o5, 32, .inl mU)), (m6, .inl (o6, 32, .inl mR))] [(o0, .int), (o1, .int), (o2, .int), (o3, .int), (o4, .int), (o5, .int), (o6, .int)] sz)) (xQi D [(mo, .inr (5, [.int mc, .int mn, .ref m0, .int mg, .ref m1, .ref m2, .ref m3, .ref m4, .ref m5, .ref m6])), (m0, .inl (o0, 16, .inl h)), (m1, .inl (o1, 16, .inl mO)), (m2, .inl (o2, 16, .inl mG)), (m3, .inl (o3, 16, .inl mF)), (m4, .inl (o4, 32, .inl mA)), (m5, .inl (o5, 32, .inl mU)), (m6, .inl (o6, 32, .inl mR))] [(mo, .inr (5, [.int (nI 1), .int mn, .ref m0, .int mg, .ref m1, .ref m2, .ref m3, .ref m4, .ref m5, .ref m6])), (m0, .inl (o0, 16, .inl h)), (m1, .inl (o1, 16, .inl mO)), (m2, .inl (o2, 16, .inl mG)), (m3, .inl (o3, 16, .inl mF)), (m4, .inl (o4, 32, .inl mA)), (m5, .inl (o5, 32, .inl mU)), (m6, .inl (o6, 32, .inl mR))] [(o0, .int), (o1, .int), (o2, .int), (o3, .int), (o4, .int), (o5, .int), (o6, .int)] sz (nI 0)) 0 0 (va_A [(mo, .inr (5, [.int mc, .int mn, .ref m0, .int mg, .ref m1, .ref m2, .ref m3, .ref m4, .ref m5, .ref m6])), (m0, .inl (o0, 16, .inl h)), (m1, .inl (o1, 16, .inl mO)), (m2, .inl (o2, 16, .inl mG)), (m3, .inl (o3, 16, .inl mF)), (m4, .inl (o4, 32, .inl mA)), (m5, .inl (o5, 32, .inl mU)), (m6, .inl (o6, 32, .inl mR))] sz) := by
  refine Met.ofW (cc := c_M_members) (maxL := 2) (ret := (some .int)) (by decide) rfl ?_
  intro p e s m args below meth c s₁ B hml hv
  obtain ⟨rfl, hsz, hP, hK, hD0, hN⟩ := hv
  have hx := B.exec
  have hb := B.bytes
  have hr := B.returns
  have hB := xB B.pre
  have hown : s.vm.findClass R_M = some m.cls := findClass_of_methodNamed B.named
  have hlocks := B.notSynchronized
  subst hsz
  have hD := hD0.self (sz := s.heap.size)
  obtain ⟨A, hAe⟩ : ∃ A, A = va_A [(mo, .inr (5, [.int mc, .int mn, .ref m0, .int mg, .ref m1, .ref m2, .ref m3, .ref m4, .ref m5, .ref m6])), (m0, .inl (o0, 16, .inl h)), (m1, .inl (o1, 16, .inl mO)), (m2, .inl (o2, 16, .inl mG)), (m3, .inl (o3, 16, .inl mF)), (m4, .inl (o4, 32, .inl mA)), (m5, .inl (o5, 32, .inl mU)), (m6, .inl (o6, 32, .inl mR))] s.heap.size := ⟨_, rfl⟩
  rw [← hAe] at hD
  have hA : ∀ q : Nat, s.heap.size ≤ q → A q := fun q h => by rw [hAe]; exact Or.inr h
  have hS : va_S A s.heap s.heap [] := va_S.rf
  have hl := lv_entry ([.ref mo, .int x]) (n := 2) (Nat.le_of_ble_eq_true rfl)
  rw [lg_entry_eq]
  generalize (lg_sl ([.ref mo, .int x]) ++ List.replicate (2 - (lg_sl ([.ref mo, .int x])).length) Slot.unset).toArray = ls at hl ⊢
  have hl : lv_has ls 2 [(0, .ref mo), (1, .int x)] := hl
  refine lv_aload_n hx hb d_M_members_0 rfl (lv_at hl 0 rfl) ?_
  refine lv_iload_n hx hb d_M_members_1 rfl (lv_at hl 1 rfl) ?_
  refine lv_iload_n hx hb d_M_members_2 rfl (lv_at hl 1 rfl) ?_
  refine xw_i (wc := [(mo, .inr (5, [.int mc, .int mn, .ref m0, .int mg, .ref m1, .ref m2, .ref m3, .ref m4, .ref m5, .ref m6])), (m0, .inl (o0, 16, .inl h)), (m1, .inl (o1, 16, .inl mO)), (m2, .inl (o2, 16, .inl mG)), (m3, .inl (o3, 16, .inl mF)), (m4, .inl (o4, 32, .inl mA)), (m5, .inl (o5, 32, .inl mU)), (m6, .inl (o6, 32, .inl mR))]) (wr := []) (w1 := [(mo, .inr (5, [.int (b2i (!(isP x && isP x))), .int mn, .ref m0, .int mg, .ref m1, .ref m2, .ref m3, .ref m4, .ref m5, .ref m6])), (m0, .inl (o0, 16, .inl h)), (m1, .inl (o1, 16, .inl mO)), (m2, .inl (o2, 16, .inl mG)), (m3, .inl (o3, 16, .inl mF)), (m4, .inl (o4, 32, .inl mA)), (m5, .inl (o5, 32, .inl mU)), (m6, .inl (o6, 32, .inl mR))]) (va_runV (As := [.int x, .int x]) (rest := []) ⟨hx, hb, hml, hown, hB⟩ (k_M_lacks l D mo m0 m1 m2 m3 m4 m5 m6 o0 o1 o2 o3 o4 o5 o6 mc mn mg h mO mG mF mA mU mR x x _) ⟨callB_of 2 hB (xg0 mc_M_lacks) rfl rfl rfl (hB _ mz_M) (hB _ ml_M_67) (by decide +kernel) ⟨Nat.le_of_ble_eq_true rfl, Nat.le_of_ble_eq_true rfl⟩, hB _ mi_M_lacks, hB _ me_M_lacks⟩ (xqV (ws := [(mo, .inr (5, [.int mc, .int mn, .ref m0, .int mg, .ref m1, .ref m2, .ref m3, .ref m4, .ref m5, .ref m6])), (m0, .inl (o0, 16, .inl h)), (m1, .inl (o1, 16, .inl mO)), (m2, .inl (o2, 16, .inl mG)), (m3, .inl (o3, 16, .inl mF)), (m4, .inl (o4, 32, .inl mA)), (m5, .inl (o5, 32, .inl mU)), (m6, .inl (o6, 32, .inl mR))]) (tys := [(o0, .int), (o1, .int), (o2, .int), (o3, .int), (o4, .int), (o5, .int), (o6, .int)]) (hP.sub [0, 1, 2, 3, 4, 5, 6, 7] rfl) (hD.sub [0, 1, 2, 3, 4, 5, 6, 7] (by decide) rfl) (hK.sub [0, 1, 2, 3, 4, 5, 6] rfl) hN (va_recv (ci := 5) (q0 := 0) (q := (R_M, F_M, 10)) hK hP rfl rfl)) rfl rfl hl.1 rfl (lv_room (Nat.le_of_ble_eq_true rfl)) d_M_members_3 ⟨Nat.le_of_ble_eq_true rfl, Nat.le_of_ble_eq_true rfl⟩) hP hD hS hA [0, 1, 2, 3, 4, 5, 6, 7] [] rfl rfl (by decide) (by decide) (fun H locs hP hD hS => ?_)
  have hP : va_P D cls [(mo, .inr (5, [.int (b2i (!(isP x && isP x))), .int mn, .ref m0, .int mg, .ref m1, .ref m2, .ref m3, .ref m4, .ref m5, .ref m6])), (m0, .inl (o0, 16, .inl h)), (m1, .inl (o1, 16, .inl mO)), (m2, .inl (o2, 16, .inl mG)), (m3, .inl (o3, 16, .inl mF)), (m4, .inl (o4, 32, .inl mA)), (m5, .inl (o5, 32, .inl mU)), (m6, .inl (o6, 32, .inl mR))] H := hP
  have hD : va_D A [(mo, .inr (5, [.int (b2i (!(isP x && isP x))), .int mn, .ref m0, .int mg, .ref m1, .ref m2, .ref m3, .ref m4, .ref m5, .ref m6])), (m0, .inl (o0, 16, .inl h)), (m1, .inl (o1, 16, .inl mO)), (m2, .inl (o2, 16, .inl mG)), (m3, .inl (o3, 16, .inl mF)), (m4, .inl (o4, 32, .inl mA)), (m5, .inl (o5, 32, .inl mU)), (m6, .inl (o6, 32, .inl mR))] := hD
  have hz : (b2i (!(isP x && isP x))) = nI 1 := by rw [hb9]; rfl
  rw [hz] at hP hD
  refine lv_if_eq (tgt := 11) hx hb d_M_members_6 rfl (fun hc6 => ?_) (fun hc6 => ?_)
  · have hc6 := b2i_0.mp hc6
    exact absurd hc6 (by rw [hb9]; decide)
  · have hc6 := b2i_n.mp hc6
    refine lv_iconst (v := nI 0) hx hb d_M_members_9 (by decide) ?_
    have hP9 := hP.sub (ws' := [(mo, .inr (5, [.int (nI 1), .int mn, .ref m0, .int mg, .ref m1, .ref m2, .ref m3, .ref m4, .ref m5, .ref m6])), (m0, .inl (o0, 16, .inl h)), (m1, .inl (o1, 16, .inl mO)), (m2, .inl (o2, 16, .inl mG)), (m3, .inl (o3, 16, .inl mF)), (m4, .inl (o4, 32, .inl mA)), (m5, .inl (o5, 32, .inl mU)), (m6, .inl (o6, 32, .inl mR))]) [0, 1, 2, 3, 4, 5, 6, 7] rfl
    have hD9 := hD.sub (ws' := [(mo, .inr (5, [.int (nI 1), .int mn, .ref m0, .int mg, .ref m1, .ref m2, .ref m3, .ref m4, .ref m5, .ref m6])), (m0, .inl (o0, 16, .inl h)), (m1, .inl (o1, 16, .inl mO)), (m2, .inl (o2, 16, .inl mG)), (m3, .inl (o3, 16, .inl mF)), (m4, .inl (o4, 32, .inl mA)), (m5, .inl (o5, 32, .inl mU)), (m6, .inl (o6, 32, .inl mR))]) [0, 1, 2, 3, 4, 5, 6, 7] (by decide) rfl
    subst hAe
    exact W.iret (v := nI 0) hx hb hr (fun t ht hW => ⟨⟨_, (), rfl, rfl, by rw [ht]; exact hP9, va_K.moved hW.alike hK, hD9⟩, hS.F ht⟩) hS.2.2 d_M_members_10
set_option maxHeartbeats 4000000 in
set_option maxRecDepth 100000 in
theorem k_M_rank_bad (l : Launch) (D : va_G) (mo m0 m1 m2 m3 m4 m5 m6 : Nat) (o0 o1 o2 o3 o4 o5 o6 : ClassId) (mc : Int32) (mn : Int32) (mg : Int32) (h : Nat → Int32) (mO : Nat → Int32) (mG : Nat → Int32) (mF : Nat → Int32) (mA : Nat → Int32) (mU : Nat → Int32) (mR : Nat → Int32) (x : Int32) (hb9 : (isP x && isP x) = false) (sz : Nat) : Met l y_M_rank (Cond.code y_M_rank c_M_rank 3 (some .int) :: BS) { frames := 2, cells := 0, slots := 0, locals := 42 } (va_Pc [.ref mo, .int x] (xWp D [(mo, .inr (5, [.int mc, .int mn, .ref m0, .int mg, .ref m1, .ref m2, .ref m3, .ref m4, .ref m5, .ref m6])), (m0, .inl (o0, 16, .inl h)), (m1, .inl (o1, 16, .inl mO)), (m2, .inl (o2, 16, .inl mG)), (m3, .inl (o3, 16, .inl mF)), (m4, .inl (o4, 32, .inl mA)), (m5, .inl (o5, 32, .inl mU)), (m6, .inl (o6, 32, .inl mR))] [(o0, .int), (o1, .int), (o2, .int), (o3, .int), (o4, .int), (o5, .int), (o6, .int)] sz)) (xQi D [(mo, .inr (5, [.int mc, .int mn, .ref m0, .int mg, .ref m1, .ref m2, .ref m3, .ref m4, .ref m5, .ref m6])), (m0, .inl (o0, 16, .inl h)), (m1, .inl (o1, 16, .inl mO)), (m2, .inl (o2, 16, .inl mG)), (m3, .inl (o3, 16, .inl mF)), (m4, .inl (o4, 32, .inl mA)), (m5, .inl (o5, 32, .inl mU)), (m6, .inl (o6, 32, .inl mR))] [(mo, .inr (5, [.int (nI 1), .int mn, .ref m0, .int mg, .ref m1, .ref m2, .ref m3, .ref m4, .ref m5, .ref m6])), (m0, .inl (o0, 16, .inl h)), (m1, .inl (o1, 16, .inl mO)), (m2, .inl (o2, 16, .inl mG)), (m3, .inl (o3, 16, .inl mF)), (m4, .inl (o4, 32, .inl mA)), (m5, .inl (o5, 32, .inl mU)), (m6, .inl (o6, 32, .inl mR))] [(o0, .int), (o1, .int), (o2, .int), (o3, .int), (o4, .int), (o5, .int), (o6, .int)] sz (nI 0)) 0 0 (va_A [(mo, .inr (5, [.int mc, .int mn, .ref m0, .int mg, .ref m1, .ref m2, .ref m3, .ref m4, .ref m5, .ref m6])), (m0, .inl (o0, 16, .inl h)), (m1, .inl (o1, 16, .inl mO)), (m2, .inl (o2, 16, .inl mG)), (m3, .inl (o3, 16, .inl mF)), (m4, .inl (o4, 32, .inl mA)), (m5, .inl (o5, 32, .inl mU)), (m6, .inl (o6, 32, .inl mR))] sz) := by
  refine Met.ofW (cc := c_M_rank) (maxL := 3) (ret := (some .int)) (by decide) rfl ?_
  intro p e s m args below meth c s₁ B hml hv
  obtain ⟨rfl, hsz, hP, hK, hD0, hN⟩ := hv
  have hx := B.exec
  have hb := B.bytes
  have hr := B.returns
  have hB := xB B.pre
  have hown : s.vm.findClass R_M = some m.cls := findClass_of_methodNamed B.named
  have hlocks := B.notSynchronized
  subst hsz
  have hD := hD0.self (sz := s.heap.size)
  obtain ⟨A, hAe⟩ : ∃ A, A = va_A [(mo, .inr (5, [.int mc, .int mn, .ref m0, .int mg, .ref m1, .ref m2, .ref m3, .ref m4, .ref m5, .ref m6])), (m0, .inl (o0, 16, .inl h)), (m1, .inl (o1, 16, .inl mO)), (m2, .inl (o2, 16, .inl mG)), (m3, .inl (o3, 16, .inl mF)), (m4, .inl (o4, 32, .inl mA)), (m5, .inl (o5, 32, .inl mU)), (m6, .inl (o6, 32, .inl mR))] s.heap.size := ⟨_, rfl⟩
  rw [← hAe] at hD
  have hA : ∀ q : Nat, s.heap.size ≤ q → A q := fun q h => by rw [hAe]; exact Or.inr h
  have hS : va_S A s.heap s.heap [] := va_S.rf
  have hl := lv_entry ([.ref mo, .int x]) (n := 3) (Nat.le_of_ble_eq_true rfl)
  rw [lg_entry_eq]
  generalize (lg_sl ([.ref mo, .int x]) ++ List.replicate (3 - (lg_sl ([.ref mo, .int x])).length) Slot.unset).toArray = ls at hl ⊢
  have hl : lv_has ls 3 [(0, .ref mo), (1, .int x)] := hl
  refine lv_aload_n hx hb d_M_rank_0 rfl (lv_at hl 0 rfl) ?_
  refine lv_iload_n hx hb d_M_rank_1 rfl (lv_at hl 1 rfl) ?_
  refine lv_iload_n hx hb d_M_rank_2 rfl (lv_at hl 1 rfl) ?_
  refine xw_i (wc := [(mo, .inr (5, [.int mc, .int mn, .ref m0, .int mg, .ref m1, .ref m2, .ref m3, .ref m4, .ref m5, .ref m6])), (m0, .inl (o0, 16, .inl h)), (m1, .inl (o1, 16, .inl mO)), (m2, .inl (o2, 16, .inl mG)), (m3, .inl (o3, 16, .inl mF)), (m4, .inl (o4, 32, .inl mA)), (m5, .inl (o5, 32, .inl mU)), (m6, .inl (o6, 32, .inl mR))]) (wr := []) (w1 := [(mo, .inr (5, [.int (b2i (!(isP x && isP x))), .int mn, .ref m0, .int mg, .ref m1, .ref m2, .ref m3, .ref m4, .ref m5, .ref m6])), (m0, .inl (o0, 16, .inl h)), (m1, .inl (o1, 16, .inl mO)), (m2, .inl (o2, 16, .inl mG)), (m3, .inl (o3, 16, .inl mF)), (m4, .inl (o4, 32, .inl mA)), (m5, .inl (o5, 32, .inl mU)), (m6, .inl (o6, 32, .inl mR))]) (va_runV (As := [.int x, .int x]) (rest := []) ⟨hx, hb, hml, hown, hB⟩ (k_M_lacks l D mo m0 m1 m2 m3 m4 m5 m6 o0 o1 o2 o3 o4 o5 o6 mc mn mg h mO mG mF mA mU mR x x _) ⟨callB_of 2 hB (xg0 mc_M_lacks) rfl rfl rfl (hB _ mz_M) (hB _ ml_M_67) (by decide +kernel) ⟨Nat.le_of_ble_eq_true rfl, Nat.le_of_ble_eq_true rfl⟩, hB _ mi_M_lacks, hB _ me_M_lacks⟩ (xqV (ws := [(mo, .inr (5, [.int mc, .int mn, .ref m0, .int mg, .ref m1, .ref m2, .ref m3, .ref m4, .ref m5, .ref m6])), (m0, .inl (o0, 16, .inl h)), (m1, .inl (o1, 16, .inl mO)), (m2, .inl (o2, 16, .inl mG)), (m3, .inl (o3, 16, .inl mF)), (m4, .inl (o4, 32, .inl mA)), (m5, .inl (o5, 32, .inl mU)), (m6, .inl (o6, 32, .inl mR))]) (tys := [(o0, .int), (o1, .int), (o2, .int), (o3, .int), (o4, .int), (o5, .int), (o6, .int)]) (hP.sub [0, 1, 2, 3, 4, 5, 6, 7] rfl) (hD.sub [0, 1, 2, 3, 4, 5, 6, 7] (by decide) rfl) (hK.sub [0, 1, 2, 3, 4, 5, 6] rfl) hN (va_recv (ci := 5) (q0 := 0) (q := (R_M, F_M, 10)) hK hP rfl rfl)) rfl rfl hl.1 rfl (lv_room (Nat.le_of_ble_eq_true rfl)) d_M_rank_3 ⟨Nat.le_of_ble_eq_true rfl, Nat.le_of_ble_eq_true rfl⟩) hP hD hS hA [0, 1, 2, 3, 4, 5, 6, 7] [] rfl rfl (by decide) (by decide) (fun H locs hP hD hS => ?_)
  have hP : va_P D cls [(mo, .inr (5, [.int (b2i (!(isP x && isP x))), .int mn, .ref m0, .int mg, .ref m1, .ref m2, .ref m3, .ref m4, .ref m5, .ref m6])), (m0, .inl (o0, 16, .inl h)), (m1, .inl (o1, 16, .inl mO)), (m2, .inl (o2, 16, .inl mG)), (m3, .inl (o3, 16, .inl mF)), (m4, .inl (o4, 32, .inl mA)), (m5, .inl (o5, 32, .inl mU)), (m6, .inl (o6, 32, .inl mR))] H := hP
  have hD : va_D A [(mo, .inr (5, [.int (b2i (!(isP x && isP x))), .int mn, .ref m0, .int mg, .ref m1, .ref m2, .ref m3, .ref m4, .ref m5, .ref m6])), (m0, .inl (o0, 16, .inl h)), (m1, .inl (o1, 16, .inl mO)), (m2, .inl (o2, 16, .inl mG)), (m3, .inl (o3, 16, .inl mF)), (m4, .inl (o4, 32, .inl mA)), (m5, .inl (o5, 32, .inl mU)), (m6, .inl (o6, 32, .inl mR))] := hD
  have hz : (b2i (!(isP x && isP x))) = nI 1 := by rw [hb9]; rfl
  rw [hz] at hP hD
  refine lv_if_eq (tgt := 11) hx hb d_M_rank_6 rfl (fun hc6 => ?_) (fun hc6 => ?_)
  · have hc6 := b2i_0.mp hc6
    exact absurd hc6 (by rw [hb9]; decide)
  · have hc6 := b2i_n.mp hc6
    refine lv_iconst (v := nI 0) hx hb d_M_rank_9 (by decide) ?_
    have hP9 := hP.sub (ws' := [(mo, .inr (5, [.int (nI 1), .int mn, .ref m0, .int mg, .ref m1, .ref m2, .ref m3, .ref m4, .ref m5, .ref m6])), (m0, .inl (o0, 16, .inl h)), (m1, .inl (o1, 16, .inl mO)), (m2, .inl (o2, 16, .inl mG)), (m3, .inl (o3, 16, .inl mF)), (m4, .inl (o4, 32, .inl mA)), (m5, .inl (o5, 32, .inl mU)), (m6, .inl (o6, 32, .inl mR))]) [0, 1, 2, 3, 4, 5, 6, 7] rfl
    have hD9 := hD.sub (ws' := [(mo, .inr (5, [.int (nI 1), .int mn, .ref m0, .int mg, .ref m1, .ref m2, .ref m3, .ref m4, .ref m5, .ref m6])), (m0, .inl (o0, 16, .inl h)), (m1, .inl (o1, 16, .inl mO)), (m2, .inl (o2, 16, .inl mG)), (m3, .inl (o3, 16, .inl mF)), (m4, .inl (o4, 32, .inl mA)), (m5, .inl (o5, 32, .inl mU)), (m6, .inl (o6, 32, .inl mR))]) [0, 1, 2, 3, 4, 5, 6, 7] (by decide) rfl
    subst hAe
    exact W.iret (v := nI 0) hx hb hr (fun t ht hW => ⟨⟨_, (), rfl, rfl, by rw [ht]; exact hP9, va_K.moved hW.alike hK, hD9⟩, hS.F ht⟩) hS.2.2 d_M_rank_10
set_option maxHeartbeats 4000000 in
set_option maxRecDepth 100000 in
theorem k_M_distance_bad (l : Launch) (D : va_G) (mo m0 m1 m2 m3 m4 m5 m6 : Nat) (o0 o1 o2 o3 o4 o5 o6 : ClassId) (mc : Int32) (mn : Int32) (mg : Int32) (h : Nat → Int32) (mO : Nat → Int32) (mG : Nat → Int32) (mF : Nat → Int32) (mA : Nat → Int32) (mU : Nat → Int32) (mR : Nat → Int32) (x y : Int32) (hb9 : (isP x && isP y) = false) (sz : Nat) : Met l y_M_distance (Cond.code y_M_distance c_M_distance 3 (some .int) :: BS) { frames := 2, cells := 0, slots := 0, locals := 42 } (va_Pc [.ref mo, .int x, .int y] (xWp D [(mo, .inr (5, [.int mc, .int mn, .ref m0, .int mg, .ref m1, .ref m2, .ref m3, .ref m4, .ref m5, .ref m6])), (m0, .inl (o0, 16, .inl h)), (m1, .inl (o1, 16, .inl mO)), (m2, .inl (o2, 16, .inl mG)), (m3, .inl (o3, 16, .inl mF)), (m4, .inl (o4, 32, .inl mA)), (m5, .inl (o5, 32, .inl mU)), (m6, .inl (o6, 32, .inl mR))] [(o0, .int), (o1, .int), (o2, .int), (o3, .int), (o4, .int), (o5, .int), (o6, .int)] sz)) (xQi D [(mo, .inr (5, [.int mc, .int mn, .ref m0, .int mg, .ref m1, .ref m2, .ref m3, .ref m4, .ref m5, .ref m6])), (m0, .inl (o0, 16, .inl h)), (m1, .inl (o1, 16, .inl mO)), (m2, .inl (o2, 16, .inl mG)), (m3, .inl (o3, 16, .inl mF)), (m4, .inl (o4, 32, .inl mA)), (m5, .inl (o5, 32, .inl mU)), (m6, .inl (o6, 32, .inl mR))] [(mo, .inr (5, [.int (nI 1), .int mn, .ref m0, .int mg, .ref m1, .ref m2, .ref m3, .ref m4, .ref m5, .ref m6])), (m0, .inl (o0, 16, .inl h)), (m1, .inl (o1, 16, .inl mO)), (m2, .inl (o2, 16, .inl mG)), (m3, .inl (o3, 16, .inl mF)), (m4, .inl (o4, 32, .inl mA)), (m5, .inl (o5, 32, .inl mU)), (m6, .inl (o6, 32, .inl mR))] [(o0, .int), (o1, .int), (o2, .int), (o3, .int), (o4, .int), (o5, .int), (o6, .int)] sz (nI 0)) 0 0 (va_A [(mo, .inr (5, [.int mc, .int mn, .ref m0, .int mg, .ref m1, .ref m2, .ref m3, .ref m4, .ref m5, .ref m6])), (m0, .inl (o0, 16, .inl h)), (m1, .inl (o1, 16, .inl mO)), (m2, .inl (o2, 16, .inl mG)), (m3, .inl (o3, 16, .inl mF)), (m4, .inl (o4, 32, .inl mA)), (m5, .inl (o5, 32, .inl mU)), (m6, .inl (o6, 32, .inl mR))] sz) := by
  refine Met.ofW (cc := c_M_distance) (maxL := 3) (ret := (some .int)) (by decide) rfl ?_
  intro p e s m args below meth c s₁ B hml hv
  obtain ⟨rfl, hsz, hP, hK, hD0, hN⟩ := hv
  have hx := B.exec
  have hb := B.bytes
  have hr := B.returns
  have hB := xB B.pre
  have hown : s.vm.findClass R_M = some m.cls := findClass_of_methodNamed B.named
  have hlocks := B.notSynchronized
  subst hsz
  have hD := hD0.self (sz := s.heap.size)
  obtain ⟨A, hAe⟩ : ∃ A, A = va_A [(mo, .inr (5, [.int mc, .int mn, .ref m0, .int mg, .ref m1, .ref m2, .ref m3, .ref m4, .ref m5, .ref m6])), (m0, .inl (o0, 16, .inl h)), (m1, .inl (o1, 16, .inl mO)), (m2, .inl (o2, 16, .inl mG)), (m3, .inl (o3, 16, .inl mF)), (m4, .inl (o4, 32, .inl mA)), (m5, .inl (o5, 32, .inl mU)), (m6, .inl (o6, 32, .inl mR))] s.heap.size := ⟨_, rfl⟩
  rw [← hAe] at hD
  have hA : ∀ q : Nat, s.heap.size ≤ q → A q := fun q h => by rw [hAe]; exact Or.inr h
  have hS : va_S A s.heap s.heap [] := va_S.rf
  have hl := lv_entry ([.ref mo, .int x, .int y]) (n := 3) (Nat.le_of_ble_eq_true rfl)
  rw [lg_entry_eq]
  generalize (lg_sl ([.ref mo, .int x, .int y]) ++ List.replicate (3 - (lg_sl ([.ref mo, .int x, .int y])).length) Slot.unset).toArray = ls at hl ⊢
  have hl : lv_has ls 3 [(0, .ref mo), (1, .int x), (2, .int y)] := hl
  refine lv_aload_n hx hb d_M_distance_0 rfl (lv_at hl 0 rfl) ?_
  refine lv_iload_n hx hb d_M_distance_1 rfl (lv_at hl 1 rfl) ?_
  refine lv_iload_n hx hb d_M_distance_2 rfl (lv_at hl 2 rfl) ?_
  refine xw_i (wc := [(mo, .inr (5, [.int mc, .int mn, .ref m0, .int mg, .ref m1, .ref m2, .ref m3, .ref m4, .ref m5, .ref m6])), (m0, .inl (o0, 16, .inl h)), (m1, .inl (o1, 16, .inl mO)), (m2, .inl (o2, 16, .inl mG)), (m3, .inl (o3, 16, .inl mF)), (m4, .inl (o4, 32, .inl mA)), (m5, .inl (o5, 32, .inl mU)), (m6, .inl (o6, 32, .inl mR))]) (wr := []) (w1 := [(mo, .inr (5, [.int (b2i (!(isP x && isP y))), .int mn, .ref m0, .int mg, .ref m1, .ref m2, .ref m3, .ref m4, .ref m5, .ref m6])), (m0, .inl (o0, 16, .inl h)), (m1, .inl (o1, 16, .inl mO)), (m2, .inl (o2, 16, .inl mG)), (m3, .inl (o3, 16, .inl mF)), (m4, .inl (o4, 32, .inl mA)), (m5, .inl (o5, 32, .inl mU)), (m6, .inl (o6, 32, .inl mR))]) (va_runV (As := [.int x, .int y]) (rest := []) ⟨hx, hb, hml, hown, hB⟩ (k_M_lacks l D mo m0 m1 m2 m3 m4 m5 m6 o0 o1 o2 o3 o4 o5 o6 mc mn mg h mO mG mF mA mU mR x y _) ⟨callB_of 2 hB (xg0 mc_M_lacks) rfl rfl rfl (hB _ mz_M) (hB _ ml_M_67) (by decide +kernel) ⟨Nat.le_of_ble_eq_true rfl, Nat.le_of_ble_eq_true rfl⟩, hB _ mi_M_lacks, hB _ me_M_lacks⟩ (xqV (ws := [(mo, .inr (5, [.int mc, .int mn, .ref m0, .int mg, .ref m1, .ref m2, .ref m3, .ref m4, .ref m5, .ref m6])), (m0, .inl (o0, 16, .inl h)), (m1, .inl (o1, 16, .inl mO)), (m2, .inl (o2, 16, .inl mG)), (m3, .inl (o3, 16, .inl mF)), (m4, .inl (o4, 32, .inl mA)), (m5, .inl (o5, 32, .inl mU)), (m6, .inl (o6, 32, .inl mR))]) (tys := [(o0, .int), (o1, .int), (o2, .int), (o3, .int), (o4, .int), (o5, .int), (o6, .int)]) (hP.sub [0, 1, 2, 3, 4, 5, 6, 7] rfl) (hD.sub [0, 1, 2, 3, 4, 5, 6, 7] (by decide) rfl) (hK.sub [0, 1, 2, 3, 4, 5, 6] rfl) hN (va_recv (ci := 5) (q0 := 0) (q := (R_M, F_M, 10)) hK hP rfl rfl)) rfl rfl hl.1 rfl (lv_room (Nat.le_of_ble_eq_true rfl)) d_M_distance_3 ⟨Nat.le_of_ble_eq_true rfl, Nat.le_of_ble_eq_true rfl⟩) hP hD hS hA [0, 1, 2, 3, 4, 5, 6, 7] [] rfl rfl (by decide) (by decide) (fun H locs hP hD hS => ?_)
  have hP : va_P D cls [(mo, .inr (5, [.int (b2i (!(isP x && isP y))), .int mn, .ref m0, .int mg, .ref m1, .ref m2, .ref m3, .ref m4, .ref m5, .ref m6])), (m0, .inl (o0, 16, .inl h)), (m1, .inl (o1, 16, .inl mO)), (m2, .inl (o2, 16, .inl mG)), (m3, .inl (o3, 16, .inl mF)), (m4, .inl (o4, 32, .inl mA)), (m5, .inl (o5, 32, .inl mU)), (m6, .inl (o6, 32, .inl mR))] H := hP
  have hD : va_D A [(mo, .inr (5, [.int (b2i (!(isP x && isP y))), .int mn, .ref m0, .int mg, .ref m1, .ref m2, .ref m3, .ref m4, .ref m5, .ref m6])), (m0, .inl (o0, 16, .inl h)), (m1, .inl (o1, 16, .inl mO)), (m2, .inl (o2, 16, .inl mG)), (m3, .inl (o3, 16, .inl mF)), (m4, .inl (o4, 32, .inl mA)), (m5, .inl (o5, 32, .inl mU)), (m6, .inl (o6, 32, .inl mR))] := hD
  have hz : (b2i (!(isP x && isP y))) = nI 1 := by rw [hb9]; rfl
  rw [hz] at hP hD
  refine lv_if_eq (tgt := 11) hx hb d_M_distance_6 rfl (fun hc6 => ?_) (fun hc6 => ?_)
  · have hc6 := b2i_0.mp hc6
    exact absurd hc6 (by rw [hb9]; decide)
  · have hc6 := b2i_n.mp hc6
    refine lv_iconst (v := nI 0) hx hb d_M_distance_9 (by decide) ?_
    have hP9 := hP.sub (ws' := [(mo, .inr (5, [.int (nI 1), .int mn, .ref m0, .int mg, .ref m1, .ref m2, .ref m3, .ref m4, .ref m5, .ref m6])), (m0, .inl (o0, 16, .inl h)), (m1, .inl (o1, 16, .inl mO)), (m2, .inl (o2, 16, .inl mG)), (m3, .inl (o3, 16, .inl mF)), (m4, .inl (o4, 32, .inl mA)), (m5, .inl (o5, 32, .inl mU)), (m6, .inl (o6, 32, .inl mR))]) [0, 1, 2, 3, 4, 5, 6, 7] rfl
    have hD9 := hD.sub (ws' := [(mo, .inr (5, [.int (nI 1), .int mn, .ref m0, .int mg, .ref m1, .ref m2, .ref m3, .ref m4, .ref m5, .ref m6])), (m0, .inl (o0, 16, .inl h)), (m1, .inl (o1, 16, .inl mO)), (m2, .inl (o2, 16, .inl mG)), (m3, .inl (o3, 16, .inl mF)), (m4, .inl (o4, 32, .inl mA)), (m5, .inl (o5, 32, .inl mU)), (m6, .inl (o6, 32, .inl mR))]) [0, 1, 2, 3, 4, 5, 6, 7] (by decide) rfl
    subst hAe
    exact W.iret (v := nI 0) hx hb hr (fun t ht hW => ⟨⟨_, (), rfl, rfl, by rw [ht]; exact hP9, va_K.moved hW.alike hK, hD9⟩, hS.F ht⟩) hS.2.2 d_M_distance_10
set_option maxHeartbeats 4000000 in
set_option maxRecDepth 100000 in
theorem k_M_gate_bad (l : Launch) (D : va_G) (mo m0 m1 m2 m3 m4 m5 m6 : Nat) (o0 o1 o2 o3 o4 o5 o6 : ClassId) (mc : Int32) (mn : Int32) (mg : Int32) (h : Nat → Int32) (mO : Nat → Int32) (mG : Nat → Int32) (mF : Nat → Int32) (mA : Nat → Int32) (mU : Nat → Int32) (mR : Nat → Int32) (x y : Int32) (hb9 : (isP x && isP y) = false) (sz : Nat) : Met l y_M_gate (Cond.code y_M_gate c_M_gate 7 (some .int) :: BS) { frames := 2, cells := 0, slots := 0, locals := 42 } (va_Pc [.ref mo, .int x, .int y] (xWp D [(mo, .inr (5, [.int mc, .int mn, .ref m0, .int mg, .ref m1, .ref m2, .ref m3, .ref m4, .ref m5, .ref m6])), (m0, .inl (o0, 16, .inl h)), (m1, .inl (o1, 16, .inl mO)), (m2, .inl (o2, 16, .inl mG)), (m3, .inl (o3, 16, .inl mF)), (m4, .inl (o4, 32, .inl mA)), (m5, .inl (o5, 32, .inl mU)), (m6, .inl (o6, 32, .inl mR))] [(o0, .int), (o1, .int), (o2, .int), (o3, .int), (o4, .int), (o5, .int), (o6, .int)] sz)) (xQi D [(mo, .inr (5, [.int mc, .int mn, .ref m0, .int mg, .ref m1, .ref m2, .ref m3, .ref m4, .ref m5, .ref m6])), (m0, .inl (o0, 16, .inl h)), (m1, .inl (o1, 16, .inl mO)), (m2, .inl (o2, 16, .inl mG)), (m3, .inl (o3, 16, .inl mF)), (m4, .inl (o4, 32, .inl mA)), (m5, .inl (o5, 32, .inl mU)), (m6, .inl (o6, 32, .inl mR))] [(mo, .inr (5, [.int (nI 1), .int mn, .ref m0, .int mg, .ref m1, .ref m2, .ref m3, .ref m4, .ref m5, .ref m6])), (m0, .inl (o0, 16, .inl h)), (m1, .inl (o1, 16, .inl mO)), (m2, .inl (o2, 16, .inl mG)), (m3, .inl (o3, 16, .inl mF)), (m4, .inl (o4, 32, .inl mA)), (m5, .inl (o5, 32, .inl mU)), (m6, .inl (o6, 32, .inl mR))] [(o0, .int), (o1, .int), (o2, .int), (o3, .int), (o4, .int), (o5, .int), (o6, .int)] sz (nI 0)) 0 0 (va_A [(mo, .inr (5, [.int mc, .int mn, .ref m0, .int mg, .ref m1, .ref m2, .ref m3, .ref m4, .ref m5, .ref m6])), (m0, .inl (o0, 16, .inl h)), (m1, .inl (o1, 16, .inl mO)), (m2, .inl (o2, 16, .inl mG)), (m3, .inl (o3, 16, .inl mF)), (m4, .inl (o4, 32, .inl mA)), (m5, .inl (o5, 32, .inl mU)), (m6, .inl (o6, 32, .inl mR))] sz) := by
  refine Met.ofW (cc := c_M_gate) (maxL := 7) (ret := (some .int)) (by decide) rfl ?_
  intro p e s m args below meth c s₁ B hml hv
  obtain ⟨rfl, hsz, hP, hK, hD0, hN⟩ := hv
  have hx := B.exec
  have hb := B.bytes
  have hr := B.returns
  have hB := xB B.pre
  have hown : s.vm.findClass R_M = some m.cls := findClass_of_methodNamed B.named
  have hlocks := B.notSynchronized
  subst hsz
  have hD := hD0.self (sz := s.heap.size)
  obtain ⟨A, hAe⟩ : ∃ A, A = va_A [(mo, .inr (5, [.int mc, .int mn, .ref m0, .int mg, .ref m1, .ref m2, .ref m3, .ref m4, .ref m5, .ref m6])), (m0, .inl (o0, 16, .inl h)), (m1, .inl (o1, 16, .inl mO)), (m2, .inl (o2, 16, .inl mG)), (m3, .inl (o3, 16, .inl mF)), (m4, .inl (o4, 32, .inl mA)), (m5, .inl (o5, 32, .inl mU)), (m6, .inl (o6, 32, .inl mR))] s.heap.size := ⟨_, rfl⟩
  rw [← hAe] at hD
  have hA : ∀ q : Nat, s.heap.size ≤ q → A q := fun q h => by rw [hAe]; exact Or.inr h
  have hS : va_S A s.heap s.heap [] := va_S.rf
  have hl := lv_entry ([.ref mo, .int x, .int y]) (n := 7) (Nat.le_of_ble_eq_true rfl)
  rw [lg_entry_eq]
  generalize (lg_sl ([.ref mo, .int x, .int y]) ++ List.replicate (7 - (lg_sl ([.ref mo, .int x, .int y])).length) Slot.unset).toArray = ls at hl ⊢
  have hl : lv_has ls 7 [(0, .ref mo), (1, .int x), (2, .int y)] := hl
  refine lv_aload_n hx hb d_M_gate_0 rfl (lv_at hl 0 rfl) ?_
  refine lv_iload_n hx hb d_M_gate_1 rfl (lv_at hl 1 rfl) ?_
  refine lv_iload_n hx hb d_M_gate_2 rfl (lv_at hl 2 rfl) ?_
  refine xw_i (wc := [(mo, .inr (5, [.int mc, .int mn, .ref m0, .int mg, .ref m1, .ref m2, .ref m3, .ref m4, .ref m5, .ref m6])), (m0, .inl (o0, 16, .inl h)), (m1, .inl (o1, 16, .inl mO)), (m2, .inl (o2, 16, .inl mG)), (m3, .inl (o3, 16, .inl mF)), (m4, .inl (o4, 32, .inl mA)), (m5, .inl (o5, 32, .inl mU)), (m6, .inl (o6, 32, .inl mR))]) (wr := []) (w1 := [(mo, .inr (5, [.int (b2i (!(isP x && isP y))), .int mn, .ref m0, .int mg, .ref m1, .ref m2, .ref m3, .ref m4, .ref m5, .ref m6])), (m0, .inl (o0, 16, .inl h)), (m1, .inl (o1, 16, .inl mO)), (m2, .inl (o2, 16, .inl mG)), (m3, .inl (o3, 16, .inl mF)), (m4, .inl (o4, 32, .inl mA)), (m5, .inl (o5, 32, .inl mU)), (m6, .inl (o6, 32, .inl mR))]) (va_runV (As := [.int x, .int y]) (rest := []) ⟨hx, hb, hml, hown, hB⟩ (k_M_lacks l D mo m0 m1 m2 m3 m4 m5 m6 o0 o1 o2 o3 o4 o5 o6 mc mn mg h mO mG mF mA mU mR x y _) ⟨callB_of 2 hB (xg0 mc_M_lacks) rfl rfl rfl (hB _ mz_M) (hB _ ml_M_67) (by decide +kernel) ⟨Nat.le_of_ble_eq_true rfl, Nat.le_of_ble_eq_true rfl⟩, hB _ mi_M_lacks, hB _ me_M_lacks⟩ (xqV (ws := [(mo, .inr (5, [.int mc, .int mn, .ref m0, .int mg, .ref m1, .ref m2, .ref m3, .ref m4, .ref m5, .ref m6])), (m0, .inl (o0, 16, .inl h)), (m1, .inl (o1, 16, .inl mO)), (m2, .inl (o2, 16, .inl mG)), (m3, .inl (o3, 16, .inl mF)), (m4, .inl (o4, 32, .inl mA)), (m5, .inl (o5, 32, .inl mU)), (m6, .inl (o6, 32, .inl mR))]) (tys := [(o0, .int), (o1, .int), (o2, .int), (o3, .int), (o4, .int), (o5, .int), (o6, .int)]) (hP.sub [0, 1, 2, 3, 4, 5, 6, 7] rfl) (hD.sub [0, 1, 2, 3, 4, 5, 6, 7] (by decide) rfl) (hK.sub [0, 1, 2, 3, 4, 5, 6] rfl) hN (va_recv (ci := 5) (q0 := 0) (q := (R_M, F_M, 10)) hK hP rfl rfl)) rfl rfl hl.1 rfl (lv_room (Nat.le_of_ble_eq_true rfl)) d_M_gate_3 ⟨Nat.le_of_ble_eq_true rfl, Nat.le_of_ble_eq_true rfl⟩) hP hD hS hA [0, 1, 2, 3, 4, 5, 6, 7] [] rfl rfl (by decide) (by decide) (fun H locs hP hD hS => ?_)
  have hP : va_P D cls [(mo, .inr (5, [.int (b2i (!(isP x && isP y))), .int mn, .ref m0, .int mg, .ref m1, .ref m2, .ref m3, .ref m4, .ref m5, .ref m6])), (m0, .inl (o0, 16, .inl h)), (m1, .inl (o1, 16, .inl mO)), (m2, .inl (o2, 16, .inl mG)), (m3, .inl (o3, 16, .inl mF)), (m4, .inl (o4, 32, .inl mA)), (m5, .inl (o5, 32, .inl mU)), (m6, .inl (o6, 32, .inl mR))] H := hP
  have hD : va_D A [(mo, .inr (5, [.int (b2i (!(isP x && isP y))), .int mn, .ref m0, .int mg, .ref m1, .ref m2, .ref m3, .ref m4, .ref m5, .ref m6])), (m0, .inl (o0, 16, .inl h)), (m1, .inl (o1, 16, .inl mO)), (m2, .inl (o2, 16, .inl mG)), (m3, .inl (o3, 16, .inl mF)), (m4, .inl (o4, 32, .inl mA)), (m5, .inl (o5, 32, .inl mU)), (m6, .inl (o6, 32, .inl mR))] := hD
  have hz : (b2i (!(isP x && isP y))) = nI 1 := by rw [hb9]; rfl
  rw [hz] at hP hD
  refine lv_if_eq (tgt := 11) hx hb d_M_gate_6 rfl (fun hc6 => ?_) (fun hc6 => ?_)
  · have hc6 := b2i_0.mp hc6
    exact absurd hc6 (by rw [hb9]; decide)
  · have hc6 := b2i_n.mp hc6
    refine lv_iconst (v := nI 0) hx hb d_M_gate_9 (by decide) ?_
    have hP9 := hP.sub (ws' := [(mo, .inr (5, [.int (nI 1), .int mn, .ref m0, .int mg, .ref m1, .ref m2, .ref m3, .ref m4, .ref m5, .ref m6])), (m0, .inl (o0, 16, .inl h)), (m1, .inl (o1, 16, .inl mO)), (m2, .inl (o2, 16, .inl mG)), (m3, .inl (o3, 16, .inl mF)), (m4, .inl (o4, 32, .inl mA)), (m5, .inl (o5, 32, .inl mU)), (m6, .inl (o6, 32, .inl mR))]) [0, 1, 2, 3, 4, 5, 6, 7] rfl
    have hD9 := hD.sub (ws' := [(mo, .inr (5, [.int (nI 1), .int mn, .ref m0, .int mg, .ref m1, .ref m2, .ref m3, .ref m4, .ref m5, .ref m6])), (m0, .inl (o0, 16, .inl h)), (m1, .inl (o1, 16, .inl mO)), (m2, .inl (o2, 16, .inl mG)), (m3, .inl (o3, 16, .inl mF)), (m4, .inl (o4, 32, .inl mA)), (m5, .inl (o5, 32, .inl mU)), (m6, .inl (o6, 32, .inl mR))]) [0, 1, 2, 3, 4, 5, 6, 7] (by decide) rfl
    subst hAe
    exact W.iret (v := nI 0) hx hb hr (fun t ht hW => ⟨⟨_, (), rfl, rfl, by rw [ht]; exact hP9, va_K.moved hW.alike hK, hD9⟩, hS.F ht⟩) hS.2.2 d_M_gate_10
set_option maxHeartbeats 4000000 in
set_option maxRecDepth 100000 in
theorem k_M_gated_bad (l : Launch) (D : va_G) (mo m0 m1 m2 m3 m4 m5 m6 : Nat) (o0 o1 o2 o3 o4 o5 o6 : ClassId) (mc : Int32) (mn : Int32) (mg : Int32) (h : Nat → Int32) (mO : Nat → Int32) (mG : Nat → Int32) (mF : Nat → Int32) (mA : Nat → Int32) (mU : Nat → Int32) (mR : Nat → Int32) (x y : Int32) (hb9 : (isP x && isP y) = false) (sz : Nat) : Met l y_M_gated (Cond.code y_M_gated c_M_gated 6 (some .int) :: BS) { frames := 2, cells := 0, slots := 0, locals := 42 } (va_Pc [.ref mo, .int x, .int y] (xWp D [(mo, .inr (5, [.int mc, .int mn, .ref m0, .int mg, .ref m1, .ref m2, .ref m3, .ref m4, .ref m5, .ref m6])), (m0, .inl (o0, 16, .inl h)), (m1, .inl (o1, 16, .inl mO)), (m2, .inl (o2, 16, .inl mG)), (m3, .inl (o3, 16, .inl mF)), (m4, .inl (o4, 32, .inl mA)), (m5, .inl (o5, 32, .inl mU)), (m6, .inl (o6, 32, .inl mR))] [(o0, .int), (o1, .int), (o2, .int), (o3, .int), (o4, .int), (o5, .int), (o6, .int)] sz)) (xQi D [(mo, .inr (5, [.int mc, .int mn, .ref m0, .int mg, .ref m1, .ref m2, .ref m3, .ref m4, .ref m5, .ref m6])), (m0, .inl (o0, 16, .inl h)), (m1, .inl (o1, 16, .inl mO)), (m2, .inl (o2, 16, .inl mG)), (m3, .inl (o3, 16, .inl mF)), (m4, .inl (o4, 32, .inl mA)), (m5, .inl (o5, 32, .inl mU)), (m6, .inl (o6, 32, .inl mR))] [(mo, .inr (5, [.int (nI 1), .int mn, .ref m0, .int mg, .ref m1, .ref m2, .ref m3, .ref m4, .ref m5, .ref m6])), (m0, .inl (o0, 16, .inl h)), (m1, .inl (o1, 16, .inl mO)), (m2, .inl (o2, 16, .inl mG)), (m3, .inl (o3, 16, .inl mF)), (m4, .inl (o4, 32, .inl mA)), (m5, .inl (o5, 32, .inl mU)), (m6, .inl (o6, 32, .inl mR))] [(o0, .int), (o1, .int), (o2, .int), (o3, .int), (o4, .int), (o5, .int), (o6, .int)] sz (nI 0)) 0 0 (va_A [(mo, .inr (5, [.int mc, .int mn, .ref m0, .int mg, .ref m1, .ref m2, .ref m3, .ref m4, .ref m5, .ref m6])), (m0, .inl (o0, 16, .inl h)), (m1, .inl (o1, 16, .inl mO)), (m2, .inl (o2, 16, .inl mG)), (m3, .inl (o3, 16, .inl mF)), (m4, .inl (o4, 32, .inl mA)), (m5, .inl (o5, 32, .inl mU)), (m6, .inl (o6, 32, .inl mR))] sz) := by
  refine Met.ofW (cc := c_M_gated) (maxL := 6) (ret := (some .int)) (by decide) rfl ?_
  intro p e s m args below meth c s₁ B hml hv
  obtain ⟨rfl, hsz, hP, hK, hD0, hN⟩ := hv
  have hx := B.exec
  have hb := B.bytes
  have hr := B.returns
  have hB := xB B.pre
  have hown : s.vm.findClass R_M = some m.cls := findClass_of_methodNamed B.named
  have hlocks := B.notSynchronized
  subst hsz
  have hD := hD0.self (sz := s.heap.size)
  obtain ⟨A, hAe⟩ : ∃ A, A = va_A [(mo, .inr (5, [.int mc, .int mn, .ref m0, .int mg, .ref m1, .ref m2, .ref m3, .ref m4, .ref m5, .ref m6])), (m0, .inl (o0, 16, .inl h)), (m1, .inl (o1, 16, .inl mO)), (m2, .inl (o2, 16, .inl mG)), (m3, .inl (o3, 16, .inl mF)), (m4, .inl (o4, 32, .inl mA)), (m5, .inl (o5, 32, .inl mU)), (m6, .inl (o6, 32, .inl mR))] s.heap.size := ⟨_, rfl⟩
  rw [← hAe] at hD
  have hA : ∀ q : Nat, s.heap.size ≤ q → A q := fun q h => by rw [hAe]; exact Or.inr h
  have hS : va_S A s.heap s.heap [] := va_S.rf
  have hl := lv_entry ([.ref mo, .int x, .int y]) (n := 6) (Nat.le_of_ble_eq_true rfl)
  rw [lg_entry_eq]
  generalize (lg_sl ([.ref mo, .int x, .int y]) ++ List.replicate (6 - (lg_sl ([.ref mo, .int x, .int y])).length) Slot.unset).toArray = ls at hl ⊢
  have hl : lv_has ls 6 [(0, .ref mo), (1, .int x), (2, .int y)] := hl
  refine lv_aload_n hx hb d_M_gated_0 rfl (lv_at hl 0 rfl) ?_
  refine lv_iload_n hx hb d_M_gated_1 rfl (lv_at hl 1 rfl) ?_
  refine lv_iload_n hx hb d_M_gated_2 rfl (lv_at hl 2 rfl) ?_
  refine xw_i (wc := [(mo, .inr (5, [.int mc, .int mn, .ref m0, .int mg, .ref m1, .ref m2, .ref m3, .ref m4, .ref m5, .ref m6])), (m0, .inl (o0, 16, .inl h)), (m1, .inl (o1, 16, .inl mO)), (m2, .inl (o2, 16, .inl mG)), (m3, .inl (o3, 16, .inl mF)), (m4, .inl (o4, 32, .inl mA)), (m5, .inl (o5, 32, .inl mU)), (m6, .inl (o6, 32, .inl mR))]) (wr := []) (w1 := [(mo, .inr (5, [.int (b2i (!(isP x && isP y))), .int mn, .ref m0, .int mg, .ref m1, .ref m2, .ref m3, .ref m4, .ref m5, .ref m6])), (m0, .inl (o0, 16, .inl h)), (m1, .inl (o1, 16, .inl mO)), (m2, .inl (o2, 16, .inl mG)), (m3, .inl (o3, 16, .inl mF)), (m4, .inl (o4, 32, .inl mA)), (m5, .inl (o5, 32, .inl mU)), (m6, .inl (o6, 32, .inl mR))]) (va_runV (As := [.int x, .int y]) (rest := []) ⟨hx, hb, hml, hown, hB⟩ (k_M_lacks l D mo m0 m1 m2 m3 m4 m5 m6 o0 o1 o2 o3 o4 o5 o6 mc mn mg h mO mG mF mA mU mR x y _) ⟨callB_of 2 hB (xg0 mc_M_lacks) rfl rfl rfl (hB _ mz_M) (hB _ ml_M_67) (by decide +kernel) ⟨Nat.le_of_ble_eq_true rfl, Nat.le_of_ble_eq_true rfl⟩, hB _ mi_M_lacks, hB _ me_M_lacks⟩ (xqV (ws := [(mo, .inr (5, [.int mc, .int mn, .ref m0, .int mg, .ref m1, .ref m2, .ref m3, .ref m4, .ref m5, .ref m6])), (m0, .inl (o0, 16, .inl h)), (m1, .inl (o1, 16, .inl mO)), (m2, .inl (o2, 16, .inl mG)), (m3, .inl (o3, 16, .inl mF)), (m4, .inl (o4, 32, .inl mA)), (m5, .inl (o5, 32, .inl mU)), (m6, .inl (o6, 32, .inl mR))]) (tys := [(o0, .int), (o1, .int), (o2, .int), (o3, .int), (o4, .int), (o5, .int), (o6, .int)]) (hP.sub [0, 1, 2, 3, 4, 5, 6, 7] rfl) (hD.sub [0, 1, 2, 3, 4, 5, 6, 7] (by decide) rfl) (hK.sub [0, 1, 2, 3, 4, 5, 6] rfl) hN (va_recv (ci := 5) (q0 := 0) (q := (R_M, F_M, 10)) hK hP rfl rfl)) rfl rfl hl.1 rfl (lv_room (Nat.le_of_ble_eq_true rfl)) d_M_gated_3 ⟨Nat.le_of_ble_eq_true rfl, Nat.le_of_ble_eq_true rfl⟩) hP hD hS hA [0, 1, 2, 3, 4, 5, 6, 7] [] rfl rfl (by decide) (by decide) (fun H locs hP hD hS => ?_)
  have hP : va_P D cls [(mo, .inr (5, [.int (b2i (!(isP x && isP y))), .int mn, .ref m0, .int mg, .ref m1, .ref m2, .ref m3, .ref m4, .ref m5, .ref m6])), (m0, .inl (o0, 16, .inl h)), (m1, .inl (o1, 16, .inl mO)), (m2, .inl (o2, 16, .inl mG)), (m3, .inl (o3, 16, .inl mF)), (m4, .inl (o4, 32, .inl mA)), (m5, .inl (o5, 32, .inl mU)), (m6, .inl (o6, 32, .inl mR))] H := hP
  have hD : va_D A [(mo, .inr (5, [.int (b2i (!(isP x && isP y))), .int mn, .ref m0, .int mg, .ref m1, .ref m2, .ref m3, .ref m4, .ref m5, .ref m6])), (m0, .inl (o0, 16, .inl h)), (m1, .inl (o1, 16, .inl mO)), (m2, .inl (o2, 16, .inl mG)), (m3, .inl (o3, 16, .inl mF)), (m4, .inl (o4, 32, .inl mA)), (m5, .inl (o5, 32, .inl mU)), (m6, .inl (o6, 32, .inl mR))] := hD
  have hz : (b2i (!(isP x && isP y))) = nI 1 := by rw [hb9]; rfl
  rw [hz] at hP hD
  refine lv_if_eq (tgt := 11) hx hb d_M_gated_6 rfl (fun hc6 => ?_) (fun hc6 => ?_)
  · have hc6 := b2i_0.mp hc6
    exact absurd hc6 (by rw [hb9]; decide)
  · have hc6 := b2i_n.mp hc6
    refine lv_iconst (v := nI 0) hx hb d_M_gated_9 (by decide) ?_
    have hP9 := hP.sub (ws' := [(mo, .inr (5, [.int (nI 1), .int mn, .ref m0, .int mg, .ref m1, .ref m2, .ref m3, .ref m4, .ref m5, .ref m6])), (m0, .inl (o0, 16, .inl h)), (m1, .inl (o1, 16, .inl mO)), (m2, .inl (o2, 16, .inl mG)), (m3, .inl (o3, 16, .inl mF)), (m4, .inl (o4, 32, .inl mA)), (m5, .inl (o5, 32, .inl mU)), (m6, .inl (o6, 32, .inl mR))]) [0, 1, 2, 3, 4, 5, 6, 7] rfl
    have hD9 := hD.sub (ws' := [(mo, .inr (5, [.int (nI 1), .int mn, .ref m0, .int mg, .ref m1, .ref m2, .ref m3, .ref m4, .ref m5, .ref m6])), (m0, .inl (o0, 16, .inl h)), (m1, .inl (o1, 16, .inl mO)), (m2, .inl (o2, 16, .inl mG)), (m3, .inl (o3, 16, .inl mF)), (m4, .inl (o4, 32, .inl mA)), (m5, .inl (o5, 32, .inl mU)), (m6, .inl (o6, 32, .inl mR))]) [0, 1, 2, 3, 4, 5, 6, 7] (by decide) rfl
    subst hAe
    exact W.iret (v := nI 0) hx hb hr (fun t ht hW => ⟨⟨_, (), rfl, rfl, by rw [ht]; exact hP9, va_K.moved hW.alike hK, hD9⟩, hS.F ht⟩) hS.2.2 d_M_gated_10
set_option maxHeartbeats 4000000 in
set_option maxRecDepth 100000 in
theorem k_M_places_bad (l : Launch) (D : va_G) (mo m0 m1 m2 m3 m4 m5 m6 : Nat) (o0 o1 o2 o3 o4 o5 o6 : ClassId) (mc : Int32) (mn : Int32) (mg : Int32) (h : Nat → Int32) (mO : Nat → Int32) (mG : Nat → Int32) (mF : Nat → Int32) (mA : Nat → Int32) (mU : Nat → Int32) (mR : Nat → Int32) (x y : Int32) (hb9 : (isP x && isP y) = false) (sz : Nat) : Met l y_M_places (Cond.code y_M_places c_M_places 4 (some .int) :: BS) { frames := 2, cells := 0, slots := 0, locals := 42 } (va_Pc [.ref mo, .int x, .int y] (xWp D [(mo, .inr (5, [.int mc, .int mn, .ref m0, .int mg, .ref m1, .ref m2, .ref m3, .ref m4, .ref m5, .ref m6])), (m0, .inl (o0, 16, .inl h)), (m1, .inl (o1, 16, .inl mO)), (m2, .inl (o2, 16, .inl mG)), (m3, .inl (o3, 16, .inl mF)), (m4, .inl (o4, 32, .inl mA)), (m5, .inl (o5, 32, .inl mU)), (m6, .inl (o6, 32, .inl mR))] [(o0, .int), (o1, .int), (o2, .int), (o3, .int), (o4, .int), (o5, .int), (o6, .int)] sz)) (xQi D [(mo, .inr (5, [.int mc, .int mn, .ref m0, .int mg, .ref m1, .ref m2, .ref m3, .ref m4, .ref m5, .ref m6])), (m0, .inl (o0, 16, .inl h)), (m1, .inl (o1, 16, .inl mO)), (m2, .inl (o2, 16, .inl mG)), (m3, .inl (o3, 16, .inl mF)), (m4, .inl (o4, 32, .inl mA)), (m5, .inl (o5, 32, .inl mU)), (m6, .inl (o6, 32, .inl mR))] [(mo, .inr (5, [.int (nI 1), .int mn, .ref m0, .int mg, .ref m1, .ref m2, .ref m3, .ref m4, .ref m5, .ref m6])), (m0, .inl (o0, 16, .inl h)), (m1, .inl (o1, 16, .inl mO)), (m2, .inl (o2, 16, .inl mG)), (m3, .inl (o3, 16, .inl mF)), (m4, .inl (o4, 32, .inl mA)), (m5, .inl (o5, 32, .inl mU)), (m6, .inl (o6, 32, .inl mR))] [(o0, .int), (o1, .int), (o2, .int), (o3, .int), (o4, .int), (o5, .int), (o6, .int)] sz (nI 0)) 0 0 (va_A [(mo, .inr (5, [.int mc, .int mn, .ref m0, .int mg, .ref m1, .ref m2, .ref m3, .ref m4, .ref m5, .ref m6])), (m0, .inl (o0, 16, .inl h)), (m1, .inl (o1, 16, .inl mO)), (m2, .inl (o2, 16, .inl mG)), (m3, .inl (o3, 16, .inl mF)), (m4, .inl (o4, 32, .inl mA)), (m5, .inl (o5, 32, .inl mU)), (m6, .inl (o6, 32, .inl mR))] sz) := by
  refine Met.ofW (cc := c_M_places) (maxL := 4) (ret := (some .int)) (by decide) rfl ?_
  intro p e s m args below meth c s₁ B hml hv
  obtain ⟨rfl, hsz, hP, hK, hD0, hN⟩ := hv
  have hx := B.exec
  have hb := B.bytes
  have hr := B.returns
  have hB := xB B.pre
  have hown : s.vm.findClass R_M = some m.cls := findClass_of_methodNamed B.named
  have hlocks := B.notSynchronized
  subst hsz
  have hD := hD0.self (sz := s.heap.size)
  obtain ⟨A, hAe⟩ : ∃ A, A = va_A [(mo, .inr (5, [.int mc, .int mn, .ref m0, .int mg, .ref m1, .ref m2, .ref m3, .ref m4, .ref m5, .ref m6])), (m0, .inl (o0, 16, .inl h)), (m1, .inl (o1, 16, .inl mO)), (m2, .inl (o2, 16, .inl mG)), (m3, .inl (o3, 16, .inl mF)), (m4, .inl (o4, 32, .inl mA)), (m5, .inl (o5, 32, .inl mU)), (m6, .inl (o6, 32, .inl mR))] s.heap.size := ⟨_, rfl⟩
  rw [← hAe] at hD
  have hA : ∀ q : Nat, s.heap.size ≤ q → A q := fun q h => by rw [hAe]; exact Or.inr h
  have hS : va_S A s.heap s.heap [] := va_S.rf
  have hl := lv_entry ([.ref mo, .int x, .int y]) (n := 4) (Nat.le_of_ble_eq_true rfl)
  rw [lg_entry_eq]
  generalize (lg_sl ([.ref mo, .int x, .int y]) ++ List.replicate (4 - (lg_sl ([.ref mo, .int x, .int y])).length) Slot.unset).toArray = ls at hl ⊢
  have hl : lv_has ls 4 [(0, .ref mo), (1, .int x), (2, .int y)] := hl
  refine lv_aload_n hx hb d_M_places_0 rfl (lv_at hl 0 rfl) ?_
  refine lv_iload_n hx hb d_M_places_1 rfl (lv_at hl 1 rfl) ?_
  refine lv_iload_n hx hb d_M_places_2 rfl (lv_at hl 2 rfl) ?_
  refine xw_i (wc := [(mo, .inr (5, [.int mc, .int mn, .ref m0, .int mg, .ref m1, .ref m2, .ref m3, .ref m4, .ref m5, .ref m6])), (m0, .inl (o0, 16, .inl h)), (m1, .inl (o1, 16, .inl mO)), (m2, .inl (o2, 16, .inl mG)), (m3, .inl (o3, 16, .inl mF)), (m4, .inl (o4, 32, .inl mA)), (m5, .inl (o5, 32, .inl mU)), (m6, .inl (o6, 32, .inl mR))]) (wr := []) (w1 := [(mo, .inr (5, [.int (b2i (!(isP x && isP y))), .int mn, .ref m0, .int mg, .ref m1, .ref m2, .ref m3, .ref m4, .ref m5, .ref m6])), (m0, .inl (o0, 16, .inl h)), (m1, .inl (o1, 16, .inl mO)), (m2, .inl (o2, 16, .inl mG)), (m3, .inl (o3, 16, .inl mF)), (m4, .inl (o4, 32, .inl mA)), (m5, .inl (o5, 32, .inl mU)), (m6, .inl (o6, 32, .inl mR))]) (va_runV (As := [.int x, .int y]) (rest := []) ⟨hx, hb, hml, hown, hB⟩ (k_M_lacks l D mo m0 m1 m2 m3 m4 m5 m6 o0 o1 o2 o3 o4 o5 o6 mc mn mg h mO mG mF mA mU mR x y _) ⟨callB_of 2 hB (xg0 mc_M_lacks) rfl rfl rfl (hB _ mz_M) (hB _ ml_M_67) (by decide +kernel) ⟨Nat.le_of_ble_eq_true rfl, Nat.le_of_ble_eq_true rfl⟩, hB _ mi_M_lacks, hB _ me_M_lacks⟩ (xqV (ws := [(mo, .inr (5, [.int mc, .int mn, .ref m0, .int mg, .ref m1, .ref m2, .ref m3, .ref m4, .ref m5, .ref m6])), (m0, .inl (o0, 16, .inl h)), (m1, .inl (o1, 16, .inl mO)), (m2, .inl (o2, 16, .inl mG)), (m3, .inl (o3, 16, .inl mF)), (m4, .inl (o4, 32, .inl mA)), (m5, .inl (o5, 32, .inl mU)), (m6, .inl (o6, 32, .inl mR))]) (tys := [(o0, .int), (o1, .int), (o2, .int), (o3, .int), (o4, .int), (o5, .int), (o6, .int)]) (hP.sub [0, 1, 2, 3, 4, 5, 6, 7] rfl) (hD.sub [0, 1, 2, 3, 4, 5, 6, 7] (by decide) rfl) (hK.sub [0, 1, 2, 3, 4, 5, 6] rfl) hN (va_recv (ci := 5) (q0 := 0) (q := (R_M, F_M, 10)) hK hP rfl rfl)) rfl rfl hl.1 rfl (lv_room (Nat.le_of_ble_eq_true rfl)) d_M_places_3 ⟨Nat.le_of_ble_eq_true rfl, Nat.le_of_ble_eq_true rfl⟩) hP hD hS hA [0, 1, 2, 3, 4, 5, 6, 7] [] rfl rfl (by decide) (by decide) (fun H locs hP hD hS => ?_)
  have hP : va_P D cls [(mo, .inr (5, [.int (b2i (!(isP x && isP y))), .int mn, .ref m0, .int mg, .ref m1, .ref m2, .ref m3, .ref m4, .ref m5, .ref m6])), (m0, .inl (o0, 16, .inl h)), (m1, .inl (o1, 16, .inl mO)), (m2, .inl (o2, 16, .inl mG)), (m3, .inl (o3, 16, .inl mF)), (m4, .inl (o4, 32, .inl mA)), (m5, .inl (o5, 32, .inl mU)), (m6, .inl (o6, 32, .inl mR))] H := hP
  have hD : va_D A [(mo, .inr (5, [.int (b2i (!(isP x && isP y))), .int mn, .ref m0, .int mg, .ref m1, .ref m2, .ref m3, .ref m4, .ref m5, .ref m6])), (m0, .inl (o0, 16, .inl h)), (m1, .inl (o1, 16, .inl mO)), (m2, .inl (o2, 16, .inl mG)), (m3, .inl (o3, 16, .inl mF)), (m4, .inl (o4, 32, .inl mA)), (m5, .inl (o5, 32, .inl mU)), (m6, .inl (o6, 32, .inl mR))] := hD
  have hz : (b2i (!(isP x && isP y))) = nI 1 := by rw [hb9]; rfl
  rw [hz] at hP hD
  refine lv_if_eq (tgt := 11) hx hb d_M_places_6 rfl (fun hc6 => ?_) (fun hc6 => ?_)
  · have hc6 := b2i_0.mp hc6
    exact absurd hc6 (by rw [hb9]; decide)
  · have hc6 := b2i_n.mp hc6
    refine lv_iconst (v := nI 0) hx hb d_M_places_9 (by decide) ?_
    have hP9 := hP.sub (ws' := [(mo, .inr (5, [.int (nI 1), .int mn, .ref m0, .int mg, .ref m1, .ref m2, .ref m3, .ref m4, .ref m5, .ref m6])), (m0, .inl (o0, 16, .inl h)), (m1, .inl (o1, 16, .inl mO)), (m2, .inl (o2, 16, .inl mG)), (m3, .inl (o3, 16, .inl mF)), (m4, .inl (o4, 32, .inl mA)), (m5, .inl (o5, 32, .inl mU)), (m6, .inl (o6, 32, .inl mR))]) [0, 1, 2, 3, 4, 5, 6, 7] rfl
    have hD9 := hD.sub (ws' := [(mo, .inr (5, [.int (nI 1), .int mn, .ref m0, .int mg, .ref m1, .ref m2, .ref m3, .ref m4, .ref m5, .ref m6])), (m0, .inl (o0, 16, .inl h)), (m1, .inl (o1, 16, .inl mO)), (m2, .inl (o2, 16, .inl mG)), (m3, .inl (o3, 16, .inl mF)), (m4, .inl (o4, 32, .inl mA)), (m5, .inl (o5, 32, .inl mU)), (m6, .inl (o6, 32, .inl mR))]) [0, 1, 2, 3, 4, 5, 6, 7] (by decide) rfl
    subst hAe
    exact W.iret (v := nI 0) hx hb hr (fun t ht hW => ⟨⟨_, (), rfl, rfl, by rw [ht]; exact hP9, va_K.moved hW.alike hK, hD9⟩, hS.F ht⟩) hS.2.2 d_M_places_10
set_option maxHeartbeats 4000000 in
set_option maxRecDepth 100000 in
theorem k_M_arrows_bad (l : Launch) (D : va_G) (mo m0 m1 m2 m3 m4 m5 m6 : Nat) (o0 o1 o2 o3 o4 o5 o6 : ClassId) (mc : Int32) (mn : Int32) (mg : Int32) (h : Nat → Int32) (mO : Nat → Int32) (mG : Nat → Int32) (mF : Nat → Int32) (mA : Nat → Int32) (mU : Nat → Int32) (mR : Nat → Int32) (x y : Int32) (hb9 : (isP x && isP y) = false) (sz : Nat) : Met l y_M_arrows (Cond.code y_M_arrows c_M_arrows 4 (some .int) :: BS) { frames := 2, cells := 0, slots := 0, locals := 42 } (va_Pc [.ref mo, .int x, .int y] (xWp D [(mo, .inr (5, [.int mc, .int mn, .ref m0, .int mg, .ref m1, .ref m2, .ref m3, .ref m4, .ref m5, .ref m6])), (m0, .inl (o0, 16, .inl h)), (m1, .inl (o1, 16, .inl mO)), (m2, .inl (o2, 16, .inl mG)), (m3, .inl (o3, 16, .inl mF)), (m4, .inl (o4, 32, .inl mA)), (m5, .inl (o5, 32, .inl mU)), (m6, .inl (o6, 32, .inl mR))] [(o0, .int), (o1, .int), (o2, .int), (o3, .int), (o4, .int), (o5, .int), (o6, .int)] sz)) (xQi D [(mo, .inr (5, [.int mc, .int mn, .ref m0, .int mg, .ref m1, .ref m2, .ref m3, .ref m4, .ref m5, .ref m6])), (m0, .inl (o0, 16, .inl h)), (m1, .inl (o1, 16, .inl mO)), (m2, .inl (o2, 16, .inl mG)), (m3, .inl (o3, 16, .inl mF)), (m4, .inl (o4, 32, .inl mA)), (m5, .inl (o5, 32, .inl mU)), (m6, .inl (o6, 32, .inl mR))] [(mo, .inr (5, [.int (nI 1), .int mn, .ref m0, .int mg, .ref m1, .ref m2, .ref m3, .ref m4, .ref m5, .ref m6])), (m0, .inl (o0, 16, .inl h)), (m1, .inl (o1, 16, .inl mO)), (m2, .inl (o2, 16, .inl mG)), (m3, .inl (o3, 16, .inl mF)), (m4, .inl (o4, 32, .inl mA)), (m5, .inl (o5, 32, .inl mU)), (m6, .inl (o6, 32, .inl mR))] [(o0, .int), (o1, .int), (o2, .int), (o3, .int), (o4, .int), (o5, .int), (o6, .int)] sz (nI 0)) 0 0 (va_A [(mo, .inr (5, [.int mc, .int mn, .ref m0, .int mg, .ref m1, .ref m2, .ref m3, .ref m4, .ref m5, .ref m6])), (m0, .inl (o0, 16, .inl h)), (m1, .inl (o1, 16, .inl mO)), (m2, .inl (o2, 16, .inl mG)), (m3, .inl (o3, 16, .inl mF)), (m4, .inl (o4, 32, .inl mA)), (m5, .inl (o5, 32, .inl mU)), (m6, .inl (o6, 32, .inl mR))] sz) := by
  refine Met.ofW (cc := c_M_arrows) (maxL := 4) (ret := (some .int)) (by decide) rfl ?_
  intro p e s m args below meth c s₁ B hml hv
  obtain ⟨rfl, hsz, hP, hK, hD0, hN⟩ := hv
  have hx := B.exec
  have hb := B.bytes
  have hr := B.returns
  have hB := xB B.pre
  have hown : s.vm.findClass R_M = some m.cls := findClass_of_methodNamed B.named
  have hlocks := B.notSynchronized
  subst hsz
  have hD := hD0.self (sz := s.heap.size)
  obtain ⟨A, hAe⟩ : ∃ A, A = va_A [(mo, .inr (5, [.int mc, .int mn, .ref m0, .int mg, .ref m1, .ref m2, .ref m3, .ref m4, .ref m5, .ref m6])), (m0, .inl (o0, 16, .inl h)), (m1, .inl (o1, 16, .inl mO)), (m2, .inl (o2, 16, .inl mG)), (m3, .inl (o3, 16, .inl mF)), (m4, .inl (o4, 32, .inl mA)), (m5, .inl (o5, 32, .inl mU)), (m6, .inl (o6, 32, .inl mR))] s.heap.size := ⟨_, rfl⟩
  rw [← hAe] at hD
  have hA : ∀ q : Nat, s.heap.size ≤ q → A q := fun q h => by rw [hAe]; exact Or.inr h
  have hS : va_S A s.heap s.heap [] := va_S.rf
  have hl := lv_entry ([.ref mo, .int x, .int y]) (n := 4) (Nat.le_of_ble_eq_true rfl)
  rw [lg_entry_eq]
  generalize (lg_sl ([.ref mo, .int x, .int y]) ++ List.replicate (4 - (lg_sl ([.ref mo, .int x, .int y])).length) Slot.unset).toArray = ls at hl ⊢
  have hl : lv_has ls 4 [(0, .ref mo), (1, .int x), (2, .int y)] := hl
  refine lv_aload_n hx hb d_M_arrows_0 rfl (lv_at hl 0 rfl) ?_
  refine lv_iload_n hx hb d_M_arrows_1 rfl (lv_at hl 1 rfl) ?_
  refine lv_iload_n hx hb d_M_arrows_2 rfl (lv_at hl 2 rfl) ?_
  refine xw_i (wc := [(mo, .inr (5, [.int mc, .int mn, .ref m0, .int mg, .ref m1, .ref m2, .ref m3, .ref m4, .ref m5, .ref m6])), (m0, .inl (o0, 16, .inl h)), (m1, .inl (o1, 16, .inl mO)), (m2, .inl (o2, 16, .inl mG)), (m3, .inl (o3, 16, .inl mF)), (m4, .inl (o4, 32, .inl mA)), (m5, .inl (o5, 32, .inl mU)), (m6, .inl (o6, 32, .inl mR))]) (wr := []) (w1 := [(mo, .inr (5, [.int (b2i (!(isP x && isP y))), .int mn, .ref m0, .int mg, .ref m1, .ref m2, .ref m3, .ref m4, .ref m5, .ref m6])), (m0, .inl (o0, 16, .inl h)), (m1, .inl (o1, 16, .inl mO)), (m2, .inl (o2, 16, .inl mG)), (m3, .inl (o3, 16, .inl mF)), (m4, .inl (o4, 32, .inl mA)), (m5, .inl (o5, 32, .inl mU)), (m6, .inl (o6, 32, .inl mR))]) (va_runV (As := [.int x, .int y]) (rest := []) ⟨hx, hb, hml, hown, hB⟩ (k_M_lacks l D mo m0 m1 m2 m3 m4 m5 m6 o0 o1 o2 o3 o4 o5 o6 mc mn mg h mO mG mF mA mU mR x y _) ⟨callB_of 2 hB (xg0 mc_M_lacks) rfl rfl rfl (hB _ mz_M) (hB _ ml_M_67) (by decide +kernel) ⟨Nat.le_of_ble_eq_true rfl, Nat.le_of_ble_eq_true rfl⟩, hB _ mi_M_lacks, hB _ me_M_lacks⟩ (xqV (ws := [(mo, .inr (5, [.int mc, .int mn, .ref m0, .int mg, .ref m1, .ref m2, .ref m3, .ref m4, .ref m5, .ref m6])), (m0, .inl (o0, 16, .inl h)), (m1, .inl (o1, 16, .inl mO)), (m2, .inl (o2, 16, .inl mG)), (m3, .inl (o3, 16, .inl mF)), (m4, .inl (o4, 32, .inl mA)), (m5, .inl (o5, 32, .inl mU)), (m6, .inl (o6, 32, .inl mR))]) (tys := [(o0, .int), (o1, .int), (o2, .int), (o3, .int), (o4, .int), (o5, .int), (o6, .int)]) (hP.sub [0, 1, 2, 3, 4, 5, 6, 7] rfl) (hD.sub [0, 1, 2, 3, 4, 5, 6, 7] (by decide) rfl) (hK.sub [0, 1, 2, 3, 4, 5, 6] rfl) hN (va_recv (ci := 5) (q0 := 0) (q := (R_M, F_M, 10)) hK hP rfl rfl)) rfl rfl hl.1 rfl (lv_room (Nat.le_of_ble_eq_true rfl)) d_M_arrows_3 ⟨Nat.le_of_ble_eq_true rfl, Nat.le_of_ble_eq_true rfl⟩) hP hD hS hA [0, 1, 2, 3, 4, 5, 6, 7] [] rfl rfl (by decide) (by decide) (fun H locs hP hD hS => ?_)
  have hP : va_P D cls [(mo, .inr (5, [.int (b2i (!(isP x && isP y))), .int mn, .ref m0, .int mg, .ref m1, .ref m2, .ref m3, .ref m4, .ref m5, .ref m6])), (m0, .inl (o0, 16, .inl h)), (m1, .inl (o1, 16, .inl mO)), (m2, .inl (o2, 16, .inl mG)), (m3, .inl (o3, 16, .inl mF)), (m4, .inl (o4, 32, .inl mA)), (m5, .inl (o5, 32, .inl mU)), (m6, .inl (o6, 32, .inl mR))] H := hP
  have hD : va_D A [(mo, .inr (5, [.int (b2i (!(isP x && isP y))), .int mn, .ref m0, .int mg, .ref m1, .ref m2, .ref m3, .ref m4, .ref m5, .ref m6])), (m0, .inl (o0, 16, .inl h)), (m1, .inl (o1, 16, .inl mO)), (m2, .inl (o2, 16, .inl mG)), (m3, .inl (o3, 16, .inl mF)), (m4, .inl (o4, 32, .inl mA)), (m5, .inl (o5, 32, .inl mU)), (m6, .inl (o6, 32, .inl mR))] := hD
  have hz : (b2i (!(isP x && isP y))) = nI 1 := by rw [hb9]; rfl
  rw [hz] at hP hD
  refine lv_if_eq (tgt := 11) hx hb d_M_arrows_6 rfl (fun hc6 => ?_) (fun hc6 => ?_)
  · have hc6 := b2i_0.mp hc6
    exact absurd hc6 (by rw [hb9]; decide)
  · have hc6 := b2i_n.mp hc6
    refine lv_iconst (v := nI 0) hx hb d_M_arrows_9 (by decide) ?_
    have hP9 := hP.sub (ws' := [(mo, .inr (5, [.int (nI 1), .int mn, .ref m0, .int mg, .ref m1, .ref m2, .ref m3, .ref m4, .ref m5, .ref m6])), (m0, .inl (o0, 16, .inl h)), (m1, .inl (o1, 16, .inl mO)), (m2, .inl (o2, 16, .inl mG)), (m3, .inl (o3, 16, .inl mF)), (m4, .inl (o4, 32, .inl mA)), (m5, .inl (o5, 32, .inl mU)), (m6, .inl (o6, 32, .inl mR))]) [0, 1, 2, 3, 4, 5, 6, 7] rfl
    have hD9 := hD.sub (ws' := [(mo, .inr (5, [.int (nI 1), .int mn, .ref m0, .int mg, .ref m1, .ref m2, .ref m3, .ref m4, .ref m5, .ref m6])), (m0, .inl (o0, 16, .inl h)), (m1, .inl (o1, 16, .inl mO)), (m2, .inl (o2, 16, .inl mG)), (m3, .inl (o3, 16, .inl mF)), (m4, .inl (o4, 32, .inl mA)), (m5, .inl (o5, 32, .inl mU)), (m6, .inl (o6, 32, .inl mR))]) [0, 1, 2, 3, 4, 5, 6, 7] (by decide) rfl
    subst hAe
    exact W.iret (v := nI 0) hx hb hr (fun t ht hW => ⟨⟨_, (), rfl, rfl, by rw [ht]; exact hP9, va_K.moved hW.alike hK, hD9⟩, hS.F ht⟩) hS.2.2 d_M_arrows_10
set_option maxHeartbeats 4000000 in
set_option maxRecDepth 100000 in
theorem k_M_way_bad (l : Launch) (D : va_G) (mo m0 m1 m2 m3 m4 m5 m6 : Nat) (o0 o1 o2 o3 o4 o5 o6 : ClassId) (mc : Int32) (mn : Int32) (mg : Int32) (h : Nat → Int32) (mO : Nat → Int32) (mG : Nat → Int32) (mF : Nat → Int32) (mA : Nat → Int32) (mU : Nat → Int32) (mR : Nat → Int32) (x y z : Int32) (hb9 : (isP x && isP y) = false) (sz : Nat) : Met l y_M_way (Cond.code y_M_way c_M_way 8 (some .int) :: BS) { frames := 2, cells := 0, slots := 0, locals := 42 } (va_Pc [.ref mo, .int x, .int y, .int z] (xWp D [(mo, .inr (5, [.int mc, .int mn, .ref m0, .int mg, .ref m1, .ref m2, .ref m3, .ref m4, .ref m5, .ref m6])), (m0, .inl (o0, 16, .inl h)), (m1, .inl (o1, 16, .inl mO)), (m2, .inl (o2, 16, .inl mG)), (m3, .inl (o3, 16, .inl mF)), (m4, .inl (o4, 32, .inl mA)), (m5, .inl (o5, 32, .inl mU)), (m6, .inl (o6, 32, .inl mR))] [(o0, .int), (o1, .int), (o2, .int), (o3, .int), (o4, .int), (o5, .int), (o6, .int)] sz)) (xQi D [(mo, .inr (5, [.int mc, .int mn, .ref m0, .int mg, .ref m1, .ref m2, .ref m3, .ref m4, .ref m5, .ref m6])), (m0, .inl (o0, 16, .inl h)), (m1, .inl (o1, 16, .inl mO)), (m2, .inl (o2, 16, .inl mG)), (m3, .inl (o3, 16, .inl mF)), (m4, .inl (o4, 32, .inl mA)), (m5, .inl (o5, 32, .inl mU)), (m6, .inl (o6, 32, .inl mR))] [(mo, .inr (5, [.int (nI 1), .int mn, .ref m0, .int mg, .ref m1, .ref m2, .ref m3, .ref m4, .ref m5, .ref m6])), (m0, .inl (o0, 16, .inl h)), (m1, .inl (o1, 16, .inl mO)), (m2, .inl (o2, 16, .inl mG)), (m3, .inl (o3, 16, .inl mF)), (m4, .inl (o4, 32, .inl mA)), (m5, .inl (o5, 32, .inl mU)), (m6, .inl (o6, 32, .inl mR))] [(o0, .int), (o1, .int), (o2, .int), (o3, .int), (o4, .int), (o5, .int), (o6, .int)] sz (nI 0)) 0 0 (va_A [(mo, .inr (5, [.int mc, .int mn, .ref m0, .int mg, .ref m1, .ref m2, .ref m3, .ref m4, .ref m5, .ref m6])), (m0, .inl (o0, 16, .inl h)), (m1, .inl (o1, 16, .inl mO)), (m2, .inl (o2, 16, .inl mG)), (m3, .inl (o3, 16, .inl mF)), (m4, .inl (o4, 32, .inl mA)), (m5, .inl (o5, 32, .inl mU)), (m6, .inl (o6, 32, .inl mR))] sz) := by
  refine Met.ofW (cc := c_M_way) (maxL := 8) (ret := (some .int)) (by decide) rfl ?_
  intro p e s m args below meth c s₁ B hml hv
  obtain ⟨rfl, hsz, hP, hK, hD0, hN⟩ := hv
  have hx := B.exec
  have hb := B.bytes
  have hr := B.returns
  have hB := xB B.pre
  have hown : s.vm.findClass R_M = some m.cls := findClass_of_methodNamed B.named
  have hlocks := B.notSynchronized
  subst hsz
  have hD := hD0.self (sz := s.heap.size)
  obtain ⟨A, hAe⟩ : ∃ A, A = va_A [(mo, .inr (5, [.int mc, .int mn, .ref m0, .int mg, .ref m1, .ref m2, .ref m3, .ref m4, .ref m5, .ref m6])), (m0, .inl (o0, 16, .inl h)), (m1, .inl (o1, 16, .inl mO)), (m2, .inl (o2, 16, .inl mG)), (m3, .inl (o3, 16, .inl mF)), (m4, .inl (o4, 32, .inl mA)), (m5, .inl (o5, 32, .inl mU)), (m6, .inl (o6, 32, .inl mR))] s.heap.size := ⟨_, rfl⟩
  rw [← hAe] at hD
  have hA : ∀ q : Nat, s.heap.size ≤ q → A q := fun q h => by rw [hAe]; exact Or.inr h
  have hS : va_S A s.heap s.heap [] := va_S.rf
  have hl := lv_entry ([.ref mo, .int x, .int y, .int z]) (n := 8) (Nat.le_of_ble_eq_true rfl)
  rw [lg_entry_eq]
  generalize (lg_sl ([.ref mo, .int x, .int y, .int z]) ++ List.replicate (8 - (lg_sl ([.ref mo, .int x, .int y, .int z])).length) Slot.unset).toArray = ls at hl ⊢
  have hl : lv_has ls 8 [(0, .ref mo), (1, .int x), (2, .int y), (3, .int z)] := hl
  refine lv_aload_n hx hb d_M_way_0 rfl (lv_at hl 0 rfl) ?_
  refine lv_iload_n hx hb d_M_way_1 rfl (lv_at hl 1 rfl) ?_
  refine lv_iload_n hx hb d_M_way_2 rfl (lv_at hl 2 rfl) ?_
  refine xw_i (wc := [(mo, .inr (5, [.int mc, .int mn, .ref m0, .int mg, .ref m1, .ref m2, .ref m3, .ref m4, .ref m5, .ref m6])), (m0, .inl (o0, 16, .inl h)), (m1, .inl (o1, 16, .inl mO)), (m2, .inl (o2, 16, .inl mG)), (m3, .inl (o3, 16, .inl mF)), (m4, .inl (o4, 32, .inl mA)), (m5, .inl (o5, 32, .inl mU)), (m6, .inl (o6, 32, .inl mR))]) (wr := []) (w1 := [(mo, .inr (5, [.int (b2i (!(isP x && isP y))), .int mn, .ref m0, .int mg, .ref m1, .ref m2, .ref m3, .ref m4, .ref m5, .ref m6])), (m0, .inl (o0, 16, .inl h)), (m1, .inl (o1, 16, .inl mO)), (m2, .inl (o2, 16, .inl mG)), (m3, .inl (o3, 16, .inl mF)), (m4, .inl (o4, 32, .inl mA)), (m5, .inl (o5, 32, .inl mU)), (m6, .inl (o6, 32, .inl mR))]) (va_runV (As := [.int x, .int y]) (rest := []) ⟨hx, hb, hml, hown, hB⟩ (k_M_lacks l D mo m0 m1 m2 m3 m4 m5 m6 o0 o1 o2 o3 o4 o5 o6 mc mn mg h mO mG mF mA mU mR x y _) ⟨callB_of 2 hB (xg0 mc_M_lacks) rfl rfl rfl (hB _ mz_M) (hB _ ml_M_67) (by decide +kernel) ⟨Nat.le_of_ble_eq_true rfl, Nat.le_of_ble_eq_true rfl⟩, hB _ mi_M_lacks, hB _ me_M_lacks⟩ (xqV (ws := [(mo, .inr (5, [.int mc, .int mn, .ref m0, .int mg, .ref m1, .ref m2, .ref m3, .ref m4, .ref m5, .ref m6])), (m0, .inl (o0, 16, .inl h)), (m1, .inl (o1, 16, .inl mO)), (m2, .inl (o2, 16, .inl mG)), (m3, .inl (o3, 16, .inl mF)), (m4, .inl (o4, 32, .inl mA)), (m5, .inl (o5, 32, .inl mU)), (m6, .inl (o6, 32, .inl mR))]) (tys := [(o0, .int), (o1, .int), (o2, .int), (o3, .int), (o4, .int), (o5, .int), (o6, .int)]) (hP.sub [0, 1, 2, 3, 4, 5, 6, 7] rfl) (hD.sub [0, 1, 2, 3, 4, 5, 6, 7] (by decide) rfl) (hK.sub [0, 1, 2, 3, 4, 5, 6] rfl) hN (va_recv (ci := 5) (q0 := 0) (q := (R_M, F_M, 10)) hK hP rfl rfl)) rfl rfl hl.1 rfl (lv_room (Nat.le_of_ble_eq_true rfl)) d_M_way_3 ⟨Nat.le_of_ble_eq_true rfl, Nat.le_of_ble_eq_true rfl⟩) hP hD hS hA [0, 1, 2, 3, 4, 5, 6, 7] [] rfl rfl (by decide) (by decide) (fun H locs hP hD hS => ?_)
  have hP : va_P D cls [(mo, .inr (5, [.int (b2i (!(isP x && isP y))), .int mn, .ref m0, .int mg, .ref m1, .ref m2, .ref m3, .ref m4, .ref m5, .ref m6])), (m0, .inl (o0, 16, .inl h)), (m1, .inl (o1, 16, .inl mO)), (m2, .inl (o2, 16, .inl mG)), (m3, .inl (o3, 16, .inl mF)), (m4, .inl (o4, 32, .inl mA)), (m5, .inl (o5, 32, .inl mU)), (m6, .inl (o6, 32, .inl mR))] H := hP
  have hD : va_D A [(mo, .inr (5, [.int (b2i (!(isP x && isP y))), .int mn, .ref m0, .int mg, .ref m1, .ref m2, .ref m3, .ref m4, .ref m5, .ref m6])), (m0, .inl (o0, 16, .inl h)), (m1, .inl (o1, 16, .inl mO)), (m2, .inl (o2, 16, .inl mG)), (m3, .inl (o3, 16, .inl mF)), (m4, .inl (o4, 32, .inl mA)), (m5, .inl (o5, 32, .inl mU)), (m6, .inl (o6, 32, .inl mR))] := hD
  have hz : (b2i (!(isP x && isP y))) = nI 1 := by rw [hb9]; rfl
  rw [hz] at hP hD
  refine lv_if_eq (tgt := 11) hx hb d_M_way_6 rfl (fun hc6 => ?_) (fun hc6 => ?_)
  · have hc6 := b2i_0.mp hc6
    exact absurd hc6 (by rw [hb9]; decide)
  · have hc6 := b2i_n.mp hc6
    refine lv_iconst (v := nI 0) hx hb d_M_way_9 (by decide) ?_
    have hP9 := hP.sub (ws' := [(mo, .inr (5, [.int (nI 1), .int mn, .ref m0, .int mg, .ref m1, .ref m2, .ref m3, .ref m4, .ref m5, .ref m6])), (m0, .inl (o0, 16, .inl h)), (m1, .inl (o1, 16, .inl mO)), (m2, .inl (o2, 16, .inl mG)), (m3, .inl (o3, 16, .inl mF)), (m4, .inl (o4, 32, .inl mA)), (m5, .inl (o5, 32, .inl mU)), (m6, .inl (o6, 32, .inl mR))]) [0, 1, 2, 3, 4, 5, 6, 7] rfl
    have hD9 := hD.sub (ws' := [(mo, .inr (5, [.int (nI 1), .int mn, .ref m0, .int mg, .ref m1, .ref m2, .ref m3, .ref m4, .ref m5, .ref m6])), (m0, .inl (o0, 16, .inl h)), (m1, .inl (o1, 16, .inl mO)), (m2, .inl (o2, 16, .inl mG)), (m3, .inl (o3, 16, .inl mF)), (m4, .inl (o4, 32, .inl mA)), (m5, .inl (o5, 32, .inl mU)), (m6, .inl (o6, 32, .inl mR))]) [0, 1, 2, 3, 4, 5, 6, 7] (by decide) rfl
    subst hAe
    exact W.iret (v := nI 0) hx hb hr (fun t ht hW => ⟨⟨_, (), rfl, rfl, by rw [ht]; exact hP9, va_K.moved hW.alike hK, hD9⟩, hS.F ht⟩) hS.2.2 d_M_way_10
set_option maxHeartbeats 4000000 in
set_option maxRecDepth 100000 in
theorem k_M_reaches_bad (l : Launch) (D : va_G) (mo m0 m1 m2 m3 m4 m5 m6 : Nat) (o0 o1 o2 o3 o4 o5 o6 : ClassId) (mc : Int32) (mn : Int32) (mg : Int32) (h : Nat → Int32) (mO : Nat → Int32) (mG : Nat → Int32) (mF : Nat → Int32) (mA : Nat → Int32) (mU : Nat → Int32) (mR : Nat → Int32) (x y : Int32) (hb9 : (isP x && isP y) = false) (sz : Nat) : Met l y_M_reaches (Cond.code y_M_reaches c_M_reaches 3 (some .boolean) :: BS) { frames := 2, cells := 0, slots := 0, locals := 42 } (va_Pc [.ref mo, .int x, .int y] (xWp D [(mo, .inr (5, [.int mc, .int mn, .ref m0, .int mg, .ref m1, .ref m2, .ref m3, .ref m4, .ref m5, .ref m6])), (m0, .inl (o0, 16, .inl h)), (m1, .inl (o1, 16, .inl mO)), (m2, .inl (o2, 16, .inl mG)), (m3, .inl (o3, 16, .inl mF)), (m4, .inl (o4, 32, .inl mA)), (m5, .inl (o5, 32, .inl mU)), (m6, .inl (o6, 32, .inl mR))] [(o0, .int), (o1, .int), (o2, .int), (o3, .int), (o4, .int), (o5, .int), (o6, .int)] sz)) (xQi D [(mo, .inr (5, [.int mc, .int mn, .ref m0, .int mg, .ref m1, .ref m2, .ref m3, .ref m4, .ref m5, .ref m6])), (m0, .inl (o0, 16, .inl h)), (m1, .inl (o1, 16, .inl mO)), (m2, .inl (o2, 16, .inl mG)), (m3, .inl (o3, 16, .inl mF)), (m4, .inl (o4, 32, .inl mA)), (m5, .inl (o5, 32, .inl mU)), (m6, .inl (o6, 32, .inl mR))] [(mo, .inr (5, [.int (nI 1), .int mn, .ref m0, .int mg, .ref m1, .ref m2, .ref m3, .ref m4, .ref m5, .ref m6])), (m0, .inl (o0, 16, .inl h)), (m1, .inl (o1, 16, .inl mO)), (m2, .inl (o2, 16, .inl mG)), (m3, .inl (o3, 16, .inl mF)), (m4, .inl (o4, 32, .inl mA)), (m5, .inl (o5, 32, .inl mU)), (m6, .inl (o6, 32, .inl mR))] [(o0, .int), (o1, .int), (o2, .int), (o3, .int), (o4, .int), (o5, .int), (o6, .int)] sz (b2i false)) 0 0 (va_A [(mo, .inr (5, [.int mc, .int mn, .ref m0, .int mg, .ref m1, .ref m2, .ref m3, .ref m4, .ref m5, .ref m6])), (m0, .inl (o0, 16, .inl h)), (m1, .inl (o1, 16, .inl mO)), (m2, .inl (o2, 16, .inl mG)), (m3, .inl (o3, 16, .inl mF)), (m4, .inl (o4, 32, .inl mA)), (m5, .inl (o5, 32, .inl mU)), (m6, .inl (o6, 32, .inl mR))] sz) := by
  refine Met.ofW (cc := c_M_reaches) (maxL := 3) (ret := (some .boolean)) (by decide) rfl ?_
  intro p e s m args below meth c s₁ B hml hv
  obtain ⟨rfl, hsz, hP, hK, hD0, hN⟩ := hv
  have hx := B.exec
  have hb := B.bytes
  have hr := B.returns
  have hB := xB B.pre
  have hown : s.vm.findClass R_M = some m.cls := findClass_of_methodNamed B.named
  have hlocks := B.notSynchronized
  subst hsz
  have hD := hD0.self (sz := s.heap.size)
  obtain ⟨A, hAe⟩ : ∃ A, A = va_A [(mo, .inr (5, [.int mc, .int mn, .ref m0, .int mg, .ref m1, .ref m2, .ref m3, .ref m4, .ref m5, .ref m6])), (m0, .inl (o0, 16, .inl h)), (m1, .inl (o1, 16, .inl mO)), (m2, .inl (o2, 16, .inl mG)), (m3, .inl (o3, 16, .inl mF)), (m4, .inl (o4, 32, .inl mA)), (m5, .inl (o5, 32, .inl mU)), (m6, .inl (o6, 32, .inl mR))] s.heap.size := ⟨_, rfl⟩
  rw [← hAe] at hD
  have hA : ∀ q : Nat, s.heap.size ≤ q → A q := fun q h => by rw [hAe]; exact Or.inr h
  have hS : va_S A s.heap s.heap [] := va_S.rf
  have hl := lv_entry ([.ref mo, .int x, .int y]) (n := 3) (Nat.le_of_ble_eq_true rfl)
  rw [lg_entry_eq]
  generalize (lg_sl ([.ref mo, .int x, .int y]) ++ List.replicate (3 - (lg_sl ([.ref mo, .int x, .int y])).length) Slot.unset).toArray = ls at hl ⊢
  have hl : lv_has ls 3 [(0, .ref mo), (1, .int x), (2, .int y)] := hl
  refine lv_aload_n hx hb d_M_reaches_0 rfl (lv_at hl 0 rfl) ?_
  refine lv_iload_n hx hb d_M_reaches_1 rfl (lv_at hl 1 rfl) ?_
  refine lv_iload_n hx hb d_M_reaches_2 rfl (lv_at hl 2 rfl) ?_
  refine xw_i (wc := [(mo, .inr (5, [.int mc, .int mn, .ref m0, .int mg, .ref m1, .ref m2, .ref m3, .ref m4, .ref m5, .ref m6])), (m0, .inl (o0, 16, .inl h)), (m1, .inl (o1, 16, .inl mO)), (m2, .inl (o2, 16, .inl mG)), (m3, .inl (o3, 16, .inl mF)), (m4, .inl (o4, 32, .inl mA)), (m5, .inl (o5, 32, .inl mU)), (m6, .inl (o6, 32, .inl mR))]) (wr := []) (w1 := [(mo, .inr (5, [.int (b2i (!(isP x && isP y))), .int mn, .ref m0, .int mg, .ref m1, .ref m2, .ref m3, .ref m4, .ref m5, .ref m6])), (m0, .inl (o0, 16, .inl h)), (m1, .inl (o1, 16, .inl mO)), (m2, .inl (o2, 16, .inl mG)), (m3, .inl (o3, 16, .inl mF)), (m4, .inl (o4, 32, .inl mA)), (m5, .inl (o5, 32, .inl mU)), (m6, .inl (o6, 32, .inl mR))]) (va_runV (As := [.int x, .int y]) (rest := []) ⟨hx, hb, hml, hown, hB⟩ (k_M_lacks l D mo m0 m1 m2 m3 m4 m5 m6 o0 o1 o2 o3 o4 o5 o6 mc mn mg h mO mG mF mA mU mR x y _) ⟨callB_of 2 hB (xg0 mc_M_lacks) rfl rfl rfl (hB _ mz_M) (hB _ ml_M_67) (by decide +kernel) ⟨Nat.le_of_ble_eq_true rfl, Nat.le_of_ble_eq_true rfl⟩, hB _ mi_M_lacks, hB _ me_M_lacks⟩ (xqV (ws := [(mo, .inr (5, [.int mc, .int mn, .ref m0, .int mg, .ref m1, .ref m2, .ref m3, .ref m4, .ref m5, .ref m6])), (m0, .inl (o0, 16, .inl h)), (m1, .inl (o1, 16, .inl mO)), (m2, .inl (o2, 16, .inl mG)), (m3, .inl (o3, 16, .inl mF)), (m4, .inl (o4, 32, .inl mA)), (m5, .inl (o5, 32, .inl mU)), (m6, .inl (o6, 32, .inl mR))]) (tys := [(o0, .int), (o1, .int), (o2, .int), (o3, .int), (o4, .int), (o5, .int), (o6, .int)]) (hP.sub [0, 1, 2, 3, 4, 5, 6, 7] rfl) (hD.sub [0, 1, 2, 3, 4, 5, 6, 7] (by decide) rfl) (hK.sub [0, 1, 2, 3, 4, 5, 6] rfl) hN (va_recv (ci := 5) (q0 := 0) (q := (R_M, F_M, 10)) hK hP rfl rfl)) rfl rfl hl.1 rfl (lv_room (Nat.le_of_ble_eq_true rfl)) d_M_reaches_3 ⟨Nat.le_of_ble_eq_true rfl, Nat.le_of_ble_eq_true rfl⟩) hP hD hS hA [0, 1, 2, 3, 4, 5, 6, 7] [] rfl rfl (by decide) (by decide) (fun H locs hP hD hS => ?_)
  have hP : va_P D cls [(mo, .inr (5, [.int (b2i (!(isP x && isP y))), .int mn, .ref m0, .int mg, .ref m1, .ref m2, .ref m3, .ref m4, .ref m5, .ref m6])), (m0, .inl (o0, 16, .inl h)), (m1, .inl (o1, 16, .inl mO)), (m2, .inl (o2, 16, .inl mG)), (m3, .inl (o3, 16, .inl mF)), (m4, .inl (o4, 32, .inl mA)), (m5, .inl (o5, 32, .inl mU)), (m6, .inl (o6, 32, .inl mR))] H := hP
  have hD : va_D A [(mo, .inr (5, [.int (b2i (!(isP x && isP y))), .int mn, .ref m0, .int mg, .ref m1, .ref m2, .ref m3, .ref m4, .ref m5, .ref m6])), (m0, .inl (o0, 16, .inl h)), (m1, .inl (o1, 16, .inl mO)), (m2, .inl (o2, 16, .inl mG)), (m3, .inl (o3, 16, .inl mF)), (m4, .inl (o4, 32, .inl mA)), (m5, .inl (o5, 32, .inl mU)), (m6, .inl (o6, 32, .inl mR))] := hD
  have hz : (b2i (!(isP x && isP y))) = nI 1 := by rw [hb9]; rfl
  rw [hz] at hP hD
  refine lv_if_ne (tgt := 25) hx hb d_M_reaches_6 rfl (fun hc6 => ?_) (fun hc6 => ?_)
  · have hc6 := b2i_n.mp hc6
    refine lv_iconst (v := nI 0) hx hb d_M_reaches_25 (by decide) ?_
    have hP9 := hP.sub (ws' := [(mo, .inr (5, [.int (nI 1), .int mn, .ref m0, .int mg, .ref m1, .ref m2, .ref m3, .ref m4, .ref m5, .ref m6])), (m0, .inl (o0, 16, .inl h)), (m1, .inl (o1, 16, .inl mO)), (m2, .inl (o2, 16, .inl mG)), (m3, .inl (o3, 16, .inl mF)), (m4, .inl (o4, 32, .inl mA)), (m5, .inl (o5, 32, .inl mU)), (m6, .inl (o6, 32, .inl mR))]) [0, 1, 2, 3, 4, 5, 6, 7] rfl
    have hD9 := hD.sub (ws' := [(mo, .inr (5, [.int (nI 1), .int mn, .ref m0, .int mg, .ref m1, .ref m2, .ref m3, .ref m4, .ref m5, .ref m6])), (m0, .inl (o0, 16, .inl h)), (m1, .inl (o1, 16, .inl mO)), (m2, .inl (o2, 16, .inl mG)), (m3, .inl (o3, 16, .inl mF)), (m4, .inl (o4, 32, .inl mA)), (m5, .inl (o5, 32, .inl mU)), (m6, .inl (o6, 32, .inl mR))]) [0, 1, 2, 3, 4, 5, 6, 7] (by decide) rfl
    subst hAe
    refine xv_top (x' := b2i false) (rfl) ?_
    exact W.zret (v := b2i false) hx hb hr (b2i_nar _) (fun t ht hW => ⟨⟨_, (), rfl, rfl, by rw [ht]; exact hP9, va_K.moved hW.alike hK, hD9⟩, hS.F ht⟩) hS.2.2 d_M_reaches_26
  · have hc6 := b2i_0.mp hc6
    exact absurd hc6 (by rw [hb9]; decide)
set_option maxHeartbeats 4000000 in
set_option maxRecDepth 100000 in
theorem k_M_group_ok (l : Launch) (D : va_G) (mo m0 m1 m2 m3 m4 m5 m6 : Nat) (o0 o1 o2 o3 o4 o5 o6 : ClassId) (mc : Int32) (mn : Int32) (mg : Int32) (h : Nat → Int32) (mO : Nat → Int32) (mG : Nat → Int32) (mF : Nat → Int32) (mA : Nat → Int32) (mU : Nat → Int32) (mR : Nat → Int32) (hg : gd h) (v : Nat) (hv : v < 16) (sz : Nat) : Met l y_M_group (Cond.code y_M_group c_M_group 2 (some .int) :: BS) { frames := 4, cells := 0, slots := 0, locals := 90 } (va_Pc [.ref mo, .int (nI v)] (xWp D [(mo, .inr (5, [.int mc, .int mn, .ref m0, .int mg, .ref m1, .ref m2, .ref m3, .ref m4, .ref m5, .ref m6])), (m0, .inl (o0, 16, .inl h)), (m1, .inl (o1, 16, .inl mO)), (m2, .inl (o2, 16, .inl mG)), (m3, .inl (o3, 16, .inl mF)), (m4, .inl (o4, 32, .inl mA)), (m5, .inl (o5, 32, .inl mU)), (m6, .inl (o6, 32, .inl mR))] [(o0, .int), (o1, .int), (o2, .int), (o3, .int), (o4, .int), (o5, .int), (o6, .int)] sz)) (xQi D [(mo, .inr (5, [.int mc, .int mn, .ref m0, .int mg, .ref m1, .ref m2, .ref m3, .ref m4, .ref m5, .ref m6])), (m0, .inl (o0, 16, .inl h)), (m1, .inl (o1, 16, .inl mO)), (m2, .inl (o2, 16, .inl mG)), (m3, .inl (o3, 16, .inl mF)), (m4, .inl (o4, 32, .inl mA)), (m5, .inl (o5, 32, .inl mU)), (m6, .inl (o6, 32, .inl mR))] [(mo, .inr (5, [.int (nI 0), .int mn, .ref m0, .int mg, .ref m1, .ref m2, .ref m3, .ref m4, .ref m5, .ref m6])), (m0, .inl (o0, 16, .inl h)), (m1, .inl (o1, 16, .inl mO)), (m2, .inl (o2, 16, .inl (GR h))), (m3, .inl (o3, 16, .inl mF)), (m4, .inl (o4, 32, .inl mA)), (m5, .inl (o5, 32, .inl mU)), (m6, .inl (o6, 32, .inl mR))] [(o0, .int), (o1, .int), (o2, .int), (o3, .int), (o4, .int), (o5, .int), (o6, .int)] sz (nI (NM h v))) 0 0 (va_A [(mo, .inr (5, [.int mc, .int mn, .ref m0, .int mg, .ref m1, .ref m2, .ref m3, .ref m4, .ref m5, .ref m6])), (m0, .inl (o0, 16, .inl h)), (m1, .inl (o1, 16, .inl mO)), (m2, .inl (o2, 16, .inl mG)), (m3, .inl (o3, 16, .inl mF)), (m4, .inl (o4, 32, .inl mA)), (m5, .inl (o5, 32, .inl mU)), (m6, .inl (o6, 32, .inl mR))] sz) := by
  refine Met.ofW (cc := c_M_group) (maxL := 2) (ret := (some .int)) (by decide) rfl ?_
  intro p e s m args below meth c s₁ B hml hv
  obtain ⟨rfl, hsz, hP, hK, hD0, hN⟩ := hv
  have hx := B.exec
  have hb := B.bytes
  have hr := B.returns
  have hB := xB B.pre
  have hown : s.vm.findClass R_M = some m.cls := findClass_of_methodNamed B.named
  have hlocks := B.notSynchronized
  subst hsz
  have hD := hD0.self (sz := s.heap.size)
  obtain ⟨A, hAe⟩ : ∃ A, A = va_A [(mo, .inr (5, [.int mc, .int mn, .ref m0, .int mg, .ref m1, .ref m2, .ref m3, .ref m4, .ref m5, .ref m6])), (m0, .inl (o0, 16, .inl h)), (m1, .inl (o1, 16, .inl mO)), (m2, .inl (o2, 16, .inl mG)), (m3, .inl (o3, 16, .inl mF)), (m4, .inl (o4, 32, .inl mA)), (m5, .inl (o5, 32, .inl mU)), (m6, .inl (o6, 32, .inl mR))] s.heap.size := ⟨_, rfl⟩
  rw [← hAe] at hD
  have hA : ∀ q : Nat, s.heap.size ≤ q → A q := fun q h => by rw [hAe]; exact Or.inr h
  have hS : va_S A s.heap s.heap [] := va_S.rf
  have hl := lv_entry ([.ref mo, .int (nI v)]) (n := 2) (Nat.le_of_ble_eq_true rfl)
  rw [lg_entry_eq]
  generalize (lg_sl ([.ref mo, .int (nI v)]) ++ List.replicate (2 - (lg_sl ([.ref mo, .int (nI v)])).length) Slot.unset).toArray = ls at hl ⊢
  have hl : lv_has ls 2 [(0, .ref mo), (1, .int (nI v))] := hl
  refine lv_aload_n hx hb d_M_group_0 rfl (lv_at hl 0 rfl) ?_
  refine lv_iload_n hx hb d_M_group_1 rfl (lv_at hl 1 rfl) ?_
  refine lv_iload_n hx hb d_M_group_2 rfl (lv_at hl 1 rfl) ?_
  refine xw_i (wc := [(mo, .inr (5, [.int mc, .int mn, .ref m0, .int mg, .ref m1, .ref m2, .ref m3, .ref m4, .ref m5, .ref m6])), (m0, .inl (o0, 16, .inl h)), (m1, .inl (o1, 16, .inl mO)), (m2, .inl (o2, 16, .inl mG)), (m3, .inl (o3, 16, .inl mF)), (m4, .inl (o4, 32, .inl mA)), (m5, .inl (o5, 32, .inl mU)), (m6, .inl (o6, 32, .inl mR))]) (wr := []) (w1 := [(mo, .inr (5, [.int (b2i (!(isP (nI v) && isP (nI v)))), .int mn, .ref m0, .int mg, .ref m1, .ref m2, .ref m3, .ref m4, .ref m5, .ref m6])), (m0, .inl (o0, 16, .inl h)), (m1, .inl (o1, 16, .inl mO)), (m2, .inl (o2, 16, .inl mG)), (m3, .inl (o3, 16, .inl mF)), (m4, .inl (o4, 32, .inl mA)), (m5, .inl (o5, 32, .inl mU)), (m6, .inl (o6, 32, .inl mR))]) (va_runV (As := [.int (nI v), .int (nI v)]) (rest := []) ⟨hx, hb, hml, hown, hB⟩ (k_M_lacks l D mo m0 m1 m2 m3 m4 m5 m6 o0 o1 o2 o3 o4 o5 o6 mc mn mg h mO mG mF mA mU mR (nI v) (nI v) _) ⟨callB_of 2 hB (xg0 mc_M_lacks) rfl rfl rfl (hB _ mz_M) (hB _ ml_M_67) (by decide +kernel) ⟨Nat.le_of_ble_eq_true rfl, Nat.le_of_ble_eq_true rfl⟩, hB _ mi_M_lacks, hB _ me_M_lacks⟩ (xqV (ws := [(mo, .inr (5, [.int mc, .int mn, .ref m0, .int mg, .ref m1, .ref m2, .ref m3, .ref m4, .ref m5, .ref m6])), (m0, .inl (o0, 16, .inl h)), (m1, .inl (o1, 16, .inl mO)), (m2, .inl (o2, 16, .inl mG)), (m3, .inl (o3, 16, .inl mF)), (m4, .inl (o4, 32, .inl mA)), (m5, .inl (o5, 32, .inl mU)), (m6, .inl (o6, 32, .inl mR))]) (tys := [(o0, .int), (o1, .int), (o2, .int), (o3, .int), (o4, .int), (o5, .int), (o6, .int)]) (hP.sub [0, 1, 2, 3, 4, 5, 6, 7] rfl) (hD.sub [0, 1, 2, 3, 4, 5, 6, 7] (by decide) rfl) (hK.sub [0, 1, 2, 3, 4, 5, 6] rfl) hN (va_recv (ci := 5) (q0 := 0) (q := (R_M, F_M, 10)) hK hP rfl rfl)) rfl rfl hl.1 rfl (lv_room (Nat.le_of_ble_eq_true rfl)) d_M_group_3 ⟨Nat.le_of_ble_eq_true rfl, Nat.le_of_ble_eq_true rfl⟩) hP hD hS hA [0, 1, 2, 3, 4, 5, 6, 7] [] rfl rfl (by decide) (by decide) (fun H locs hP hD hS => ?_)
  have hP : va_P D cls [(mo, .inr (5, [.int (b2i (!(isP (nI v) && isP (nI v)))), .int mn, .ref m0, .int mg, .ref m1, .ref m2, .ref m3, .ref m4, .ref m5, .ref m6])), (m0, .inl (o0, 16, .inl h)), (m1, .inl (o1, 16, .inl mO)), (m2, .inl (o2, 16, .inl mG)), (m3, .inl (o3, 16, .inl mF)), (m4, .inl (o4, 32, .inl mA)), (m5, .inl (o5, 32, .inl mU)), (m6, .inl (o6, 32, .inl mR))] H := hP
  have hD : va_D A [(mo, .inr (5, [.int (b2i (!(isP (nI v) && isP (nI v)))), .int mn, .ref m0, .int mg, .ref m1, .ref m2, .ref m3, .ref m4, .ref m5, .ref m6])), (m0, .inl (o0, 16, .inl h)), (m1, .inl (o1, 16, .inl mO)), (m2, .inl (o2, 16, .inl mG)), (m3, .inl (o3, 16, .inl mF)), (m4, .inl (o4, 32, .inl mA)), (m5, .inl (o5, 32, .inl mU)), (m6, .inl (o6, 32, .inl mR))] := hD
  have hz : (b2i (!(isP (nI v) && isP (nI v)))) = nI 0 := by rw [isP2 (by omega) (by omega)]; rfl
  rw [hz] at hP hD
  refine lv_if_eq (tgt := 11) hx hb d_M_group_6 rfl (fun hc6 => ?_) (fun hc6 => ?_)
  · have hc6 := b2i_0.mp hc6
    refine lv_aload_n hx hb d_M_group_11 rfl (lv_at hl 0 rfl) ?_
    refine xw_v (wc := [(mo, .inr (5, [.int (nI 0), .int mn, .ref m0, .int mg, .ref m1, .ref m2, .ref m3, .ref m4, .ref m5, .ref m6])), (m0, .inl (o0, 16, .inl h)), (m1, .inl (o1, 16, .inl mO)), (m2, .inl (o2, 16, .inl mG)), (m3, .inl (o3, 16, .inl mF)), (m4, .inl (o4, 32, .inl mA)), (m5, .inl (o5, 32, .inl mU)), (m6, .inl (o6, 32, .inl mR))]) (wr := []) (w1 := [(mo, .inr (5, [.int (nI 0), .int mn, .ref m0, .int mg, .ref m1, .ref m2, .ref m3, .ref m4, .ref m5, .ref m6])), (m0, .inl (o0, 16, .inl h)), (m1, .inl (o1, 16, .inl mO)), (m2, .inl (o2, 16, .inl (GR h))), (m3, .inl (o3, 16, .inl mF)), (m4, .inl (o4, 32, .inl mA)), (m5, .inl (o5, 32, .inl mU)), (m6, .inl (o6, 32, .inl mR))]) (va_runV (As := []) (rest := []) ⟨hx, hb, hml, hown, hB⟩ (k_M_findGroups l D mo m0 m1 m2 m3 m4 m5 m6 o0 o1 o2 o3 o4 o5 o6 (nI 0) mn mg h mO mG mF mA mU mR hg _) ⟨callB_of 0 hB (xg0 mc_M_findGroups) rfl rfl rfl (hB _ mz_M) (hB _ ml_M_55) (by decide +kernel) ⟨Nat.le_of_ble_eq_true rfl, Nat.le_of_ble_eq_true rfl⟩, hB _ mi_M_findGroups, hB _ me_M_findGroups⟩ (xqV (ws := [(mo, .inr (5, [.int (nI 0), .int mn, .ref m0, .int mg, .ref m1, .ref m2, .ref m3, .ref m4, .ref m5, .ref m6])), (m0, .inl (o0, 16, .inl h)), (m1, .inl (o1, 16, .inl mO)), (m2, .inl (o2, 16, .inl mG)), (m3, .inl (o3, 16, .inl mF)), (m4, .inl (o4, 32, .inl mA)), (m5, .inl (o5, 32, .inl mU)), (m6, .inl (o6, 32, .inl mR))]) (tys := [(o0, .int), (o1, .int), (o2, .int), (o3, .int), (o4, .int), (o5, .int), (o6, .int)]) (hP.sub [0, 1, 2, 3, 4, 5, 6, 7] rfl) (hD.sub [0, 1, 2, 3, 4, 5, 6, 7] (by decide) rfl) (hK.sub [0, 1, 2, 3, 4, 5, 6] rfl) hN (va_recv (ci := 5) (q0 := 0) (q := (R_M, F_M, 10)) hK hP rfl rfl)) rfl rfl hl.1 rfl (lv_room (Nat.le_of_ble_eq_true rfl)) d_M_group_12 ⟨Nat.le_of_ble_eq_true rfl, Nat.le_of_ble_eq_true rfl⟩) hP hD hS hA [0, 1, 2, 3, 4, 5, 6, 7] [] rfl rfl (by decide) (by decide) (fun H locs hP hD hS => ?_)
    have hP : va_P D cls [(mo, .inr (5, [.int (nI 0), .int mn, .ref m0, .int mg, .ref m1, .ref m2, .ref m3, .ref m4, .ref m5, .ref m6])), (m0, .inl (o0, 16, .inl h)), (m1, .inl (o1, 16, .inl mO)), (m2, .inl (o2, 16, .inl (GR h))), (m3, .inl (o3, 16, .inl mF)), (m4, .inl (o4, 32, .inl mA)), (m5, .inl (o5, 32, .inl mU)), (m6, .inl (o6, 32, .inl mR))] H := hP
    have hD : va_D A [(mo, .inr (5, [.int (nI 0), .int mn, .ref m0, .int mg, .ref m1, .ref m2, .ref m3, .ref m4, .ref m5, .ref m6])), (m0, .inl (o0, 16, .inl h)), (m1, .inl (o1, 16, .inl mO)), (m2, .inl (o2, 16, .inl (GR h))), (m3, .inl (o3, 16, .inl mF)), (m4, .inl (o4, 32, .inl mA)), (m5, .inl (o5, 32, .inl mU)), (m6, .inl (o6, 32, .inl mR))] := hD
    refine lv_aload_n hx hb d_M_group_15 rfl (lv_at hl 0 rfl) ?_
    refine va_get (D := D) (ci := 5) (v := .ref m2) (C := R_M) (T := F_M) (N := 10) hx hb hB in_M hown hK hP 0 rfl rfl 5 (by decide) (hB _ mf_M_16) (fun _ h9 => h9) rfl d_M_group_16 ?_
    refine lv_iload_n hx hb d_M_group_19 rfl (lv_at hl 1 rfl) ?_
    refine xa_ld (u := v) hx hb hK hP 3 2 rfl rfl (by omega) (by decide) d_M_group_20 ?_
    refine xr_cal (va_runS (As := [.int ((GR h) v)]) (rest := []) ⟨hx, hb, hml, hown, hB⟩ (k_M_least l D  ((GR h) v) ⟨v, hv, (GR_iff hg hv).mpr ⟨hv, Rc_rf _, Rc_rf _⟩⟩) ⟨callB_of 1 hB (xg0 mc_M_least) rfl rfl rfl (hB _ mz_M) (hB _ ml_M_61) (by decide +kernel) ⟨Nat.le_of_ble_eq_true rfl, Nat.le_of_ble_eq_true rfl⟩, hB _ ms_M_least⟩ (xpS (ws := []) (tys := []) (hP.sub [] rfl) (hK.sub [] rfl) hN) rfl rfl hl.1 rfl (lv_room (Nat.le_of_ble_eq_true rfl)) d_M_group_21 ⟨Nat.le_of_ble_eq_true rfl, Nat.le_of_ble_eq_true rfl⟩) ?_
    have hP9 := hP.sub (ws' := [(mo, .inr (5, [.int (nI 0), .int mn, .ref m0, .int mg, .ref m1, .ref m2, .ref m3, .ref m4, .ref m5, .ref m6])), (m0, .inl (o0, 16, .inl h)), (m1, .inl (o1, 16, .inl mO)), (m2, .inl (o2, 16, .inl (GR h))), (m3, .inl (o3, 16, .inl mF)), (m4, .inl (o4, 32, .inl mA)), (m5, .inl (o5, 32, .inl mU)), (m6, .inl (o6, 32, .inl mR))]) [0, 1, 2, 3, 4, 5, 6, 7] rfl
    have hD9 := hD.sub (ws' := [(mo, .inr (5, [.int (nI 0), .int mn, .ref m0, .int mg, .ref m1, .ref m2, .ref m3, .ref m4, .ref m5, .ref m6])), (m0, .inl (o0, 16, .inl h)), (m1, .inl (o1, 16, .inl mO)), (m2, .inl (o2, 16, .inl (GR h))), (m3, .inl (o3, 16, .inl mF)), (m4, .inl (o4, 32, .inl mA)), (m5, .inl (o5, 32, .inl mU)), (m6, .inl (o6, 32, .inl mR))]) [0, 1, 2, 3, 4, 5, 6, 7] (by decide) rfl
    subst hAe
    refine xv_top (x' := nI (NM h v)) (rfl) ?_
    exact W.iret (v := nI (NM h v)) hx hb hr (fun t ht hW => ⟨⟨_, (), rfl, rfl, by rw [ht]; exact hP9, va_K.moved hW.alike hK, hD9⟩, hS.F ht⟩) hS.2.2 d_M_group_24
  · have hc6 := b2i_n.mp hc6
    exact absurd hc6 (by rw [isP2 (by omega) (by omega)]; decide)
set_option maxHeartbeats 4000000 in
set_option maxRecDepth 100000 in
theorem k_M_members_ok (l : Launch) (D : va_G) (mo m0 m1 m2 m3 m4 m5 m6 : Nat) (o0 o1 o2 o3 o4 o5 o6 : ClassId) (mc : Int32) (mn : Int32) (mg : Int32) (h : Nat → Int32) (mO : Nat → Int32) (mG : Nat → Int32) (mF : Nat → Int32) (mA : Nat → Int32) (mU : Nat → Int32) (mR : Nat → Int32) (hg : gd h) (v : Nat) (hv : v < 16) (sz : Nat) : Met l y_M_members (Cond.code y_M_members c_M_members 2 (some .int) :: BS) { frames := 4, cells := 0, slots := 0, locals := 90 } (va_Pc [.ref mo, .int (nI v)] (xWp D [(mo, .inr (5, [.int mc, .int mn, .ref m0, .int mg, .ref m1, .ref m2, .ref m3, .ref m4, .ref m5, .ref m6])), (m0, .inl (o0, 16, .inl h)), (m1, .inl (o1, 16, .inl mO)), (m2, .inl (o2, 16, .inl mG)), (m3, .inl (o3, 16, .inl mF)), (m4, .inl (o4, 32, .inl mA)), (m5, .inl (o5, 32, .inl mU)), (m6, .inl (o6, 32, .inl mR))] [(o0, .int), (o1, .int), (o2, .int), (o3, .int), (o4, .int), (o5, .int), (o6, .int)] sz)) (xQi D [(mo, .inr (5, [.int mc, .int mn, .ref m0, .int mg, .ref m1, .ref m2, .ref m3, .ref m4, .ref m5, .ref m6])), (m0, .inl (o0, 16, .inl h)), (m1, .inl (o1, 16, .inl mO)), (m2, .inl (o2, 16, .inl mG)), (m3, .inl (o3, 16, .inl mF)), (m4, .inl (o4, 32, .inl mA)), (m5, .inl (o5, 32, .inl mU)), (m6, .inl (o6, 32, .inl mR))] [(mo, .inr (5, [.int (nI 0), .int mn, .ref m0, .int mg, .ref m1, .ref m2, .ref m3, .ref m4, .ref m5, .ref m6])), (m0, .inl (o0, 16, .inl h)), (m1, .inl (o1, 16, .inl mO)), (m2, .inl (o2, 16, .inl (GR h))), (m3, .inl (o3, 16, .inl mF)), (m4, .inl (o4, 32, .inl mA)), (m5, .inl (o5, 32, .inl mU)), (m6, .inl (o6, 32, .inl mR))] [(o0, .int), (o1, .int), (o2, .int), (o3, .int), (o4, .int), (o5, .int), (o6, .int)] sz (nI (cn (GR h v) 16))) 0 0 (va_A [(mo, .inr (5, [.int mc, .int mn, .ref m0, .int mg, .ref m1, .ref m2, .ref m3, .ref m4, .ref m5, .ref m6])), (m0, .inl (o0, 16, .inl h)), (m1, .inl (o1, 16, .inl mO)), (m2, .inl (o2, 16, .inl mG)), (m3, .inl (o3, 16, .inl mF)), (m4, .inl (o4, 32, .inl mA)), (m5, .inl (o5, 32, .inl mU)), (m6, .inl (o6, 32, .inl mR))] sz) := by
  refine Met.ofW (cc := c_M_members) (maxL := 2) (ret := (some .int)) (by decide) rfl ?_
  intro p e s m args below meth c s₁ B hml hv
  obtain ⟨rfl, hsz, hP, hK, hD0, hN⟩ := hv
  have hx := B.exec
  have hb := B.bytes
  have hr := B.returns
  have hB := xB B.pre
  have hown : s.vm.findClass R_M = some m.cls := findClass_of_methodNamed B.named
  have hlocks := B.notSynchronized
  subst hsz
  have hD := hD0.self (sz := s.heap.size)
  obtain ⟨A, hAe⟩ : ∃ A, A = va_A [(mo, .inr (5, [.int mc, .int mn, .ref m0, .int mg, .ref m1, .ref m2, .ref m3, .ref m4, .ref m5, .ref m6])), (m0, .inl (o0, 16, .inl h)), (m1, .inl (o1, 16, .inl mO)), (m2, .inl (o2, 16, .inl mG)), (m3, .inl (o3, 16, .inl mF)), (m4, .inl (o4, 32, .inl mA)), (m5, .inl (o5, 32, .inl mU)), (m6, .inl (o6, 32, .inl mR))] s.heap.size := ⟨_, rfl⟩
  rw [← hAe] at hD
  have hA : ∀ q : Nat, s.heap.size ≤ q → A q := fun q h => by rw [hAe]; exact Or.inr h
  have hS : va_S A s.heap s.heap [] := va_S.rf
  have hl := lv_entry ([.ref mo, .int (nI v)]) (n := 2) (Nat.le_of_ble_eq_true rfl)
  rw [lg_entry_eq]
  generalize (lg_sl ([.ref mo, .int (nI v)]) ++ List.replicate (2 - (lg_sl ([.ref mo, .int (nI v)])).length) Slot.unset).toArray = ls at hl ⊢
  have hl : lv_has ls 2 [(0, .ref mo), (1, .int (nI v))] := hl
  refine lv_aload_n hx hb d_M_members_0 rfl (lv_at hl 0 rfl) ?_
  refine lv_iload_n hx hb d_M_members_1 rfl (lv_at hl 1 rfl) ?_
  refine lv_iload_n hx hb d_M_members_2 rfl (lv_at hl 1 rfl) ?_
  refine xw_i (wc := [(mo, .inr (5, [.int mc, .int mn, .ref m0, .int mg, .ref m1, .ref m2, .ref m3, .ref m4, .ref m5, .ref m6])), (m0, .inl (o0, 16, .inl h)), (m1, .inl (o1, 16, .inl mO)), (m2, .inl (o2, 16, .inl mG)), (m3, .inl (o3, 16, .inl mF)), (m4, .inl (o4, 32, .inl mA)), (m5, .inl (o5, 32, .inl mU)), (m6, .inl (o6, 32, .inl mR))]) (wr := []) (w1 := [(mo, .inr (5, [.int (b2i (!(isP (nI v) && isP (nI v)))), .int mn, .ref m0, .int mg, .ref m1, .ref m2, .ref m3, .ref m4, .ref m5, .ref m6])), (m0, .inl (o0, 16, .inl h)), (m1, .inl (o1, 16, .inl mO)), (m2, .inl (o2, 16, .inl mG)), (m3, .inl (o3, 16, .inl mF)), (m4, .inl (o4, 32, .inl mA)), (m5, .inl (o5, 32, .inl mU)), (m6, .inl (o6, 32, .inl mR))]) (va_runV (As := [.int (nI v), .int (nI v)]) (rest := []) ⟨hx, hb, hml, hown, hB⟩ (k_M_lacks l D mo m0 m1 m2 m3 m4 m5 m6 o0 o1 o2 o3 o4 o5 o6 mc mn mg h mO mG mF mA mU mR (nI v) (nI v) _) ⟨callB_of 2 hB (xg0 mc_M_lacks) rfl rfl rfl (hB _ mz_M) (hB _ ml_M_67) (by decide +kernel) ⟨Nat.le_of_ble_eq_true rfl, Nat.le_of_ble_eq_true rfl⟩, hB _ mi_M_lacks, hB _ me_M_lacks⟩ (xqV (ws := [(mo, .inr (5, [.int mc, .int mn, .ref m0, .int mg, .ref m1, .ref m2, .ref m3, .ref m4, .ref m5, .ref m6])), (m0, .inl (o0, 16, .inl h)), (m1, .inl (o1, 16, .inl mO)), (m2, .inl (o2, 16, .inl mG)), (m3, .inl (o3, 16, .inl mF)), (m4, .inl (o4, 32, .inl mA)), (m5, .inl (o5, 32, .inl mU)), (m6, .inl (o6, 32, .inl mR))]) (tys := [(o0, .int), (o1, .int), (o2, .int), (o3, .int), (o4, .int), (o5, .int), (o6, .int)]) (hP.sub [0, 1, 2, 3, 4, 5, 6, 7] rfl) (hD.sub [0, 1, 2, 3, 4, 5, 6, 7] (by decide) rfl) (hK.sub [0, 1, 2, 3, 4, 5, 6] rfl) hN (va_recv (ci := 5) (q0 := 0) (q := (R_M, F_M, 10)) hK hP rfl rfl)) rfl rfl hl.1 rfl (lv_room (Nat.le_of_ble_eq_true rfl)) d_M_members_3 ⟨Nat.le_of_ble_eq_true rfl, Nat.le_of_ble_eq_true rfl⟩) hP hD hS hA [0, 1, 2, 3, 4, 5, 6, 7] [] rfl rfl (by decide) (by decide) (fun H locs hP hD hS => ?_)
  have hP : va_P D cls [(mo, .inr (5, [.int (b2i (!(isP (nI v) && isP (nI v)))), .int mn, .ref m0, .int mg, .ref m1, .ref m2, .ref m3, .ref m4, .ref m5, .ref m6])), (m0, .inl (o0, 16, .inl h)), (m1, .inl (o1, 16, .inl mO)), (m2, .inl (o2, 16, .inl mG)), (m3, .inl (o3, 16, .inl mF)), (m4, .inl (o4, 32, .inl mA)), (m5, .inl (o5, 32, .inl mU)), (m6, .inl (o6, 32, .inl mR))] H := hP
  have hD : va_D A [(mo, .inr (5, [.int (b2i (!(isP (nI v) && isP (nI v)))), .int mn, .ref m0, .int mg, .ref m1, .ref m2, .ref m3, .ref m4, .ref m5, .ref m6])), (m0, .inl (o0, 16, .inl h)), (m1, .inl (o1, 16, .inl mO)), (m2, .inl (o2, 16, .inl mG)), (m3, .inl (o3, 16, .inl mF)), (m4, .inl (o4, 32, .inl mA)), (m5, .inl (o5, 32, .inl mU)), (m6, .inl (o6, 32, .inl mR))] := hD
  have hz : (b2i (!(isP (nI v) && isP (nI v)))) = nI 0 := by rw [isP2 (by omega) (by omega)]; rfl
  rw [hz] at hP hD
  refine lv_if_eq (tgt := 11) hx hb d_M_members_6 rfl (fun hc6 => ?_) (fun hc6 => ?_)
  · have hc6 := b2i_0.mp hc6
    refine lv_aload_n hx hb d_M_members_11 rfl (lv_at hl 0 rfl) ?_
    refine xw_v (wc := [(mo, .inr (5, [.int (nI 0), .int mn, .ref m0, .int mg, .ref m1, .ref m2, .ref m3, .ref m4, .ref m5, .ref m6])), (m0, .inl (o0, 16, .inl h)), (m1, .inl (o1, 16, .inl mO)), (m2, .inl (o2, 16, .inl mG)), (m3, .inl (o3, 16, .inl mF)), (m4, .inl (o4, 32, .inl mA)), (m5, .inl (o5, 32, .inl mU)), (m6, .inl (o6, 32, .inl mR))]) (wr := []) (w1 := [(mo, .inr (5, [.int (nI 0), .int mn, .ref m0, .int mg, .ref m1, .ref m2, .ref m3, .ref m4, .ref m5, .ref m6])), (m0, .inl (o0, 16, .inl h)), (m1, .inl (o1, 16, .inl mO)), (m2, .inl (o2, 16, .inl (GR h))), (m3, .inl (o3, 16, .inl mF)), (m4, .inl (o4, 32, .inl mA)), (m5, .inl (o5, 32, .inl mU)), (m6, .inl (o6, 32, .inl mR))]) (va_runV (As := []) (rest := []) ⟨hx, hb, hml, hown, hB⟩ (k_M_findGroups l D mo m0 m1 m2 m3 m4 m5 m6 o0 o1 o2 o3 o4 o5 o6 (nI 0) mn mg h mO mG mF mA mU mR hg _) ⟨callB_of 0 hB (xg0 mc_M_findGroups) rfl rfl rfl (hB _ mz_M) (hB _ ml_M_55) (by decide +kernel) ⟨Nat.le_of_ble_eq_true rfl, Nat.le_of_ble_eq_true rfl⟩, hB _ mi_M_findGroups, hB _ me_M_findGroups⟩ (xqV (ws := [(mo, .inr (5, [.int (nI 0), .int mn, .ref m0, .int mg, .ref m1, .ref m2, .ref m3, .ref m4, .ref m5, .ref m6])), (m0, .inl (o0, 16, .inl h)), (m1, .inl (o1, 16, .inl mO)), (m2, .inl (o2, 16, .inl mG)), (m3, .inl (o3, 16, .inl mF)), (m4, .inl (o4, 32, .inl mA)), (m5, .inl (o5, 32, .inl mU)), (m6, .inl (o6, 32, .inl mR))]) (tys := [(o0, .int), (o1, .int), (o2, .int), (o3, .int), (o4, .int), (o5, .int), (o6, .int)]) (hP.sub [0, 1, 2, 3, 4, 5, 6, 7] rfl) (hD.sub [0, 1, 2, 3, 4, 5, 6, 7] (by decide) rfl) (hK.sub [0, 1, 2, 3, 4, 5, 6] rfl) hN (va_recv (ci := 5) (q0 := 0) (q := (R_M, F_M, 10)) hK hP rfl rfl)) rfl rfl hl.1 rfl (lv_room (Nat.le_of_ble_eq_true rfl)) d_M_members_12 ⟨Nat.le_of_ble_eq_true rfl, Nat.le_of_ble_eq_true rfl⟩) hP hD hS hA [0, 1, 2, 3, 4, 5, 6, 7] [] rfl rfl (by decide) (by decide) (fun H locs hP hD hS => ?_)
    have hP : va_P D cls [(mo, .inr (5, [.int (nI 0), .int mn, .ref m0, .int mg, .ref m1, .ref m2, .ref m3, .ref m4, .ref m5, .ref m6])), (m0, .inl (o0, 16, .inl h)), (m1, .inl (o1, 16, .inl mO)), (m2, .inl (o2, 16, .inl (GR h))), (m3, .inl (o3, 16, .inl mF)), (m4, .inl (o4, 32, .inl mA)), (m5, .inl (o5, 32, .inl mU)), (m6, .inl (o6, 32, .inl mR))] H := hP
    have hD : va_D A [(mo, .inr (5, [.int (nI 0), .int mn, .ref m0, .int mg, .ref m1, .ref m2, .ref m3, .ref m4, .ref m5, .ref m6])), (m0, .inl (o0, 16, .inl h)), (m1, .inl (o1, 16, .inl mO)), (m2, .inl (o2, 16, .inl (GR h))), (m3, .inl (o3, 16, .inl mF)), (m4, .inl (o4, 32, .inl mA)), (m5, .inl (o5, 32, .inl mU)), (m6, .inl (o6, 32, .inl mR))] := hD
    refine lv_aload_n hx hb d_M_members_15 rfl (lv_at hl 0 rfl) ?_
    refine va_get (D := D) (ci := 5) (v := .ref m2) (C := R_M) (T := F_M) (N := 10) hx hb hB in_M hown hK hP 0 rfl rfl 5 (by decide) (hB _ mf_M_16) (fun _ h9 => h9) rfl d_M_members_16 ?_
    refine lv_iload_n hx hb d_M_members_19 rfl (lv_at hl 1 rfl) ?_
    refine xa_ld (u := v) hx hb hK hP 3 2 rfl rfl (by omega) (by decide) d_M_members_20 ?_
    refine xr_cal (va_runS (As := [.int ((GR h) v)]) (rest := []) ⟨hx, hb, hml, hown, hB⟩ (k_M_size l D  ((GR h) v)) ⟨callB_of 1 hB (xg0 mc_M_size) rfl rfl rfl (hB _ mz_M) (hB _ ml_M_70) (by decide +kernel) ⟨Nat.le_of_ble_eq_true rfl, Nat.le_of_ble_eq_true rfl⟩, hB _ ms_M_size⟩ (xpS (ws := []) (tys := []) (hP.sub [] rfl) (hK.sub [] rfl) hN) rfl rfl hl.1 rfl (lv_room (Nat.le_of_ble_eq_true rfl)) d_M_members_21 ⟨Nat.le_of_ble_eq_true rfl, Nat.le_of_ble_eq_true rfl⟩) ?_
    have hP9 := hP.sub (ws' := [(mo, .inr (5, [.int (nI 0), .int mn, .ref m0, .int mg, .ref m1, .ref m2, .ref m3, .ref m4, .ref m5, .ref m6])), (m0, .inl (o0, 16, .inl h)), (m1, .inl (o1, 16, .inl mO)), (m2, .inl (o2, 16, .inl (GR h))), (m3, .inl (o3, 16, .inl mF)), (m4, .inl (o4, 32, .inl mA)), (m5, .inl (o5, 32, .inl mU)), (m6, .inl (o6, 32, .inl mR))]) [0, 1, 2, 3, 4, 5, 6, 7] rfl
    have hD9 := hD.sub (ws' := [(mo, .inr (5, [.int (nI 0), .int mn, .ref m0, .int mg, .ref m1, .ref m2, .ref m3, .ref m4, .ref m5, .ref m6])), (m0, .inl (o0, 16, .inl h)), (m1, .inl (o1, 16, .inl mO)), (m2, .inl (o2, 16, .inl (GR h))), (m3, .inl (o3, 16, .inl mF)), (m4, .inl (o4, 32, .inl mA)), (m5, .inl (o5, 32, .inl mU)), (m6, .inl (o6, 32, .inl mR))]) [0, 1, 2, 3, 4, 5, 6, 7] (by decide) rfl
    subst hAe
    refine xv_top (x' := nI (cn (GR h v) 16)) (rfl) ?_
    exact W.iret (v := nI (cn (GR h v) 16)) hx hb hr (fun t ht hW => ⟨⟨_, (), rfl, rfl, by rw [ht]; exact hP9, va_K.moved hW.alike hK, hD9⟩, hS.F ht⟩) hS.2.2 d_M_members_24
  · have hc6 := b2i_n.mp hc6
    exact absurd hc6 (by rw [isP2 (by omega) (by omega)]; decide)
set_option maxHeartbeats 4000000 in
set_option maxRecDepth 100000 in
theorem k_M_rank_ok (l : Launch) (D : va_G) (mo m0 m1 m2 m3 m4 m5 m6 : Nat) (o0 o1 o2 o3 o4 o5 o6 : ClassId) (mc : Int32) (mn : Int32) (mg : Int32) (h : Nat → Int32) (mO : Nat → Int32) (mG : Nat → Int32) (mF : Nat → Int32) (mA : Nat → Int32) (mU : Nat → Int32) (mR : Nat → Int32) (hg : gd h) (v : Nat) (hv : v < 16) (sz : Nat) : Met l y_M_rank (Cond.code y_M_rank c_M_rank 3 (some .int) :: BS) { frames := 5, cells := 0, slots := 0, locals := 114 } (va_Pc [.ref mo, .int (nI v)] (xWp D [(mo, .inr (5, [.int mc, .int mn, .ref m0, .int mg, .ref m1, .ref m2, .ref m3, .ref m4, .ref m5, .ref m6])), (m0, .inl (o0, 16, .inl h)), (m1, .inl (o1, 16, .inl mO)), (m2, .inl (o2, 16, .inl mG)), (m3, .inl (o3, 16, .inl mF)), (m4, .inl (o4, 32, .inl mA)), (m5, .inl (o5, 32, .inl mU)), (m6, .inl (o6, 32, .inl mR))] [(o0, .int), (o1, .int), (o2, .int), (o3, .int), (o4, .int), (o5, .int), (o6, .int)] sz)) (xQi D [(mo, .inr (5, [.int mc, .int mn, .ref m0, .int mg, .ref m1, .ref m2, .ref m3, .ref m4, .ref m5, .ref m6])), (m0, .inl (o0, 16, .inl h)), (m1, .inl (o1, 16, .inl mO)), (m2, .inl (o2, 16, .inl mG)), (m3, .inl (o3, 16, .inl mF)), (m4, .inl (o4, 32, .inl mA)), (m5, .inl (o5, 32, .inl mU)), (m6, .inl (o6, 32, .inl mR))] [(mo, .inr (5, [.int (nI 0), .int mn, .ref m0, .int (nI (ct h)), .ref m1, .ref m2, .ref m3, .ref m4, .ref m5, .ref m6])), (m0, .inl (o0, 16, .inl h)), (m1, .inl (o1, 16, .inl (fun k => if k < ct h then nI (nx h (pl h k)) else mO k))), (m2, .inl (o2, 16, .inl (GR h))), (m3, .inl (o3, 16, .inl mF)), (m4, .inl (o4, 32, .inl mA)), (m5, .inl (o5, 32, .inl mU)), (m6, .inl (o6, 32, .inl mR))] [(o0, .int), (o1, .int), (o2, .int), (o3, .int), (o4, .int), (o5, .int), (o6, .int)] sz (nI (rk h v))) 0 0 (va_A [(mo, .inr (5, [.int mc, .int mn, .ref m0, .int mg, .ref m1, .ref m2, .ref m3, .ref m4, .ref m5, .ref m6])), (m0, .inl (o0, 16, .inl h)), (m1, .inl (o1, 16, .inl mO)), (m2, .inl (o2, 16, .inl mG)), (m3, .inl (o3, 16, .inl mF)), (m4, .inl (o4, 32, .inl mA)), (m5, .inl (o5, 32, .inl mU)), (m6, .inl (o6, 32, .inl mR))] sz) := by
  refine Met.ofW (cc := c_M_rank) (maxL := 3) (ret := (some .int)) (by decide) rfl ?_
  intro p e s m args below meth c s₁ B hml hv
  obtain ⟨rfl, hsz, hP, hK, hD0, hN⟩ := hv
  have hx := B.exec
  have hb := B.bytes
  have hr := B.returns
  have hB := xB B.pre
  have hown : s.vm.findClass R_M = some m.cls := findClass_of_methodNamed B.named
  have hlocks := B.notSynchronized
  subst hsz
  have hD := hD0.self (sz := s.heap.size)
  obtain ⟨A, hAe⟩ : ∃ A, A = va_A [(mo, .inr (5, [.int mc, .int mn, .ref m0, .int mg, .ref m1, .ref m2, .ref m3, .ref m4, .ref m5, .ref m6])), (m0, .inl (o0, 16, .inl h)), (m1, .inl (o1, 16, .inl mO)), (m2, .inl (o2, 16, .inl mG)), (m3, .inl (o3, 16, .inl mF)), (m4, .inl (o4, 32, .inl mA)), (m5, .inl (o5, 32, .inl mU)), (m6, .inl (o6, 32, .inl mR))] s.heap.size := ⟨_, rfl⟩
  rw [← hAe] at hD
  have hA : ∀ q : Nat, s.heap.size ≤ q → A q := fun q h => by rw [hAe]; exact Or.inr h
  have hS : va_S A s.heap s.heap [] := va_S.rf
  have hl := lv_entry ([.ref mo, .int (nI v)]) (n := 3) (Nat.le_of_ble_eq_true rfl)
  rw [lg_entry_eq]
  generalize (lg_sl ([.ref mo, .int (nI v)]) ++ List.replicate (3 - (lg_sl ([.ref mo, .int (nI v)])).length) Slot.unset).toArray = ls at hl ⊢
  have hl : lv_has ls 3 [(0, .ref mo), (1, .int (nI v))] := hl
  refine lv_aload_n hx hb d_M_rank_0 rfl (lv_at hl 0 rfl) ?_
  refine lv_iload_n hx hb d_M_rank_1 rfl (lv_at hl 1 rfl) ?_
  refine lv_iload_n hx hb d_M_rank_2 rfl (lv_at hl 1 rfl) ?_
  refine xw_i (wc := [(mo, .inr (5, [.int mc, .int mn, .ref m0, .int mg, .ref m1, .ref m2, .ref m3, .ref m4, .ref m5, .ref m6])), (m0, .inl (o0, 16, .inl h)), (m1, .inl (o1, 16, .inl mO)), (m2, .inl (o2, 16, .inl mG)), (m3, .inl (o3, 16, .inl mF)), (m4, .inl (o4, 32, .inl mA)), (m5, .inl (o5, 32, .inl mU)), (m6, .inl (o6, 32, .inl mR))]) (wr := []) (w1 := [(mo, .inr (5, [.int (b2i (!(isP (nI v) && isP (nI v)))), .int mn, .ref m0, .int mg, .ref m1, .ref m2, .ref m3, .ref m4, .ref m5, .ref m6])), (m0, .inl (o0, 16, .inl h)), (m1, .inl (o1, 16, .inl mO)), (m2, .inl (o2, 16, .inl mG)), (m3, .inl (o3, 16, .inl mF)), (m4, .inl (o4, 32, .inl mA)), (m5, .inl (o5, 32, .inl mU)), (m6, .inl (o6, 32, .inl mR))]) (va_runV (As := [.int (nI v), .int (nI v)]) (rest := []) ⟨hx, hb, hml, hown, hB⟩ (k_M_lacks l D mo m0 m1 m2 m3 m4 m5 m6 o0 o1 o2 o3 o4 o5 o6 mc mn mg h mO mG mF mA mU mR (nI v) (nI v) _) ⟨callB_of 2 hB (xg0 mc_M_lacks) rfl rfl rfl (hB _ mz_M) (hB _ ml_M_67) (by decide +kernel) ⟨Nat.le_of_ble_eq_true rfl, Nat.le_of_ble_eq_true rfl⟩, hB _ mi_M_lacks, hB _ me_M_lacks⟩ (xqV (ws := [(mo, .inr (5, [.int mc, .int mn, .ref m0, .int mg, .ref m1, .ref m2, .ref m3, .ref m4, .ref m5, .ref m6])), (m0, .inl (o0, 16, .inl h)), (m1, .inl (o1, 16, .inl mO)), (m2, .inl (o2, 16, .inl mG)), (m3, .inl (o3, 16, .inl mF)), (m4, .inl (o4, 32, .inl mA)), (m5, .inl (o5, 32, .inl mU)), (m6, .inl (o6, 32, .inl mR))]) (tys := [(o0, .int), (o1, .int), (o2, .int), (o3, .int), (o4, .int), (o5, .int), (o6, .int)]) (hP.sub [0, 1, 2, 3, 4, 5, 6, 7] rfl) (hD.sub [0, 1, 2, 3, 4, 5, 6, 7] (by decide) rfl) (hK.sub [0, 1, 2, 3, 4, 5, 6] rfl) hN (va_recv (ci := 5) (q0 := 0) (q := (R_M, F_M, 10)) hK hP rfl rfl)) rfl rfl hl.1 rfl (lv_room (Nat.le_of_ble_eq_true rfl)) d_M_rank_3 ⟨Nat.le_of_ble_eq_true rfl, Nat.le_of_ble_eq_true rfl⟩) hP hD hS hA [0, 1, 2, 3, 4, 5, 6, 7] [] rfl rfl (by decide) (by decide) (fun H locs hP hD hS => ?_)
  have hP : va_P D cls [(mo, .inr (5, [.int (b2i (!(isP (nI v) && isP (nI v)))), .int mn, .ref m0, .int mg, .ref m1, .ref m2, .ref m3, .ref m4, .ref m5, .ref m6])), (m0, .inl (o0, 16, .inl h)), (m1, .inl (o1, 16, .inl mO)), (m2, .inl (o2, 16, .inl mG)), (m3, .inl (o3, 16, .inl mF)), (m4, .inl (o4, 32, .inl mA)), (m5, .inl (o5, 32, .inl mU)), (m6, .inl (o6, 32, .inl mR))] H := hP
  have hD : va_D A [(mo, .inr (5, [.int (b2i (!(isP (nI v) && isP (nI v)))), .int mn, .ref m0, .int mg, .ref m1, .ref m2, .ref m3, .ref m4, .ref m5, .ref m6])), (m0, .inl (o0, 16, .inl h)), (m1, .inl (o1, 16, .inl mO)), (m2, .inl (o2, 16, .inl mG)), (m3, .inl (o3, 16, .inl mF)), (m4, .inl (o4, 32, .inl mA)), (m5, .inl (o5, 32, .inl mU)), (m6, .inl (o6, 32, .inl mR))] := hD
  have hz : (b2i (!(isP (nI v) && isP (nI v)))) = nI 0 := by rw [isP2 (by omega) (by omega)]; rfl
  rw [hz] at hP hD
  refine lv_if_eq (tgt := 11) hx hb d_M_rank_6 rfl (fun hc6 => ?_) (fun hc6 => ?_)
  · have hc6 := b2i_0.mp hc6
    refine lv_aload_n hx hb d_M_rank_11 rfl (lv_at hl 0 rfl) ?_
    refine xw_v (wc := [(mo, .inr (5, [.int (nI 0), .int mn, .ref m0, .int mg, .ref m1, .ref m2, .ref m3, .ref m4, .ref m5, .ref m6])), (m0, .inl (o0, 16, .inl h)), (m1, .inl (o1, 16, .inl mO)), (m2, .inl (o2, 16, .inl mG)), (m3, .inl (o3, 16, .inl mF)), (m4, .inl (o4, 32, .inl mA)), (m5, .inl (o5, 32, .inl mU)), (m6, .inl (o6, 32, .inl mR))]) (wr := []) (w1 := [(mo, .inr (5, [.int (nI 0), .int mn, .ref m0, .int (nI (ct h)), .ref m1, .ref m2, .ref m3, .ref m4, .ref m5, .ref m6])), (m0, .inl (o0, 16, .inl h)), (m1, .inl (o1, 16, .inl (fun k => if k < ct h then nI (nx h (pl h k)) else mO k))), (m2, .inl (o2, 16, .inl (GR h))), (m3, .inl (o3, 16, .inl mF)), (m4, .inl (o4, 32, .inl mA)), (m5, .inl (o5, 32, .inl mU)), (m6, .inl (o6, 32, .inl mR))]) (va_runV (As := []) (rest := []) ⟨hx, hb, hml, hown, hB⟩ (k_M_findOrder l D mo m0 m1 m2 m3 m4 m5 m6 o0 o1 o2 o3 o4 o5 o6 (nI 0) mn mg h mO mG mF mA mU mR hg _) ⟨callB_of 0 hB (xg0 mc_M_findOrder) rfl rfl rfl (hB _ mz_M) (hB _ ml_M_73) (by decide +kernel) ⟨Nat.le_of_ble_eq_true rfl, Nat.le_of_ble_eq_true rfl⟩, hB _ mi_M_findOrder, hB _ me_M_findOrder⟩ (xqV (ws := [(mo, .inr (5, [.int (nI 0), .int mn, .ref m0, .int mg, .ref m1, .ref m2, .ref m3, .ref m4, .ref m5, .ref m6])), (m0, .inl (o0, 16, .inl h)), (m1, .inl (o1, 16, .inl mO)), (m2, .inl (o2, 16, .inl mG)), (m3, .inl (o3, 16, .inl mF)), (m4, .inl (o4, 32, .inl mA)), (m5, .inl (o5, 32, .inl mU)), (m6, .inl (o6, 32, .inl mR))]) (tys := [(o0, .int), (o1, .int), (o2, .int), (o3, .int), (o4, .int), (o5, .int), (o6, .int)]) (hP.sub [0, 1, 2, 3, 4, 5, 6, 7] rfl) (hD.sub [0, 1, 2, 3, 4, 5, 6, 7] (by decide) rfl) (hK.sub [0, 1, 2, 3, 4, 5, 6] rfl) hN (va_recv (ci := 5) (q0 := 0) (q := (R_M, F_M, 10)) hK hP rfl rfl)) rfl rfl hl.1 rfl (lv_room (Nat.le_of_ble_eq_true rfl)) d_M_rank_12 ⟨Nat.le_of_ble_eq_true rfl, Nat.le_of_ble_eq_true rfl⟩) hP hD hS hA [0, 1, 2, 3, 4, 5, 6, 7] [] rfl rfl (by decide) (by decide) (fun H locs hP hD hS => ?_)
    have hP : va_P D cls [(mo, .inr (5, [.int (nI 0), .int mn, .ref m0, .int (nI (ct h)), .ref m1, .ref m2, .ref m3, .ref m4, .ref m5, .ref m6])), (m0, .inl (o0, 16, .inl h)), (m1, .inl (o1, 16, .inl (fun k => if k < ct h then nI (nx h (pl h k)) else mO k))), (m2, .inl (o2, 16, .inl (GR h))), (m3, .inl (o3, 16, .inl mF)), (m4, .inl (o4, 32, .inl mA)), (m5, .inl (o5, 32, .inl mU)), (m6, .inl (o6, 32, .inl mR))] H := hP
    have hD : va_D A [(mo, .inr (5, [.int (nI 0), .int mn, .ref m0, .int (nI (ct h)), .ref m1, .ref m2, .ref m3, .ref m4, .ref m5, .ref m6])), (m0, .inl (o0, 16, .inl h)), (m1, .inl (o1, 16, .inl (fun k => if k < ct h then nI (nx h (pl h k)) else mO k))), (m2, .inl (o2, 16, .inl (GR h))), (m3, .inl (o3, 16, .inl mF)), (m4, .inl (o4, 32, .inl mA)), (m5, .inl (o5, 32, .inl mU)), (m6, .inl (o6, 32, .inl mR))] := hD
    refine lv_iconst (v := nI 0) hx hb d_M_rank_15 (by decide) ?_
    refine lv_istore_n hx hb d_M_rank_16 rfl hl (by decide) rfl (fun ls hl => ?_)
    have hl : lv_has ls 3 [(2, .int (nI 0)), (0, .ref mo), (1, .int (nI v))] := hl
    refine xl_w (fun (k : Nat) ls H locs => ((k < ct h) ∧ (∀ j9, j9 < k → bt (GR h v) (nx h (pl h j9)) = false)) ∧ lv_has ls 3 [(2, .int (nI k)), (0, .ref mo), (1, .int (nI v))] ∧ va_P D cls [(mo, .inr (5, [.int (nI 0), .int mn, .ref m0, .int (nI (ct h)), .ref m1, .ref m2, .ref m3, .ref m4, .ref m5, .ref m6])), (m0, .inl (o0, 16, .inl h)), (m1, .inl (o1, 16, .inl (fun k => if k < ct h then nI (nx h (pl h k)) else mO k))), (m2, .inl (o2, 16, .inl (GR h))), (m3, .inl (o3, 16, .inl mF)), (m4, .inl (o4, 32, .inl mA)), (m5, .inl (o5, 32, .inl mU)), (m6, .inl (o6, 32, .inl mR))] H ∧ va_D A [(mo, .inr (5, [.int (nI 0), .int mn, .ref m0, .int (nI (ct h)), .ref m1, .ref m2, .ref m3, .ref m4, .ref m5, .ref m6])), (m0, .inl (o0, 16, .inl h)), (m1, .inl (o1, 16, .inl (fun k => if k < ct h then nI (nx h (pl h k)) else mO k))), (m2, .inl (o2, 16, .inl (GR h))), (m3, .inl (o3, 16, .inl mF)), (m4, .inl (o4, 32, .inl mA)), (m5, .inl (o5, 32, .inl mU)), (m6, .inl (o6, 32, .inl mR))] ∧ va_S A s.heap H locs) (fun k => ct h - k) (fun k ls H locs hI ih17 => ?_) 0 _ ⟨⟨by obtain ⟨j, h1, _⟩ := rk_ex hg hv; omega, lt_0⟩, hl, hP, hD, hS⟩
    obtain ⟨hI, hl, hP, hD, hS⟩ := hI
    obtain ⟨hk, hm⟩ := hI
    refine lv_aload_n hx hb d_M_rank_17 rfl (lv_at hl 1 rfl) ?_
    have hct := ct_le h
    have hnx := nx_lt h (pl h k)
    refine va_get (D := D) (ci := 5) (v := .ref m2) (C := R_M) (T := F_M) (N := 10) hx hb hB in_M hown hK hP 0 rfl rfl 5 (by decide) (hB _ mf_M_16) (fun _ h9 => h9) rfl d_M_rank_18 ?_
    refine lv_iload_n hx hb d_M_rank_21 rfl (lv_at hl 2 rfl) ?_
    refine xa_ld (u := v) hx hb hK hP 3 2 rfl rfl (by omega) (by decide) d_M_rank_22 ?_
    refine lv_aload_n hx hb d_M_rank_23 rfl (lv_at hl 1 rfl) ?_
    refine va_get (D := D) (ci := 5) (v := .ref m1) (C := R_M) (T := F_M) (N := 10) hx hb hB in_M hown hK hP 0 rfl rfl 4 (by decide) (hB _ mf_M_13) (fun _ h9 => h9) rfl d_M_rank_24 ?_
    refine lv_iload_n hx hb d_M_rank_27 rfl (lv_at hl 0 rfl) ?_
    refine xa_ld (u := k) hx hb hK hP 2 1 rfl rfl (by omega) (by decide) d_M_rank_28 ?_
    refine xv_top (x' := nI (nx h (pl h k))) (if_pos hk) ?_
    refine xr_cal (va_runS (As := [.int ((GR h) v), .int (nI (nx h (pl h k)))]) (rest := []) ⟨hx, hb, hml, hown, hB⟩ (k_M_has l D  ((GR h) v) (nx h (pl h k)) (by omega)) ⟨callB_of 2 hB (xg0 mc_M_has) rfl rfl rfl (hB _ mz_M) (hB _ ml_M_35) (by decide +kernel) ⟨Nat.le_of_ble_eq_true rfl, Nat.le_of_ble_eq_true rfl⟩, hB _ ms_M_has⟩ (xpS (ws := []) (tys := []) (hP.sub [] rfl) (hK.sub [] rfl) hN) rfl rfl hl.1 rfl (lv_room (Nat.le_of_ble_eq_true rfl)) d_M_rank_29 ⟨Nat.le_of_ble_eq_true rfl, Nat.le_of_ble_eq_true rfl⟩) ?_
    refine lv_if_ne (tgt := 41) hx hb d_M_rank_32 rfl (fun hc32 => ?_) (fun hc32 => ?_)
    · have hc32 := b2i_n.mp hc32
      refine lv_iload_n hx hb d_M_rank_41 rfl (lv_at hl 0 rfl) ?_
      have hP9 := hP.sub (ws' := [(mo, .inr (5, [.int (nI 0), .int mn, .ref m0, .int (nI (ct h)), .ref m1, .ref m2, .ref m3, .ref m4, .ref m5, .ref m6])), (m0, .inl (o0, 16, .inl h)), (m1, .inl (o1, 16, .inl (fun k => if k < ct h then nI (nx h (pl h k)) else mO k))), (m2, .inl (o2, 16, .inl (GR h))), (m3, .inl (o3, 16, .inl mF)), (m4, .inl (o4, 32, .inl mA)), (m5, .inl (o5, 32, .inl mU)), (m6, .inl (o6, 32, .inl mR))]) [0, 1, 2, 3, 4, 5, 6, 7] rfl
      have hD9 := hD.sub (ws' := [(mo, .inr (5, [.int (nI 0), .int mn, .ref m0, .int (nI (ct h)), .ref m1, .ref m2, .ref m3, .ref m4, .ref m5, .ref m6])), (m0, .inl (o0, 16, .inl h)), (m1, .inl (o1, 16, .inl (fun k => if k < ct h then nI (nx h (pl h k)) else mO k))), (m2, .inl (o2, 16, .inl (GR h))), (m3, .inl (o3, 16, .inl mF)), (m4, .inl (o4, 32, .inl mA)), (m5, .inl (o5, 32, .inl mU)), (m6, .inl (o6, 32, .inl mR))]) [0, 1, 2, 3, 4, 5, 6, 7] (by decide) rfl
      subst hAe
      refine xv_top (x' := nI (rk h v)) (by unfold rk; rw [first_eq (p := (fun k => bt (GR h v) (nx h (pl h k)))) hc32 hk hm]) ?_
      exact W.iret (v := nI (rk h v)) hx hb hr (fun t ht hW => ⟨⟨_, (), rfl, rfl, by rw [ht]; exact hP9, va_K.moved hW.alike hK, hD9⟩, hS.F ht⟩) hS.2.2 d_M_rank_42
    · have hc32 := b2i_0.mp hc32
      refine lv_iinc hx hb d_M_rank_35 hl (k := 0) rfl (v := nI (k + 1)) (nI_1 k) (by decide) rfl (fun ls hl => ?_)
      have hl : lv_has ls 3 [(2, .int (nI (k + 1))), (0, .ref mo), (1, .int (nI v))] := hl
      refine lv_goto (tgt := 17) hx hb d_M_rank_38 rfl ?_
      exact ih17 (k + 1) _ H locs ⟨⟨rk_step hg hv hm hk hc32, lt_s hm hc32⟩, lv_sub hl [0, 1, 2] rfl, hP, hD, hS⟩ (by omega)
  · have hc6 := b2i_n.mp hc6
    exact absurd hc6 (by rw [isP2 (by omega) (by omega)]; decide)
set_option maxHeartbeats 4000000 in
set_option maxRecDepth 100000 in
theorem k_M_ranked_ok (l : Launch) (D : va_G) (mo m0 m1 m2 m3 m4 m5 m6 : Nat) (o0 o1 o2 o3 o4 o5 o6 : ClassId) (mc : Int32) (mn : Int32) (mg : Int32) (h : Nat → Int32) (mO : Nat → Int32) (mG : Nat → Int32) (mF : Nat → Int32) (mA : Nat → Int32) (mU : Nat → Int32) (mR : Nat → Int32) (hg : gd h) (k : Nat) (hk : k < ct h) (sz : Nat) : Met l y_M_ranked (Cond.code y_M_ranked c_M_ranked 2 (some .int) :: BS) { frames := 5, cells := 0, slots := 0, locals := 114 } (va_Pc [.ref mo, .int (nI k)] (xWp D [(mo, .inr (5, [.int mc, .int mn, .ref m0, .int mg, .ref m1, .ref m2, .ref m3, .ref m4, .ref m5, .ref m6])), (m0, .inl (o0, 16, .inl h)), (m1, .inl (o1, 16, .inl mO)), (m2, .inl (o2, 16, .inl mG)), (m3, .inl (o3, 16, .inl mF)), (m4, .inl (o4, 32, .inl mA)), (m5, .inl (o5, 32, .inl mU)), (m6, .inl (o6, 32, .inl mR))] [(o0, .int), (o1, .int), (o2, .int), (o3, .int), (o4, .int), (o5, .int), (o6, .int)] sz)) (xQi D [(mo, .inr (5, [.int mc, .int mn, .ref m0, .int mg, .ref m1, .ref m2, .ref m3, .ref m4, .ref m5, .ref m6])), (m0, .inl (o0, 16, .inl h)), (m1, .inl (o1, 16, .inl mO)), (m2, .inl (o2, 16, .inl mG)), (m3, .inl (o3, 16, .inl mF)), (m4, .inl (o4, 32, .inl mA)), (m5, .inl (o5, 32, .inl mU)), (m6, .inl (o6, 32, .inl mR))] [(mo, .inr (5, [.int (nI 0), .int mn, .ref m0, .int (nI (ct h)), .ref m1, .ref m2, .ref m3, .ref m4, .ref m5, .ref m6])), (m0, .inl (o0, 16, .inl h)), (m1, .inl (o1, 16, .inl (fun k => if k < ct h then nI (nx h (pl h k)) else mO k))), (m2, .inl (o2, 16, .inl (GR h))), (m3, .inl (o3, 16, .inl mF)), (m4, .inl (o4, 32, .inl mA)), (m5, .inl (o5, 32, .inl mU)), (m6, .inl (o6, 32, .inl mR))] [(o0, .int), (o1, .int), (o2, .int), (o3, .int), (o4, .int), (o5, .int), (o6, .int)] sz (nI (nx h (pl h k)))) 0 0 (va_A [(mo, .inr (5, [.int mc, .int mn, .ref m0, .int mg, .ref m1, .ref m2, .ref m3, .ref m4, .ref m5, .ref m6])), (m0, .inl (o0, 16, .inl h)), (m1, .inl (o1, 16, .inl mO)), (m2, .inl (o2, 16, .inl mG)), (m3, .inl (o3, 16, .inl mF)), (m4, .inl (o4, 32, .inl mA)), (m5, .inl (o5, 32, .inl mU)), (m6, .inl (o6, 32, .inl mR))] sz) := by
  refine Met.ofW (cc := c_M_ranked) (maxL := 2) (ret := (some .int)) (by decide) rfl ?_
  intro p e s m args below meth c s₁ B hml hv
  obtain ⟨rfl, hsz, hP, hK, hD0, hN⟩ := hv
  have hx := B.exec
  have hb := B.bytes
  have hr := B.returns
  have hB := xB B.pre
  have hown : s.vm.findClass R_M = some m.cls := findClass_of_methodNamed B.named
  have hlocks := B.notSynchronized
  subst hsz
  have hD := hD0.self (sz := s.heap.size)
  obtain ⟨A, hAe⟩ : ∃ A, A = va_A [(mo, .inr (5, [.int mc, .int mn, .ref m0, .int mg, .ref m1, .ref m2, .ref m3, .ref m4, .ref m5, .ref m6])), (m0, .inl (o0, 16, .inl h)), (m1, .inl (o1, 16, .inl mO)), (m2, .inl (o2, 16, .inl mG)), (m3, .inl (o3, 16, .inl mF)), (m4, .inl (o4, 32, .inl mA)), (m5, .inl (o5, 32, .inl mU)), (m6, .inl (o6, 32, .inl mR))] s.heap.size := ⟨_, rfl⟩
  rw [← hAe] at hD
  have hA : ∀ q : Nat, s.heap.size ≤ q → A q := fun q h => by rw [hAe]; exact Or.inr h
  have hS : va_S A s.heap s.heap [] := va_S.rf
  have hl := lv_entry ([.ref mo, .int (nI k)]) (n := 2) (Nat.le_of_ble_eq_true rfl)
  rw [lg_entry_eq]
  generalize (lg_sl ([.ref mo, .int (nI k)]) ++ List.replicate (2 - (lg_sl ([.ref mo, .int (nI k)])).length) Slot.unset).toArray = ls at hl ⊢
  have hl : lv_has ls 2 [(0, .ref mo), (1, .int (nI k))] := hl
  refine lv_aload_n hx hb d_M_ranked_0 rfl (lv_at hl 0 rfl) ?_
  refine xw_v (wc := [(mo, .inr (5, [.int mc, .int mn, .ref m0, .int mg, .ref m1, .ref m2, .ref m3, .ref m4, .ref m5, .ref m6])), (m0, .inl (o0, 16, .inl h)), (m1, .inl (o1, 16, .inl mO)), (m2, .inl (o2, 16, .inl mG)), (m3, .inl (o3, 16, .inl mF)), (m4, .inl (o4, 32, .inl mA)), (m5, .inl (o5, 32, .inl mU)), (m6, .inl (o6, 32, .inl mR))]) (wr := []) (w1 := [(mo, .inr (5, [.int mc, .int mn, .ref m0, .int (nI (ct h)), .ref m1, .ref m2, .ref m3, .ref m4, .ref m5, .ref m6])), (m0, .inl (o0, 16, .inl h)), (m1, .inl (o1, 16, .inl (fun k => if k < ct h then nI (nx h (pl h k)) else mO k))), (m2, .inl (o2, 16, .inl (GR h))), (m3, .inl (o3, 16, .inl mF)), (m4, .inl (o4, 32, .inl mA)), (m5, .inl (o5, 32, .inl mU)), (m6, .inl (o6, 32, .inl mR))]) (va_runV (As := []) (rest := []) ⟨hx, hb, hml, hown, hB⟩ (k_M_findOrder l D mo m0 m1 m2 m3 m4 m5 m6 o0 o1 o2 o3 o4 o5 o6 mc mn mg h mO mG mF mA mU mR hg _) ⟨callB_of 0 hB (xg0 mc_M_findOrder) rfl rfl rfl (hB _ mz_M) (hB _ ml_M_73) (by decide +kernel) ⟨Nat.le_of_ble_eq_true rfl, Nat.le_of_ble_eq_true rfl⟩, hB _ mi_M_findOrder, hB _ me_M_findOrder⟩ (xqV (ws := [(mo, .inr (5, [.int mc, .int mn, .ref m0, .int mg, .ref m1, .ref m2, .ref m3, .ref m4, .ref m5, .ref m6])), (m0, .inl (o0, 16, .inl h)), (m1, .inl (o1, 16, .inl mO)), (m2, .inl (o2, 16, .inl mG)), (m3, .inl (o3, 16, .inl mF)), (m4, .inl (o4, 32, .inl mA)), (m5, .inl (o5, 32, .inl mU)), (m6, .inl (o6, 32, .inl mR))]) (tys := [(o0, .int), (o1, .int), (o2, .int), (o3, .int), (o4, .int), (o5, .int), (o6, .int)]) (hP.sub [0, 1, 2, 3, 4, 5, 6, 7] rfl) (hD.sub [0, 1, 2, 3, 4, 5, 6, 7] (by decide) rfl) (hK.sub [0, 1, 2, 3, 4, 5, 6] rfl) hN (va_recv (ci := 5) (q0 := 0) (q := (R_M, F_M, 10)) hK hP rfl rfl)) rfl rfl hl.1 rfl (lv_room (Nat.le_of_ble_eq_true rfl)) d_M_ranked_1 ⟨Nat.le_of_ble_eq_true rfl, Nat.le_of_ble_eq_true rfl⟩) hP hD hS hA [0, 1, 2, 3, 4, 5, 6, 7] [] rfl rfl (by decide) (by decide) (fun H locs hP hD hS => ?_)
  have hP : va_P D cls [(mo, .inr (5, [.int mc, .int mn, .ref m0, .int (nI (ct h)), .ref m1, .ref m2, .ref m3, .ref m4, .ref m5, .ref m6])), (m0, .inl (o0, 16, .inl h)), (m1, .inl (o1, 16, .inl (fun k => if k < ct h then nI (nx h (pl h k)) else mO k))), (m2, .inl (o2, 16, .inl (GR h))), (m3, .inl (o3, 16, .inl mF)), (m4, .inl (o4, 32, .inl mA)), (m5, .inl (o5, 32, .inl mU)), (m6, .inl (o6, 32, .inl mR))] H := hP
  have hD : va_D A [(mo, .inr (5, [.int mc, .int mn, .ref m0, .int (nI (ct h)), .ref m1, .ref m2, .ref m3, .ref m4, .ref m5, .ref m6])), (m0, .inl (o0, 16, .inl h)), (m1, .inl (o1, 16, .inl (fun k => if k < ct h then nI (nx h (pl h k)) else mO k))), (m2, .inl (o2, 16, .inl (GR h))), (m3, .inl (o3, 16, .inl mF)), (m4, .inl (o4, 32, .inl mA)), (m5, .inl (o5, 32, .inl mU)), (m6, .inl (o6, 32, .inl mR))] := hD
  refine lv_aload_n hx hb d_M_ranked_4 rfl (lv_at hl 0 rfl) ?_
  have hct := ct_le h
  refine lv_iload_n hx hb d_M_ranked_5 rfl (lv_at hl 1 rfl) ?_
  refine lv_if_lt (tgt := 17) hx hb d_M_ranked_6 rfl (fun hc6 => ?_) (fun hc6 => ?_)
  · have hc6 : k < 0 := (nI_ltI (by omega) (by omega)).mp hc6
    exact absurd hc6 (by omega)
  · have hc6 : ¬ (k < 0) := fun q9 => hc6 ((nI_ltI (by omega) (by omega)).mpr q9)
    refine lv_iload_n hx hb d_M_ranked_9 rfl (lv_at hl 1 rfl) ?_
    refine lv_aload_n hx hb d_M_ranked_10 rfl (lv_at hl 0 rfl) ?_
    refine va_get (D := D) (ci := 5) (v := .int (nI (ct h))) (C := R_M) (T := F_M) (N := 10) hx hb hB in_M hown hK hP 0 rfl rfl 3 (by decide) (hB _ mf_M_58) (fun _ h9 => h9) rfl d_M_ranked_11 ?_
    refine lv_icmp_lt (tgt := 21) hx hb d_M_ranked_14 rfl (fun hc14 => ?_) (fun hc14 => ?_)
    · have hc14 : k < (ct h) := (nI_ltI (by omega) (by omega)).mp hc14
      refine lv_iconst (v := nI 0) hx hb d_M_ranked_21 (by decide) ?_
      refine va_put (D := D) (ci := 5) (v := .int (nI 0)) (ty := .int) (C := R_M) (T := F_M) (N := 10) hx hb hB in_M t_M t_M_ok n_M hown hK hP hD hS 0 rfl rfl 0 (by decide) (hB _ mf_M_31) (fun _ h9 => h9) rfl (by decide +kernel) rfl rfl (Nat.le_of_ble_eq_true rfl) d_M_ranked_22 (fun H locs hP hD hS => ?_)
      have hP : va_P D cls [(mo, .inr (5, [.int (nI 0), .int mn, .ref m0, .int (nI (ct h)), .ref m1, .ref m2, .ref m3, .ref m4, .ref m5, .ref m6])), (m0, .inl (o0, 16, .inl h)), (m1, .inl (o1, 16, .inl (fun k => if k < ct h then nI (nx h (pl h k)) else mO k))), (m2, .inl (o2, 16, .inl (GR h))), (m3, .inl (o3, 16, .inl mF)), (m4, .inl (o4, 32, .inl mA)), (m5, .inl (o5, 32, .inl mU)), (m6, .inl (o6, 32, .inl mR))] H := hP
      have hD : va_D A [(mo, .inr (5, [.int (nI 0), .int mn, .ref m0, .int (nI (ct h)), .ref m1, .ref m2, .ref m3, .ref m4, .ref m5, .ref m6])), (m0, .inl (o0, 16, .inl h)), (m1, .inl (o1, 16, .inl (fun k => if k < ct h then nI (nx h (pl h k)) else mO k))), (m2, .inl (o2, 16, .inl (GR h))), (m3, .inl (o3, 16, .inl mF)), (m4, .inl (o4, 32, .inl mA)), (m5, .inl (o5, 32, .inl mU)), (m6, .inl (o6, 32, .inl mR))] := hD
      refine lv_aload_n hx hb d_M_ranked_25 rfl (lv_at hl 0 rfl) ?_
      refine va_get (D := D) (ci := 5) (v := .int (nI 0)) (C := R_M) (T := F_M) (N := 10) hx hb hB in_M hown hK hP 0 rfl rfl 0 (by decide) (hB _ mf_M_31) (fun _ h9 => h9) rfl d_M_ranked_26 ?_
      refine lv_if_le (tgt := 36) hx hb d_M_ranked_29 rfl (fun _ => ?_) (fun hc29 => absurd hc29 (by decide))
      refine lv_aload_n hx hb d_M_ranked_36 rfl (lv_at hl 0 rfl) ?_
      refine va_get (D := D) (ci := 5) (v := .ref m1) (C := R_M) (T := F_M) (N := 10) hx hb hB in_M hown hK hP 0 rfl rfl 4 (by decide) (hB _ mf_M_13) (fun _ h9 => h9) rfl d_M_ranked_37 ?_
      refine lv_iload_n hx hb d_M_ranked_40 rfl (lv_at hl 1 rfl) ?_
      refine xa_ld (u := k) hx hb hK hP 2 1 rfl rfl (by omega) (by decide) d_M_ranked_41 ?_
      have hP9 := hP.sub (ws' := [(mo, .inr (5, [.int (nI 0), .int mn, .ref m0, .int (nI (ct h)), .ref m1, .ref m2, .ref m3, .ref m4, .ref m5, .ref m6])), (m0, .inl (o0, 16, .inl h)), (m1, .inl (o1, 16, .inl (fun k => if k < ct h then nI (nx h (pl h k)) else mO k))), (m2, .inl (o2, 16, .inl (GR h))), (m3, .inl (o3, 16, .inl mF)), (m4, .inl (o4, 32, .inl mA)), (m5, .inl (o5, 32, .inl mU)), (m6, .inl (o6, 32, .inl mR))]) [0, 1, 2, 3, 4, 5, 6, 7] rfl
      have hD9 := hD.sub (ws' := [(mo, .inr (5, [.int (nI 0), .int mn, .ref m0, .int (nI (ct h)), .ref m1, .ref m2, .ref m3, .ref m4, .ref m5, .ref m6])), (m0, .inl (o0, 16, .inl h)), (m1, .inl (o1, 16, .inl (fun k => if k < ct h then nI (nx h (pl h k)) else mO k))), (m2, .inl (o2, 16, .inl (GR h))), (m3, .inl (o3, 16, .inl mF)), (m4, .inl (o4, 32, .inl mA)), (m5, .inl (o5, 32, .inl mU)), (m6, .inl (o6, 32, .inl mR))]) [0, 1, 2, 3, 4, 5, 6, 7] (by decide) rfl
      subst hAe
      refine xv_top (x' := nI (nx h (pl h k))) (if_pos hk) ?_
      exact W.iret (v := nI (nx h (pl h k))) hx hb hr (fun t ht hW => ⟨⟨_, (), rfl, rfl, by rw [ht]; exact hP9, va_K.moved hW.alike hK, hD9⟩, hS.F ht⟩) hS.2.2 d_M_ranked_42
    · have hc14 : ¬ (k < (ct h)) := fun q9 => hc14 ((nI_ltI (by omega) (by omega)).mpr q9)
      exact absurd hk hc14
set_option maxHeartbeats 4000000 in
set_option maxRecDepth 100000 in
theorem k_M_ranked_bad (l : Launch) (D : va_G) (mo m0 m1 m2 m3 m4 m5 m6 : Nat) (o0 o1 o2 o3 o4 o5 o6 : ClassId) (mc : Int32) (mn : Int32) (mg : Int32) (h : Nat → Int32) (mO : Nat → Int32) (mG : Nat → Int32) (mF : Nat → Int32) (mA : Nat → Int32) (mU : Nat → Int32) (mR : Nat → Int32) (hg : gd h) (x : Int32) (hb9 : x < 0 ∨ ¬ x < nI (ct h)) (sz : Nat) : Met l y_M_ranked (Cond.code y_M_ranked c_M_ranked 2 (some .int) :: BS) { frames := 5, cells := 0, slots := 0, locals := 114 } (va_Pc [.ref mo, .int x] (xWp D [(mo, .inr (5, [.int mc, .int mn, .ref m0, .int mg, .ref m1, .ref m2, .ref m3, .ref m4, .ref m5, .ref m6])), (m0, .inl (o0, 16, .inl h)), (m1, .inl (o1, 16, .inl mO)), (m2, .inl (o2, 16, .inl mG)), (m3, .inl (o3, 16, .inl mF)), (m4, .inl (o4, 32, .inl mA)), (m5, .inl (o5, 32, .inl mU)), (m6, .inl (o6, 32, .inl mR))] [(o0, .int), (o1, .int), (o2, .int), (o3, .int), (o4, .int), (o5, .int), (o6, .int)] sz)) (xQi D [(mo, .inr (5, [.int mc, .int mn, .ref m0, .int mg, .ref m1, .ref m2, .ref m3, .ref m4, .ref m5, .ref m6])), (m0, .inl (o0, 16, .inl h)), (m1, .inl (o1, 16, .inl mO)), (m2, .inl (o2, 16, .inl mG)), (m3, .inl (o3, 16, .inl mF)), (m4, .inl (o4, 32, .inl mA)), (m5, .inl (o5, 32, .inl mU)), (m6, .inl (o6, 32, .inl mR))] [(mo, .inr (5, [.int (nI 1), .int mn, .ref m0, .int (nI (ct h)), .ref m1, .ref m2, .ref m3, .ref m4, .ref m5, .ref m6])), (m0, .inl (o0, 16, .inl h)), (m1, .inl (o1, 16, .inl (fun k => if k < ct h then nI (nx h (pl h k)) else mO k))), (m2, .inl (o2, 16, .inl (GR h))), (m3, .inl (o3, 16, .inl mF)), (m4, .inl (o4, 32, .inl mA)), (m5, .inl (o5, 32, .inl mU)), (m6, .inl (o6, 32, .inl mR))] [(o0, .int), (o1, .int), (o2, .int), (o3, .int), (o4, .int), (o5, .int), (o6, .int)] sz (nI 0)) 0 0 (va_A [(mo, .inr (5, [.int mc, .int mn, .ref m0, .int mg, .ref m1, .ref m2, .ref m3, .ref m4, .ref m5, .ref m6])), (m0, .inl (o0, 16, .inl h)), (m1, .inl (o1, 16, .inl mO)), (m2, .inl (o2, 16, .inl mG)), (m3, .inl (o3, 16, .inl mF)), (m4, .inl (o4, 32, .inl mA)), (m5, .inl (o5, 32, .inl mU)), (m6, .inl (o6, 32, .inl mR))] sz) := by
  refine Met.ofW (cc := c_M_ranked) (maxL := 2) (ret := (some .int)) (by decide) rfl ?_
  intro p e s m args below meth c s₁ B hml hv
  obtain ⟨rfl, hsz, hP, hK, hD0, hN⟩ := hv
  have hx := B.exec
  have hb := B.bytes
  have hr := B.returns
  have hB := xB B.pre
  have hown : s.vm.findClass R_M = some m.cls := findClass_of_methodNamed B.named
  have hlocks := B.notSynchronized
  subst hsz
  have hD := hD0.self (sz := s.heap.size)
  obtain ⟨A, hAe⟩ : ∃ A, A = va_A [(mo, .inr (5, [.int mc, .int mn, .ref m0, .int mg, .ref m1, .ref m2, .ref m3, .ref m4, .ref m5, .ref m6])), (m0, .inl (o0, 16, .inl h)), (m1, .inl (o1, 16, .inl mO)), (m2, .inl (o2, 16, .inl mG)), (m3, .inl (o3, 16, .inl mF)), (m4, .inl (o4, 32, .inl mA)), (m5, .inl (o5, 32, .inl mU)), (m6, .inl (o6, 32, .inl mR))] s.heap.size := ⟨_, rfl⟩
  rw [← hAe] at hD
  have hA : ∀ q : Nat, s.heap.size ≤ q → A q := fun q h => by rw [hAe]; exact Or.inr h
  have hS : va_S A s.heap s.heap [] := va_S.rf
  have hl := lv_entry ([.ref mo, .int x]) (n := 2) (Nat.le_of_ble_eq_true rfl)
  rw [lg_entry_eq]
  generalize (lg_sl ([.ref mo, .int x]) ++ List.replicate (2 - (lg_sl ([.ref mo, .int x])).length) Slot.unset).toArray = ls at hl ⊢
  have hl : lv_has ls 2 [(0, .ref mo), (1, .int x)] := hl
  refine lv_aload_n hx hb d_M_ranked_0 rfl (lv_at hl 0 rfl) ?_
  refine xw_v (wc := [(mo, .inr (5, [.int mc, .int mn, .ref m0, .int mg, .ref m1, .ref m2, .ref m3, .ref m4, .ref m5, .ref m6])), (m0, .inl (o0, 16, .inl h)), (m1, .inl (o1, 16, .inl mO)), (m2, .inl (o2, 16, .inl mG)), (m3, .inl (o3, 16, .inl mF)), (m4, .inl (o4, 32, .inl mA)), (m5, .inl (o5, 32, .inl mU)), (m6, .inl (o6, 32, .inl mR))]) (wr := []) (w1 := [(mo, .inr (5, [.int mc, .int mn, .ref m0, .int (nI (ct h)), .ref m1, .ref m2, .ref m3, .ref m4, .ref m5, .ref m6])), (m0, .inl (o0, 16, .inl h)), (m1, .inl (o1, 16, .inl (fun k => if k < ct h then nI (nx h (pl h k)) else mO k))), (m2, .inl (o2, 16, .inl (GR h))), (m3, .inl (o3, 16, .inl mF)), (m4, .inl (o4, 32, .inl mA)), (m5, .inl (o5, 32, .inl mU)), (m6, .inl (o6, 32, .inl mR))]) (va_runV (As := []) (rest := []) ⟨hx, hb, hml, hown, hB⟩ (k_M_findOrder l D mo m0 m1 m2 m3 m4 m5 m6 o0 o1 o2 o3 o4 o5 o6 mc mn mg h mO mG mF mA mU mR hg _) ⟨callB_of 0 hB (xg0 mc_M_findOrder) rfl rfl rfl (hB _ mz_M) (hB _ ml_M_73) (by decide +kernel) ⟨Nat.le_of_ble_eq_true rfl, Nat.le_of_ble_eq_true rfl⟩, hB _ mi_M_findOrder, hB _ me_M_findOrder⟩ (xqV (ws := [(mo, .inr (5, [.int mc, .int mn, .ref m0, .int mg, .ref m1, .ref m2, .ref m3, .ref m4, .ref m5, .ref m6])), (m0, .inl (o0, 16, .inl h)), (m1, .inl (o1, 16, .inl mO)), (m2, .inl (o2, 16, .inl mG)), (m3, .inl (o3, 16, .inl mF)), (m4, .inl (o4, 32, .inl mA)), (m5, .inl (o5, 32, .inl mU)), (m6, .inl (o6, 32, .inl mR))]) (tys := [(o0, .int), (o1, .int), (o2, .int), (o3, .int), (o4, .int), (o5, .int), (o6, .int)]) (hP.sub [0, 1, 2, 3, 4, 5, 6, 7] rfl) (hD.sub [0, 1, 2, 3, 4, 5, 6, 7] (by decide) rfl) (hK.sub [0, 1, 2, 3, 4, 5, 6] rfl) hN (va_recv (ci := 5) (q0 := 0) (q := (R_M, F_M, 10)) hK hP rfl rfl)) rfl rfl hl.1 rfl (lv_room (Nat.le_of_ble_eq_true rfl)) d_M_ranked_1 ⟨Nat.le_of_ble_eq_true rfl, Nat.le_of_ble_eq_true rfl⟩) hP hD hS hA [0, 1, 2, 3, 4, 5, 6, 7] [] rfl rfl (by decide) (by decide) (fun H locs hP hD hS => ?_)
  have hP : va_P D cls [(mo, .inr (5, [.int mc, .int mn, .ref m0, .int (nI (ct h)), .ref m1, .ref m2, .ref m3, .ref m4, .ref m5, .ref m6])), (m0, .inl (o0, 16, .inl h)), (m1, .inl (o1, 16, .inl (fun k => if k < ct h then nI (nx h (pl h k)) else mO k))), (m2, .inl (o2, 16, .inl (GR h))), (m3, .inl (o3, 16, .inl mF)), (m4, .inl (o4, 32, .inl mA)), (m5, .inl (o5, 32, .inl mU)), (m6, .inl (o6, 32, .inl mR))] H := hP
  have hD : va_D A [(mo, .inr (5, [.int mc, .int mn, .ref m0, .int (nI (ct h)), .ref m1, .ref m2, .ref m3, .ref m4, .ref m5, .ref m6])), (m0, .inl (o0, 16, .inl h)), (m1, .inl (o1, 16, .inl (fun k => if k < ct h then nI (nx h (pl h k)) else mO k))), (m2, .inl (o2, 16, .inl (GR h))), (m3, .inl (o3, 16, .inl mF)), (m4, .inl (o4, 32, .inl mA)), (m5, .inl (o5, 32, .inl mU)), (m6, .inl (o6, 32, .inl mR))] := hD
  refine lv_aload_n hx hb d_M_ranked_4 rfl (lv_at hl 0 rfl) ?_
  refine lv_iload_n hx hb d_M_ranked_5 rfl (lv_at hl 1 rfl) ?_
  refine lv_if_lt (tgt := 17) hx hb d_M_ranked_6 rfl (fun hc6 => ?_) (fun hc6 => ?_)
  · refine lv_iconst (v := nI 1) hx hb d_M_ranked_17 (by decide) ?_
    refine lv_goto (tgt := 22) hx hb d_M_ranked_18 rfl ?_
    refine va_put (D := D) (ci := 5) (v := .int (nI 1)) (ty := .int) (C := R_M) (T := F_M) (N := 10) hx hb hB in_M t_M t_M_ok n_M hown hK hP hD hS 0 rfl rfl 0 (by decide) (hB _ mf_M_31) (fun _ h9 => h9) rfl (by decide +kernel) rfl rfl (Nat.le_of_ble_eq_true rfl) d_M_ranked_22 (fun H locs hP hD hS => ?_)
    have hP : va_P D cls [(mo, .inr (5, [.int (nI 1), .int mn, .ref m0, .int (nI (ct h)), .ref m1, .ref m2, .ref m3, .ref m4, .ref m5, .ref m6])), (m0, .inl (o0, 16, .inl h)), (m1, .inl (o1, 16, .inl (fun k => if k < ct h then nI (nx h (pl h k)) else mO k))), (m2, .inl (o2, 16, .inl (GR h))), (m3, .inl (o3, 16, .inl mF)), (m4, .inl (o4, 32, .inl mA)), (m5, .inl (o5, 32, .inl mU)), (m6, .inl (o6, 32, .inl mR))] H := hP
    have hD : va_D A [(mo, .inr (5, [.int (nI 1), .int mn, .ref m0, .int (nI (ct h)), .ref m1, .ref m2, .ref m3, .ref m4, .ref m5, .ref m6])), (m0, .inl (o0, 16, .inl h)), (m1, .inl (o1, 16, .inl (fun k => if k < ct h then nI (nx h (pl h k)) else mO k))), (m2, .inl (o2, 16, .inl (GR h))), (m3, .inl (o3, 16, .inl mF)), (m4, .inl (o4, 32, .inl mA)), (m5, .inl (o5, 32, .inl mU)), (m6, .inl (o6, 32, .inl mR))] := hD
    refine lv_aload_n hx hb d_M_ranked_25 rfl (lv_at hl 0 rfl) ?_
    refine va_get (D := D) (ci := 5) (v := .int (nI 1)) (C := R_M) (T := F_M) (N := 10) hx hb hB in_M hown hK hP 0 rfl rfl 0 (by decide) (hB _ mf_M_31) (fun _ h9 => h9) rfl d_M_ranked_26 ?_
    refine lv_if_le (tgt := 36) hx hb d_M_ranked_29 rfl (fun hc29 => absurd hc29 (by decide)) (fun _ => ?_)
    refine lv_iconst (v := nI 0) hx hb d_M_ranked_32 (by decide) ?_
    refine lv_goto (tgt := 42) hx hb d_M_ranked_33 rfl ?_
    have hP9 := hP.sub (ws' := [(mo, .inr (5, [.int (nI 1), .int mn, .ref m0, .int (nI (ct h)), .ref m1, .ref m2, .ref m3, .ref m4, .ref m5, .ref m6])), (m0, .inl (o0, 16, .inl h)), (m1, .inl (o1, 16, .inl (fun k => if k < ct h then nI (nx h (pl h k)) else mO k))), (m2, .inl (o2, 16, .inl (GR h))), (m3, .inl (o3, 16, .inl mF)), (m4, .inl (o4, 32, .inl mA)), (m5, .inl (o5, 32, .inl mU)), (m6, .inl (o6, 32, .inl mR))]) [0, 1, 2, 3, 4, 5, 6, 7] rfl
    have hD9 := hD.sub (ws' := [(mo, .inr (5, [.int (nI 1), .int mn, .ref m0, .int (nI (ct h)), .ref m1, .ref m2, .ref m3, .ref m4, .ref m5, .ref m6])), (m0, .inl (o0, 16, .inl h)), (m1, .inl (o1, 16, .inl (fun k => if k < ct h then nI (nx h (pl h k)) else mO k))), (m2, .inl (o2, 16, .inl (GR h))), (m3, .inl (o3, 16, .inl mF)), (m4, .inl (o4, 32, .inl mA)), (m5, .inl (o5, 32, .inl mU)), (m6, .inl (o6, 32, .inl mR))]) [0, 1, 2, 3, 4, 5, 6, 7] (by decide) rfl
    subst hAe
    exact W.iret (v := nI 0) hx hb hr (fun t ht hW => ⟨⟨_, (), rfl, rfl, by rw [ht]; exact hP9, va_K.moved hW.alike hK, hD9⟩, hS.F ht⟩) hS.2.2 d_M_ranked_42
  · refine lv_iload_n hx hb d_M_ranked_9 rfl (lv_at hl 1 rfl) ?_
    refine lv_aload_n hx hb d_M_ranked_10 rfl (lv_at hl 0 rfl) ?_
    refine va_get (D := D) (ci := 5) (v := .int (nI (ct h))) (C := R_M) (T := F_M) (N := 10) hx hb hB in_M hown hK hP 0 rfl rfl 3 (by decide) (hB _ mf_M_58) (fun _ h9 => h9) rfl d_M_ranked_11 ?_
    refine lv_icmp_lt (tgt := 21) hx hb d_M_ranked_14 rfl (fun hc14 => ?_) (fun hc14 => ?_)
    · exact (hb9.elim (fun q9 => absurd q9 hc6) (fun q9 => absurd hc14 q9))
    · refine lv_iconst (v := nI 1) hx hb d_M_ranked_17 (by decide) ?_
      refine lv_goto (tgt := 22) hx hb d_M_ranked_18 rfl ?_
      refine va_put (D := D) (ci := 5) (v := .int (nI 1)) (ty := .int) (C := R_M) (T := F_M) (N := 10) hx hb hB in_M t_M t_M_ok n_M hown hK hP hD hS 0 rfl rfl 0 (by decide) (hB _ mf_M_31) (fun _ h9 => h9) rfl (by decide +kernel) rfl rfl (Nat.le_of_ble_eq_true rfl) d_M_ranked_22 (fun H locs hP hD hS => ?_)
      have hP : va_P D cls [(mo, .inr (5, [.int (nI 1), .int mn, .ref m0, .int (nI (ct h)), .ref m1, .ref m2, .ref m3, .ref m4, .ref m5, .ref m6])), (m0, .inl (o0, 16, .inl h)), (m1, .inl (o1, 16, .inl (fun k => if k < ct h then nI (nx h (pl h k)) else mO k))), (m2, .inl (o2, 16, .inl (GR h))), (m3, .inl (o3, 16, .inl mF)), (m4, .inl (o4, 32, .inl mA)), (m5, .inl (o5, 32, .inl mU)), (m6, .inl (o6, 32, .inl mR))] H := hP
      have hD : va_D A [(mo, .inr (5, [.int (nI 1), .int mn, .ref m0, .int (nI (ct h)), .ref m1, .ref m2, .ref m3, .ref m4, .ref m5, .ref m6])), (m0, .inl (o0, 16, .inl h)), (m1, .inl (o1, 16, .inl (fun k => if k < ct h then nI (nx h (pl h k)) else mO k))), (m2, .inl (o2, 16, .inl (GR h))), (m3, .inl (o3, 16, .inl mF)), (m4, .inl (o4, 32, .inl mA)), (m5, .inl (o5, 32, .inl mU)), (m6, .inl (o6, 32, .inl mR))] := hD
      refine lv_aload_n hx hb d_M_ranked_25 rfl (lv_at hl 0 rfl) ?_
      refine va_get (D := D) (ci := 5) (v := .int (nI 1)) (C := R_M) (T := F_M) (N := 10) hx hb hB in_M hown hK hP 0 rfl rfl 0 (by decide) (hB _ mf_M_31) (fun _ h9 => h9) rfl d_M_ranked_26 ?_
      refine lv_if_le (tgt := 36) hx hb d_M_ranked_29 rfl (fun hc29 => absurd hc29 (by decide)) (fun _ => ?_)
      refine lv_iconst (v := nI 0) hx hb d_M_ranked_32 (by decide) ?_
      refine lv_goto (tgt := 42) hx hb d_M_ranked_33 rfl ?_
      have hP9 := hP.sub (ws' := [(mo, .inr (5, [.int (nI 1), .int mn, .ref m0, .int (nI (ct h)), .ref m1, .ref m2, .ref m3, .ref m4, .ref m5, .ref m6])), (m0, .inl (o0, 16, .inl h)), (m1, .inl (o1, 16, .inl (fun k => if k < ct h then nI (nx h (pl h k)) else mO k))), (m2, .inl (o2, 16, .inl (GR h))), (m3, .inl (o3, 16, .inl mF)), (m4, .inl (o4, 32, .inl mA)), (m5, .inl (o5, 32, .inl mU)), (m6, .inl (o6, 32, .inl mR))]) [0, 1, 2, 3, 4, 5, 6, 7] rfl
      have hD9 := hD.sub (ws' := [(mo, .inr (5, [.int (nI 1), .int mn, .ref m0, .int (nI (ct h)), .ref m1, .ref m2, .ref m3, .ref m4, .ref m5, .ref m6])), (m0, .inl (o0, 16, .inl h)), (m1, .inl (o1, 16, .inl (fun k => if k < ct h then nI (nx h (pl h k)) else mO k))), (m2, .inl (o2, 16, .inl (GR h))), (m3, .inl (o3, 16, .inl mF)), (m4, .inl (o4, 32, .inl mA)), (m5, .inl (o5, 32, .inl mU)), (m6, .inl (o6, 32, .inl mR))]) [0, 1, 2, 3, 4, 5, 6, 7] (by decide) rfl
      subst hAe
      exact W.iret (v := nI 0) hx hb hr (fun t ht hW => ⟨⟨_, (), rfl, rfl, by rw [ht]; exact hP9, va_K.moved hW.alike hK, hD9⟩, hS.F ht⟩) hS.2.2 d_M_ranked_42
set_option maxHeartbeats 4000000 in
set_option maxRecDepth 100000 in
theorem k_M_reaches_ok (l : Launch) (D : va_G) (mo m0 m1 m2 m3 m4 m5 m6 : Nat) (o0 o1 o2 o3 o4 o5 o6 : ClassId) (mc : Int32) (mn : Int32) (mg : Int32) (h : Nat → Int32) (mO : Nat → Int32) (mG : Nat → Int32) (mF : Nat → Int32) (mA : Nat → Int32) (mU : Nat → Int32) (mR : Nat → Int32) (hg : gd h) (u v : Nat) (hu : u < 16) (hv : v < 16) (sz : Nat) : Met l y_M_reaches (Cond.code y_M_reaches c_M_reaches 3 (some .boolean) :: BS) { frames := 3, cells := 0, slots := 0, locals := 67 } (va_Pc [.ref mo, .int (nI u), .int (nI v)] (xWp D [(mo, .inr (5, [.int mc, .int mn, .ref m0, .int mg, .ref m1, .ref m2, .ref m3, .ref m4, .ref m5, .ref m6])), (m0, .inl (o0, 16, .inl h)), (m1, .inl (o1, 16, .inl mO)), (m2, .inl (o2, 16, .inl mG)), (m3, .inl (o3, 16, .inl mF)), (m4, .inl (o4, 32, .inl mA)), (m5, .inl (o5, 32, .inl mU)), (m6, .inl (o6, 32, .inl mR))] [(o0, .int), (o1, .int), (o2, .int), (o3, .int), (o4, .int), (o5, .int), (o6, .int)] sz)) (xQi D [(mo, .inr (5, [.int mc, .int mn, .ref m0, .int mg, .ref m1, .ref m2, .ref m3, .ref m4, .ref m5, .ref m6])), (m0, .inl (o0, 16, .inl h)), (m1, .inl (o1, 16, .inl mO)), (m2, .inl (o2, 16, .inl mG)), (m3, .inl (o3, 16, .inl mF)), (m4, .inl (o4, 32, .inl mA)), (m5, .inl (o5, 32, .inl mU)), (m6, .inl (o6, 32, .inl mR))] [(mo, .inr (5, [.int (nI 0), .int mn, .ref m0, .int mg, .ref m1, .ref m2, .ref m3, .ref m4, .ref m5, .ref m6])), (m0, .inl (o0, 16, .inl h)), (m1, .inl (o1, 16, .inl mO)), (m2, .inl (o2, 16, .inl mG)), (m3, .inl (o3, 16, .inl mF)), (m4, .inl (o4, 32, .inl mA)), (m5, .inl (o5, 32, .inl mU)), (m6, .inl (o6, 32, .inl mR))] [(o0, .int), (o1, .int), (o2, .int), (o3, .int), (o4, .int), (o5, .int), (o6, .int)] sz (b2i (bt (RE h u) v))) 0 0 (va_A [(mo, .inr (5, [.int mc, .int mn, .ref m0, .int mg, .ref m1, .ref m2, .ref m3, .ref m4, .ref m5, .ref m6])), (m0, .inl (o0, 16, .inl h)), (m1, .inl (o1, 16, .inl mO)), (m2, .inl (o2, 16, .inl mG)), (m3, .inl (o3, 16, .inl mF)), (m4, .inl (o4, 32, .inl mA)), (m5, .inl (o5, 32, .inl mU)), (m6, .inl (o6, 32, .inl mR))] sz) := by
  refine Met.ofW (cc := c_M_reaches) (maxL := 3) (ret := (some .boolean)) (by decide) rfl ?_
  intro p e s m args below meth c s₁ B hml hv
  obtain ⟨rfl, hsz, hP, hK, hD0, hN⟩ := hv
  have hx := B.exec
  have hb := B.bytes
  have hr := B.returns
  have hB := xB B.pre
  have hown : s.vm.findClass R_M = some m.cls := findClass_of_methodNamed B.named
  have hlocks := B.notSynchronized
  subst hsz
  have hD := hD0.self (sz := s.heap.size)
  obtain ⟨A, hAe⟩ : ∃ A, A = va_A [(mo, .inr (5, [.int mc, .int mn, .ref m0, .int mg, .ref m1, .ref m2, .ref m3, .ref m4, .ref m5, .ref m6])), (m0, .inl (o0, 16, .inl h)), (m1, .inl (o1, 16, .inl mO)), (m2, .inl (o2, 16, .inl mG)), (m3, .inl (o3, 16, .inl mF)), (m4, .inl (o4, 32, .inl mA)), (m5, .inl (o5, 32, .inl mU)), (m6, .inl (o6, 32, .inl mR))] s.heap.size := ⟨_, rfl⟩
  rw [← hAe] at hD
  have hA : ∀ q : Nat, s.heap.size ≤ q → A q := fun q h => by rw [hAe]; exact Or.inr h
  have hS : va_S A s.heap s.heap [] := va_S.rf
  have hl := lv_entry ([.ref mo, .int (nI u), .int (nI v)]) (n := 3) (Nat.le_of_ble_eq_true rfl)
  rw [lg_entry_eq]
  generalize (lg_sl ([.ref mo, .int (nI u), .int (nI v)]) ++ List.replicate (3 - (lg_sl ([.ref mo, .int (nI u), .int (nI v)])).length) Slot.unset).toArray = ls at hl ⊢
  have hl : lv_has ls 3 [(0, .ref mo), (1, .int (nI u)), (2, .int (nI v))] := hl
  refine lv_aload_n hx hb d_M_reaches_0 rfl (lv_at hl 0 rfl) ?_
  refine lv_iload_n hx hb d_M_reaches_1 rfl (lv_at hl 1 rfl) ?_
  refine lv_iload_n hx hb d_M_reaches_2 rfl (lv_at hl 2 rfl) ?_
  refine xw_i (wc := [(mo, .inr (5, [.int mc, .int mn, .ref m0, .int mg, .ref m1, .ref m2, .ref m3, .ref m4, .ref m5, .ref m6])), (m0, .inl (o0, 16, .inl h)), (m1, .inl (o1, 16, .inl mO)), (m2, .inl (o2, 16, .inl mG)), (m3, .inl (o3, 16, .inl mF)), (m4, .inl (o4, 32, .inl mA)), (m5, .inl (o5, 32, .inl mU)), (m6, .inl (o6, 32, .inl mR))]) (wr := []) (w1 := [(mo, .inr (5, [.int (b2i (!(isP (nI u) && isP (nI v)))), .int mn, .ref m0, .int mg, .ref m1, .ref m2, .ref m3, .ref m4, .ref m5, .ref m6])), (m0, .inl (o0, 16, .inl h)), (m1, .inl (o1, 16, .inl mO)), (m2, .inl (o2, 16, .inl mG)), (m3, .inl (o3, 16, .inl mF)), (m4, .inl (o4, 32, .inl mA)), (m5, .inl (o5, 32, .inl mU)), (m6, .inl (o6, 32, .inl mR))]) (va_runV (As := [.int (nI u), .int (nI v)]) (rest := []) ⟨hx, hb, hml, hown, hB⟩ (k_M_lacks l D mo m0 m1 m2 m3 m4 m5 m6 o0 o1 o2 o3 o4 o5 o6 mc mn mg h mO mG mF mA mU mR (nI u) (nI v) _) ⟨callB_of 2 hB (xg0 mc_M_lacks) rfl rfl rfl (hB _ mz_M) (hB _ ml_M_67) (by decide +kernel) ⟨Nat.le_of_ble_eq_true rfl, Nat.le_of_ble_eq_true rfl⟩, hB _ mi_M_lacks, hB _ me_M_lacks⟩ (xqV (ws := [(mo, .inr (5, [.int mc, .int mn, .ref m0, .int mg, .ref m1, .ref m2, .ref m3, .ref m4, .ref m5, .ref m6])), (m0, .inl (o0, 16, .inl h)), (m1, .inl (o1, 16, .inl mO)), (m2, .inl (o2, 16, .inl mG)), (m3, .inl (o3, 16, .inl mF)), (m4, .inl (o4, 32, .inl mA)), (m5, .inl (o5, 32, .inl mU)), (m6, .inl (o6, 32, .inl mR))]) (tys := [(o0, .int), (o1, .int), (o2, .int), (o3, .int), (o4, .int), (o5, .int), (o6, .int)]) (hP.sub [0, 1, 2, 3, 4, 5, 6, 7] rfl) (hD.sub [0, 1, 2, 3, 4, 5, 6, 7] (by decide) rfl) (hK.sub [0, 1, 2, 3, 4, 5, 6] rfl) hN (va_recv (ci := 5) (q0 := 0) (q := (R_M, F_M, 10)) hK hP rfl rfl)) rfl rfl hl.1 rfl (lv_room (Nat.le_of_ble_eq_true rfl)) d_M_reaches_3 ⟨Nat.le_of_ble_eq_true rfl, Nat.le_of_ble_eq_true rfl⟩) hP hD hS hA [0, 1, 2, 3, 4, 5, 6, 7] [] rfl rfl (by decide) (by decide) (fun H locs hP hD hS => ?_)
  have hP : va_P D cls [(mo, .inr (5, [.int (b2i (!(isP (nI u) && isP (nI v)))), .int mn, .ref m0, .int mg, .ref m1, .ref m2, .ref m3, .ref m4, .ref m5, .ref m6])), (m0, .inl (o0, 16, .inl h)), (m1, .inl (o1, 16, .inl mO)), (m2, .inl (o2, 16, .inl mG)), (m3, .inl (o3, 16, .inl mF)), (m4, .inl (o4, 32, .inl mA)), (m5, .inl (o5, 32, .inl mU)), (m6, .inl (o6, 32, .inl mR))] H := hP
  have hD : va_D A [(mo, .inr (5, [.int (b2i (!(isP (nI u) && isP (nI v)))), .int mn, .ref m0, .int mg, .ref m1, .ref m2, .ref m3, .ref m4, .ref m5, .ref m6])), (m0, .inl (o0, 16, .inl h)), (m1, .inl (o1, 16, .inl mO)), (m2, .inl (o2, 16, .inl mG)), (m3, .inl (o3, 16, .inl mF)), (m4, .inl (o4, 32, .inl mA)), (m5, .inl (o5, 32, .inl mU)), (m6, .inl (o6, 32, .inl mR))] := hD
  have hz : (b2i (!(isP (nI u) && isP (nI v)))) = nI 0 := by rw [isP2 (by omega) (by omega)]; rfl
  rw [hz] at hP hD
  refine lv_if_ne (tgt := 25) hx hb d_M_reaches_6 rfl (fun hc6 => ?_) (fun hc6 => ?_)
  · have hc6 := b2i_n.mp hc6
    exact absurd hc6 (by rw [isP2 (by omega) (by omega)]; decide)
  · have hc6 := b2i_0.mp hc6
    refine lv_aload_n hx hb d_M_reaches_9 rfl (lv_at hl 0 rfl) ?_
    refine lv_iload_n hx hb d_M_reaches_10 rfl (lv_at hl 1 rfl) ?_
    refine xr_cal (va_runV (As := [.int (nI u)]) (rest := []) ⟨hx, hb, hml, hown, hB⟩ (k_M_reach l D mo m0 m1 m2 m3 m4 m5 m6 o0 o1 o2 o3 o4 o5 o6 (nI 0) mn mg h mO mG mF mA mU mR hg u (by omega)) ⟨callB_of 1 hB (xg0 mc_M_reach) rfl rfl rfl (hB _ mz_M) (hB _ ml_M_51) (by decide +kernel) ⟨Nat.le_of_ble_eq_true rfl, Nat.le_of_ble_eq_true rfl⟩, hB _ mi_M_reach, hB _ me_M_reach⟩ (xpV (ws := [(mo, .inr (5, [.int (nI 0), .int mn, .ref m0, .int mg, .ref m1, .ref m2, .ref m3, .ref m4, .ref m5, .ref m6])), (m0, .inl (o0, 16, .inl h)), (m1, .inl (o1, 16, .inl mO)), (m2, .inl (o2, 16, .inl mG)), (m3, .inl (o3, 16, .inl mF)), (m4, .inl (o4, 32, .inl mA)), (m5, .inl (o5, 32, .inl mU)), (m6, .inl (o6, 32, .inl mR))]) (tys := [(o0, .int), (o1, .int), (o2, .int), (o3, .int), (o4, .int), (o5, .int), (o6, .int)]) (hP.sub [0, 1, 2, 3, 4, 5, 6, 7] rfl) (hK.sub [0, 1, 2, 3, 4, 5, 6] rfl) hN (va_recv (ci := 5) (q0 := 0) (q := (R_M, F_M, 10)) hK hP rfl rfl)) rfl rfl hl.1 rfl (lv_room (Nat.le_of_ble_eq_true rfl)) d_M_reaches_11 ⟨Nat.le_of_ble_eq_true rfl, Nat.le_of_ble_eq_true rfl⟩) ?_
    refine lv_iload_n hx hb d_M_reaches_14 rfl (lv_at hl 2 rfl) ?_
    refine xr_cal (va_runS (As := [.int (RE h u), .int (nI v)]) (rest := []) ⟨hx, hb, hml, hown, hB⟩ (k_M_has l D  (RE h u) v (by omega)) ⟨callB_of 2 hB (xg0 mc_M_has) rfl rfl rfl (hB _ mz_M) (hB _ ml_M_35) (by decide +kernel) ⟨Nat.le_of_ble_eq_true rfl, Nat.le_of_ble_eq_true rfl⟩, hB _ ms_M_has⟩ (xpS (ws := []) (tys := []) (hP.sub [] rfl) (hK.sub [] rfl) hN) rfl rfl hl.1 rfl (lv_room (Nat.le_of_ble_eq_true rfl)) d_M_reaches_15 ⟨Nat.le_of_ble_eq_true rfl, Nat.le_of_ble_eq_true rfl⟩) ?_
    refine lv_if_eq (tgt := 25) hx hb d_M_reaches_18 rfl (fun hc18 => ?_) (fun hc18 => ?_)
    · have hc18 := b2i_0.mp hc18
      refine lv_iconst (v := nI 0) hx hb d_M_reaches_25 (by decide) ?_
      have hP9 := hP.sub (ws' := [(mo, .inr (5, [.int (nI 0), .int mn, .ref m0, .int mg, .ref m1, .ref m2, .ref m3, .ref m4, .ref m5, .ref m6])), (m0, .inl (o0, 16, .inl h)), (m1, .inl (o1, 16, .inl mO)), (m2, .inl (o2, 16, .inl mG)), (m3, .inl (o3, 16, .inl mF)), (m4, .inl (o4, 32, .inl mA)), (m5, .inl (o5, 32, .inl mU)), (m6, .inl (o6, 32, .inl mR))]) [0, 1, 2, 3, 4, 5, 6, 7] rfl
      have hD9 := hD.sub (ws' := [(mo, .inr (5, [.int (nI 0), .int mn, .ref m0, .int mg, .ref m1, .ref m2, .ref m3, .ref m4, .ref m5, .ref m6])), (m0, .inl (o0, 16, .inl h)), (m1, .inl (o1, 16, .inl mO)), (m2, .inl (o2, 16, .inl mG)), (m3, .inl (o3, 16, .inl mF)), (m4, .inl (o4, 32, .inl mA)), (m5, .inl (o5, 32, .inl mU)), (m6, .inl (o6, 32, .inl mR))]) [0, 1, 2, 3, 4, 5, 6, 7] (by decide) rfl
      subst hAe
      refine xv_top (x' := b2i (bt (RE h u) v)) (by rw [hc18]; rfl) ?_
      exact W.zret (v := b2i (bt (RE h u) v)) hx hb hr (b2i_nar _) (fun t ht hW => ⟨⟨_, (), rfl, rfl, by rw [ht]; exact hP9, va_K.moved hW.alike hK, hD9⟩, hS.F ht⟩) hS.2.2 d_M_reaches_26
    · have hc18 := b2i_n.mp hc18
      refine lv_iconst (v := nI 1) hx hb d_M_reaches_21 (by decide) ?_
      refine lv_goto (tgt := 26) hx hb d_M_reaches_22 rfl ?_
      have hP9 := hP.sub (ws' := [(mo, .inr (5, [.int (nI 0), .int mn, .ref m0, .int mg, .ref m1, .ref m2, .ref m3, .ref m4, .ref m5, .ref m6])), (m0, .inl (o0, 16, .inl h)), (m1, .inl (o1, 16, .inl mO)), (m2, .inl (o2, 16, .inl mG)), (m3, .inl (o3, 16, .inl mF)), (m4, .inl (o4, 32, .inl mA)), (m5, .inl (o5, 32, .inl mU)), (m6, .inl (o6, 32, .inl mR))]) [0, 1, 2, 3, 4, 5, 6, 7] rfl
      have hD9 := hD.sub (ws' := [(mo, .inr (5, [.int (nI 0), .int mn, .ref m0, .int mg, .ref m1, .ref m2, .ref m3, .ref m4, .ref m5, .ref m6])), (m0, .inl (o0, 16, .inl h)), (m1, .inl (o1, 16, .inl mO)), (m2, .inl (o2, 16, .inl mG)), (m3, .inl (o3, 16, .inl mF)), (m4, .inl (o4, 32, .inl mA)), (m5, .inl (o5, 32, .inl mU)), (m6, .inl (o6, 32, .inl mR))]) [0, 1, 2, 3, 4, 5, 6, 7] (by decide) rfl
      subst hAe
      refine xv_top (x' := b2i (bt (RE h u) v)) (by rw [hc18]; rfl) ?_
      exact W.zret (v := b2i (bt (RE h u) v)) hx hb hr (b2i_nar _) (fun t ht hW => ⟨⟨_, (), rfl, rfl, by rw [ht]; exact hP9, va_K.moved hW.alike hK, hD9⟩, hS.F ht⟩) hS.2.2 d_M_reaches_26
set_option maxHeartbeats 4000000 in
set_option maxRecDepth 100000 in
theorem k_M_distance_ok (l : Launch) (D : va_G) (mo m0 m1 m2 m3 m4 m5 m6 : Nat) (o0 o1 o2 o3 o4 o5 o6 : ClassId) (mc : Int32) (mn : Int32) (mg : Int32) (h : Nat → Int32) (mO : Nat → Int32) (mG : Nat → Int32) (mF : Nat → Int32) (mA : Nat → Int32) (mU : Nat → Int32) (mR : Nat → Int32) (hg : gd h) (u v : Nat) (hu : u < 16) (hv : v < 16) (sz : Nat) : Met l y_M_distance (Cond.code y_M_distance c_M_distance 3 (some .int) :: BS) { frames := 2, cells := 0, slots := 0, locals := 46 } (va_Pc [.ref mo, .int (nI u), .int (nI v)] (xWp D [(mo, .inr (5, [.int mc, .int mn, .ref m0, .int mg, .ref m1, .ref m2, .ref m3, .ref m4, .ref m5, .ref m6])), (m0, .inl (o0, 16, .inl h)), (m1, .inl (o1, 16, .inl mO)), (m2, .inl (o2, 16, .inl mG)), (m3, .inl (o3, 16, .inl mF)), (m4, .inl (o4, 32, .inl mA)), (m5, .inl (o5, 32, .inl mU)), (m6, .inl (o6, 32, .inl mR))] [(o0, .int), (o1, .int), (o2, .int), (o3, .int), (o4, .int), (o5, .int), (o6, .int)] sz)) (xQi D [(mo, .inr (5, [.int mc, .int mn, .ref m0, .int mg, .ref m1, .ref m2, .ref m3, .ref m4, .ref m5, .ref m6])), (m0, .inl (o0, 16, .inl h)), (m1, .inl (o1, 16, .inl mO)), (m2, .inl (o2, 16, .inl mG)), (m3, .inl (o3, 16, .inl mF)), (m4, .inl (o4, 32, .inl mA)), (m5, .inl (o5, 32, .inl mU)), (m6, .inl (o6, 32, .inl mR))] [(mo, .inr (5, [.int (nI 0), .int mn, .ref m0, .int mg, .ref m1, .ref m2, .ref m3, .ref m4, .ref m5, .ref m6])), (m0, .inl (o0, 16, .inl h)), (m1, .inl (o1, 16, .inl mO)), (m2, .inl (o2, 16, .inl mG)), (m3, .inl (o3, 16, .inl (fun k => DS h k v))), (m4, .inl (o4, 32, .inl mA)), (m5, .inl (o5, 32, .inl mU)), (m6, .inl (o6, 32, .inl mR))] [(o0, .int), (o1, .int), (o2, .int), (o3, .int), (o4, .int), (o5, .int), (o6, .int)] sz (DS h u v)) 0 0 (va_A [(mo, .inr (5, [.int mc, .int mn, .ref m0, .int mg, .ref m1, .ref m2, .ref m3, .ref m4, .ref m5, .ref m6])), (m0, .inl (o0, 16, .inl h)), (m1, .inl (o1, 16, .inl mO)), (m2, .inl (o2, 16, .inl mG)), (m3, .inl (o3, 16, .inl mF)), (m4, .inl (o4, 32, .inl mA)), (m5, .inl (o5, 32, .inl mU)), (m6, .inl (o6, 32, .inl mR))] sz) := by
  refine Met.ofW (cc := c_M_distance) (maxL := 3) (ret := (some .int)) (by decide) rfl ?_
  intro p e s m args below meth c s₁ B hml hv
  obtain ⟨rfl, hsz, hP, hK, hD0, hN⟩ := hv
  have hx := B.exec
  have hb := B.bytes
  have hr := B.returns
  have hB := xB B.pre
  have hown : s.vm.findClass R_M = some m.cls := findClass_of_methodNamed B.named
  have hlocks := B.notSynchronized
  subst hsz
  have hD := hD0.self (sz := s.heap.size)
  obtain ⟨A, hAe⟩ : ∃ A, A = va_A [(mo, .inr (5, [.int mc, .int mn, .ref m0, .int mg, .ref m1, .ref m2, .ref m3, .ref m4, .ref m5, .ref m6])), (m0, .inl (o0, 16, .inl h)), (m1, .inl (o1, 16, .inl mO)), (m2, .inl (o2, 16, .inl mG)), (m3, .inl (o3, 16, .inl mF)), (m4, .inl (o4, 32, .inl mA)), (m5, .inl (o5, 32, .inl mU)), (m6, .inl (o6, 32, .inl mR))] s.heap.size := ⟨_, rfl⟩
  rw [← hAe] at hD
  have hA : ∀ q : Nat, s.heap.size ≤ q → A q := fun q h => by rw [hAe]; exact Or.inr h
  have hS : va_S A s.heap s.heap [] := va_S.rf
  have hl := lv_entry ([.ref mo, .int (nI u), .int (nI v)]) (n := 3) (Nat.le_of_ble_eq_true rfl)
  rw [lg_entry_eq]
  generalize (lg_sl ([.ref mo, .int (nI u), .int (nI v)]) ++ List.replicate (3 - (lg_sl ([.ref mo, .int (nI u), .int (nI v)])).length) Slot.unset).toArray = ls at hl ⊢
  have hl : lv_has ls 3 [(0, .ref mo), (1, .int (nI u)), (2, .int (nI v))] := hl
  refine lv_aload_n hx hb d_M_distance_0 rfl (lv_at hl 0 rfl) ?_
  refine lv_iload_n hx hb d_M_distance_1 rfl (lv_at hl 1 rfl) ?_
  refine lv_iload_n hx hb d_M_distance_2 rfl (lv_at hl 2 rfl) ?_
  refine xw_i (wc := [(mo, .inr (5, [.int mc, .int mn, .ref m0, .int mg, .ref m1, .ref m2, .ref m3, .ref m4, .ref m5, .ref m6])), (m0, .inl (o0, 16, .inl h)), (m1, .inl (o1, 16, .inl mO)), (m2, .inl (o2, 16, .inl mG)), (m3, .inl (o3, 16, .inl mF)), (m4, .inl (o4, 32, .inl mA)), (m5, .inl (o5, 32, .inl mU)), (m6, .inl (o6, 32, .inl mR))]) (wr := []) (w1 := [(mo, .inr (5, [.int (b2i (!(isP (nI u) && isP (nI v)))), .int mn, .ref m0, .int mg, .ref m1, .ref m2, .ref m3, .ref m4, .ref m5, .ref m6])), (m0, .inl (o0, 16, .inl h)), (m1, .inl (o1, 16, .inl mO)), (m2, .inl (o2, 16, .inl mG)), (m3, .inl (o3, 16, .inl mF)), (m4, .inl (o4, 32, .inl mA)), (m5, .inl (o5, 32, .inl mU)), (m6, .inl (o6, 32, .inl mR))]) (va_runV (As := [.int (nI u), .int (nI v)]) (rest := []) ⟨hx, hb, hml, hown, hB⟩ (k_M_lacks l D mo m0 m1 m2 m3 m4 m5 m6 o0 o1 o2 o3 o4 o5 o6 mc mn mg h mO mG mF mA mU mR (nI u) (nI v) _) ⟨callB_of 2 hB (xg0 mc_M_lacks) rfl rfl rfl (hB _ mz_M) (hB _ ml_M_67) (by decide +kernel) ⟨Nat.le_of_ble_eq_true rfl, Nat.le_of_ble_eq_true rfl⟩, hB _ mi_M_lacks, hB _ me_M_lacks⟩ (xqV (ws := [(mo, .inr (5, [.int mc, .int mn, .ref m0, .int mg, .ref m1, .ref m2, .ref m3, .ref m4, .ref m5, .ref m6])), (m0, .inl (o0, 16, .inl h)), (m1, .inl (o1, 16, .inl mO)), (m2, .inl (o2, 16, .inl mG)), (m3, .inl (o3, 16, .inl mF)), (m4, .inl (o4, 32, .inl mA)), (m5, .inl (o5, 32, .inl mU)), (m6, .inl (o6, 32, .inl mR))]) (tys := [(o0, .int), (o1, .int), (o2, .int), (o3, .int), (o4, .int), (o5, .int), (o6, .int)]) (hP.sub [0, 1, 2, 3, 4, 5, 6, 7] rfl) (hD.sub [0, 1, 2, 3, 4, 5, 6, 7] (by decide) rfl) (hK.sub [0, 1, 2, 3, 4, 5, 6] rfl) hN (va_recv (ci := 5) (q0 := 0) (q := (R_M, F_M, 10)) hK hP rfl rfl)) rfl rfl hl.1 rfl (lv_room (Nat.le_of_ble_eq_true rfl)) d_M_distance_3 ⟨Nat.le_of_ble_eq_true rfl, Nat.le_of_ble_eq_true rfl⟩) hP hD hS hA [0, 1, 2, 3, 4, 5, 6, 7] [] rfl rfl (by decide) (by decide) (fun H locs hP hD hS => ?_)
  have hP : va_P D cls [(mo, .inr (5, [.int (b2i (!(isP (nI u) && isP (nI v)))), .int mn, .ref m0, .int mg, .ref m1, .ref m2, .ref m3, .ref m4, .ref m5, .ref m6])), (m0, .inl (o0, 16, .inl h)), (m1, .inl (o1, 16, .inl mO)), (m2, .inl (o2, 16, .inl mG)), (m3, .inl (o3, 16, .inl mF)), (m4, .inl (o4, 32, .inl mA)), (m5, .inl (o5, 32, .inl mU)), (m6, .inl (o6, 32, .inl mR))] H := hP
  have hD : va_D A [(mo, .inr (5, [.int (b2i (!(isP (nI u) && isP (nI v)))), .int mn, .ref m0, .int mg, .ref m1, .ref m2, .ref m3, .ref m4, .ref m5, .ref m6])), (m0, .inl (o0, 16, .inl h)), (m1, .inl (o1, 16, .inl mO)), (m2, .inl (o2, 16, .inl mG)), (m3, .inl (o3, 16, .inl mF)), (m4, .inl (o4, 32, .inl mA)), (m5, .inl (o5, 32, .inl mU)), (m6, .inl (o6, 32, .inl mR))] := hD
  have hz : (b2i (!(isP (nI u) && isP (nI v)))) = nI 0 := by rw [isP2 (by omega) (by omega)]; rfl
  rw [hz] at hP hD
  refine lv_if_eq (tgt := 11) hx hb d_M_distance_6 rfl (fun hc6 => ?_) (fun hc6 => ?_)
  · have hc6 := b2i_0.mp hc6
    refine lv_aload_n hx hb d_M_distance_11 rfl (lv_at hl 0 rfl) ?_
    refine lv_iload_n hx hb d_M_distance_12 rfl (lv_at hl 2 rfl) ?_
    refine xw_v (wc := [(mo, .inr (5, [.int (nI 0), .int mn, .ref m0, .int mg, .ref m1, .ref m2, .ref m3, .ref m4, .ref m5, .ref m6])), (m0, .inl (o0, 16, .inl h)), (m1, .inl (o1, 16, .inl mO)), (m2, .inl (o2, 16, .inl mG)), (m3, .inl (o3, 16, .inl mF)), (m4, .inl (o4, 32, .inl mA)), (m5, .inl (o5, 32, .inl mU)), (m6, .inl (o6, 32, .inl mR))]) (wr := []) (w1 := [(mo, .inr (5, [.int (nI 0), .int mn, .ref m0, .int mg, .ref m1, .ref m2, .ref m3, .ref m4, .ref m5, .ref m6])), (m0, .inl (o0, 16, .inl h)), (m1, .inl (o1, 16, .inl mO)), (m2, .inl (o2, 16, .inl mG)), (m3, .inl (o3, 16, .inl (fun k => DS h k v))), (m4, .inl (o4, 32, .inl mA)), (m5, .inl (o5, 32, .inl mU)), (m6, .inl (o6, 32, .inl mR))]) (va_runV (As := [.int (nI v)]) (rest := []) ⟨hx, hb, hml, hown, hB⟩ (k_M_measure l D mo m0 m1 m2 m3 m4 m5 m6 o0 o1 o2 o3 o4 o5 o6 (nI 0) mn mg h mO mG mF mA mU mR hg v (by omega) _) ⟨callB_of 1 hB (xg0 mc_M_measure) rfl rfl rfl (hB _ mz_M) (hB _ ml_M_76) (by decide +kernel) ⟨Nat.le_of_ble_eq_true rfl, Nat.le_of_ble_eq_true rfl⟩, hB _ mi_M_measure, hB _ me_M_measure⟩ (xqV (ws := [(mo, .inr (5, [.int (nI 0), .int mn, .ref m0, .int mg, .ref m1, .ref m2, .ref m3, .ref m4, .ref m5, .ref m6])), (m0, .inl (o0, 16, .inl h)), (m1, .inl (o1, 16, .inl mO)), (m2, .inl (o2, 16, .inl mG)), (m3, .inl (o3, 16, .inl mF)), (m4, .inl (o4, 32, .inl mA)), (m5, .inl (o5, 32, .inl mU)), (m6, .inl (o6, 32, .inl mR))]) (tys := [(o0, .int), (o1, .int), (o2, .int), (o3, .int), (o4, .int), (o5, .int), (o6, .int)]) (hP.sub [0, 1, 2, 3, 4, 5, 6, 7] rfl) (hD.sub [0, 1, 2, 3, 4, 5, 6, 7] (by decide) rfl) (hK.sub [0, 1, 2, 3, 4, 5, 6] rfl) hN (va_recv (ci := 5) (q0 := 0) (q := (R_M, F_M, 10)) hK hP rfl rfl)) rfl rfl hl.1 rfl (lv_room (Nat.le_of_ble_eq_true rfl)) d_M_distance_13 ⟨Nat.le_of_ble_eq_true rfl, Nat.le_of_ble_eq_true rfl⟩) hP hD hS hA [0, 1, 2, 3, 4, 5, 6, 7] [] rfl rfl (by decide) (by decide) (fun H locs hP hD hS => ?_)
    have hP : va_P D cls [(mo, .inr (5, [.int (nI 0), .int mn, .ref m0, .int mg, .ref m1, .ref m2, .ref m3, .ref m4, .ref m5, .ref m6])), (m0, .inl (o0, 16, .inl h)), (m1, .inl (o1, 16, .inl mO)), (m2, .inl (o2, 16, .inl mG)), (m3, .inl (o3, 16, .inl (fun k => DS h k v))), (m4, .inl (o4, 32, .inl mA)), (m5, .inl (o5, 32, .inl mU)), (m6, .inl (o6, 32, .inl mR))] H := hP
    have hD : va_D A [(mo, .inr (5, [.int (nI 0), .int mn, .ref m0, .int mg, .ref m1, .ref m2, .ref m3, .ref m4, .ref m5, .ref m6])), (m0, .inl (o0, 16, .inl h)), (m1, .inl (o1, 16, .inl mO)), (m2, .inl (o2, 16, .inl mG)), (m3, .inl (o3, 16, .inl (fun k => DS h k v))), (m4, .inl (o4, 32, .inl mA)), (m5, .inl (o5, 32, .inl mU)), (m6, .inl (o6, 32, .inl mR))] := hD
    refine lv_aload_n hx hb d_M_distance_16 rfl (lv_at hl 0 rfl) ?_
    refine va_get (D := D) (ci := 5) (v := .ref m3) (C := R_M) (T := F_M) (N := 10) hx hb hB in_M hown hK hP 0 rfl rfl 6 (by decide) (hB _ mf_M_19) (fun _ h9 => h9) rfl d_M_distance_17 ?_
    refine lv_iload_n hx hb d_M_distance_20 rfl (lv_at hl 1 rfl) ?_
    refine xa_ld (u := u) hx hb hK hP 4 3 rfl rfl (by omega) (by decide) d_M_distance_21 ?_
    have hP9 := hP.sub (ws' := [(mo, .inr (5, [.int (nI 0), .int mn, .ref m0, .int mg, .ref m1, .ref m2, .ref m3, .ref m4, .ref m5, .ref m6])), (m0, .inl (o0, 16, .inl h)), (m1, .inl (o1, 16, .inl mO)), (m2, .inl (o2, 16, .inl mG)), (m3, .inl (o3, 16, .inl (fun k => DS h k v))), (m4, .inl (o4, 32, .inl mA)), (m5, .inl (o5, 32, .inl mU)), (m6, .inl (o6, 32, .inl mR))]) [0, 1, 2, 3, 4, 5, 6, 7] rfl
    have hD9 := hD.sub (ws' := [(mo, .inr (5, [.int (nI 0), .int mn, .ref m0, .int mg, .ref m1, .ref m2, .ref m3, .ref m4, .ref m5, .ref m6])), (m0, .inl (o0, 16, .inl h)), (m1, .inl (o1, 16, .inl mO)), (m2, .inl (o2, 16, .inl mG)), (m3, .inl (o3, 16, .inl (fun k => DS h k v))), (m4, .inl (o4, 32, .inl mA)), (m5, .inl (o5, 32, .inl mU)), (m6, .inl (o6, 32, .inl mR))]) [0, 1, 2, 3, 4, 5, 6, 7] (by decide) rfl
    subst hAe
    refine xv_top (x' := DS h u v) (rfl) ?_
    exact W.iret (v := DS h u v) hx hb hr (fun t ht hW => ⟨⟨_, (), rfl, rfl, by rw [ht]; exact hP9, va_K.moved hW.alike hK, hD9⟩, hS.F ht⟩) hS.2.2 d_M_distance_22
  · have hc6 := b2i_n.mp hc6
    exact absurd hc6 (by rw [isP2 (by omega) (by omega)]; decide)
set_option maxHeartbeats 4000000 in
set_option maxRecDepth 100000 in
theorem k_M_gated_ok (l : Launch) (D : va_G) (mo m0 m1 m2 m3 m4 m5 m6 : Nat) (o0 o1 o2 o3 o4 o5 o6 : ClassId) (mc : Int32) (mn : Int32) (mg : Int32) (h : Nat → Int32) (mO : Nat → Int32) (mG : Nat → Int32) (mF : Nat → Int32) (mA : Nat → Int32) (mU : Nat → Int32) (mR : Nat → Int32) (hg : gd h) (u v : Nat) (hu : u < 16) (hv : v < 16) (sz : Nat) : Met l y_M_gated (Cond.code y_M_gated c_M_gated 6 (some .int) :: BS) { frames := 3, cells := 0, slots := 0, locals := 69 } (va_Pc [.ref mo, .int (nI u), .int (nI v)] (xWp D [(mo, .inr (5, [.int mc, .int mn, .ref m0, .int mg, .ref m1, .ref m2, .ref m3, .ref m4, .ref m5, .ref m6])), (m0, .inl (o0, 16, .inl h)), (m1, .inl (o1, 16, .inl mO)), (m2, .inl (o2, 16, .inl mG)), (m3, .inl (o3, 16, .inl mF)), (m4, .inl (o4, 32, .inl mA)), (m5, .inl (o5, 32, .inl mU)), (m6, .inl (o6, 32, .inl mR))] [(o0, .int), (o1, .int), (o2, .int), (o3, .int), (o4, .int), (o5, .int), (o6, .int)] sz)) (xQi D [(mo, .inr (5, [.int mc, .int mn, .ref m0, .int mg, .ref m1, .ref m2, .ref m3, .ref m4, .ref m5, .ref m6])), (m0, .inl (o0, 16, .inl h)), (m1, .inl (o1, 16, .inl mO)), (m2, .inl (o2, 16, .inl mG)), (m3, .inl (o3, 16, .inl mF)), (m4, .inl (o4, 32, .inl mA)), (m5, .inl (o5, 32, .inl mU)), (m6, .inl (o6, 32, .inl mR))] [(mo, .inr (5, [.int (nI 0), .int mn, .ref m0, .int mg, .ref m1, .ref m2, .ref m3, .ref m4, .ref m5, .ref m6])), (m0, .inl (o0, 16, .inl h)), (m1, .inl (o1, 16, .inl mO)), (m2, .inl (o2, 16, .inl mG)), (m3, .inl (o3, 16, .inl mF)), (m4, .inl (o4, 32, .inl mA)), (m5, .inl (o5, 32, .inl mU)), (m6, .inl (o6, 32, .inl mR))] [(o0, .int), (o1, .int), (o2, .int), (o3, .int), (o4, .int), (o5, .int), (o6, .int)] sz (nI (cq (fun x9 => bt (RE h u) v && bt (RE h u) x9 && dpb h u x9 v) 16))) 0 0 (va_A [(mo, .inr (5, [.int mc, .int mn, .ref m0, .int mg, .ref m1, .ref m2, .ref m3, .ref m4, .ref m5, .ref m6])), (m0, .inl (o0, 16, .inl h)), (m1, .inl (o1, 16, .inl mO)), (m2, .inl (o2, 16, .inl mG)), (m3, .inl (o3, 16, .inl mF)), (m4, .inl (o4, 32, .inl mA)), (m5, .inl (o5, 32, .inl mU)), (m6, .inl (o6, 32, .inl mR))] sz) := by
  refine Met.ofW (cc := c_M_gated) (maxL := 6) (ret := (some .int)) (by decide) rfl ?_
  intro p e s m args below meth c s₁ B hml hv
  obtain ⟨rfl, hsz, hP, hK, hD0, hN⟩ := hv
  have hx := B.exec
  have hb := B.bytes
  have hr := B.returns
  have hB := xB B.pre
  have hown : s.vm.findClass R_M = some m.cls := findClass_of_methodNamed B.named
  have hlocks := B.notSynchronized
  subst hsz
  have hD := hD0.self (sz := s.heap.size)
  obtain ⟨A, hAe⟩ : ∃ A, A = va_A [(mo, .inr (5, [.int mc, .int mn, .ref m0, .int mg, .ref m1, .ref m2, .ref m3, .ref m4, .ref m5, .ref m6])), (m0, .inl (o0, 16, .inl h)), (m1, .inl (o1, 16, .inl mO)), (m2, .inl (o2, 16, .inl mG)), (m3, .inl (o3, 16, .inl mF)), (m4, .inl (o4, 32, .inl mA)), (m5, .inl (o5, 32, .inl mU)), (m6, .inl (o6, 32, .inl mR))] s.heap.size := ⟨_, rfl⟩
  rw [← hAe] at hD
  have hA : ∀ q : Nat, s.heap.size ≤ q → A q := fun q h => by rw [hAe]; exact Or.inr h
  have hS : va_S A s.heap s.heap [] := va_S.rf
  have hl := lv_entry ([.ref mo, .int (nI u), .int (nI v)]) (n := 6) (Nat.le_of_ble_eq_true rfl)
  rw [lg_entry_eq]
  generalize (lg_sl ([.ref mo, .int (nI u), .int (nI v)]) ++ List.replicate (6 - (lg_sl ([.ref mo, .int (nI u), .int (nI v)])).length) Slot.unset).toArray = ls at hl ⊢
  have hl : lv_has ls 6 [(0, .ref mo), (1, .int (nI u)), (2, .int (nI v))] := hl
  refine lv_aload_n hx hb d_M_gated_0 rfl (lv_at hl 0 rfl) ?_
  refine lv_iload_n hx hb d_M_gated_1 rfl (lv_at hl 1 rfl) ?_
  refine lv_iload_n hx hb d_M_gated_2 rfl (lv_at hl 2 rfl) ?_
  refine xw_i (wc := [(mo, .inr (5, [.int mc, .int mn, .ref m0, .int mg, .ref m1, .ref m2, .ref m3, .ref m4, .ref m5, .ref m6])), (m0, .inl (o0, 16, .inl h)), (m1, .inl (o1, 16, .inl mO)), (m2, .inl (o2, 16, .inl mG)), (m3, .inl (o3, 16, .inl mF)), (m4, .inl (o4, 32, .inl mA)), (m5, .inl (o5, 32, .inl mU)), (m6, .inl (o6, 32, .inl mR))]) (wr := []) (w1 := [(mo, .inr (5, [.int (b2i (!(isP (nI u) && isP (nI v)))), .int mn, .ref m0, .int mg, .ref m1, .ref m2, .ref m3, .ref m4, .ref m5, .ref m6])), (m0, .inl (o0, 16, .inl h)), (m1, .inl (o1, 16, .inl mO)), (m2, .inl (o2, 16, .inl mG)), (m3, .inl (o3, 16, .inl mF)), (m4, .inl (o4, 32, .inl mA)), (m5, .inl (o5, 32, .inl mU)), (m6, .inl (o6, 32, .inl mR))]) (va_runV (As := [.int (nI u), .int (nI v)]) (rest := []) ⟨hx, hb, hml, hown, hB⟩ (k_M_lacks l D mo m0 m1 m2 m3 m4 m5 m6 o0 o1 o2 o3 o4 o5 o6 mc mn mg h mO mG mF mA mU mR (nI u) (nI v) _) ⟨callB_of 2 hB (xg0 mc_M_lacks) rfl rfl rfl (hB _ mz_M) (hB _ ml_M_67) (by decide +kernel) ⟨Nat.le_of_ble_eq_true rfl, Nat.le_of_ble_eq_true rfl⟩, hB _ mi_M_lacks, hB _ me_M_lacks⟩ (xqV (ws := [(mo, .inr (5, [.int mc, .int mn, .ref m0, .int mg, .ref m1, .ref m2, .ref m3, .ref m4, .ref m5, .ref m6])), (m0, .inl (o0, 16, .inl h)), (m1, .inl (o1, 16, .inl mO)), (m2, .inl (o2, 16, .inl mG)), (m3, .inl (o3, 16, .inl mF)), (m4, .inl (o4, 32, .inl mA)), (m5, .inl (o5, 32, .inl mU)), (m6, .inl (o6, 32, .inl mR))]) (tys := [(o0, .int), (o1, .int), (o2, .int), (o3, .int), (o4, .int), (o5, .int), (o6, .int)]) (hP.sub [0, 1, 2, 3, 4, 5, 6, 7] rfl) (hD.sub [0, 1, 2, 3, 4, 5, 6, 7] (by decide) rfl) (hK.sub [0, 1, 2, 3, 4, 5, 6] rfl) hN (va_recv (ci := 5) (q0 := 0) (q := (R_M, F_M, 10)) hK hP rfl rfl)) rfl rfl hl.1 rfl (lv_room (Nat.le_of_ble_eq_true rfl)) d_M_gated_3 ⟨Nat.le_of_ble_eq_true rfl, Nat.le_of_ble_eq_true rfl⟩) hP hD hS hA [0, 1, 2, 3, 4, 5, 6, 7] [] rfl rfl (by decide) (by decide) (fun H locs hP hD hS => ?_)
  have hP : va_P D cls [(mo, .inr (5, [.int (b2i (!(isP (nI u) && isP (nI v)))), .int mn, .ref m0, .int mg, .ref m1, .ref m2, .ref m3, .ref m4, .ref m5, .ref m6])), (m0, .inl (o0, 16, .inl h)), (m1, .inl (o1, 16, .inl mO)), (m2, .inl (o2, 16, .inl mG)), (m3, .inl (o3, 16, .inl mF)), (m4, .inl (o4, 32, .inl mA)), (m5, .inl (o5, 32, .inl mU)), (m6, .inl (o6, 32, .inl mR))] H := hP
  have hD : va_D A [(mo, .inr (5, [.int (b2i (!(isP (nI u) && isP (nI v)))), .int mn, .ref m0, .int mg, .ref m1, .ref m2, .ref m3, .ref m4, .ref m5, .ref m6])), (m0, .inl (o0, 16, .inl h)), (m1, .inl (o1, 16, .inl mO)), (m2, .inl (o2, 16, .inl mG)), (m3, .inl (o3, 16, .inl mF)), (m4, .inl (o4, 32, .inl mA)), (m5, .inl (o5, 32, .inl mU)), (m6, .inl (o6, 32, .inl mR))] := hD
  have hz : (b2i (!(isP (nI u) && isP (nI v)))) = nI 0 := by rw [isP2 (by omega) (by omega)]; rfl
  rw [hz] at hP hD
  refine lv_if_eq (tgt := 11) hx hb d_M_gated_6 rfl (fun hc6 => ?_) (fun hc6 => ?_)
  · have hc6 := b2i_0.mp hc6
    refine lv_aload_n hx hb d_M_gated_11 rfl (lv_at hl 0 rfl) ?_
    refine lv_iload_n hx hb d_M_gated_12 rfl (lv_at hl 1 rfl) ?_
    refine xr_cal (va_runV (As := [.int (nI u)]) (rest := []) ⟨hx, hb, hml, hown, hB⟩ (k_M_reach l D mo m0 m1 m2 m3 m4 m5 m6 o0 o1 o2 o3 o4 o5 o6 (nI 0) mn mg h mO mG mF mA mU mR hg u (by omega)) ⟨callB_of 1 hB (xg0 mc_M_reach) rfl rfl rfl (hB _ mz_M) (hB _ ml_M_51) (by decide +kernel) ⟨Nat.le_of_ble_eq_true rfl, Nat.le_of_ble_eq_true rfl⟩, hB _ mi_M_reach, hB _ me_M_reach⟩ (xpV (ws := [(mo, .inr (5, [.int (nI 0), .int mn, .ref m0, .int mg, .ref m1, .ref m2, .ref m3, .ref m4, .ref m5, .ref m6])), (m0, .inl (o0, 16, .inl h)), (m1, .inl (o1, 16, .inl mO)), (m2, .inl (o2, 16, .inl mG)), (m3, .inl (o3, 16, .inl mF)), (m4, .inl (o4, 32, .inl mA)), (m5, .inl (o5, 32, .inl mU)), (m6, .inl (o6, 32, .inl mR))]) (tys := [(o0, .int), (o1, .int), (o2, .int), (o3, .int), (o4, .int), (o5, .int), (o6, .int)]) (hP.sub [0, 1, 2, 3, 4, 5, 6, 7] rfl) (hK.sub [0, 1, 2, 3, 4, 5, 6] rfl) hN (va_recv (ci := 5) (q0 := 0) (q := (R_M, F_M, 10)) hK hP rfl rfl)) rfl rfl hl.1 rfl (lv_room (Nat.le_of_ble_eq_true rfl)) d_M_gated_13 ⟨Nat.le_of_ble_eq_true rfl, Nat.le_of_ble_eq_true rfl⟩) ?_
    refine lv_istore_n hx hb d_M_gated_16 rfl hl (by decide) rfl (fun ls hl => ?_)
    have hl : lv_has ls 6 [(3, .int (RE h u)), (0, .ref mo), (1, .int (nI u)), (2, .int (nI v))] := hl
    refine lv_iconst (v := nI 0) hx hb d_M_gated_17 (by decide) ?_
    refine lv_istore hx hb d_M_gated_18 hl (by decide) rfl (fun ls hl => ?_)
    have hl : lv_has ls 6 [(4, .int (nI 0)), (3, .int (RE h u)), (0, .ref mo), (1, .int (nI u)), (2, .int (nI v))] := hl
    refine lv_iconst (v := nI 0) hx hb d_M_gated_20 (by decide) ?_
    refine lv_istore hx hb d_M_gated_21 hl (by decide) rfl (fun ls hl => ?_)
    have hl : lv_has ls 6 [(5, .int (nI 0)), (4, .int (nI 0)), (3, .int (RE h u)), (0, .ref mo), (1, .int (nI u)), (2, .int (nI v))] := hl
    refine xl_w (fun (k : Nat) ls H locs => ((k ≤ 16)) ∧ lv_has ls 6 [(5, .int (nI k)), (4, .int (nI (cq (fun x9 => bt (RE h u) v && bt (RE h u) x9 && dpb h u x9 v) k))), (3, .int (RE h u)), (0, .ref mo), (1, .int (nI u)), (2, .int (nI v))] ∧ va_P D cls [(mo, .inr (5, [.int (nI 0), .int mn, .ref m0, .int mg, .ref m1, .ref m2, .ref m3, .ref m4, .ref m5, .ref m6])), (m0, .inl (o0, 16, .inl h)), (m1, .inl (o1, 16, .inl mO)), (m2, .inl (o2, 16, .inl mG)), (m3, .inl (o3, 16, .inl mF)), (m4, .inl (o4, 32, .inl mA)), (m5, .inl (o5, 32, .inl mU)), (m6, .inl (o6, 32, .inl mR))] H ∧ va_D A [(mo, .inr (5, [.int (nI 0), .int mn, .ref m0, .int mg, .ref m1, .ref m2, .ref m3, .ref m4, .ref m5, .ref m6])), (m0, .inl (o0, 16, .inl h)), (m1, .inl (o1, 16, .inl mO)), (m2, .inl (o2, 16, .inl mG)), (m3, .inl (o3, 16, .inl mF)), (m4, .inl (o4, 32, .inl mA)), (m5, .inl (o5, 32, .inl mU)), (m6, .inl (o6, 32, .inl mR))] ∧ va_S A s.heap H locs) (fun k => 16 - k) (fun k ls H locs hI ih23 => ?_) 0 _ ⟨Nat.zero_le _, hl, hP, hD, hS⟩
    obtain ⟨hI, hl, hP, hD, hS⟩ := hI
    have hk := hI
    refine lv_iload hx hb d_M_gated_23 (lv_at hl 0 rfl) ?_
    refine lv_bipush (v := nI 16) hx hb d_M_gated_25 (by decide) ?_
    refine lv_icmp_ge (tgt := 74) hx hb d_M_gated_27 rfl (fun hc27 => ?_) (fun hc27 => ?_)
    · have hc27 : 16 ≤ k := (nI_leI (by omega) (by omega)).mp hc27
      refine lv_iload hx hb d_M_gated_74 (lv_at hl 1 rfl) ?_
      have hP9 := hP.sub (ws' := [(mo, .inr (5, [.int (nI 0), .int mn, .ref m0, .int mg, .ref m1, .ref m2, .ref m3, .ref m4, .ref m5, .ref m6])), (m0, .inl (o0, 16, .inl h)), (m1, .inl (o1, 16, .inl mO)), (m2, .inl (o2, 16, .inl mG)), (m3, .inl (o3, 16, .inl mF)), (m4, .inl (o4, 32, .inl mA)), (m5, .inl (o5, 32, .inl mU)), (m6, .inl (o6, 32, .inl mR))]) [0, 1, 2, 3, 4, 5, 6, 7] rfl
      have hD9 := hD.sub (ws' := [(mo, .inr (5, [.int (nI 0), .int mn, .ref m0, .int mg, .ref m1, .ref m2, .ref m3, .ref m4, .ref m5, .ref m6])), (m0, .inl (o0, 16, .inl h)), (m1, .inl (o1, 16, .inl mO)), (m2, .inl (o2, 16, .inl mG)), (m3, .inl (o3, 16, .inl mF)), (m4, .inl (o4, 32, .inl mA)), (m5, .inl (o5, 32, .inl mU)), (m6, .inl (o6, 32, .inl mR))]) [0, 1, 2, 3, 4, 5, 6, 7] (by decide) rfl
      subst hAe
      refine xv_top (x' := nI (cq (fun x9 => bt (RE h u) v && bt (RE h u) x9 && dpb h u x9 v) 16)) (by rw [show k = 16 by omega]) ?_
      exact W.iret (v := nI (cq (fun x9 => bt (RE h u) v && bt (RE h u) x9 && dpb h u x9 v) 16)) hx hb hr (fun t ht hW => ⟨⟨_, (), rfl, rfl, by rw [ht]; exact hP9, va_K.moved hW.alike hK, hD9⟩, hS.F ht⟩) hS.2.2 d_M_gated_76
    · have hc27 : ¬ (16 ≤ k) := fun q9 => hc27 ((nI_leI (by omega) (by omega)).mpr q9)
      refine lv_iload hx hb d_M_gated_30 (lv_at hl 1 rfl) ?_
      refine lv_iload_n hx hb d_M_gated_32 rfl (lv_at hl 2 rfl) ?_
      refine lv_iload_n hx hb d_M_gated_33 rfl (lv_at hl 5 rfl) ?_
      refine xr_cal (va_runS (As := [.int (RE h u), .int (nI v)]) (rest := [.int (nI (cq (fun x9 => bt (RE h u) v && bt (RE h u) x9 && dpb h u x9 v) k))]) ⟨hx, hb, hml, hown, hB⟩ (k_M_has l D  (RE h u) v (by omega)) ⟨callB_of 2 hB (xg0 mc_M_has) rfl rfl rfl (hB _ mz_M) (hB _ ml_M_35) (by decide +kernel) ⟨Nat.le_of_ble_eq_true rfl, Nat.le_of_ble_eq_true rfl⟩, hB _ ms_M_has⟩ (xpS (ws := []) (tys := []) (hP.sub [] rfl) (hK.sub [] rfl) hN) rfl rfl hl.1 rfl (lv_room (Nat.le_of_ble_eq_true rfl)) d_M_gated_34 ⟨Nat.le_of_ble_eq_true rfl, Nat.le_of_ble_eq_true rfl⟩) ?_
      refine lv_if_eq (tgt := 64) hx hb d_M_gated_37 rfl (fun hc37 => ?_) (fun hc37 => ?_)
      · have hc37 := b2i_0.mp hc37
        refine lv_iconst (v := nI 0) hx hb d_M_gated_64 (by decide) ?_
        refine lv_iadd hx hb d_M_gated_65 ?_
        refine lv_istore hx hb d_M_gated_66 hl (by decide) rfl (fun ls hl => ?_)
        have hl : lv_has ls 6 [(4, .int ((nI (cq (fun x9 => bt (RE h u) v && bt (RE h u) x9 && dpb h u x9 v) k)) + (nI 0))), (5, .int (nI k)), (3, .int (RE h u)), (0, .ref mo), (1, .int (nI u)), (2, .int (nI v))] := hl
        have hl : lv_has ls 6 [(4, .int (nI (cq (fun x9 => bt (RE h u) v && bt (RE h u) x9 && dpb h u x9 v) (k + 1)))), (5, .int (nI k)), (3, .int (RE h u)), (0, .ref mo), (1, .int (nI u)), (2, .int (nI v))] := by
          have hz : ((nI (cq (fun x9 => bt (RE h u) v && bt (RE h u) x9 && dpb h u x9 v) k)) + (nI 0)) = nI (cq (fun x9 => bt (RE h u) v && bt (RE h u) x9 && dpb h u x9 v) (k + 1)) := by rw [cq_f (p := (fun x9 => bt (RE h u) v && bt (RE h u) x9 && dpb h u x9 v)) (k := k) (by (try dsimp only); first | (rw [show dpb h u k v = false from hc57, Bool.and_false]; done) | (rw [hc46, Bool.and_false]; rfl) | (rw [hc37]; rfl)), nI_add]; rfl
          rw [← hz]; exact hl
        refine lv_iinc hx hb d_M_gated_68 hl (k := 1) rfl (v := nI (k + 1)) (nI_1 k) (by decide) rfl (fun ls hl => ?_)
        have hl : lv_has ls 6 [(5, .int (nI (k + 1))), (4, .int (nI (cq (fun x9 => bt (RE h u) v && bt (RE h u) x9 && dpb h u x9 v) (k + 1)))), (3, .int (RE h u)), (0, .ref mo), (1, .int (nI u)), (2, .int (nI v))] := hl
        refine lv_goto (tgt := 23) hx hb d_M_gated_71 rfl ?_
        exact ih23 (k + 1) _ H locs ⟨by omega, lv_sub hl [0, 1, 2, 3, 4, 5] rfl, hP, hD, hS⟩ (by omega)
      · have hc37 := b2i_n.mp hc37
        refine lv_iload_n hx hb d_M_gated_40 rfl (lv_at hl 2 rfl) ?_
        refine lv_iload hx hb d_M_gated_41 (lv_at hl 0 rfl) ?_
        refine xr_cal (va_runS (As := [.int (RE h u), .int (nI k)]) (rest := [.int (nI (cq (fun x9 => bt (RE h u) v && bt (RE h u) x9 && dpb h u x9 v) k))]) ⟨hx, hb, hml, hown, hB⟩ (k_M_has l D  (RE h u) k (by omega)) ⟨callB_of 2 hB (xg0 mc_M_has) rfl rfl rfl (hB _ mz_M) (hB _ ml_M_35) (by decide +kernel) ⟨Nat.le_of_ble_eq_true rfl, Nat.le_of_ble_eq_true rfl⟩, hB _ ms_M_has⟩ (xpS (ws := []) (tys := []) (hP.sub [] rfl) (hK.sub [] rfl) hN) rfl rfl hl.1 rfl (lv_room (Nat.le_of_ble_eq_true rfl)) d_M_gated_43 ⟨Nat.le_of_ble_eq_true rfl, Nat.le_of_ble_eq_true rfl⟩) ?_
        refine lv_if_eq (tgt := 64) hx hb d_M_gated_46 rfl (fun hc46 => ?_) (fun hc46 => ?_)
        · have hc46 := b2i_0.mp hc46
          refine lv_iconst (v := nI 0) hx hb d_M_gated_64 (by decide) ?_
          refine lv_iadd hx hb d_M_gated_65 ?_
          refine lv_istore hx hb d_M_gated_66 hl (by decide) rfl (fun ls hl => ?_)
          have hl : lv_has ls 6 [(4, .int ((nI (cq (fun x9 => bt (RE h u) v && bt (RE h u) x9 && dpb h u x9 v) k)) + (nI 0))), (5, .int (nI k)), (3, .int (RE h u)), (0, .ref mo), (1, .int (nI u)), (2, .int (nI v))] := hl
          have hl : lv_has ls 6 [(4, .int (nI (cq (fun x9 => bt (RE h u) v && bt (RE h u) x9 && dpb h u x9 v) (k + 1)))), (5, .int (nI k)), (3, .int (RE h u)), (0, .ref mo), (1, .int (nI u)), (2, .int (nI v))] := by
            have hz : ((nI (cq (fun x9 => bt (RE h u) v && bt (RE h u) x9 && dpb h u x9 v) k)) + (nI 0)) = nI (cq (fun x9 => bt (RE h u) v && bt (RE h u) x9 && dpb h u x9 v) (k + 1)) := by rw [cq_f (p := (fun x9 => bt (RE h u) v && bt (RE h u) x9 && dpb h u x9 v)) (k := k) (by (try dsimp only); first | (rw [show dpb h u k v = false from hc57, Bool.and_false]; done) | (rw [hc46, Bool.and_false]; rfl) | (rw [hc37]; rfl)), nI_add]; rfl
            rw [← hz]; exact hl
          refine lv_iinc hx hb d_M_gated_68 hl (k := 1) rfl (v := nI (k + 1)) (nI_1 k) (by decide) rfl (fun ls hl => ?_)
          have hl : lv_has ls 6 [(5, .int (nI (k + 1))), (4, .int (nI (cq (fun x9 => bt (RE h u) v && bt (RE h u) x9 && dpb h u x9 v) (k + 1)))), (3, .int (RE h u)), (0, .ref mo), (1, .int (nI u)), (2, .int (nI v))] := hl
          refine lv_goto (tgt := 23) hx hb d_M_gated_71 rfl ?_
          exact ih23 (k + 1) _ H locs ⟨by omega, lv_sub hl [0, 1, 2, 3, 4, 5] rfl, hP, hD, hS⟩ (by omega)
        · have hc46 := b2i_n.mp hc46
          refine lv_aload_n hx hb d_M_gated_49 rfl (lv_at hl 3 rfl) ?_
          refine lv_iload_n hx hb d_M_gated_50 rfl (lv_at hl 4 rfl) ?_
          refine lv_iload hx hb d_M_gated_51 (lv_at hl 0 rfl) ?_
          refine lv_iload_n hx hb d_M_gated_53 rfl (lv_at hl 5 rfl) ?_
          refine xr_cal (va_runV (As := [.int (nI u), .int (nI k), .int (nI v)]) (rest := [.int (nI (cq (fun x9 => bt (RE h u) v && bt (RE h u) x9 && dpb h u x9 v) k))]) ⟨hx, hb, hml, hown, hB⟩ (k_M_dependent l D mo m0 m1 m2 m3 m4 m5 m6 o0 o1 o2 o3 o4 o5 o6 (nI 0) mn mg h mO mG mF mA mU mR hg u k v (by omega) (by omega) (by omega)) ⟨callB_of 3 hB (xg0 mc_M_dependent) rfl rfl rfl (hB _ mz_M) (hB _ ml_M_80) (by decide +kernel) ⟨Nat.le_of_ble_eq_true rfl, Nat.le_of_ble_eq_true rfl⟩, hB _ mi_M_dependent, hB _ me_M_dependent⟩ (xpV (ws := [(mo, .inr (5, [.int (nI 0), .int mn, .ref m0, .int mg, .ref m1, .ref m2, .ref m3, .ref m4, .ref m5, .ref m6])), (m0, .inl (o0, 16, .inl h)), (m1, .inl (o1, 16, .inl mO)), (m2, .inl (o2, 16, .inl mG)), (m3, .inl (o3, 16, .inl mF)), (m4, .inl (o4, 32, .inl mA)), (m5, .inl (o5, 32, .inl mU)), (m6, .inl (o6, 32, .inl mR))]) (tys := [(o0, .int), (o1, .int), (o2, .int), (o3, .int), (o4, .int), (o5, .int), (o6, .int)]) (hP.sub [0, 1, 2, 3, 4, 5, 6, 7] rfl) (hK.sub [0, 1, 2, 3, 4, 5, 6] rfl) hN (va_recv (ci := 5) (q0 := 0) (q := (R_M, F_M, 10)) hK hP rfl rfl)) rfl rfl hl.1 rfl (lv_room (Nat.le_of_ble_eq_true rfl)) d_M_gated_54 ⟨Nat.le_of_ble_eq_true rfl, Nat.le_of_ble_eq_true rfl⟩) ?_
          refine lv_if_eq (tgt := 64) hx hb d_M_gated_57 rfl (fun hc57 => ?_) (fun hc57 => ?_)
          · have hc57 := b2i_0.mp hc57
            refine lv_iconst (v := nI 0) hx hb d_M_gated_64 (by decide) ?_
            refine lv_iadd hx hb d_M_gated_65 ?_
            refine lv_istore hx hb d_M_gated_66 hl (by decide) rfl (fun ls hl => ?_)
            have hl : lv_has ls 6 [(4, .int ((nI (cq (fun x9 => bt (RE h u) v && bt (RE h u) x9 && dpb h u x9 v) k)) + (nI 0))), (5, .int (nI k)), (3, .int (RE h u)), (0, .ref mo), (1, .int (nI u)), (2, .int (nI v))] := hl
            have hl : lv_has ls 6 [(4, .int (nI (cq (fun x9 => bt (RE h u) v && bt (RE h u) x9 && dpb h u x9 v) (k + 1)))), (5, .int (nI k)), (3, .int (RE h u)), (0, .ref mo), (1, .int (nI u)), (2, .int (nI v))] := by
              have hz : ((nI (cq (fun x9 => bt (RE h u) v && bt (RE h u) x9 && dpb h u x9 v) k)) + (nI 0)) = nI (cq (fun x9 => bt (RE h u) v && bt (RE h u) x9 && dpb h u x9 v) (k + 1)) := by rw [cq_f (p := (fun x9 => bt (RE h u) v && bt (RE h u) x9 && dpb h u x9 v)) (k := k) (by (try dsimp only); first | (rw [show dpb h u k v = false from hc57, Bool.and_false]; done) | (rw [hc46, Bool.and_false]; rfl) | (rw [hc37]; rfl)), nI_add]; rfl
              rw [← hz]; exact hl
            refine lv_iinc hx hb d_M_gated_68 hl (k := 1) rfl (v := nI (k + 1)) (nI_1 k) (by decide) rfl (fun ls hl => ?_)
            have hl : lv_has ls 6 [(5, .int (nI (k + 1))), (4, .int (nI (cq (fun x9 => bt (RE h u) v && bt (RE h u) x9 && dpb h u x9 v) (k + 1)))), (3, .int (RE h u)), (0, .ref mo), (1, .int (nI u)), (2, .int (nI v))] := hl
            refine lv_goto (tgt := 23) hx hb d_M_gated_71 rfl ?_
            exact ih23 (k + 1) _ H locs ⟨by omega, lv_sub hl [0, 1, 2, 3, 4, 5] rfl, hP, hD, hS⟩ (by omega)
          · have hc57 := b2i_n.mp hc57
            refine lv_iconst (v := nI 1) hx hb d_M_gated_60 (by decide) ?_
            refine lv_goto (tgt := 65) hx hb d_M_gated_61 rfl ?_
            refine lv_iadd hx hb d_M_gated_65 ?_
            refine lv_istore hx hb d_M_gated_66 hl (by decide) rfl (fun ls hl => ?_)
            have hl : lv_has ls 6 [(4, .int ((nI (cq (fun x9 => bt (RE h u) v && bt (RE h u) x9 && dpb h u x9 v) k)) + (nI 1))), (5, .int (nI k)), (3, .int (RE h u)), (0, .ref mo), (1, .int (nI u)), (2, .int (nI v))] := hl
            have hl : lv_has ls 6 [(4, .int (nI (cq (fun x9 => bt (RE h u) v && bt (RE h u) x9 && dpb h u x9 v) (k + 1)))), (5, .int (nI k)), (3, .int (RE h u)), (0, .ref mo), (1, .int (nI u)), (2, .int (nI v))] := by
              have hz : ((nI (cq (fun x9 => bt (RE h u) v && bt (RE h u) x9 && dpb h u x9 v) k)) + (nI 1)) = nI (cq (fun x9 => bt (RE h u) v && bt (RE h u) x9 && dpb h u x9 v) (k + 1)) := by rw [cq_t (p := (fun x9 => bt (RE h u) v && bt (RE h u) x9 && dpb h u x9 v)) (k := k) (by (try dsimp only); rw [hc37, hc46, show dpb h u k v = true from hc57]; rfl)]; exact nI_add _ 1
              rw [← hz]; exact hl
            refine lv_iinc hx hb d_M_gated_68 hl (k := 1) rfl (v := nI (k + 1)) (nI_1 k) (by decide) rfl (fun ls hl => ?_)
            have hl : lv_has ls 6 [(5, .int (nI (k + 1))), (4, .int (nI (cq (fun x9 => bt (RE h u) v && bt (RE h u) x9 && dpb h u x9 v) (k + 1)))), (3, .int (RE h u)), (0, .ref mo), (1, .int (nI u)), (2, .int (nI v))] := hl
            refine lv_goto (tgt := 23) hx hb d_M_gated_71 rfl ?_
            exact ih23 (k + 1) _ H locs ⟨by omega, lv_sub hl [0, 1, 2, 3, 4, 5] rfl, hP, hD, hS⟩ (by omega)
  · have hc6 := b2i_n.mp hc6
    exact absurd hc6 (by rw [isP2 (by omega) (by omega)]; decide)
set_option maxHeartbeats 4000000 in
set_option maxRecDepth 100000 in
theorem k_M_gate_none (l : Launch) (D : va_G) (mo m0 m1 m2 m3 m4 m5 m6 : Nat) (o0 o1 o2 o3 o4 o5 o6 : ClassId) (mc : Int32) (mn : Int32) (mg : Int32) (h : Nat → Int32) (mO : Nat → Int32) (mG : Nat → Int32) (mF : Nat → Int32) (mA : Nat → Int32) (mU : Nat → Int32) (mR : Nat → Int32) (hg : gd h) (u v : Nat) (hu : u < 16) (hv : v < 16) (hrv : bt (RE h u) v = false) (sz : Nat) : Met l y_M_gate (Cond.code y_M_gate c_M_gate 7 (some .int) :: BS) { frames := 3, cells := 0, slots := 0, locals := 67 } (va_Pc [.ref mo, .int (nI u), .int (nI v)] (xWp D [(mo, .inr (5, [.int mc, .int mn, .ref m0, .int mg, .ref m1, .ref m2, .ref m3, .ref m4, .ref m5, .ref m6])), (m0, .inl (o0, 16, .inl h)), (m1, .inl (o1, 16, .inl mO)), (m2, .inl (o2, 16, .inl mG)), (m3, .inl (o3, 16, .inl mF)), (m4, .inl (o4, 32, .inl mA)), (m5, .inl (o5, 32, .inl mU)), (m6, .inl (o6, 32, .inl mR))] [(o0, .int), (o1, .int), (o2, .int), (o3, .int), (o4, .int), (o5, .int), (o6, .int)] sz)) (xQi D [(mo, .inr (5, [.int mc, .int mn, .ref m0, .int mg, .ref m1, .ref m2, .ref m3, .ref m4, .ref m5, .ref m6])), (m0, .inl (o0, 16, .inl h)), (m1, .inl (o1, 16, .inl mO)), (m2, .inl (o2, 16, .inl mG)), (m3, .inl (o3, 16, .inl mF)), (m4, .inl (o4, 32, .inl mA)), (m5, .inl (o5, 32, .inl mU)), (m6, .inl (o6, 32, .inl mR))] [(mo, .inr (5, [.int (nI 2), .int mn, .ref m0, .int mg, .ref m1, .ref m2, .ref m3, .ref m4, .ref m5, .ref m6])), (m0, .inl (o0, 16, .inl h)), (m1, .inl (o1, 16, .inl mO)), (m2, .inl (o2, 16, .inl mG)), (m3, .inl (o3, 16, .inl mF)), (m4, .inl (o4, 32, .inl mA)), (m5, .inl (o5, 32, .inl mU)), (m6, .inl (o6, 32, .inl mR))] [(o0, .int), (o1, .int), (o2, .int), (o3, .int), (o4, .int), (o5, .int), (o6, .int)] sz (nI 0)) 0 0 (va_A [(mo, .inr (5, [.int mc, .int mn, .ref m0, .int mg, .ref m1, .ref m2, .ref m3, .ref m4, .ref m5, .ref m6])), (m0, .inl (o0, 16, .inl h)), (m1, .inl (o1, 16, .inl mO)), (m2, .inl (o2, 16, .inl mG)), (m3, .inl (o3, 16, .inl mF)), (m4, .inl (o4, 32, .inl mA)), (m5, .inl (o5, 32, .inl mU)), (m6, .inl (o6, 32, .inl mR))] sz) := by
  refine Met.ofW (cc := c_M_gate) (maxL := 7) (ret := (some .int)) (by decide) rfl ?_
  intro p e s m args below meth c s₁ B hml hv
  obtain ⟨rfl, hsz, hP, hK, hD0, hN⟩ := hv
  have hx := B.exec
  have hb := B.bytes
  have hr := B.returns
  have hB := xB B.pre
  have hown : s.vm.findClass R_M = some m.cls := findClass_of_methodNamed B.named
  have hlocks := B.notSynchronized
  subst hsz
  have hD := hD0.self (sz := s.heap.size)
  obtain ⟨A, hAe⟩ : ∃ A, A = va_A [(mo, .inr (5, [.int mc, .int mn, .ref m0, .int mg, .ref m1, .ref m2, .ref m3, .ref m4, .ref m5, .ref m6])), (m0, .inl (o0, 16, .inl h)), (m1, .inl (o1, 16, .inl mO)), (m2, .inl (o2, 16, .inl mG)), (m3, .inl (o3, 16, .inl mF)), (m4, .inl (o4, 32, .inl mA)), (m5, .inl (o5, 32, .inl mU)), (m6, .inl (o6, 32, .inl mR))] s.heap.size := ⟨_, rfl⟩
  rw [← hAe] at hD
  have hA : ∀ q : Nat, s.heap.size ≤ q → A q := fun q h => by rw [hAe]; exact Or.inr h
  have hS : va_S A s.heap s.heap [] := va_S.rf
  have hl := lv_entry ([.ref mo, .int (nI u), .int (nI v)]) (n := 7) (Nat.le_of_ble_eq_true rfl)
  rw [lg_entry_eq]
  generalize (lg_sl ([.ref mo, .int (nI u), .int (nI v)]) ++ List.replicate (7 - (lg_sl ([.ref mo, .int (nI u), .int (nI v)])).length) Slot.unset).toArray = ls at hl ⊢
  have hl : lv_has ls 7 [(0, .ref mo), (1, .int (nI u)), (2, .int (nI v))] := hl
  refine lv_aload_n hx hb d_M_gate_0 rfl (lv_at hl 0 rfl) ?_
  refine lv_iload_n hx hb d_M_gate_1 rfl (lv_at hl 1 rfl) ?_
  refine lv_iload_n hx hb d_M_gate_2 rfl (lv_at hl 2 rfl) ?_
  refine xw_i (wc := [(mo, .inr (5, [.int mc, .int mn, .ref m0, .int mg, .ref m1, .ref m2, .ref m3, .ref m4, .ref m5, .ref m6])), (m0, .inl (o0, 16, .inl h)), (m1, .inl (o1, 16, .inl mO)), (m2, .inl (o2, 16, .inl mG)), (m3, .inl (o3, 16, .inl mF)), (m4, .inl (o4, 32, .inl mA)), (m5, .inl (o5, 32, .inl mU)), (m6, .inl (o6, 32, .inl mR))]) (wr := []) (w1 := [(mo, .inr (5, [.int (b2i (!(isP (nI u) && isP (nI v)))), .int mn, .ref m0, .int mg, .ref m1, .ref m2, .ref m3, .ref m4, .ref m5, .ref m6])), (m0, .inl (o0, 16, .inl h)), (m1, .inl (o1, 16, .inl mO)), (m2, .inl (o2, 16, .inl mG)), (m3, .inl (o3, 16, .inl mF)), (m4, .inl (o4, 32, .inl mA)), (m5, .inl (o5, 32, .inl mU)), (m6, .inl (o6, 32, .inl mR))]) (va_runV (As := [.int (nI u), .int (nI v)]) (rest := []) ⟨hx, hb, hml, hown, hB⟩ (k_M_lacks l D mo m0 m1 m2 m3 m4 m5 m6 o0 o1 o2 o3 o4 o5 o6 mc mn mg h mO mG mF mA mU mR (nI u) (nI v) _) ⟨callB_of 2 hB (xg0 mc_M_lacks) rfl rfl rfl (hB _ mz_M) (hB _ ml_M_67) (by decide +kernel) ⟨Nat.le_of_ble_eq_true rfl, Nat.le_of_ble_eq_true rfl⟩, hB _ mi_M_lacks, hB _ me_M_lacks⟩ (xqV (ws := [(mo, .inr (5, [.int mc, .int mn, .ref m0, .int mg, .ref m1, .ref m2, .ref m3, .ref m4, .ref m5, .ref m6])), (m0, .inl (o0, 16, .inl h)), (m1, .inl (o1, 16, .inl mO)), (m2, .inl (o2, 16, .inl mG)), (m3, .inl (o3, 16, .inl mF)), (m4, .inl (o4, 32, .inl mA)), (m5, .inl (o5, 32, .inl mU)), (m6, .inl (o6, 32, .inl mR))]) (tys := [(o0, .int), (o1, .int), (o2, .int), (o3, .int), (o4, .int), (o5, .int), (o6, .int)]) (hP.sub [0, 1, 2, 3, 4, 5, 6, 7] rfl) (hD.sub [0, 1, 2, 3, 4, 5, 6, 7] (by decide) rfl) (hK.sub [0, 1, 2, 3, 4, 5, 6] rfl) hN (va_recv (ci := 5) (q0 := 0) (q := (R_M, F_M, 10)) hK hP rfl rfl)) rfl rfl hl.1 rfl (lv_room (Nat.le_of_ble_eq_true rfl)) d_M_gate_3 ⟨Nat.le_of_ble_eq_true rfl, Nat.le_of_ble_eq_true rfl⟩) hP hD hS hA [0, 1, 2, 3, 4, 5, 6, 7] [] rfl rfl (by decide) (by decide) (fun H locs hP hD hS => ?_)
  have hP : va_P D cls [(mo, .inr (5, [.int (b2i (!(isP (nI u) && isP (nI v)))), .int mn, .ref m0, .int mg, .ref m1, .ref m2, .ref m3, .ref m4, .ref m5, .ref m6])), (m0, .inl (o0, 16, .inl h)), (m1, .inl (o1, 16, .inl mO)), (m2, .inl (o2, 16, .inl mG)), (m3, .inl (o3, 16, .inl mF)), (m4, .inl (o4, 32, .inl mA)), (m5, .inl (o5, 32, .inl mU)), (m6, .inl (o6, 32, .inl mR))] H := hP
  have hD : va_D A [(mo, .inr (5, [.int (b2i (!(isP (nI u) && isP (nI v)))), .int mn, .ref m0, .int mg, .ref m1, .ref m2, .ref m3, .ref m4, .ref m5, .ref m6])), (m0, .inl (o0, 16, .inl h)), (m1, .inl (o1, 16, .inl mO)), (m2, .inl (o2, 16, .inl mG)), (m3, .inl (o3, 16, .inl mF)), (m4, .inl (o4, 32, .inl mA)), (m5, .inl (o5, 32, .inl mU)), (m6, .inl (o6, 32, .inl mR))] := hD
  have hz : (b2i (!(isP (nI u) && isP (nI v)))) = nI 0 := by rw [isP2 (by omega) (by omega)]; rfl
  rw [hz] at hP hD
  refine lv_if_eq (tgt := 11) hx hb d_M_gate_6 rfl (fun hc6 => ?_) (fun hc6 => ?_)
  · have hc6 := b2i_0.mp hc6
    refine lv_aload_n hx hb d_M_gate_11 rfl (lv_at hl 0 rfl) ?_
    refine lv_aload_n hx hb d_M_gate_12 rfl (lv_at hl 0 rfl) ?_
    refine lv_iload_n hx hb d_M_gate_13 rfl (lv_at hl 1 rfl) ?_
    refine xr_cal (va_runV (As := [.int (nI u)]) (rest := [.ref mo]) ⟨hx, hb, hml, hown, hB⟩ (k_M_reach l D mo m0 m1 m2 m3 m4 m5 m6 o0 o1 o2 o3 o4 o5 o6 (nI 0) mn mg h mO mG mF mA mU mR hg u (by omega)) ⟨callB_of 1 hB (xg0 mc_M_reach) rfl rfl rfl (hB _ mz_M) (hB _ ml_M_51) (by decide +kernel) ⟨Nat.le_of_ble_eq_true rfl, Nat.le_of_ble_eq_true rfl⟩, hB _ mi_M_reach, hB _ me_M_reach⟩ (xpV (ws := [(mo, .inr (5, [.int (nI 0), .int mn, .ref m0, .int mg, .ref m1, .ref m2, .ref m3, .ref m4, .ref m5, .ref m6])), (m0, .inl (o0, 16, .inl h)), (m1, .inl (o1, 16, .inl mO)), (m2, .inl (o2, 16, .inl mG)), (m3, .inl (o3, 16, .inl mF)), (m4, .inl (o4, 32, .inl mA)), (m5, .inl (o5, 32, .inl mU)), (m6, .inl (o6, 32, .inl mR))]) (tys := [(o0, .int), (o1, .int), (o2, .int), (o3, .int), (o4, .int), (o5, .int), (o6, .int)]) (hP.sub [0, 1, 2, 3, 4, 5, 6, 7] rfl) (hK.sub [0, 1, 2, 3, 4, 5, 6] rfl) hN (va_recv (ci := 5) (q0 := 0) (q := (R_M, F_M, 10)) hK hP rfl rfl)) rfl rfl hl.1 rfl (lv_room (Nat.le_of_ble_eq_true rfl)) d_M_gate_14 ⟨Nat.le_of_ble_eq_true rfl, Nat.le_of_ble_eq_true rfl⟩) ?_
    refine lv_iload_n hx hb d_M_gate_17 rfl (lv_at hl 2 rfl) ?_
    refine xr_cal (va_runS (As := [.int (RE h u), .int (nI v)]) (rest := [.ref mo]) ⟨hx, hb, hml, hown, hB⟩ (k_M_has l D  (RE h u) v (by omega)) ⟨callB_of 2 hB (xg0 mc_M_has) rfl rfl rfl (hB _ mz_M) (hB _ ml_M_35) (by decide +kernel) ⟨Nat.le_of_ble_eq_true rfl, Nat.le_of_ble_eq_true rfl⟩, hB _ ms_M_has⟩ (xpS (ws := []) (tys := []) (hP.sub [] rfl) (hK.sub [] rfl) hN) rfl rfl hl.1 rfl (lv_room (Nat.le_of_ble_eq_true rfl)) d_M_gate_18 ⟨Nat.le_of_ble_eq_true rfl, Nat.le_of_ble_eq_true rfl⟩) ?_
    refine lv_if_eq (tgt := 28) hx hb d_M_gate_21 rfl (fun hc21 => ?_) (fun hc21 => ?_)
    · have hc21 := b2i_0.mp hc21
      refine lv_iconst (v := nI 2) hx hb d_M_gate_28 (by decide) ?_
      refine va_put (D := D) (ci := 5) (v := .int (nI 2)) (ty := .int) (C := R_M) (T := F_M) (N := 10) hx hb hB in_M t_M t_M_ok n_M hown hK hP hD hS 0 rfl rfl 0 (by decide) (hB _ mf_M_31) (fun _ h9 => h9) rfl (by decide +kernel) rfl rfl (Nat.le_of_ble_eq_true rfl) d_M_gate_29 (fun H locs hP hD hS => ?_)
      have hP : va_P D cls [(mo, .inr (5, [.int (nI 2), .int mn, .ref m0, .int mg, .ref m1, .ref m2, .ref m3, .ref m4, .ref m5, .ref m6])), (m0, .inl (o0, 16, .inl h)), (m1, .inl (o1, 16, .inl mO)), (m2, .inl (o2, 16, .inl mG)), (m3, .inl (o3, 16, .inl mF)), (m4, .inl (o4, 32, .inl mA)), (m5, .inl (o5, 32, .inl mU)), (m6, .inl (o6, 32, .inl mR))] H := hP
      have hD : va_D A [(mo, .inr (5, [.int (nI 2), .int mn, .ref m0, .int mg, .ref m1, .ref m2, .ref m3, .ref m4, .ref m5, .ref m6])), (m0, .inl (o0, 16, .inl h)), (m1, .inl (o1, 16, .inl mO)), (m2, .inl (o2, 16, .inl mG)), (m3, .inl (o3, 16, .inl mF)), (m4, .inl (o4, 32, .inl mA)), (m5, .inl (o5, 32, .inl mU)), (m6, .inl (o6, 32, .inl mR))] := hD
      refine lv_aload_n hx hb d_M_gate_32 rfl (lv_at hl 0 rfl) ?_
      refine va_get (D := D) (ci := 5) (v := .int (nI 2)) (C := R_M) (T := F_M) (N := 10) hx hb hB in_M hown hK hP 0 rfl rfl 0 (by decide) (hB _ mf_M_31) (fun _ h9 => h9) rfl d_M_gate_33 ?_
      refine lv_if_gt (tgt := 44) hx hb d_M_gate_36 rfl (fun _ => ?_) (fun hc36 => absurd hc36 (by decide))
      refine lv_aload_n hx hb d_M_gate_44 rfl (lv_at hl 0 rfl) ?_
      refine va_get (D := D) (ci := 5) (v := .int (nI 2)) (C := R_M) (T := F_M) (N := 10) hx hb hB in_M hown hK hP 0 rfl rfl 0 (by decide) (hB _ mf_M_31) (fun _ h9 => h9) rfl d_M_gate_45 ?_
      refine lv_if_le (tgt := 55) hx hb d_M_gate_48 rfl (fun hc48 => absurd hc48 (by decide)) (fun _ => ?_)
      refine lv_iconst (v := nI 0) hx hb d_M_gate_51 (by decide) ?_
      refine lv_goto (tgt := 56) hx hb d_M_gate_52 rfl ?_
      have hP9 := hP.sub (ws' := [(mo, .inr (5, [.int (nI 2), .int mn, .ref m0, .int mg, .ref m1, .ref m2, .ref m3, .ref m4, .ref m5, .ref m6])), (m0, .inl (o0, 16, .inl h)), (m1, .inl (o1, 16, .inl mO)), (m2, .inl (o2, 16, .inl mG)), (m3, .inl (o3, 16, .inl mF)), (m4, .inl (o4, 32, .inl mA)), (m5, .inl (o5, 32, .inl mU)), (m6, .inl (o6, 32, .inl mR))]) [0, 1, 2, 3, 4, 5, 6, 7] rfl
      have hD9 := hD.sub (ws' := [(mo, .inr (5, [.int (nI 2), .int mn, .ref m0, .int mg, .ref m1, .ref m2, .ref m3, .ref m4, .ref m5, .ref m6])), (m0, .inl (o0, 16, .inl h)), (m1, .inl (o1, 16, .inl mO)), (m2, .inl (o2, 16, .inl mG)), (m3, .inl (o3, 16, .inl mF)), (m4, .inl (o4, 32, .inl mA)), (m5, .inl (o5, 32, .inl mU)), (m6, .inl (o6, 32, .inl mR))]) [0, 1, 2, 3, 4, 5, 6, 7] (by decide) rfl
      subst hAe
      exact W.iret (v := nI 0) hx hb hr (fun t ht hW => ⟨⟨_, (), rfl, rfl, by rw [ht]; exact hP9, va_K.moved hW.alike hK, hD9⟩, hS.F ht⟩) hS.2.2 d_M_gate_56
    · have hc21 := b2i_n.mp hc21
      exact absurd hc21 (by rw [hrv]; decide)
  · have hc6 := b2i_n.mp hc6
    exact absurd hc6 (by rw [isP2 (by omega) (by omega)]; decide)
set_option maxHeartbeats 4000000 in
set_option maxRecDepth 100000 in
theorem k_M_gate_same (l : Launch) (D : va_G) (mo m0 m1 m2 m3 m4 m5 m6 : Nat) (o0 o1 o2 o3 o4 o5 o6 : ClassId) (mc : Int32) (mn : Int32) (mg : Int32) (h : Nat → Int32) (mO : Nat → Int32) (mG : Nat → Int32) (mF : Nat → Int32) (mA : Nat → Int32) (mU : Nat → Int32) (mR : Nat → Int32) (hg : gd h) (u v : Nat) (hu : u < 16) (hv : v < 16) (hrv : bt (RE h u) v = true) (huv : u = v) (sz : Nat) : Met l y_M_gate (Cond.code y_M_gate c_M_gate 7 (some .int) :: BS) { frames := 3, cells := 0, slots := 0, locals := 67 } (va_Pc [.ref mo, .int (nI u), .int (nI v)] (xWp D [(mo, .inr (5, [.int mc, .int mn, .ref m0, .int mg, .ref m1, .ref m2, .ref m3, .ref m4, .ref m5, .ref m6])), (m0, .inl (o0, 16, .inl h)), (m1, .inl (o1, 16, .inl mO)), (m2, .inl (o2, 16, .inl mG)), (m3, .inl (o3, 16, .inl mF)), (m4, .inl (o4, 32, .inl mA)), (m5, .inl (o5, 32, .inl mU)), (m6, .inl (o6, 32, .inl mR))] [(o0, .int), (o1, .int), (o2, .int), (o3, .int), (o4, .int), (o5, .int), (o6, .int)] sz)) (xQi D [(mo, .inr (5, [.int mc, .int mn, .ref m0, .int mg, .ref m1, .ref m2, .ref m3, .ref m4, .ref m5, .ref m6])), (m0, .inl (o0, 16, .inl h)), (m1, .inl (o1, 16, .inl mO)), (m2, .inl (o2, 16, .inl mG)), (m3, .inl (o3, 16, .inl mF)), (m4, .inl (o4, 32, .inl mA)), (m5, .inl (o5, 32, .inl mU)), (m6, .inl (o6, 32, .inl mR))] [(mo, .inr (5, [.int (nI 0), .int mn, .ref m0, .int mg, .ref m1, .ref m2, .ref m3, .ref m4, .ref m5, .ref m6])), (m0, .inl (o0, 16, .inl h)), (m1, .inl (o1, 16, .inl mO)), (m2, .inl (o2, 16, .inl mG)), (m3, .inl (o3, 16, .inl mF)), (m4, .inl (o4, 32, .inl mA)), (m5, .inl (o5, 32, .inl mU)), (m6, .inl (o6, 32, .inl mR))] [(o0, .int), (o1, .int), (o2, .int), (o3, .int), (o4, .int), (o5, .int), (o6, .int)] sz (-1)) 0 0 (va_A [(mo, .inr (5, [.int mc, .int mn, .ref m0, .int mg, .ref m1, .ref m2, .ref m3, .ref m4, .ref m5, .ref m6])), (m0, .inl (o0, 16, .inl h)), (m1, .inl (o1, 16, .inl mO)), (m2, .inl (o2, 16, .inl mG)), (m3, .inl (o3, 16, .inl mF)), (m4, .inl (o4, 32, .inl mA)), (m5, .inl (o5, 32, .inl mU)), (m6, .inl (o6, 32, .inl mR))] sz) := by
  refine Met.ofW (cc := c_M_gate) (maxL := 7) (ret := (some .int)) (by decide) rfl ?_
  intro p e s m args below meth c s₁ B hml hv
  obtain ⟨rfl, hsz, hP, hK, hD0, hN⟩ := hv
  have hx := B.exec
  have hb := B.bytes
  have hr := B.returns
  have hB := xB B.pre
  have hown : s.vm.findClass R_M = some m.cls := findClass_of_methodNamed B.named
  have hlocks := B.notSynchronized
  subst hsz
  have hD := hD0.self (sz := s.heap.size)
  obtain ⟨A, hAe⟩ : ∃ A, A = va_A [(mo, .inr (5, [.int mc, .int mn, .ref m0, .int mg, .ref m1, .ref m2, .ref m3, .ref m4, .ref m5, .ref m6])), (m0, .inl (o0, 16, .inl h)), (m1, .inl (o1, 16, .inl mO)), (m2, .inl (o2, 16, .inl mG)), (m3, .inl (o3, 16, .inl mF)), (m4, .inl (o4, 32, .inl mA)), (m5, .inl (o5, 32, .inl mU)), (m6, .inl (o6, 32, .inl mR))] s.heap.size := ⟨_, rfl⟩
  rw [← hAe] at hD
  have hA : ∀ q : Nat, s.heap.size ≤ q → A q := fun q h => by rw [hAe]; exact Or.inr h
  have hS : va_S A s.heap s.heap [] := va_S.rf
  have hl := lv_entry ([.ref mo, .int (nI u), .int (nI v)]) (n := 7) (Nat.le_of_ble_eq_true rfl)
  rw [lg_entry_eq]
  generalize (lg_sl ([.ref mo, .int (nI u), .int (nI v)]) ++ List.replicate (7 - (lg_sl ([.ref mo, .int (nI u), .int (nI v)])).length) Slot.unset).toArray = ls at hl ⊢
  have hl : lv_has ls 7 [(0, .ref mo), (1, .int (nI u)), (2, .int (nI v))] := hl
  refine lv_aload_n hx hb d_M_gate_0 rfl (lv_at hl 0 rfl) ?_
  refine lv_iload_n hx hb d_M_gate_1 rfl (lv_at hl 1 rfl) ?_
  refine lv_iload_n hx hb d_M_gate_2 rfl (lv_at hl 2 rfl) ?_
  refine xw_i (wc := [(mo, .inr (5, [.int mc, .int mn, .ref m0, .int mg, .ref m1, .ref m2, .ref m3, .ref m4, .ref m5, .ref m6])), (m0, .inl (o0, 16, .inl h)), (m1, .inl (o1, 16, .inl mO)), (m2, .inl (o2, 16, .inl mG)), (m3, .inl (o3, 16, .inl mF)), (m4, .inl (o4, 32, .inl mA)), (m5, .inl (o5, 32, .inl mU)), (m6, .inl (o6, 32, .inl mR))]) (wr := []) (w1 := [(mo, .inr (5, [.int (b2i (!(isP (nI u) && isP (nI v)))), .int mn, .ref m0, .int mg, .ref m1, .ref m2, .ref m3, .ref m4, .ref m5, .ref m6])), (m0, .inl (o0, 16, .inl h)), (m1, .inl (o1, 16, .inl mO)), (m2, .inl (o2, 16, .inl mG)), (m3, .inl (o3, 16, .inl mF)), (m4, .inl (o4, 32, .inl mA)), (m5, .inl (o5, 32, .inl mU)), (m6, .inl (o6, 32, .inl mR))]) (va_runV (As := [.int (nI u), .int (nI v)]) (rest := []) ⟨hx, hb, hml, hown, hB⟩ (k_M_lacks l D mo m0 m1 m2 m3 m4 m5 m6 o0 o1 o2 o3 o4 o5 o6 mc mn mg h mO mG mF mA mU mR (nI u) (nI v) _) ⟨callB_of 2 hB (xg0 mc_M_lacks) rfl rfl rfl (hB _ mz_M) (hB _ ml_M_67) (by decide +kernel) ⟨Nat.le_of_ble_eq_true rfl, Nat.le_of_ble_eq_true rfl⟩, hB _ mi_M_lacks, hB _ me_M_lacks⟩ (xqV (ws := [(mo, .inr (5, [.int mc, .int mn, .ref m0, .int mg, .ref m1, .ref m2, .ref m3, .ref m4, .ref m5, .ref m6])), (m0, .inl (o0, 16, .inl h)), (m1, .inl (o1, 16, .inl mO)), (m2, .inl (o2, 16, .inl mG)), (m3, .inl (o3, 16, .inl mF)), (m4, .inl (o4, 32, .inl mA)), (m5, .inl (o5, 32, .inl mU)), (m6, .inl (o6, 32, .inl mR))]) (tys := [(o0, .int), (o1, .int), (o2, .int), (o3, .int), (o4, .int), (o5, .int), (o6, .int)]) (hP.sub [0, 1, 2, 3, 4, 5, 6, 7] rfl) (hD.sub [0, 1, 2, 3, 4, 5, 6, 7] (by decide) rfl) (hK.sub [0, 1, 2, 3, 4, 5, 6] rfl) hN (va_recv (ci := 5) (q0 := 0) (q := (R_M, F_M, 10)) hK hP rfl rfl)) rfl rfl hl.1 rfl (lv_room (Nat.le_of_ble_eq_true rfl)) d_M_gate_3 ⟨Nat.le_of_ble_eq_true rfl, Nat.le_of_ble_eq_true rfl⟩) hP hD hS hA [0, 1, 2, 3, 4, 5, 6, 7] [] rfl rfl (by decide) (by decide) (fun H locs hP hD hS => ?_)
  have hP : va_P D cls [(mo, .inr (5, [.int (b2i (!(isP (nI u) && isP (nI v)))), .int mn, .ref m0, .int mg, .ref m1, .ref m2, .ref m3, .ref m4, .ref m5, .ref m6])), (m0, .inl (o0, 16, .inl h)), (m1, .inl (o1, 16, .inl mO)), (m2, .inl (o2, 16, .inl mG)), (m3, .inl (o3, 16, .inl mF)), (m4, .inl (o4, 32, .inl mA)), (m5, .inl (o5, 32, .inl mU)), (m6, .inl (o6, 32, .inl mR))] H := hP
  have hD : va_D A [(mo, .inr (5, [.int (b2i (!(isP (nI u) && isP (nI v)))), .int mn, .ref m0, .int mg, .ref m1, .ref m2, .ref m3, .ref m4, .ref m5, .ref m6])), (m0, .inl (o0, 16, .inl h)), (m1, .inl (o1, 16, .inl mO)), (m2, .inl (o2, 16, .inl mG)), (m3, .inl (o3, 16, .inl mF)), (m4, .inl (o4, 32, .inl mA)), (m5, .inl (o5, 32, .inl mU)), (m6, .inl (o6, 32, .inl mR))] := hD
  have hz : (b2i (!(isP (nI u) && isP (nI v)))) = nI 0 := by rw [isP2 (by omega) (by omega)]; rfl
  rw [hz] at hP hD
  refine lv_if_eq (tgt := 11) hx hb d_M_gate_6 rfl (fun hc6 => ?_) (fun hc6 => ?_)
  · have hc6 := b2i_0.mp hc6
    refine lv_aload_n hx hb d_M_gate_11 rfl (lv_at hl 0 rfl) ?_
    refine lv_aload_n hx hb d_M_gate_12 rfl (lv_at hl 0 rfl) ?_
    refine lv_iload_n hx hb d_M_gate_13 rfl (lv_at hl 1 rfl) ?_
    refine xr_cal (va_runV (As := [.int (nI u)]) (rest := [.ref mo]) ⟨hx, hb, hml, hown, hB⟩ (k_M_reach l D mo m0 m1 m2 m3 m4 m5 m6 o0 o1 o2 o3 o4 o5 o6 (nI 0) mn mg h mO mG mF mA mU mR hg u (by omega)) ⟨callB_of 1 hB (xg0 mc_M_reach) rfl rfl rfl (hB _ mz_M) (hB _ ml_M_51) (by decide +kernel) ⟨Nat.le_of_ble_eq_true rfl, Nat.le_of_ble_eq_true rfl⟩, hB _ mi_M_reach, hB _ me_M_reach⟩ (xpV (ws := [(mo, .inr (5, [.int (nI 0), .int mn, .ref m0, .int mg, .ref m1, .ref m2, .ref m3, .ref m4, .ref m5, .ref m6])), (m0, .inl (o0, 16, .inl h)), (m1, .inl (o1, 16, .inl mO)), (m2, .inl (o2, 16, .inl mG)), (m3, .inl (o3, 16, .inl mF)), (m4, .inl (o4, 32, .inl mA)), (m5, .inl (o5, 32, .inl mU)), (m6, .inl (o6, 32, .inl mR))]) (tys := [(o0, .int), (o1, .int), (o2, .int), (o3, .int), (o4, .int), (o5, .int), (o6, .int)]) (hP.sub [0, 1, 2, 3, 4, 5, 6, 7] rfl) (hK.sub [0, 1, 2, 3, 4, 5, 6] rfl) hN (va_recv (ci := 5) (q0 := 0) (q := (R_M, F_M, 10)) hK hP rfl rfl)) rfl rfl hl.1 rfl (lv_room (Nat.le_of_ble_eq_true rfl)) d_M_gate_14 ⟨Nat.le_of_ble_eq_true rfl, Nat.le_of_ble_eq_true rfl⟩) ?_
    refine lv_iload_n hx hb d_M_gate_17 rfl (lv_at hl 2 rfl) ?_
    refine xr_cal (va_runS (As := [.int (RE h u), .int (nI v)]) (rest := [.ref mo]) ⟨hx, hb, hml, hown, hB⟩ (k_M_has l D  (RE h u) v (by omega)) ⟨callB_of 2 hB (xg0 mc_M_has) rfl rfl rfl (hB _ mz_M) (hB _ ml_M_35) (by decide +kernel) ⟨Nat.le_of_ble_eq_true rfl, Nat.le_of_ble_eq_true rfl⟩, hB _ ms_M_has⟩ (xpS (ws := []) (tys := []) (hP.sub [] rfl) (hK.sub [] rfl) hN) rfl rfl hl.1 rfl (lv_room (Nat.le_of_ble_eq_true rfl)) d_M_gate_18 ⟨Nat.le_of_ble_eq_true rfl, Nat.le_of_ble_eq_true rfl⟩) ?_
    refine lv_if_eq (tgt := 28) hx hb d_M_gate_21 rfl (fun hc21 => ?_) (fun hc21 => ?_)
    · have hc21 := b2i_0.mp hc21
      exact absurd hrv (by rw [hc21]; decide)
    · have hc21 := b2i_n.mp hc21
      refine lv_iconst (v := nI 0) hx hb d_M_gate_24 (by decide) ?_
      refine lv_goto (tgt := 29) hx hb d_M_gate_25 rfl ?_
      refine va_put (D := D) (ci := 5) (v := .int (nI 0)) (ty := .int) (C := R_M) (T := F_M) (N := 10) hx hb hB in_M t_M t_M_ok n_M hown hK hP hD hS 0 rfl rfl 0 (by decide) (hB _ mf_M_31) (fun _ h9 => h9) rfl (by decide +kernel) rfl rfl (Nat.le_of_ble_eq_true rfl) d_M_gate_29 (fun H locs hP hD hS => ?_)
      have hP : va_P D cls [(mo, .inr (5, [.int (nI 0), .int mn, .ref m0, .int mg, .ref m1, .ref m2, .ref m3, .ref m4, .ref m5, .ref m6])), (m0, .inl (o0, 16, .inl h)), (m1, .inl (o1, 16, .inl mO)), (m2, .inl (o2, 16, .inl mG)), (m3, .inl (o3, 16, .inl mF)), (m4, .inl (o4, 32, .inl mA)), (m5, .inl (o5, 32, .inl mU)), (m6, .inl (o6, 32, .inl mR))] H := hP
      have hD : va_D A [(mo, .inr (5, [.int (nI 0), .int mn, .ref m0, .int mg, .ref m1, .ref m2, .ref m3, .ref m4, .ref m5, .ref m6])), (m0, .inl (o0, 16, .inl h)), (m1, .inl (o1, 16, .inl mO)), (m2, .inl (o2, 16, .inl mG)), (m3, .inl (o3, 16, .inl mF)), (m4, .inl (o4, 32, .inl mA)), (m5, .inl (o5, 32, .inl mU)), (m6, .inl (o6, 32, .inl mR))] := hD
      refine lv_aload_n hx hb d_M_gate_32 rfl (lv_at hl 0 rfl) ?_
      refine va_get (D := D) (ci := 5) (v := .int (nI 0)) (C := R_M) (T := F_M) (N := 10) hx hb hB in_M hown hK hP 0 rfl rfl 0 (by decide) (hB _ mf_M_31) (fun _ h9 => h9) rfl d_M_gate_33 ?_
      refine lv_if_gt (tgt := 44) hx hb d_M_gate_36 rfl (fun hc36 => absurd hc36 (by decide)) (fun _ => ?_)
      refine lv_iload_n hx hb d_M_gate_39 rfl (lv_at hl 1 rfl) ?_
      refine lv_iload_n hx hb d_M_gate_40 rfl (lv_at hl 2 rfl) ?_
      refine lv_icmp_ne (tgt := 57) hx hb d_M_gate_41 rfl (fun hc41 => ?_) (fun hc41 => ?_)
      · have hc41 : ¬ (u = v) := fun q9 => hc41 ((nI_eq (by omega) (by omega)).mpr q9)
        exact absurd huv hc41
      · have hc41 : u = v := (nI_eq (by omega) (by omega)).mp hc41
        refine lv_aload_n hx hb d_M_gate_44 rfl (lv_at hl 0 rfl) ?_
        refine va_get (D := D) (ci := 5) (v := .int (nI 0)) (C := R_M) (T := F_M) (N := 10) hx hb hB in_M hown hK hP 0 rfl rfl 0 (by decide) (hB _ mf_M_31) (fun _ h9 => h9) rfl d_M_gate_45 ?_
        refine lv_if_le (tgt := 55) hx hb d_M_gate_48 rfl (fun _ => ?_) (fun hc48 => absurd hc48 (by decide))
        refine lv_iconst (v := -1) hx hb d_M_gate_55 (by decide) ?_
        have hP9 := hP.sub (ws' := [(mo, .inr (5, [.int (nI 0), .int mn, .ref m0, .int mg, .ref m1, .ref m2, .ref m3, .ref m4, .ref m5, .ref m6])), (m0, .inl (o0, 16, .inl h)), (m1, .inl (o1, 16, .inl mO)), (m2, .inl (o2, 16, .inl mG)), (m3, .inl (o3, 16, .inl mF)), (m4, .inl (o4, 32, .inl mA)), (m5, .inl (o5, 32, .inl mU)), (m6, .inl (o6, 32, .inl mR))]) [0, 1, 2, 3, 4, 5, 6, 7] rfl
        have hD9 := hD.sub (ws' := [(mo, .inr (5, [.int (nI 0), .int mn, .ref m0, .int mg, .ref m1, .ref m2, .ref m3, .ref m4, .ref m5, .ref m6])), (m0, .inl (o0, 16, .inl h)), (m1, .inl (o1, 16, .inl mO)), (m2, .inl (o2, 16, .inl mG)), (m3, .inl (o3, 16, .inl mF)), (m4, .inl (o4, 32, .inl mA)), (m5, .inl (o5, 32, .inl mU)), (m6, .inl (o6, 32, .inl mR))]) [0, 1, 2, 3, 4, 5, 6, 7] (by decide) rfl
        subst hAe
        exact W.iret (v := -1) hx hb hr (fun t ht hW => ⟨⟨_, (), rfl, rfl, by rw [ht]; exact hP9, va_K.moved hW.alike hK, hD9⟩, hS.F ht⟩) hS.2.2 d_M_gate_56
  · have hc6 := b2i_n.mp hc6
    exact absurd hc6 (by rw [isP2 (by omega) (by omega)]; decide)
set_option maxHeartbeats 4000000 in
set_option maxRecDepth 100000 in
theorem k_M_gate_ok (l : Launch) (D : va_G) (mo m0 m1 m2 m3 m4 m5 m6 : Nat) (o0 o1 o2 o3 o4 o5 o6 : ClassId) (mc : Int32) (mn : Int32) (mg : Int32) (h : Nat → Int32) (mO : Nat → Int32) (mG : Nat → Int32) (mF : Nat → Int32) (mA : Nat → Int32) (mU : Nat → Int32) (mR : Nat → Int32) (hg : gd h) (u v : Nat) (hu : u < 16) (hv : v < 16) (hrv : bt (RE h u) v = true) (huv : ¬ u = v) (sz : Nat) : Met l y_M_gate (Cond.code y_M_gate c_M_gate 7 (some .int) :: BS) { frames := 3, cells := 0, slots := 0, locals := 69 } (va_Pc [.ref mo, .int (nI u), .int (nI v)] (xWp D [(mo, .inr (5, [.int mc, .int mn, .ref m0, .int mg, .ref m1, .ref m2, .ref m3, .ref m4, .ref m5, .ref m6])), (m0, .inl (o0, 16, .inl h)), (m1, .inl (o1, 16, .inl mO)), (m2, .inl (o2, 16, .inl mG)), (m3, .inl (o3, 16, .inl mF)), (m4, .inl (o4, 32, .inl mA)), (m5, .inl (o5, 32, .inl mU)), (m6, .inl (o6, 32, .inl mR))] [(o0, .int), (o1, .int), (o2, .int), (o3, .int), (o4, .int), (o5, .int), (o6, .int)] sz)) (xQi D [(mo, .inr (5, [.int mc, .int mn, .ref m0, .int mg, .ref m1, .ref m2, .ref m3, .ref m4, .ref m5, .ref m6])), (m0, .inl (o0, 16, .inl h)), (m1, .inl (o1, 16, .inl mO)), (m2, .inl (o2, 16, .inl mG)), (m3, .inl (o3, 16, .inl mF)), (m4, .inl (o4, 32, .inl mA)), (m5, .inl (o5, 32, .inl mU)), (m6, .inl (o6, 32, .inl mR))] [(mo, .inr (5, [.int (nI 0), .int mn, .ref m0, .int mg, .ref m1, .ref m2, .ref m3, .ref m4, .ref m5, .ref m6])), (m0, .inl (o0, 16, .inl h)), (m1, .inl (o1, 16, .inl mO)), (m2, .inl (o2, 16, .inl mG)), (m3, .inl (o3, 16, .inl mF)), (m4, .inl (o4, 32, .inl mA)), (m5, .inl (o5, 32, .inl mU)), (m6, .inl (o6, 32, .inl mR))] [(o0, .int), (o1, .int), (o2, .int), (o3, .int), (o4, .int), (o5, .int), (o6, .int)] sz (fdq (gtQ h u v) 16)) 0 0 (va_A [(mo, .inr (5, [.int mc, .int mn, .ref m0, .int mg, .ref m1, .ref m2, .ref m3, .ref m4, .ref m5, .ref m6])), (m0, .inl (o0, 16, .inl h)), (m1, .inl (o1, 16, .inl mO)), (m2, .inl (o2, 16, .inl mG)), (m3, .inl (o3, 16, .inl mF)), (m4, .inl (o4, 32, .inl mA)), (m5, .inl (o5, 32, .inl mU)), (m6, .inl (o6, 32, .inl mR))] sz) := by
  refine Met.ofW (cc := c_M_gate) (maxL := 7) (ret := (some .int)) (by decide) rfl ?_
  intro p e s m args below meth c s₁ B hml hv
  obtain ⟨rfl, hsz, hP, hK, hD0, hN⟩ := hv
  have hx := B.exec
  have hb := B.bytes
  have hr := B.returns
  have hB := xB B.pre
  have hown : s.vm.findClass R_M = some m.cls := findClass_of_methodNamed B.named
  have hlocks := B.notSynchronized
  subst hsz
  have hD := hD0.self (sz := s.heap.size)
  obtain ⟨A, hAe⟩ : ∃ A, A = va_A [(mo, .inr (5, [.int mc, .int mn, .ref m0, .int mg, .ref m1, .ref m2, .ref m3, .ref m4, .ref m5, .ref m6])), (m0, .inl (o0, 16, .inl h)), (m1, .inl (o1, 16, .inl mO)), (m2, .inl (o2, 16, .inl mG)), (m3, .inl (o3, 16, .inl mF)), (m4, .inl (o4, 32, .inl mA)), (m5, .inl (o5, 32, .inl mU)), (m6, .inl (o6, 32, .inl mR))] s.heap.size := ⟨_, rfl⟩
  rw [← hAe] at hD
  have hA : ∀ q : Nat, s.heap.size ≤ q → A q := fun q h => by rw [hAe]; exact Or.inr h
  have hS : va_S A s.heap s.heap [] := va_S.rf
  have hl := lv_entry ([.ref mo, .int (nI u), .int (nI v)]) (n := 7) (Nat.le_of_ble_eq_true rfl)
  rw [lg_entry_eq]
  generalize (lg_sl ([.ref mo, .int (nI u), .int (nI v)]) ++ List.replicate (7 - (lg_sl ([.ref mo, .int (nI u), .int (nI v)])).length) Slot.unset).toArray = ls at hl ⊢
  have hl : lv_has ls 7 [(0, .ref mo), (1, .int (nI u)), (2, .int (nI v))] := hl
  refine lv_aload_n hx hb d_M_gate_0 rfl (lv_at hl 0 rfl) ?_
  refine lv_iload_n hx hb d_M_gate_1 rfl (lv_at hl 1 rfl) ?_
  refine lv_iload_n hx hb d_M_gate_2 rfl (lv_at hl 2 rfl) ?_
  refine xw_i (wc := [(mo, .inr (5, [.int mc, .int mn, .ref m0, .int mg, .ref m1, .ref m2, .ref m3, .ref m4, .ref m5, .ref m6])), (m0, .inl (o0, 16, .inl h)), (m1, .inl (o1, 16, .inl mO)), (m2, .inl (o2, 16, .inl mG)), (m3, .inl (o3, 16, .inl mF)), (m4, .inl (o4, 32, .inl mA)), (m5, .inl (o5, 32, .inl mU)), (m6, .inl (o6, 32, .inl mR))]) (wr := []) (w1 := [(mo, .inr (5, [.int (b2i (!(isP (nI u) && isP (nI v)))), .int mn, .ref m0, .int mg, .ref m1, .ref m2, .ref m3, .ref m4, .ref m5, .ref m6])), (m0, .inl (o0, 16, .inl h)), (m1, .inl (o1, 16, .inl mO)), (m2, .inl (o2, 16, .inl mG)), (m3, .inl (o3, 16, .inl mF)), (m4, .inl (o4, 32, .inl mA)), (m5, .inl (o5, 32, .inl mU)), (m6, .inl (o6, 32, .inl mR))]) (va_runV (As := [.int (nI u), .int (nI v)]) (rest := []) ⟨hx, hb, hml, hown, hB⟩ (k_M_lacks l D mo m0 m1 m2 m3 m4 m5 m6 o0 o1 o2 o3 o4 o5 o6 mc mn mg h mO mG mF mA mU mR (nI u) (nI v) _) ⟨callB_of 2 hB (xg0 mc_M_lacks) rfl rfl rfl (hB _ mz_M) (hB _ ml_M_67) (by decide +kernel) ⟨Nat.le_of_ble_eq_true rfl, Nat.le_of_ble_eq_true rfl⟩, hB _ mi_M_lacks, hB _ me_M_lacks⟩ (xqV (ws := [(mo, .inr (5, [.int mc, .int mn, .ref m0, .int mg, .ref m1, .ref m2, .ref m3, .ref m4, .ref m5, .ref m6])), (m0, .inl (o0, 16, .inl h)), (m1, .inl (o1, 16, .inl mO)), (m2, .inl (o2, 16, .inl mG)), (m3, .inl (o3, 16, .inl mF)), (m4, .inl (o4, 32, .inl mA)), (m5, .inl (o5, 32, .inl mU)), (m6, .inl (o6, 32, .inl mR))]) (tys := [(o0, .int), (o1, .int), (o2, .int), (o3, .int), (o4, .int), (o5, .int), (o6, .int)]) (hP.sub [0, 1, 2, 3, 4, 5, 6, 7] rfl) (hD.sub [0, 1, 2, 3, 4, 5, 6, 7] (by decide) rfl) (hK.sub [0, 1, 2, 3, 4, 5, 6] rfl) hN (va_recv (ci := 5) (q0 := 0) (q := (R_M, F_M, 10)) hK hP rfl rfl)) rfl rfl hl.1 rfl (lv_room (Nat.le_of_ble_eq_true rfl)) d_M_gate_3 ⟨Nat.le_of_ble_eq_true rfl, Nat.le_of_ble_eq_true rfl⟩) hP hD hS hA [0, 1, 2, 3, 4, 5, 6, 7] [] rfl rfl (by decide) (by decide) (fun H locs hP hD hS => ?_)
  have hP : va_P D cls [(mo, .inr (5, [.int (b2i (!(isP (nI u) && isP (nI v)))), .int mn, .ref m0, .int mg, .ref m1, .ref m2, .ref m3, .ref m4, .ref m5, .ref m6])), (m0, .inl (o0, 16, .inl h)), (m1, .inl (o1, 16, .inl mO)), (m2, .inl (o2, 16, .inl mG)), (m3, .inl (o3, 16, .inl mF)), (m4, .inl (o4, 32, .inl mA)), (m5, .inl (o5, 32, .inl mU)), (m6, .inl (o6, 32, .inl mR))] H := hP
  have hD : va_D A [(mo, .inr (5, [.int (b2i (!(isP (nI u) && isP (nI v)))), .int mn, .ref m0, .int mg, .ref m1, .ref m2, .ref m3, .ref m4, .ref m5, .ref m6])), (m0, .inl (o0, 16, .inl h)), (m1, .inl (o1, 16, .inl mO)), (m2, .inl (o2, 16, .inl mG)), (m3, .inl (o3, 16, .inl mF)), (m4, .inl (o4, 32, .inl mA)), (m5, .inl (o5, 32, .inl mU)), (m6, .inl (o6, 32, .inl mR))] := hD
  have hz : (b2i (!(isP (nI u) && isP (nI v)))) = nI 0 := by rw [isP2 (by omega) (by omega)]; rfl
  rw [hz] at hP hD
  refine lv_if_eq (tgt := 11) hx hb d_M_gate_6 rfl (fun hc6 => ?_) (fun hc6 => ?_)
  · have hc6 := b2i_0.mp hc6
    refine lv_aload_n hx hb d_M_gate_11 rfl (lv_at hl 0 rfl) ?_
    refine lv_aload_n hx hb d_M_gate_12 rfl (lv_at hl 0 rfl) ?_
    refine lv_iload_n hx hb d_M_gate_13 rfl (lv_at hl 1 rfl) ?_
    refine xr_cal (va_runV (As := [.int (nI u)]) (rest := [.ref mo]) ⟨hx, hb, hml, hown, hB⟩ (k_M_reach l D mo m0 m1 m2 m3 m4 m5 m6 o0 o1 o2 o3 o4 o5 o6 (nI 0) mn mg h mO mG mF mA mU mR hg u (by omega)) ⟨callB_of 1 hB (xg0 mc_M_reach) rfl rfl rfl (hB _ mz_M) (hB _ ml_M_51) (by decide +kernel) ⟨Nat.le_of_ble_eq_true rfl, Nat.le_of_ble_eq_true rfl⟩, hB _ mi_M_reach, hB _ me_M_reach⟩ (xpV (ws := [(mo, .inr (5, [.int (nI 0), .int mn, .ref m0, .int mg, .ref m1, .ref m2, .ref m3, .ref m4, .ref m5, .ref m6])), (m0, .inl (o0, 16, .inl h)), (m1, .inl (o1, 16, .inl mO)), (m2, .inl (o2, 16, .inl mG)), (m3, .inl (o3, 16, .inl mF)), (m4, .inl (o4, 32, .inl mA)), (m5, .inl (o5, 32, .inl mU)), (m6, .inl (o6, 32, .inl mR))]) (tys := [(o0, .int), (o1, .int), (o2, .int), (o3, .int), (o4, .int), (o5, .int), (o6, .int)]) (hP.sub [0, 1, 2, 3, 4, 5, 6, 7] rfl) (hK.sub [0, 1, 2, 3, 4, 5, 6] rfl) hN (va_recv (ci := 5) (q0 := 0) (q := (R_M, F_M, 10)) hK hP rfl rfl)) rfl rfl hl.1 rfl (lv_room (Nat.le_of_ble_eq_true rfl)) d_M_gate_14 ⟨Nat.le_of_ble_eq_true rfl, Nat.le_of_ble_eq_true rfl⟩) ?_
    refine lv_iload_n hx hb d_M_gate_17 rfl (lv_at hl 2 rfl) ?_
    refine xr_cal (va_runS (As := [.int (RE h u), .int (nI v)]) (rest := [.ref mo]) ⟨hx, hb, hml, hown, hB⟩ (k_M_has l D  (RE h u) v (by omega)) ⟨callB_of 2 hB (xg0 mc_M_has) rfl rfl rfl (hB _ mz_M) (hB _ ml_M_35) (by decide +kernel) ⟨Nat.le_of_ble_eq_true rfl, Nat.le_of_ble_eq_true rfl⟩, hB _ ms_M_has⟩ (xpS (ws := []) (tys := []) (hP.sub [] rfl) (hK.sub [] rfl) hN) rfl rfl hl.1 rfl (lv_room (Nat.le_of_ble_eq_true rfl)) d_M_gate_18 ⟨Nat.le_of_ble_eq_true rfl, Nat.le_of_ble_eq_true rfl⟩) ?_
    refine lv_if_eq (tgt := 28) hx hb d_M_gate_21 rfl (fun hc21 => ?_) (fun hc21 => ?_)
    · have hc21 := b2i_0.mp hc21
      exact absurd hrv (by rw [hc21]; decide)
    · have hc21 := b2i_n.mp hc21
      refine lv_iconst (v := nI 0) hx hb d_M_gate_24 (by decide) ?_
      refine lv_goto (tgt := 29) hx hb d_M_gate_25 rfl ?_
      refine va_put (D := D) (ci := 5) (v := .int (nI 0)) (ty := .int) (C := R_M) (T := F_M) (N := 10) hx hb hB in_M t_M t_M_ok n_M hown hK hP hD hS 0 rfl rfl 0 (by decide) (hB _ mf_M_31) (fun _ h9 => h9) rfl (by decide +kernel) rfl rfl (Nat.le_of_ble_eq_true rfl) d_M_gate_29 (fun H locs hP hD hS => ?_)
      have hP : va_P D cls [(mo, .inr (5, [.int (nI 0), .int mn, .ref m0, .int mg, .ref m1, .ref m2, .ref m3, .ref m4, .ref m5, .ref m6])), (m0, .inl (o0, 16, .inl h)), (m1, .inl (o1, 16, .inl mO)), (m2, .inl (o2, 16, .inl mG)), (m3, .inl (o3, 16, .inl mF)), (m4, .inl (o4, 32, .inl mA)), (m5, .inl (o5, 32, .inl mU)), (m6, .inl (o6, 32, .inl mR))] H := hP
      have hD : va_D A [(mo, .inr (5, [.int (nI 0), .int mn, .ref m0, .int mg, .ref m1, .ref m2, .ref m3, .ref m4, .ref m5, .ref m6])), (m0, .inl (o0, 16, .inl h)), (m1, .inl (o1, 16, .inl mO)), (m2, .inl (o2, 16, .inl mG)), (m3, .inl (o3, 16, .inl mF)), (m4, .inl (o4, 32, .inl mA)), (m5, .inl (o5, 32, .inl mU)), (m6, .inl (o6, 32, .inl mR))] := hD
      refine lv_aload_n hx hb d_M_gate_32 rfl (lv_at hl 0 rfl) ?_
      refine va_get (D := D) (ci := 5) (v := .int (nI 0)) (C := R_M) (T := F_M) (N := 10) hx hb hB in_M hown hK hP 0 rfl rfl 0 (by decide) (hB _ mf_M_31) (fun _ h9 => h9) rfl d_M_gate_33 ?_
      refine lv_if_gt (tgt := 44) hx hb d_M_gate_36 rfl (fun hc36 => absurd hc36 (by decide)) (fun _ => ?_)
      refine lv_iload_n hx hb d_M_gate_39 rfl (lv_at hl 1 rfl) ?_
      refine lv_iload_n hx hb d_M_gate_40 rfl (lv_at hl 2 rfl) ?_
      refine lv_icmp_ne (tgt := 57) hx hb d_M_gate_41 rfl (fun hc41 => ?_) (fun hc41 => ?_)
      · have hc41 : ¬ (u = v) := fun q9 => hc41 ((nI_eq (by omega) (by omega)).mpr q9)
        refine lv_iconst (v := -1) hx hb d_M_gate_57 (by decide) ?_
        refine lv_istore_n hx hb d_M_gate_58 rfl hl (by decide) rfl (fun ls hl => ?_)
        have hl : lv_has ls 7 [(3, .int (-1)), (0, .ref mo), (1, .int (nI u)), (2, .int (nI v))] := hl
        refine lv_iconst (v := nI 0) hx hb d_M_gate_59 (by decide) ?_
        refine lv_istore hx hb d_M_gate_60 hl (by decide) rfl (fun ls hl => ?_)
        have hl : lv_has ls 7 [(4, .int (nI 0)), (3, .int (-1)), (0, .ref mo), (1, .int (nI u)), (2, .int (nI v))] := hl
        refine xl_w (fun (d : Nat) ls H locs => ((d ≤ 16)) ∧ lv_has ls 7 [(4, .int (nI d)), (3, .int (fdq (gtQ h u v) d)), (0, .ref mo), (1, .int (nI u)), (2, .int (nI v))] ∧ va_P D cls [(mo, .inr (5, [.int (nI 0), .int mn, .ref m0, .int mg, .ref m1, .ref m2, .ref m3, .ref m4, .ref m5, .ref m6])), (m0, .inl (o0, 16, .inl h)), (m1, .inl (o1, 16, .inl mO)), (m2, .inl (o2, 16, .inl mG)), (m3, .inl (o3, 16, .inl mF)), (m4, .inl (o4, 32, .inl mA)), (m5, .inl (o5, 32, .inl mU)), (m6, .inl (o6, 32, .inl mR))] H ∧ va_D A [(mo, .inr (5, [.int (nI 0), .int mn, .ref m0, .int mg, .ref m1, .ref m2, .ref m3, .ref m4, .ref m5, .ref m6])), (m0, .inl (o0, 16, .inl h)), (m1, .inl (o1, 16, .inl mO)), (m2, .inl (o2, 16, .inl mG)), (m3, .inl (o3, 16, .inl mF)), (m4, .inl (o4, 32, .inl mA)), (m5, .inl (o5, 32, .inl mU)), (m6, .inl (o6, 32, .inl mR))] ∧ va_S A s.heap H locs) (fun d => 16 - d) (fun d ls H locs hI ih62 => ?_) 0 _ ⟨Nat.zero_le _, hl, hP, hD, hS⟩
        obtain ⟨hI, hl, hP, hD, hS⟩ := hI
        have hd := hI
        refine lv_iload hx hb d_M_gate_62 (lv_at hl 0 rfl) ?_
        refine lv_bipush (v := nI 16) hx hb d_M_gate_64 (by decide) ?_
        refine lv_icmp_ge (tgt := 194) hx hb d_M_gate_66 rfl (fun hc66 => ?_) (fun hc66 => ?_)
        · have hc66 : 16 ≤ d := (nI_leI (by omega) (by omega)).mp hc66
          refine lv_iload_n hx hb d_M_gate_194 rfl (lv_at hl 1 rfl) ?_
          have hP9 := hP.sub (ws' := [(mo, .inr (5, [.int (nI 0), .int mn, .ref m0, .int mg, .ref m1, .ref m2, .ref m3, .ref m4, .ref m5, .ref m6])), (m0, .inl (o0, 16, .inl h)), (m1, .inl (o1, 16, .inl mO)), (m2, .inl (o2, 16, .inl mG)), (m3, .inl (o3, 16, .inl mF)), (m4, .inl (o4, 32, .inl mA)), (m5, .inl (o5, 32, .inl mU)), (m6, .inl (o6, 32, .inl mR))]) [0, 1, 2, 3, 4, 5, 6, 7] rfl
          have hD9 := hD.sub (ws' := [(mo, .inr (5, [.int (nI 0), .int mn, .ref m0, .int mg, .ref m1, .ref m2, .ref m3, .ref m4, .ref m5, .ref m6])), (m0, .inl (o0, 16, .inl h)), (m1, .inl (o1, 16, .inl mO)), (m2, .inl (o2, 16, .inl mG)), (m3, .inl (o3, 16, .inl mF)), (m4, .inl (o4, 32, .inl mA)), (m5, .inl (o5, 32, .inl mU)), (m6, .inl (o6, 32, .inl mR))]) [0, 1, 2, 3, 4, 5, 6, 7] (by decide) rfl
          subst hAe
          refine xv_top (x' := fdq (gtQ h u v) 16) (by rw [show d = 16 by omega]) ?_
          exact W.iret (v := fdq (gtQ h u v) 16) hx hb hr (fun t ht hW => ⟨⟨_, (), rfl, rfl, by rw [ht]; exact hP9, va_K.moved hW.alike hK, hD9⟩, hS.F ht⟩) hS.2.2 d_M_gate_195
        · have hc66 : ¬ (16 ≤ d) := fun q9 => hc66 ((nI_leI (by omega) (by omega)).mpr q9)
          refine lv_iload hx hb d_M_gate_69 (lv_at hl 0 rfl) ?_
          refine lv_iload_n hx hb d_M_gate_71 rfl (lv_at hl 4 rfl) ?_
          refine lv_icmp_eq (tgt := 103) hx hb d_M_gate_72 rfl (fun hc72 => ?_) (fun hc72 => ?_)
          · have hc72 : d = v := (nI_eq (by omega) (by omega)).mp hc72
            refine lv_iconst (v := nI 0) hx hb d_M_gate_103 (by decide) ?_
            refine lv_istore hx hb d_M_gate_104 hl (by decide) rfl (fun ls hl => ?_)
            have hl : lv_has ls 7 [(5, .int (nI 0)), (4, .int (nI d)), (3, .int (fdq (gtQ h u v) d)), (0, .ref mo), (1, .int (nI u)), (2, .int (nI v))] := hl
            have hl : lv_has ls 7 [(5, .int (b2i (gtL h u v d && alq (gtC h u v d) 0))), (4, .int (nI d)), (3, .int (fdq (gtQ h u v) d)), (0, .ref mo), (1, .int (nI u)), (2, .int (nI v))] := by
              have hz : (nI 0) = b2i (gtL h u v d && alq (gtC h u v d) 0) := by show _ = b2i (gtL h u v d && true); unfold gtL; first | (rw [decide_eq_false hc72, hc85, show dpb h u v d = true from hc96]; rfl) | (rw [show dpb h u v d = false from hc96, Bool.and_false]; rfl) | (rw [hc85, Bool.and_false]; rfl) | (rw [decide_eq_true hc72]; rfl)
              rw [← hz]; exact hl
            refine lv_iconst (v := nI 0) hx hb d_M_gate_106 (by decide) ?_
            refine lv_istore hx hb d_M_gate_107 hl (by decide) rfl (fun ls hl => ?_)
            have hl : lv_has ls 7 [(6, .int (nI 0)), (5, .int (b2i (gtL h u v d && alq (gtC h u v d) 0))), (4, .int (nI d)), (3, .int (fdq (gtQ h u v) d)), (0, .ref mo), (1, .int (nI u)), (2, .int (nI v))] := hl
            refine xl_w (fun (e9 : Nat) ls H locs => ((e9 ≤ 16)) ∧ lv_has ls 7 [(6, .int (nI e9)), (5, .int (b2i (gtL h u v d && alq (gtC h u v d) e9))), (4, .int (nI d)), (3, .int (fdq (gtQ h u v) d)), (0, .ref mo), (1, .int (nI u)), (2, .int (nI v))] ∧ va_P D cls [(mo, .inr (5, [.int (nI 0), .int mn, .ref m0, .int mg, .ref m1, .ref m2, .ref m3, .ref m4, .ref m5, .ref m6])), (m0, .inl (o0, 16, .inl h)), (m1, .inl (o1, 16, .inl mO)), (m2, .inl (o2, 16, .inl mG)), (m3, .inl (o3, 16, .inl mF)), (m4, .inl (o4, 32, .inl mA)), (m5, .inl (o5, 32, .inl mU)), (m6, .inl (o6, 32, .inl mR))] H ∧ va_D A [(mo, .inr (5, [.int (nI 0), .int mn, .ref m0, .int mg, .ref m1, .ref m2, .ref m3, .ref m4, .ref m5, .ref m6])), (m0, .inl (o0, 16, .inl h)), (m1, .inl (o1, 16, .inl mO)), (m2, .inl (o2, 16, .inl mG)), (m3, .inl (o3, 16, .inl mF)), (m4, .inl (o4, 32, .inl mA)), (m5, .inl (o5, 32, .inl mU)), (m6, .inl (o6, 32, .inl mR))] ∧ va_S A s.heap H locs) (fun e9 => 16 - e9) (fun e9 ls H locs hI ih109 => ?_) 0 _ ⟨Nat.zero_le _, hl, hP, hD, hS⟩
            obtain ⟨hI, hl, hP, hD, hS⟩ := hI
            have he9 := hI
            refine lv_iload hx hb d_M_gate_109 (lv_at hl 0 rfl) ?_
            refine lv_bipush (v := nI 16) hx hb d_M_gate_111 (by decide) ?_
            refine lv_icmp_ge (tgt := 176) hx hb d_M_gate_113 rfl (fun hc113 => ?_) (fun hc113 => ?_)
            · have hc113 : 16 ≤ e9 := (nI_leI (by omega) (by omega)).mp hc113
              have hl : lv_has ls 7 [(6, .int (nI e9)), (5, .int (b2i (gtQ h u v d))), (4, .int (nI d)), (3, .int (fdq (gtQ h u v) d)), (0, .ref mo), (1, .int (nI u)), (2, .int (nI v))] := by
                have hz : (b2i (gtL h u v d && alq (gtC h u v d) e9)) = b2i (gtQ h u v d) := by unfold gtQ; first | rw [show e9 = 16 by omega] | rw [hc118, alq_end (by omega) hc118]
                rw [← hz]; exact hl
              refine lv_iload hx hb d_M_gate_176 (lv_at hl 1 rfl) ?_
              refine lv_if_eq (tgt := 186) hx hb d_M_gate_178 rfl (fun hc178 => ?_) (fun hc178 => ?_)
              · have hc178 := b2i_0.mp hc178
                refine lv_iload_n hx hb d_M_gate_186 rfl (lv_at hl 3 rfl) ?_
                refine lv_istore_n hx hb d_M_gate_187 rfl hl (by decide) rfl (fun ls hl => ?_)
                have hl : lv_has ls 7 [(3, .int (fdq (gtQ h u v) d)), (6, .int (nI e9)), (5, .int (b2i (gtQ h u v d))), (4, .int (nI d)), (0, .ref mo), (1, .int (nI u)), (2, .int (nI v))] := hl
                have hl : lv_has ls 7 [(3, .int (fdq (gtQ h u v) (d + 1))), (6, .int (nI e9)), (5, .int (b2i (gtQ h u v d))), (4, .int (nI d)), (0, .ref mo), (1, .int (nI u)), (2, .int (nI v))] := by
                  have hz : (fdq (gtQ h u v) d) = fdq (gtQ h u v) (d + 1) := (if_neg (by rw [hc178]; decide)).symm
                  rw [← hz]; exact hl
                refine lv_iinc hx hb d_M_gate_188 hl (k := 3) rfl (v := nI (d + 1)) (nI_1 d) (by decide) rfl (fun ls hl => ?_)
                have hl : lv_has ls 7 [(4, .int (nI (d + 1))), (3, .int (fdq (gtQ h u v) (d + 1))), (6, .int (nI e9)), (5, .int (b2i (gtQ h u v d))), (0, .ref mo), (1, .int (nI u)), (2, .int (nI v))] := hl
                refine lv_goto (tgt := 62) hx hb d_M_gate_191 rfl ?_
                exact ih62 (d + 1) _ H locs ⟨by omega, lv_sub hl [0, 1, 4, 5, 6] rfl, hP, hD, hS⟩ (by omega)
              · have hc178 := b2i_n.mp hc178
                refine lv_iload hx hb d_M_gate_181 (lv_at hl 2 rfl) ?_
                refine lv_goto (tgt := 187) hx hb d_M_gate_183 rfl ?_
                refine lv_istore_n hx hb d_M_gate_187 rfl hl (by decide) rfl (fun ls hl => ?_)
                have hl : lv_has ls 7 [(3, .int (nI d)), (6, .int (nI e9)), (5, .int (b2i (gtQ h u v d))), (4, .int (nI d)), (0, .ref mo), (1, .int (nI u)), (2, .int (nI v))] := hl
                have hl : lv_has ls 7 [(3, .int (fdq (gtQ h u v) (d + 1))), (6, .int (nI e9)), (5, .int (b2i (gtQ h u v d))), (4, .int (nI d)), (0, .ref mo), (1, .int (nI u)), (2, .int (nI v))] := by
                  have hz : (nI d) = fdq (gtQ h u v) (d + 1) := (if_pos hc178).symm
                  rw [← hz]; exact hl
                refine lv_iinc hx hb d_M_gate_188 hl (k := 3) rfl (v := nI (d + 1)) (nI_1 d) (by decide) rfl (fun ls hl => ?_)
                have hl : lv_has ls 7 [(4, .int (nI (d + 1))), (3, .int (fdq (gtQ h u v) (d + 1))), (6, .int (nI e9)), (5, .int (b2i (gtQ h u v d))), (0, .ref mo), (1, .int (nI u)), (2, .int (nI v))] := hl
                refine lv_goto (tgt := 62) hx hb d_M_gate_191 rfl ?_
                exact ih62 (d + 1) _ H locs ⟨by omega, lv_sub hl [0, 1, 4, 5, 6] rfl, hP, hD, hS⟩ (by omega)
            · have hc113 : ¬ (16 ≤ e9) := fun q9 => hc113 ((nI_leI (by omega) (by omega)).mpr q9)
              refine lv_iload hx hb d_M_gate_116 (lv_at hl 1 rfl) ?_
              refine lv_if_eq (tgt := 176) hx hb d_M_gate_118 rfl (fun hc118 => ?_) (fun hc118 => ?_)
              · have hc118 := b2i_0.mp hc118
                have hl : lv_has ls 7 [(6, .int (nI e9)), (5, .int (b2i (gtQ h u v d))), (4, .int (nI d)), (3, .int (fdq (gtQ h u v) d)), (0, .ref mo), (1, .int (nI u)), (2, .int (nI v))] := by
                  have hz : (b2i (gtL h u v d && alq (gtC h u v d) e9)) = b2i (gtQ h u v d) := by unfold gtQ; first | rw [show e9 = 16 by omega] | rw [hc118, alq_end (by omega) hc118]
                  rw [← hz]; exact hl
                refine lv_iload hx hb d_M_gate_176 (lv_at hl 1 rfl) ?_
                refine lv_if_eq (tgt := 186) hx hb d_M_gate_178 rfl (fun hc178 => ?_) (fun hc178 => ?_)
                · have hc178 := b2i_0.mp hc178
                  refine lv_iload_n hx hb d_M_gate_186 rfl (lv_at hl 3 rfl) ?_
                  refine lv_istore_n hx hb d_M_gate_187 rfl hl (by decide) rfl (fun ls hl => ?_)
                  have hl : lv_has ls 7 [(3, .int (fdq (gtQ h u v) d)), (6, .int (nI e9)), (5, .int (b2i (gtQ h u v d))), (4, .int (nI d)), (0, .ref mo), (1, .int (nI u)), (2, .int (nI v))] := hl
                  have hl : lv_has ls 7 [(3, .int (fdq (gtQ h u v) (d + 1))), (6, .int (nI e9)), (5, .int (b2i (gtQ h u v d))), (4, .int (nI d)), (0, .ref mo), (1, .int (nI u)), (2, .int (nI v))] := by
                    have hz : (fdq (gtQ h u v) d) = fdq (gtQ h u v) (d + 1) := (if_neg (by rw [hc178]; decide)).symm
                    rw [← hz]; exact hl
                  refine lv_iinc hx hb d_M_gate_188 hl (k := 3) rfl (v := nI (d + 1)) (nI_1 d) (by decide) rfl (fun ls hl => ?_)
                  have hl : lv_has ls 7 [(4, .int (nI (d + 1))), (3, .int (fdq (gtQ h u v) (d + 1))), (6, .int (nI e9)), (5, .int (b2i (gtQ h u v d))), (0, .ref mo), (1, .int (nI u)), (2, .int (nI v))] := hl
                  refine lv_goto (tgt := 62) hx hb d_M_gate_191 rfl ?_
                  exact ih62 (d + 1) _ H locs ⟨by omega, lv_sub hl [0, 1, 4, 5, 6] rfl, hP, hD, hS⟩ (by omega)
                · have hc178 := b2i_n.mp hc178
                  refine lv_iload hx hb d_M_gate_181 (lv_at hl 2 rfl) ?_
                  refine lv_goto (tgt := 187) hx hb d_M_gate_183 rfl ?_
                  refine lv_istore_n hx hb d_M_gate_187 rfl hl (by decide) rfl (fun ls hl => ?_)
                  have hl : lv_has ls 7 [(3, .int (nI d)), (6, .int (nI e9)), (5, .int (b2i (gtQ h u v d))), (4, .int (nI d)), (0, .ref mo), (1, .int (nI u)), (2, .int (nI v))] := hl
                  have hl : lv_has ls 7 [(3, .int (fdq (gtQ h u v) (d + 1))), (6, .int (nI e9)), (5, .int (b2i (gtQ h u v d))), (4, .int (nI d)), (0, .ref mo), (1, .int (nI u)), (2, .int (nI v))] := by
                    have hz : (nI d) = fdq (gtQ h u v) (d + 1) := (if_pos hc178).symm
                    rw [← hz]; exact hl
                  refine lv_iinc hx hb d_M_gate_188 hl (k := 3) rfl (v := nI (d + 1)) (nI_1 d) (by decide) rfl (fun ls hl => ?_)
                  have hl : lv_has ls 7 [(4, .int (nI (d + 1))), (3, .int (fdq (gtQ h u v) (d + 1))), (6, .int (nI e9)), (5, .int (b2i (gtQ h u v d))), (0, .ref mo), (1, .int (nI u)), (2, .int (nI v))] := hl
                  refine lv_goto (tgt := 62) hx hb d_M_gate_191 rfl ?_
                  exact ih62 (d + 1) _ H locs ⟨by omega, lv_sub hl [0, 1, 4, 5, 6] rfl, hP, hD, hS⟩ (by omega)
              · have hc118 := b2i_n.mp hc118
                refine lv_iload hx hb d_M_gate_121 (lv_at hl 0 rfl) ?_
                refine lv_iload_n hx hb d_M_gate_123 rfl (lv_at hl 6 rfl) ?_
                refine lv_icmp_eq (tgt := 163) hx hb d_M_gate_124 rfl (fun hc124 => ?_) (fun hc124 => ?_)
                · have hc124 : e9 = v := (nI_eq (by omega) (by omega)).mp hc124
                  refine lv_iconst (v := nI 1) hx hb d_M_gate_163 (by decide) ?_
                  refine lv_goto (tgt := 168) hx hb d_M_gate_164 rfl ?_
                  refine lv_istore hx hb d_M_gate_168 hl (by decide) rfl (fun ls hl => ?_)
                  have hl : lv_has ls 7 [(5, .int (nI 1)), (6, .int (nI e9)), (4, .int (nI d)), (3, .int (fdq (gtQ h u v) d)), (0, .ref mo), (1, .int (nI u)), (2, .int (nI v))] := hl
                  have hl : lv_has ls 7 [(5, .int (b2i (gtL h u v d && alq (gtC h u v d) (e9 + 1)))), (6, .int (nI e9)), (4, .int (nI d)), (3, .int (fdq (gtQ h u v) d)), (0, .ref mo), (1, .int (nI u)), (2, .int (nI v))] := by
                    have hz : (nI 1) = b2i (gtL h u v d && alq (gtC h u v d) (e9 + 1)) := by show _ = b2i (gtL h u v d && (alq (gtC h u v d) e9 && gtC h u v d e9)); rw [← Bool.and_assoc, hc118, Bool.true_and]; unfold gtC; first | (rw [decide_eq_true hc124]; rfl) | (rw [decide_eq_false hc124, hc137]; rfl) | (rw [decide_eq_false hc124, hc137, show dpb h u v e9 = false from hc148]; rfl) | (rw [decide_eq_false hc124, hc137, show dpb h u v e9 = true from hc148, show dpb h u d e9 = true from hc160]; rfl) | (rw [decide_eq_false hc124, hc137, show dpb h u v e9 = true from hc148, show dpb h u d e9 = false from hc160]; rfl)
                    rw [← hz]; exact hl
                  refine lv_iinc hx hb d_M_gate_170 hl (k := 1) rfl (v := nI (e9 + 1)) (nI_1 e9) (by decide) rfl (fun ls hl => ?_)
                  have hl : lv_has ls 7 [(6, .int (nI (e9 + 1))), (5, .int (b2i (gtL h u v d && alq (gtC h u v d) (e9 + 1)))), (4, .int (nI d)), (3, .int (fdq (gtQ h u v) d)), (0, .ref mo), (1, .int (nI u)), (2, .int (nI v))] := hl
                  refine lv_goto (tgt := 109) hx hb d_M_gate_173 rfl ?_
                  exact ih109 (e9 + 1) _ H locs ⟨by omega, lv_sub hl [0, 1, 2, 3, 4, 5, 6] rfl, hP, hD, hS⟩ (by omega)
                · have hc124 : ¬ (e9 = v) := fun q9 => hc124 ((nI_eq (by omega) (by omega)).mpr q9)
                  refine lv_aload_n hx hb d_M_gate_127 rfl (lv_at hl 4 rfl) ?_
                  refine lv_iload_n hx hb d_M_gate_128 rfl (lv_at hl 5 rfl) ?_
                  refine xr_cal (va_runV (As := [.int (nI u)]) (rest := []) ⟨hx, hb, hml, hown, hB⟩ (k_M_reach l D mo m0 m1 m2 m3 m4 m5 m6 o0 o1 o2 o3 o4 o5 o6 (nI 0) mn mg h mO mG mF mA mU mR hg u (by omega)) ⟨callB_of 1 hB (xg0 mc_M_reach) rfl rfl rfl (hB _ mz_M) (hB _ ml_M_51) (by decide +kernel) ⟨Nat.le_of_ble_eq_true rfl, Nat.le_of_ble_eq_true rfl⟩, hB _ mi_M_reach, hB _ me_M_reach⟩ (xpV (ws := [(mo, .inr (5, [.int (nI 0), .int mn, .ref m0, .int mg, .ref m1, .ref m2, .ref m3, .ref m4, .ref m5, .ref m6])), (m0, .inl (o0, 16, .inl h)), (m1, .inl (o1, 16, .inl mO)), (m2, .inl (o2, 16, .inl mG)), (m3, .inl (o3, 16, .inl mF)), (m4, .inl (o4, 32, .inl mA)), (m5, .inl (o5, 32, .inl mU)), (m6, .inl (o6, 32, .inl mR))]) (tys := [(o0, .int), (o1, .int), (o2, .int), (o3, .int), (o4, .int), (o5, .int), (o6, .int)]) (hP.sub [0, 1, 2, 3, 4, 5, 6, 7] rfl) (hK.sub [0, 1, 2, 3, 4, 5, 6] rfl) hN (va_recv (ci := 5) (q0 := 0) (q := (R_M, F_M, 10)) hK hP rfl rfl)) rfl rfl hl.1 rfl (lv_room (Nat.le_of_ble_eq_true rfl)) d_M_gate_129 ⟨Nat.le_of_ble_eq_true rfl, Nat.le_of_ble_eq_true rfl⟩) ?_
                  refine lv_iload hx hb d_M_gate_132 (lv_at hl 0 rfl) ?_
                  refine xr_cal (va_runS (As := [.int (RE h u), .int (nI e9)]) (rest := []) ⟨hx, hb, hml, hown, hB⟩ (k_M_has l D  (RE h u) e9 (by omega)) ⟨callB_of 2 hB (xg0 mc_M_has) rfl rfl rfl (hB _ mz_M) (hB _ ml_M_35) (by decide +kernel) ⟨Nat.le_of_ble_eq_true rfl, Nat.le_of_ble_eq_true rfl⟩, hB _ ms_M_has⟩ (xpS (ws := []) (tys := []) (hP.sub [] rfl) (hK.sub [] rfl) hN) rfl rfl hl.1 rfl (lv_room (Nat.le_of_ble_eq_true rfl)) d_M_gate_134 ⟨Nat.le_of_ble_eq_true rfl, Nat.le_of_ble_eq_true rfl⟩) ?_
                  refine lv_if_eq (tgt := 163) hx hb d_M_gate_137 rfl (fun hc137 => ?_) (fun hc137 => ?_)
                  · have hc137 := b2i_0.mp hc137
                    refine lv_iconst (v := nI 1) hx hb d_M_gate_163 (by decide) ?_
                    refine lv_goto (tgt := 168) hx hb d_M_gate_164 rfl ?_
                    refine lv_istore hx hb d_M_gate_168 hl (by decide) rfl (fun ls hl => ?_)
                    have hl : lv_has ls 7 [(5, .int (nI 1)), (6, .int (nI e9)), (4, .int (nI d)), (3, .int (fdq (gtQ h u v) d)), (0, .ref mo), (1, .int (nI u)), (2, .int (nI v))] := hl
                    have hl : lv_has ls 7 [(5, .int (b2i (gtL h u v d && alq (gtC h u v d) (e9 + 1)))), (6, .int (nI e9)), (4, .int (nI d)), (3, .int (fdq (gtQ h u v) d)), (0, .ref mo), (1, .int (nI u)), (2, .int (nI v))] := by
                      have hz : (nI 1) = b2i (gtL h u v d && alq (gtC h u v d) (e9 + 1)) := by show _ = b2i (gtL h u v d && (alq (gtC h u v d) e9 && gtC h u v d e9)); rw [← Bool.and_assoc, hc118, Bool.true_and]; unfold gtC; first | (rw [decide_eq_true hc124]; rfl) | (rw [decide_eq_false hc124, hc137]; rfl) | (rw [decide_eq_false hc124, hc137, show dpb h u v e9 = false from hc148]; rfl) | (rw [decide_eq_false hc124, hc137, show dpb h u v e9 = true from hc148, show dpb h u d e9 = true from hc160]; rfl) | (rw [decide_eq_false hc124, hc137, show dpb h u v e9 = true from hc148, show dpb h u d e9 = false from hc160]; rfl)
                      rw [← hz]; exact hl
                    refine lv_iinc hx hb d_M_gate_170 hl (k := 1) rfl (v := nI (e9 + 1)) (nI_1 e9) (by decide) rfl (fun ls hl => ?_)
                    have hl : lv_has ls 7 [(6, .int (nI (e9 + 1))), (5, .int (b2i (gtL h u v d && alq (gtC h u v d) (e9 + 1)))), (4, .int (nI d)), (3, .int (fdq (gtQ h u v) d)), (0, .ref mo), (1, .int (nI u)), (2, .int (nI v))] := hl
                    refine lv_goto (tgt := 109) hx hb d_M_gate_173 rfl ?_
                    exact ih109 (e9 + 1) _ H locs ⟨by omega, lv_sub hl [0, 1, 2, 3, 4, 5, 6] rfl, hP, hD, hS⟩ (by omega)
                  · have hc137 := b2i_n.mp hc137
                    refine lv_aload_n hx hb d_M_gate_140 rfl (lv_at hl 4 rfl) ?_
                    refine lv_iload_n hx hb d_M_gate_141 rfl (lv_at hl 5 rfl) ?_
                    refine lv_iload_n hx hb d_M_gate_142 rfl (lv_at hl 6 rfl) ?_
                    refine lv_iload hx hb d_M_gate_143 (lv_at hl 0 rfl) ?_
                    refine xr_cal (va_runV (As := [.int (nI u), .int (nI v), .int (nI e9)]) (rest := []) ⟨hx, hb, hml, hown, hB⟩ (k_M_dependent l D mo m0 m1 m2 m3 m4 m5 m6 o0 o1 o2 o3 o4 o5 o6 (nI 0) mn mg h mO mG mF mA mU mR hg u v e9 (by omega) (by omega) (by omega)) ⟨callB_of 3 hB (xg0 mc_M_dependent) rfl rfl rfl (hB _ mz_M) (hB _ ml_M_80) (by decide +kernel) ⟨Nat.le_of_ble_eq_true rfl, Nat.le_of_ble_eq_true rfl⟩, hB _ mi_M_dependent, hB _ me_M_dependent⟩ (xpV (ws := [(mo, .inr (5, [.int (nI 0), .int mn, .ref m0, .int mg, .ref m1, .ref m2, .ref m3, .ref m4, .ref m5, .ref m6])), (m0, .inl (o0, 16, .inl h)), (m1, .inl (o1, 16, .inl mO)), (m2, .inl (o2, 16, .inl mG)), (m3, .inl (o3, 16, .inl mF)), (m4, .inl (o4, 32, .inl mA)), (m5, .inl (o5, 32, .inl mU)), (m6, .inl (o6, 32, .inl mR))]) (tys := [(o0, .int), (o1, .int), (o2, .int), (o3, .int), (o4, .int), (o5, .int), (o6, .int)]) (hP.sub [0, 1, 2, 3, 4, 5, 6, 7] rfl) (hK.sub [0, 1, 2, 3, 4, 5, 6] rfl) hN (va_recv (ci := 5) (q0 := 0) (q := (R_M, F_M, 10)) hK hP rfl rfl)) rfl rfl hl.1 rfl (lv_room (Nat.le_of_ble_eq_true rfl)) d_M_gate_145 ⟨Nat.le_of_ble_eq_true rfl, Nat.le_of_ble_eq_true rfl⟩) ?_
                    refine lv_if_eq (tgt := 163) hx hb d_M_gate_148 rfl (fun hc148 => ?_) (fun hc148 => ?_)
                    · have hc148 := b2i_0.mp hc148
                      refine lv_iconst (v := nI 1) hx hb d_M_gate_163 (by decide) ?_
                      refine lv_goto (tgt := 168) hx hb d_M_gate_164 rfl ?_
                      refine lv_istore hx hb d_M_gate_168 hl (by decide) rfl (fun ls hl => ?_)
                      have hl : lv_has ls 7 [(5, .int (nI 1)), (6, .int (nI e9)), (4, .int (nI d)), (3, .int (fdq (gtQ h u v) d)), (0, .ref mo), (1, .int (nI u)), (2, .int (nI v))] := hl
                      have hl : lv_has ls 7 [(5, .int (b2i (gtL h u v d && alq (gtC h u v d) (e9 + 1)))), (6, .int (nI e9)), (4, .int (nI d)), (3, .int (fdq (gtQ h u v) d)), (0, .ref mo), (1, .int (nI u)), (2, .int (nI v))] := by
                        have hz : (nI 1) = b2i (gtL h u v d && alq (gtC h u v d) (e9 + 1)) := by show _ = b2i (gtL h u v d && (alq (gtC h u v d) e9 && gtC h u v d e9)); rw [← Bool.and_assoc, hc118, Bool.true_and]; unfold gtC; first | (rw [decide_eq_true hc124]; rfl) | (rw [decide_eq_false hc124, hc137]; rfl) | (rw [decide_eq_false hc124, hc137, show dpb h u v e9 = false from hc148]; rfl) | (rw [decide_eq_false hc124, hc137, show dpb h u v e9 = true from hc148, show dpb h u d e9 = true from hc160]; rfl) | (rw [decide_eq_false hc124, hc137, show dpb h u v e9 = true from hc148, show dpb h u d e9 = false from hc160]; rfl)
                        rw [← hz]; exact hl
                      refine lv_iinc hx hb d_M_gate_170 hl (k := 1) rfl (v := nI (e9 + 1)) (nI_1 e9) (by decide) rfl (fun ls hl => ?_)
                      have hl : lv_has ls 7 [(6, .int (nI (e9 + 1))), (5, .int (b2i (gtL h u v d && alq (gtC h u v d) (e9 + 1)))), (4, .int (nI d)), (3, .int (fdq (gtQ h u v) d)), (0, .ref mo), (1, .int (nI u)), (2, .int (nI v))] := hl
                      refine lv_goto (tgt := 109) hx hb d_M_gate_173 rfl ?_
                      exact ih109 (e9 + 1) _ H locs ⟨by omega, lv_sub hl [0, 1, 2, 3, 4, 5, 6] rfl, hP, hD, hS⟩ (by omega)
                    · have hc148 := b2i_n.mp hc148
                      refine lv_aload_n hx hb d_M_gate_151 rfl (lv_at hl 4 rfl) ?_
                      refine lv_iload_n hx hb d_M_gate_152 rfl (lv_at hl 5 rfl) ?_
                      refine lv_iload hx hb d_M_gate_153 (lv_at hl 2 rfl) ?_
                      refine lv_iload hx hb d_M_gate_155 (lv_at hl 0 rfl) ?_
                      refine xr_cal (va_runV (As := [.int (nI u), .int (nI d), .int (nI e9)]) (rest := []) ⟨hx, hb, hml, hown, hB⟩ (k_M_dependent l D mo m0 m1 m2 m3 m4 m5 m6 o0 o1 o2 o3 o4 o5 o6 (nI 0) mn mg h mO mG mF mA mU mR hg u d e9 (by omega) (by omega) (by omega)) ⟨callB_of 3 hB (xg0 mc_M_dependent) rfl rfl rfl (hB _ mz_M) (hB _ ml_M_80) (by decide +kernel) ⟨Nat.le_of_ble_eq_true rfl, Nat.le_of_ble_eq_true rfl⟩, hB _ mi_M_dependent, hB _ me_M_dependent⟩ (xpV (ws := [(mo, .inr (5, [.int (nI 0), .int mn, .ref m0, .int mg, .ref m1, .ref m2, .ref m3, .ref m4, .ref m5, .ref m6])), (m0, .inl (o0, 16, .inl h)), (m1, .inl (o1, 16, .inl mO)), (m2, .inl (o2, 16, .inl mG)), (m3, .inl (o3, 16, .inl mF)), (m4, .inl (o4, 32, .inl mA)), (m5, .inl (o5, 32, .inl mU)), (m6, .inl (o6, 32, .inl mR))]) (tys := [(o0, .int), (o1, .int), (o2, .int), (o3, .int), (o4, .int), (o5, .int), (o6, .int)]) (hP.sub [0, 1, 2, 3, 4, 5, 6, 7] rfl) (hK.sub [0, 1, 2, 3, 4, 5, 6] rfl) hN (va_recv (ci := 5) (q0 := 0) (q := (R_M, F_M, 10)) hK hP rfl rfl)) rfl rfl hl.1 rfl (lv_room (Nat.le_of_ble_eq_true rfl)) d_M_gate_157 ⟨Nat.le_of_ble_eq_true rfl, Nat.le_of_ble_eq_true rfl⟩) ?_
                      refine lv_if_eq (tgt := 167) hx hb d_M_gate_160 rfl (fun hc160 => ?_) (fun hc160 => ?_)
                      · have hc160 := b2i_0.mp hc160
                        refine lv_iconst (v := nI 0) hx hb d_M_gate_167 (by decide) ?_
                        refine lv_istore hx hb d_M_gate_168 hl (by decide) rfl (fun ls hl => ?_)
                        have hl : lv_has ls 7 [(5, .int (nI 0)), (6, .int (nI e9)), (4, .int (nI d)), (3, .int (fdq (gtQ h u v) d)), (0, .ref mo), (1, .int (nI u)), (2, .int (nI v))] := hl
                        have hl : lv_has ls 7 [(5, .int (b2i (gtL h u v d && alq (gtC h u v d) (e9 + 1)))), (6, .int (nI e9)), (4, .int (nI d)), (3, .int (fdq (gtQ h u v) d)), (0, .ref mo), (1, .int (nI u)), (2, .int (nI v))] := by
                          have hz : (nI 0) = b2i (gtL h u v d && alq (gtC h u v d) (e9 + 1)) := by show _ = b2i (gtL h u v d && (alq (gtC h u v d) e9 && gtC h u v d e9)); rw [← Bool.and_assoc, hc118, Bool.true_and]; unfold gtC; first | (rw [decide_eq_true hc124]; rfl) | (rw [decide_eq_false hc124, hc137]; rfl) | (rw [decide_eq_false hc124, hc137, show dpb h u v e9 = false from hc148]; rfl) | (rw [decide_eq_false hc124, hc137, show dpb h u v e9 = true from hc148, show dpb h u d e9 = true from hc160]; rfl) | (rw [decide_eq_false hc124, hc137, show dpb h u v e9 = true from hc148, show dpb h u d e9 = false from hc160]; rfl)
                          rw [← hz]; exact hl
                        refine lv_iinc hx hb d_M_gate_170 hl (k := 1) rfl (v := nI (e9 + 1)) (nI_1 e9) (by decide) rfl (fun ls hl => ?_)
                        have hl : lv_has ls 7 [(6, .int (nI (e9 + 1))), (5, .int (b2i (gtL h u v d && alq (gtC h u v d) (e9 + 1)))), (4, .int (nI d)), (3, .int (fdq (gtQ h u v) d)), (0, .ref mo), (1, .int (nI u)), (2, .int (nI v))] := hl
                        refine lv_goto (tgt := 109) hx hb d_M_gate_173 rfl ?_
                        exact ih109 (e9 + 1) _ H locs ⟨by omega, lv_sub hl [0, 1, 2, 3, 4, 5, 6] rfl, hP, hD, hS⟩ (by omega)
                      · have hc160 := b2i_n.mp hc160
                        refine lv_iconst (v := nI 1) hx hb d_M_gate_163 (by decide) ?_
                        refine lv_goto (tgt := 168) hx hb d_M_gate_164 rfl ?_
                        refine lv_istore hx hb d_M_gate_168 hl (by decide) rfl (fun ls hl => ?_)
                        have hl : lv_has ls 7 [(5, .int (nI 1)), (6, .int (nI e9)), (4, .int (nI d)), (3, .int (fdq (gtQ h u v) d)), (0, .ref mo), (1, .int (nI u)), (2, .int (nI v))] := hl
                        have hl : lv_has ls 7 [(5, .int (b2i (gtL h u v d && alq (gtC h u v d) (e9 + 1)))), (6, .int (nI e9)), (4, .int (nI d)), (3, .int (fdq (gtQ h u v) d)), (0, .ref mo), (1, .int (nI u)), (2, .int (nI v))] := by
                          have hz : (nI 1) = b2i (gtL h u v d && alq (gtC h u v d) (e9 + 1)) := by show _ = b2i (gtL h u v d && (alq (gtC h u v d) e9 && gtC h u v d e9)); rw [← Bool.and_assoc, hc118, Bool.true_and]; unfold gtC; first | (rw [decide_eq_true hc124]; rfl) | (rw [decide_eq_false hc124, hc137]; rfl) | (rw [decide_eq_false hc124, hc137, show dpb h u v e9 = false from hc148]; rfl) | (rw [decide_eq_false hc124, hc137, show dpb h u v e9 = true from hc148, show dpb h u d e9 = true from hc160]; rfl) | (rw [decide_eq_false hc124, hc137, show dpb h u v e9 = true from hc148, show dpb h u d e9 = false from hc160]; rfl)
                          rw [← hz]; exact hl
                        refine lv_iinc hx hb d_M_gate_170 hl (k := 1) rfl (v := nI (e9 + 1)) (nI_1 e9) (by decide) rfl (fun ls hl => ?_)
                        have hl : lv_has ls 7 [(6, .int (nI (e9 + 1))), (5, .int (b2i (gtL h u v d && alq (gtC h u v d) (e9 + 1)))), (4, .int (nI d)), (3, .int (fdq (gtQ h u v) d)), (0, .ref mo), (1, .int (nI u)), (2, .int (nI v))] := hl
                        refine lv_goto (tgt := 109) hx hb d_M_gate_173 rfl ?_
                        exact ih109 (e9 + 1) _ H locs ⟨by omega, lv_sub hl [0, 1, 2, 3, 4, 5, 6] rfl, hP, hD, hS⟩ (by omega)
          · have hc72 : ¬ (d = v) := fun q9 => hc72 ((nI_eq (by omega) (by omega)).mpr q9)
            refine lv_aload_n hx hb d_M_gate_75 rfl (lv_at hl 2 rfl) ?_
            refine lv_iload_n hx hb d_M_gate_76 rfl (lv_at hl 3 rfl) ?_
            refine xr_cal (va_runV (As := [.int (nI u)]) (rest := []) ⟨hx, hb, hml, hown, hB⟩ (k_M_reach l D mo m0 m1 m2 m3 m4 m5 m6 o0 o1 o2 o3 o4 o5 o6 (nI 0) mn mg h mO mG mF mA mU mR hg u (by omega)) ⟨callB_of 1 hB (xg0 mc_M_reach) rfl rfl rfl (hB _ mz_M) (hB _ ml_M_51) (by decide +kernel) ⟨Nat.le_of_ble_eq_true rfl, Nat.le_of_ble_eq_true rfl⟩, hB _ mi_M_reach, hB _ me_M_reach⟩ (xpV (ws := [(mo, .inr (5, [.int (nI 0), .int mn, .ref m0, .int mg, .ref m1, .ref m2, .ref m3, .ref m4, .ref m5, .ref m6])), (m0, .inl (o0, 16, .inl h)), (m1, .inl (o1, 16, .inl mO)), (m2, .inl (o2, 16, .inl mG)), (m3, .inl (o3, 16, .inl mF)), (m4, .inl (o4, 32, .inl mA)), (m5, .inl (o5, 32, .inl mU)), (m6, .inl (o6, 32, .inl mR))]) (tys := [(o0, .int), (o1, .int), (o2, .int), (o3, .int), (o4, .int), (o5, .int), (o6, .int)]) (hP.sub [0, 1, 2, 3, 4, 5, 6, 7] rfl) (hK.sub [0, 1, 2, 3, 4, 5, 6] rfl) hN (va_recv (ci := 5) (q0 := 0) (q := (R_M, F_M, 10)) hK hP rfl rfl)) rfl rfl hl.1 rfl (lv_room (Nat.le_of_ble_eq_true rfl)) d_M_gate_77 ⟨Nat.le_of_ble_eq_true rfl, Nat.le_of_ble_eq_true rfl⟩) ?_
            refine lv_iload hx hb d_M_gate_80 (lv_at hl 0 rfl) ?_
            refine xr_cal (va_runS (As := [.int (RE h u), .int (nI d)]) (rest := []) ⟨hx, hb, hml, hown, hB⟩ (k_M_has l D  (RE h u) d (by omega)) ⟨callB_of 2 hB (xg0 mc_M_has) rfl rfl rfl (hB _ mz_M) (hB _ ml_M_35) (by decide +kernel) ⟨Nat.le_of_ble_eq_true rfl, Nat.le_of_ble_eq_true rfl⟩, hB _ ms_M_has⟩ (xpS (ws := []) (tys := []) (hP.sub [] rfl) (hK.sub [] rfl) hN) rfl rfl hl.1 rfl (lv_room (Nat.le_of_ble_eq_true rfl)) d_M_gate_82 ⟨Nat.le_of_ble_eq_true rfl, Nat.le_of_ble_eq_true rfl⟩) ?_
            refine lv_if_eq (tgt := 103) hx hb d_M_gate_85 rfl (fun hc85 => ?_) (fun hc85 => ?_)
            · have hc85 := b2i_0.mp hc85
              refine lv_iconst (v := nI 0) hx hb d_M_gate_103 (by decide) ?_
              refine lv_istore hx hb d_M_gate_104 hl (by decide) rfl (fun ls hl => ?_)
              have hl : lv_has ls 7 [(5, .int (nI 0)), (4, .int (nI d)), (3, .int (fdq (gtQ h u v) d)), (0, .ref mo), (1, .int (nI u)), (2, .int (nI v))] := hl
              have hl : lv_has ls 7 [(5, .int (b2i (gtL h u v d && alq (gtC h u v d) 0))), (4, .int (nI d)), (3, .int (fdq (gtQ h u v) d)), (0, .ref mo), (1, .int (nI u)), (2, .int (nI v))] := by
                have hz : (nI 0) = b2i (gtL h u v d && alq (gtC h u v d) 0) := by show _ = b2i (gtL h u v d && true); unfold gtL; first | (rw [decide_eq_false hc72, hc85, show dpb h u v d = true from hc96]; rfl) | (rw [show dpb h u v d = false from hc96, Bool.and_false]; rfl) | (rw [hc85, Bool.and_false]; rfl) | (rw [decide_eq_true hc72]; rfl)
                rw [← hz]; exact hl
              refine lv_iconst (v := nI 0) hx hb d_M_gate_106 (by decide) ?_
              refine lv_istore hx hb d_M_gate_107 hl (by decide) rfl (fun ls hl => ?_)
              have hl : lv_has ls 7 [(6, .int (nI 0)), (5, .int (b2i (gtL h u v d && alq (gtC h u v d) 0))), (4, .int (nI d)), (3, .int (fdq (gtQ h u v) d)), (0, .ref mo), (1, .int (nI u)), (2, .int (nI v))] := hl
              refine xl_w (fun (e9 : Nat) ls H locs => ((e9 ≤ 16)) ∧ lv_has ls 7 [(6, .int (nI e9)), (5, .int (b2i (gtL h u v d && alq (gtC h u v d) e9))), (4, .int (nI d)), (3, .int (fdq (gtQ h u v) d)), (0, .ref mo), (1, .int (nI u)), (2, .int (nI v))] ∧ va_P D cls [(mo, .inr (5, [.int (nI 0), .int mn, .ref m0, .int mg, .ref m1, .ref m2, .ref m3, .ref m4, .ref m5, .ref m6])), (m0, .inl (o0, 16, .inl h)), (m1, .inl (o1, 16, .inl mO)), (m2, .inl (o2, 16, .inl mG)), (m3, .inl (o3, 16, .inl mF)), (m4, .inl (o4, 32, .inl mA)), (m5, .inl (o5, 32, .inl mU)), (m6, .inl (o6, 32, .inl mR))] H ∧ va_D A [(mo, .inr (5, [.int (nI 0), .int mn, .ref m0, .int mg, .ref m1, .ref m2, .ref m3, .ref m4, .ref m5, .ref m6])), (m0, .inl (o0, 16, .inl h)), (m1, .inl (o1, 16, .inl mO)), (m2, .inl (o2, 16, .inl mG)), (m3, .inl (o3, 16, .inl mF)), (m4, .inl (o4, 32, .inl mA)), (m5, .inl (o5, 32, .inl mU)), (m6, .inl (o6, 32, .inl mR))] ∧ va_S A s.heap H locs) (fun e9 => 16 - e9) (fun e9 ls H locs hI ih109 => ?_) 0 _ ⟨Nat.zero_le _, hl, hP, hD, hS⟩
              obtain ⟨hI, hl, hP, hD, hS⟩ := hI
              have he9 := hI
              refine lv_iload hx hb d_M_gate_109 (lv_at hl 0 rfl) ?_
              refine lv_bipush (v := nI 16) hx hb d_M_gate_111 (by decide) ?_
              refine lv_icmp_ge (tgt := 176) hx hb d_M_gate_113 rfl (fun hc113 => ?_) (fun hc113 => ?_)
              · have hc113 : 16 ≤ e9 := (nI_leI (by omega) (by omega)).mp hc113
                have hl : lv_has ls 7 [(6, .int (nI e9)), (5, .int (b2i (gtQ h u v d))), (4, .int (nI d)), (3, .int (fdq (gtQ h u v) d)), (0, .ref mo), (1, .int (nI u)), (2, .int (nI v))] := by
                  have hz : (b2i (gtL h u v d && alq (gtC h u v d) e9)) = b2i (gtQ h u v d) := by unfold gtQ; first | rw [show e9 = 16 by omega] | rw [hc118, alq_end (by omega) hc118]
                  rw [← hz]; exact hl
                refine lv_iload hx hb d_M_gate_176 (lv_at hl 1 rfl) ?_
                refine lv_if_eq (tgt := 186) hx hb d_M_gate_178 rfl (fun hc178 => ?_) (fun hc178 => ?_)
                · have hc178 := b2i_0.mp hc178
                  refine lv_iload_n hx hb d_M_gate_186 rfl (lv_at hl 3 rfl) ?_
                  refine lv_istore_n hx hb d_M_gate_187 rfl hl (by decide) rfl (fun ls hl => ?_)
                  have hl : lv_has ls 7 [(3, .int (fdq (gtQ h u v) d)), (6, .int (nI e9)), (5, .int (b2i (gtQ h u v d))), (4, .int (nI d)), (0, .ref mo), (1, .int (nI u)), (2, .int (nI v))] := hl
                  have hl : lv_has ls 7 [(3, .int (fdq (gtQ h u v) (d + 1))), (6, .int (nI e9)), (5, .int (b2i (gtQ h u v d))), (4, .int (nI d)), (0, .ref mo), (1, .int (nI u)), (2, .int (nI v))] := by
                    have hz : (fdq (gtQ h u v) d) = fdq (gtQ h u v) (d + 1) := (if_neg (by rw [hc178]; decide)).symm
                    rw [← hz]; exact hl
                  refine lv_iinc hx hb d_M_gate_188 hl (k := 3) rfl (v := nI (d + 1)) (nI_1 d) (by decide) rfl (fun ls hl => ?_)
                  have hl : lv_has ls 7 [(4, .int (nI (d + 1))), (3, .int (fdq (gtQ h u v) (d + 1))), (6, .int (nI e9)), (5, .int (b2i (gtQ h u v d))), (0, .ref mo), (1, .int (nI u)), (2, .int (nI v))] := hl
                  refine lv_goto (tgt := 62) hx hb d_M_gate_191 rfl ?_
                  exact ih62 (d + 1) _ H locs ⟨by omega, lv_sub hl [0, 1, 4, 5, 6] rfl, hP, hD, hS⟩ (by omega)
                · have hc178 := b2i_n.mp hc178
                  refine lv_iload hx hb d_M_gate_181 (lv_at hl 2 rfl) ?_
                  refine lv_goto (tgt := 187) hx hb d_M_gate_183 rfl ?_
                  refine lv_istore_n hx hb d_M_gate_187 rfl hl (by decide) rfl (fun ls hl => ?_)
                  have hl : lv_has ls 7 [(3, .int (nI d)), (6, .int (nI e9)), (5, .int (b2i (gtQ h u v d))), (4, .int (nI d)), (0, .ref mo), (1, .int (nI u)), (2, .int (nI v))] := hl
                  have hl : lv_has ls 7 [(3, .int (fdq (gtQ h u v) (d + 1))), (6, .int (nI e9)), (5, .int (b2i (gtQ h u v d))), (4, .int (nI d)), (0, .ref mo), (1, .int (nI u)), (2, .int (nI v))] := by
                    have hz : (nI d) = fdq (gtQ h u v) (d + 1) := (if_pos hc178).symm
                    rw [← hz]; exact hl
                  refine lv_iinc hx hb d_M_gate_188 hl (k := 3) rfl (v := nI (d + 1)) (nI_1 d) (by decide) rfl (fun ls hl => ?_)
                  have hl : lv_has ls 7 [(4, .int (nI (d + 1))), (3, .int (fdq (gtQ h u v) (d + 1))), (6, .int (nI e9)), (5, .int (b2i (gtQ h u v d))), (0, .ref mo), (1, .int (nI u)), (2, .int (nI v))] := hl
                  refine lv_goto (tgt := 62) hx hb d_M_gate_191 rfl ?_
                  exact ih62 (d + 1) _ H locs ⟨by omega, lv_sub hl [0, 1, 4, 5, 6] rfl, hP, hD, hS⟩ (by omega)
              · have hc113 : ¬ (16 ≤ e9) := fun q9 => hc113 ((nI_leI (by omega) (by omega)).mpr q9)
                refine lv_iload hx hb d_M_gate_116 (lv_at hl 1 rfl) ?_
                refine lv_if_eq (tgt := 176) hx hb d_M_gate_118 rfl (fun hc118 => ?_) (fun hc118 => ?_)
                · have hc118 := b2i_0.mp hc118
                  have hl : lv_has ls 7 [(6, .int (nI e9)), (5, .int (b2i (gtQ h u v d))), (4, .int (nI d)), (3, .int (fdq (gtQ h u v) d)), (0, .ref mo), (1, .int (nI u)), (2, .int (nI v))] := by
                    have hz : (b2i (gtL h u v d && alq (gtC h u v d) e9)) = b2i (gtQ h u v d) := by unfold gtQ; first | rw [show e9 = 16 by omega] | rw [hc118, alq_end (by omega) hc118]
                    rw [← hz]; exact hl
                  refine lv_iload hx hb d_M_gate_176 (lv_at hl 1 rfl) ?_
                  refine lv_if_eq (tgt := 186) hx hb d_M_gate_178 rfl (fun hc178 => ?_) (fun hc178 => ?_)
                  · have hc178 := b2i_0.mp hc178
                    refine lv_iload_n hx hb d_M_gate_186 rfl (lv_at hl 3 rfl) ?_
                    refine lv_istore_n hx hb d_M_gate_187 rfl hl (by decide) rfl (fun ls hl => ?_)
                    have hl : lv_has ls 7 [(3, .int (fdq (gtQ h u v) d)), (6, .int (nI e9)), (5, .int (b2i (gtQ h u v d))), (4, .int (nI d)), (0, .ref mo), (1, .int (nI u)), (2, .int (nI v))] := hl
                    have hl : lv_has ls 7 [(3, .int (fdq (gtQ h u v) (d + 1))), (6, .int (nI e9)), (5, .int (b2i (gtQ h u v d))), (4, .int (nI d)), (0, .ref mo), (1, .int (nI u)), (2, .int (nI v))] := by
                      have hz : (fdq (gtQ h u v) d) = fdq (gtQ h u v) (d + 1) := (if_neg (by rw [hc178]; decide)).symm
                      rw [← hz]; exact hl
                    refine lv_iinc hx hb d_M_gate_188 hl (k := 3) rfl (v := nI (d + 1)) (nI_1 d) (by decide) rfl (fun ls hl => ?_)
                    have hl : lv_has ls 7 [(4, .int (nI (d + 1))), (3, .int (fdq (gtQ h u v) (d + 1))), (6, .int (nI e9)), (5, .int (b2i (gtQ h u v d))), (0, .ref mo), (1, .int (nI u)), (2, .int (nI v))] := hl
                    refine lv_goto (tgt := 62) hx hb d_M_gate_191 rfl ?_
                    exact ih62 (d + 1) _ H locs ⟨by omega, lv_sub hl [0, 1, 4, 5, 6] rfl, hP, hD, hS⟩ (by omega)
                  · have hc178 := b2i_n.mp hc178
                    refine lv_iload hx hb d_M_gate_181 (lv_at hl 2 rfl) ?_
                    refine lv_goto (tgt := 187) hx hb d_M_gate_183 rfl ?_
                    refine lv_istore_n hx hb d_M_gate_187 rfl hl (by decide) rfl (fun ls hl => ?_)
                    have hl : lv_has ls 7 [(3, .int (nI d)), (6, .int (nI e9)), (5, .int (b2i (gtQ h u v d))), (4, .int (nI d)), (0, .ref mo), (1, .int (nI u)), (2, .int (nI v))] := hl
                    have hl : lv_has ls 7 [(3, .int (fdq (gtQ h u v) (d + 1))), (6, .int (nI e9)), (5, .int (b2i (gtQ h u v d))), (4, .int (nI d)), (0, .ref mo), (1, .int (nI u)), (2, .int (nI v))] := by
                      have hz : (nI d) = fdq (gtQ h u v) (d + 1) := (if_pos hc178).symm
                      rw [← hz]; exact hl
                    refine lv_iinc hx hb d_M_gate_188 hl (k := 3) rfl (v := nI (d + 1)) (nI_1 d) (by decide) rfl (fun ls hl => ?_)
                    have hl : lv_has ls 7 [(4, .int (nI (d + 1))), (3, .int (fdq (gtQ h u v) (d + 1))), (6, .int (nI e9)), (5, .int (b2i (gtQ h u v d))), (0, .ref mo), (1, .int (nI u)), (2, .int (nI v))] := hl
                    refine lv_goto (tgt := 62) hx hb d_M_gate_191 rfl ?_
                    exact ih62 (d + 1) _ H locs ⟨by omega, lv_sub hl [0, 1, 4, 5, 6] rfl, hP, hD, hS⟩ (by omega)
                · have hc118 := b2i_n.mp hc118
                  refine lv_iload hx hb d_M_gate_121 (lv_at hl 0 rfl) ?_
                  refine lv_iload_n hx hb d_M_gate_123 rfl (lv_at hl 6 rfl) ?_
                  refine lv_icmp_eq (tgt := 163) hx hb d_M_gate_124 rfl (fun hc124 => ?_) (fun hc124 => ?_)
                  · have hc124 : e9 = v := (nI_eq (by omega) (by omega)).mp hc124
                    refine lv_iconst (v := nI 1) hx hb d_M_gate_163 (by decide) ?_
                    refine lv_goto (tgt := 168) hx hb d_M_gate_164 rfl ?_
                    refine lv_istore hx hb d_M_gate_168 hl (by decide) rfl (fun ls hl => ?_)
                    have hl : lv_has ls 7 [(5, .int (nI 1)), (6, .int (nI e9)), (4, .int (nI d)), (3, .int (fdq (gtQ h u v) d)), (0, .ref mo), (1, .int (nI u)), (2, .int (nI v))] := hl
                    have hl : lv_has ls 7 [(5, .int (b2i (gtL h u v d && alq (gtC h u v d) (e9 + 1)))), (6, .int (nI e9)), (4, .int (nI d)), (3, .int (fdq (gtQ h u v) d)), (0, .ref mo), (1, .int (nI u)), (2, .int (nI v))] := by
                      have hz : (nI 1) = b2i (gtL h u v d && alq (gtC h u v d) (e9 + 1)) := by show _ = b2i (gtL h u v d && (alq (gtC h u v d) e9 && gtC h u v d e9)); rw [← Bool.and_assoc, hc118, Bool.true_and]; unfold gtC; first | (rw [decide_eq_true hc124]; rfl) | (rw [decide_eq_false hc124, hc137]; rfl) | (rw [decide_eq_false hc124, hc137, show dpb h u v e9 = false from hc148]; rfl) | (rw [decide_eq_false hc124, hc137, show dpb h u v e9 = true from hc148, show dpb h u d e9 = true from hc160]; rfl) | (rw [decide_eq_false hc124, hc137, show dpb h u v e9 = true from hc148, show dpb h u d e9 = false from hc160]; rfl)
                      rw [← hz]; exact hl
                    refine lv_iinc hx hb d_M_gate_170 hl (k := 1) rfl (v := nI (e9 + 1)) (nI_1 e9) (by decide) rfl (fun ls hl => ?_)
                    have hl : lv_has ls 7 [(6, .int (nI (e9 + 1))), (5, .int (b2i (gtL h u v d && alq (gtC h u v d) (e9 + 1)))), (4, .int (nI d)), (3, .int (fdq (gtQ h u v) d)), (0, .ref mo), (1, .int (nI u)), (2, .int (nI v))] := hl
                    refine lv_goto (tgt := 109) hx hb d_M_gate_173 rfl ?_
                    exact ih109 (e9 + 1) _ H locs ⟨by omega, lv_sub hl [0, 1, 2, 3, 4, 5, 6] rfl, hP, hD, hS⟩ (by omega)
                  · have hc124 : ¬ (e9 = v) := fun q9 => hc124 ((nI_eq (by omega) (by omega)).mpr q9)
                    refine lv_aload_n hx hb d_M_gate_127 rfl (lv_at hl 4 rfl) ?_
                    refine lv_iload_n hx hb d_M_gate_128 rfl (lv_at hl 5 rfl) ?_
                    refine xr_cal (va_runV (As := [.int (nI u)]) (rest := []) ⟨hx, hb, hml, hown, hB⟩ (k_M_reach l D mo m0 m1 m2 m3 m4 m5 m6 o0 o1 o2 o3 o4 o5 o6 (nI 0) mn mg h mO mG mF mA mU mR hg u (by omega)) ⟨callB_of 1 hB (xg0 mc_M_reach) rfl rfl rfl (hB _ mz_M) (hB _ ml_M_51) (by decide +kernel) ⟨Nat.le_of_ble_eq_true rfl, Nat.le_of_ble_eq_true rfl⟩, hB _ mi_M_reach, hB _ me_M_reach⟩ (xpV (ws := [(mo, .inr (5, [.int (nI 0), .int mn, .ref m0, .int mg, .ref m1, .ref m2, .ref m3, .ref m4, .ref m5, .ref m6])), (m0, .inl (o0, 16, .inl h)), (m1, .inl (o1, 16, .inl mO)), (m2, .inl (o2, 16, .inl mG)), (m3, .inl (o3, 16, .inl mF)), (m4, .inl (o4, 32, .inl mA)), (m5, .inl (o5, 32, .inl mU)), (m6, .inl (o6, 32, .inl mR))]) (tys := [(o0, .int), (o1, .int), (o2, .int), (o3, .int), (o4, .int), (o5, .int), (o6, .int)]) (hP.sub [0, 1, 2, 3, 4, 5, 6, 7] rfl) (hK.sub [0, 1, 2, 3, 4, 5, 6] rfl) hN (va_recv (ci := 5) (q0 := 0) (q := (R_M, F_M, 10)) hK hP rfl rfl)) rfl rfl hl.1 rfl (lv_room (Nat.le_of_ble_eq_true rfl)) d_M_gate_129 ⟨Nat.le_of_ble_eq_true rfl, Nat.le_of_ble_eq_true rfl⟩) ?_
                    refine lv_iload hx hb d_M_gate_132 (lv_at hl 0 rfl) ?_
                    refine xr_cal (va_runS (As := [.int (RE h u), .int (nI e9)]) (rest := []) ⟨hx, hb, hml, hown, hB⟩ (k_M_has l D  (RE h u) e9 (by omega)) ⟨callB_of 2 hB (xg0 mc_M_has) rfl rfl rfl (hB _ mz_M) (hB _ ml_M_35) (by decide +kernel) ⟨Nat.le_of_ble_eq_true rfl, Nat.le_of_ble_eq_true rfl⟩, hB _ ms_M_has⟩ (xpS (ws := []) (tys := []) (hP.sub [] rfl) (hK.sub [] rfl) hN) rfl rfl hl.1 rfl (lv_room (Nat.le_of_ble_eq_true rfl)) d_M_gate_134 ⟨Nat.le_of_ble_eq_true rfl, Nat.le_of_ble_eq_true rfl⟩) ?_
                    refine lv_if_eq (tgt := 163) hx hb d_M_gate_137 rfl (fun hc137 => ?_) (fun hc137 => ?_)
                    · have hc137 := b2i_0.mp hc137
                      refine lv_iconst (v := nI 1) hx hb d_M_gate_163 (by decide) ?_
                      refine lv_goto (tgt := 168) hx hb d_M_gate_164 rfl ?_
                      refine lv_istore hx hb d_M_gate_168 hl (by decide) rfl (fun ls hl => ?_)
                      have hl : lv_has ls 7 [(5, .int (nI 1)), (6, .int (nI e9)), (4, .int (nI d)), (3, .int (fdq (gtQ h u v) d)), (0, .ref mo), (1, .int (nI u)), (2, .int (nI v))] := hl
                      have hl : lv_has ls 7 [(5, .int (b2i (gtL h u v d && alq (gtC h u v d) (e9 + 1)))), (6, .int (nI e9)), (4, .int (nI d)), (3, .int (fdq (gtQ h u v) d)), (0, .ref mo), (1, .int (nI u)), (2, .int (nI v))] := by
                        have hz : (nI 1) = b2i (gtL h u v d && alq (gtC h u v d) (e9 + 1)) := by show _ = b2i (gtL h u v d && (alq (gtC h u v d) e9 && gtC h u v d e9)); rw [← Bool.and_assoc, hc118, Bool.true_and]; unfold gtC; first | (rw [decide_eq_true hc124]; rfl) | (rw [decide_eq_false hc124, hc137]; rfl) | (rw [decide_eq_false hc124, hc137, show dpb h u v e9 = false from hc148]; rfl) | (rw [decide_eq_false hc124, hc137, show dpb h u v e9 = true from hc148, show dpb h u d e9 = true from hc160]; rfl) | (rw [decide_eq_false hc124, hc137, show dpb h u v e9 = true from hc148, show dpb h u d e9 = false from hc160]; rfl)
                        rw [← hz]; exact hl
                      refine lv_iinc hx hb d_M_gate_170 hl (k := 1) rfl (v := nI (e9 + 1)) (nI_1 e9) (by decide) rfl (fun ls hl => ?_)
                      have hl : lv_has ls 7 [(6, .int (nI (e9 + 1))), (5, .int (b2i (gtL h u v d && alq (gtC h u v d) (e9 + 1)))), (4, .int (nI d)), (3, .int (fdq (gtQ h u v) d)), (0, .ref mo), (1, .int (nI u)), (2, .int (nI v))] := hl
                      refine lv_goto (tgt := 109) hx hb d_M_gate_173 rfl ?_
                      exact ih109 (e9 + 1) _ H locs ⟨by omega, lv_sub hl [0, 1, 2, 3, 4, 5, 6] rfl, hP, hD, hS⟩ (by omega)
                    · have hc137 := b2i_n.mp hc137
                      refine lv_aload_n hx hb d_M_gate_140 rfl (lv_at hl 4 rfl) ?_
                      refine lv_iload_n hx hb d_M_gate_141 rfl (lv_at hl 5 rfl) ?_
                      refine lv_iload_n hx hb d_M_gate_142 rfl (lv_at hl 6 rfl) ?_
                      refine lv_iload hx hb d_M_gate_143 (lv_at hl 0 rfl) ?_
                      refine xr_cal (va_runV (As := [.int (nI u), .int (nI v), .int (nI e9)]) (rest := []) ⟨hx, hb, hml, hown, hB⟩ (k_M_dependent l D mo m0 m1 m2 m3 m4 m5 m6 o0 o1 o2 o3 o4 o5 o6 (nI 0) mn mg h mO mG mF mA mU mR hg u v e9 (by omega) (by omega) (by omega)) ⟨callB_of 3 hB (xg0 mc_M_dependent) rfl rfl rfl (hB _ mz_M) (hB _ ml_M_80) (by decide +kernel) ⟨Nat.le_of_ble_eq_true rfl, Nat.le_of_ble_eq_true rfl⟩, hB _ mi_M_dependent, hB _ me_M_dependent⟩ (xpV (ws := [(mo, .inr (5, [.int (nI 0), .int mn, .ref m0, .int mg, .ref m1, .ref m2, .ref m3, .ref m4, .ref m5, .ref m6])), (m0, .inl (o0, 16, .inl h)), (m1, .inl (o1, 16, .inl mO)), (m2, .inl (o2, 16, .inl mG)), (m3, .inl (o3, 16, .inl mF)), (m4, .inl (o4, 32, .inl mA)), (m5, .inl (o5, 32, .inl mU)), (m6, .inl (o6, 32, .inl mR))]) (tys := [(o0, .int), (o1, .int), (o2, .int), (o3, .int), (o4, .int), (o5, .int), (o6, .int)]) (hP.sub [0, 1, 2, 3, 4, 5, 6, 7] rfl) (hK.sub [0, 1, 2, 3, 4, 5, 6] rfl) hN (va_recv (ci := 5) (q0 := 0) (q := (R_M, F_M, 10)) hK hP rfl rfl)) rfl rfl hl.1 rfl (lv_room (Nat.le_of_ble_eq_true rfl)) d_M_gate_145 ⟨Nat.le_of_ble_eq_true rfl, Nat.le_of_ble_eq_true rfl⟩) ?_
                      refine lv_if_eq (tgt := 163) hx hb d_M_gate_148 rfl (fun hc148 => ?_) (fun hc148 => ?_)
                      · have hc148 := b2i_0.mp hc148
                        refine lv_iconst (v := nI 1) hx hb d_M_gate_163 (by decide) ?_
                        refine lv_goto (tgt := 168) hx hb d_M_gate_164 rfl ?_
                        refine lv_istore hx hb d_M_gate_168 hl (by decide) rfl (fun ls hl => ?_)
                        have hl : lv_has ls 7 [(5, .int (nI 1)), (6, .int (nI e9)), (4, .int (nI d)), (3, .int (fdq (gtQ h u v) d)), (0, .ref mo), (1, .int (nI u)), (2, .int (nI v))] := hl
                        have hl : lv_has ls 7 [(5, .int (b2i (gtL h u v d && alq (gtC h u v d) (e9 + 1)))), (6, .int (nI e9)), (4, .int (nI d)), (3, .int (fdq (gtQ h u v) d)), (0, .ref mo), (1, .int (nI u)), (2, .int (nI v))] := by
                          have hz : (nI 1) = b2i (gtL h u v d && alq (gtC h u v d) (e9 + 1)) := by show _ = b2i (gtL h u v d && (alq (gtC h u v d) e9 && gtC h u v d e9)); rw [← Bool.and_assoc, hc118, Bool.true_and]; unfold gtC; first | (rw [decide_eq_true hc124]; rfl) | (rw [decide_eq_false hc124, hc137]; rfl) | (rw [decide_eq_false hc124, hc137, show dpb h u v e9 = false from hc148]; rfl) | (rw [decide_eq_false hc124, hc137, show dpb h u v e9 = true from hc148, show dpb h u d e9 = true from hc160]; rfl) | (rw [decide_eq_false hc124, hc137, show dpb h u v e9 = true from hc148, show dpb h u d e9 = false from hc160]; rfl)
                          rw [← hz]; exact hl
                        refine lv_iinc hx hb d_M_gate_170 hl (k := 1) rfl (v := nI (e9 + 1)) (nI_1 e9) (by decide) rfl (fun ls hl => ?_)
                        have hl : lv_has ls 7 [(6, .int (nI (e9 + 1))), (5, .int (b2i (gtL h u v d && alq (gtC h u v d) (e9 + 1)))), (4, .int (nI d)), (3, .int (fdq (gtQ h u v) d)), (0, .ref mo), (1, .int (nI u)), (2, .int (nI v))] := hl
                        refine lv_goto (tgt := 109) hx hb d_M_gate_173 rfl ?_
                        exact ih109 (e9 + 1) _ H locs ⟨by omega, lv_sub hl [0, 1, 2, 3, 4, 5, 6] rfl, hP, hD, hS⟩ (by omega)
                      · have hc148 := b2i_n.mp hc148
                        refine lv_aload_n hx hb d_M_gate_151 rfl (lv_at hl 4 rfl) ?_
                        refine lv_iload_n hx hb d_M_gate_152 rfl (lv_at hl 5 rfl) ?_
                        refine lv_iload hx hb d_M_gate_153 (lv_at hl 2 rfl) ?_
                        refine lv_iload hx hb d_M_gate_155 (lv_at hl 0 rfl) ?_
                        refine xr_cal (va_runV (As := [.int (nI u), .int (nI d), .int (nI e9)]) (rest := []) ⟨hx, hb, hml, hown, hB⟩ (k_M_dependent l D mo m0 m1 m2 m3 m4 m5 m6 o0 o1 o2 o3 o4 o5 o6 (nI 0) mn mg h mO mG mF mA mU mR hg u d e9 (by omega) (by omega) (by omega)) ⟨callB_of 3 hB (xg0 mc_M_dependent) rfl rfl rfl (hB _ mz_M) (hB _ ml_M_80) (by decide +kernel) ⟨Nat.le_of_ble_eq_true rfl, Nat.le_of_ble_eq_true rfl⟩, hB _ mi_M_dependent, hB _ me_M_dependent⟩ (xpV (ws := [(mo, .inr (5, [.int (nI 0), .int mn, .ref m0, .int mg, .ref m1, .ref m2, .ref m3, .ref m4, .ref m5, .ref m6])), (m0, .inl (o0, 16, .inl h)), (m1, .inl (o1, 16, .inl mO)), (m2, .inl (o2, 16, .inl mG)), (m3, .inl (o3, 16, .inl mF)), (m4, .inl (o4, 32, .inl mA)), (m5, .inl (o5, 32, .inl mU)), (m6, .inl (o6, 32, .inl mR))]) (tys := [(o0, .int), (o1, .int), (o2, .int), (o3, .int), (o4, .int), (o5, .int), (o6, .int)]) (hP.sub [0, 1, 2, 3, 4, 5, 6, 7] rfl) (hK.sub [0, 1, 2, 3, 4, 5, 6] rfl) hN (va_recv (ci := 5) (q0 := 0) (q := (R_M, F_M, 10)) hK hP rfl rfl)) rfl rfl hl.1 rfl (lv_room (Nat.le_of_ble_eq_true rfl)) d_M_gate_157 ⟨Nat.le_of_ble_eq_true rfl, Nat.le_of_ble_eq_true rfl⟩) ?_
                        refine lv_if_eq (tgt := 167) hx hb d_M_gate_160 rfl (fun hc160 => ?_) (fun hc160 => ?_)
                        · have hc160 := b2i_0.mp hc160
                          refine lv_iconst (v := nI 0) hx hb d_M_gate_167 (by decide) ?_
                          refine lv_istore hx hb d_M_gate_168 hl (by decide) rfl (fun ls hl => ?_)
                          have hl : lv_has ls 7 [(5, .int (nI 0)), (6, .int (nI e9)), (4, .int (nI d)), (3, .int (fdq (gtQ h u v) d)), (0, .ref mo), (1, .int (nI u)), (2, .int (nI v))] := hl
                          have hl : lv_has ls 7 [(5, .int (b2i (gtL h u v d && alq (gtC h u v d) (e9 + 1)))), (6, .int (nI e9)), (4, .int (nI d)), (3, .int (fdq (gtQ h u v) d)), (0, .ref mo), (1, .int (nI u)), (2, .int (nI v))] := by
                            have hz : (nI 0) = b2i (gtL h u v d && alq (gtC h u v d) (e9 + 1)) := by show _ = b2i (gtL h u v d && (alq (gtC h u v d) e9 && gtC h u v d e9)); rw [← Bool.and_assoc, hc118, Bool.true_and]; unfold gtC; first | (rw [decide_eq_true hc124]; rfl) | (rw [decide_eq_false hc124, hc137]; rfl) | (rw [decide_eq_false hc124, hc137, show dpb h u v e9 = false from hc148]; rfl) | (rw [decide_eq_false hc124, hc137, show dpb h u v e9 = true from hc148, show dpb h u d e9 = true from hc160]; rfl) | (rw [decide_eq_false hc124, hc137, show dpb h u v e9 = true from hc148, show dpb h u d e9 = false from hc160]; rfl)
                            rw [← hz]; exact hl
                          refine lv_iinc hx hb d_M_gate_170 hl (k := 1) rfl (v := nI (e9 + 1)) (nI_1 e9) (by decide) rfl (fun ls hl => ?_)
                          have hl : lv_has ls 7 [(6, .int (nI (e9 + 1))), (5, .int (b2i (gtL h u v d && alq (gtC h u v d) (e9 + 1)))), (4, .int (nI d)), (3, .int (fdq (gtQ h u v) d)), (0, .ref mo), (1, .int (nI u)), (2, .int (nI v))] := hl
                          refine lv_goto (tgt := 109) hx hb d_M_gate_173 rfl ?_
                          exact ih109 (e9 + 1) _ H locs ⟨by omega, lv_sub hl [0, 1, 2, 3, 4, 5, 6] rfl, hP, hD, hS⟩ (by omega)
                        · have hc160 := b2i_n.mp hc160
                          refine lv_iconst (v := nI 1) hx hb d_M_gate_163 (by decide) ?_
                          refine lv_goto (tgt := 168) hx hb d_M_gate_164 rfl ?_
                          refine lv_istore hx hb d_M_gate_168 hl (by decide) rfl (fun ls hl => ?_)
                          have hl : lv_has ls 7 [(5, .int (nI 1)), (6, .int (nI e9)), (4, .int (nI d)), (3, .int (fdq (gtQ h u v) d)), (0, .ref mo), (1, .int (nI u)), (2, .int (nI v))] := hl
                          have hl : lv_has ls 7 [(5, .int (b2i (gtL h u v d && alq (gtC h u v d) (e9 + 1)))), (6, .int (nI e9)), (4, .int (nI d)), (3, .int (fdq (gtQ h u v) d)), (0, .ref mo), (1, .int (nI u)), (2, .int (nI v))] := by
                            have hz : (nI 1) = b2i (gtL h u v d && alq (gtC h u v d) (e9 + 1)) := by show _ = b2i (gtL h u v d && (alq (gtC h u v d) e9 && gtC h u v d e9)); rw [← Bool.and_assoc, hc118, Bool.true_and]; unfold gtC; first | (rw [decide_eq_true hc124]; rfl) | (rw [decide_eq_false hc124, hc137]; rfl) | (rw [decide_eq_false hc124, hc137, show dpb h u v e9 = false from hc148]; rfl) | (rw [decide_eq_false hc124, hc137, show dpb h u v e9 = true from hc148, show dpb h u d e9 = true from hc160]; rfl) | (rw [decide_eq_false hc124, hc137, show dpb h u v e9 = true from hc148, show dpb h u d e9 = false from hc160]; rfl)
                            rw [← hz]; exact hl
                          refine lv_iinc hx hb d_M_gate_170 hl (k := 1) rfl (v := nI (e9 + 1)) (nI_1 e9) (by decide) rfl (fun ls hl => ?_)
                          have hl : lv_has ls 7 [(6, .int (nI (e9 + 1))), (5, .int (b2i (gtL h u v d && alq (gtC h u v d) (e9 + 1)))), (4, .int (nI d)), (3, .int (fdq (gtQ h u v) d)), (0, .ref mo), (1, .int (nI u)), (2, .int (nI v))] := hl
                          refine lv_goto (tgt := 109) hx hb d_M_gate_173 rfl ?_
                          exact ih109 (e9 + 1) _ H locs ⟨by omega, lv_sub hl [0, 1, 2, 3, 4, 5, 6] rfl, hP, hD, hS⟩ (by omega)
            · have hc85 := b2i_n.mp hc85
              refine lv_aload_n hx hb d_M_gate_88 rfl (lv_at hl 2 rfl) ?_
              refine lv_iload_n hx hb d_M_gate_89 rfl (lv_at hl 3 rfl) ?_
              refine lv_iload_n hx hb d_M_gate_90 rfl (lv_at hl 4 rfl) ?_
              refine lv_iload hx hb d_M_gate_91 (lv_at hl 0 rfl) ?_
              refine xr_cal (va_runV (As := [.int (nI u), .int (nI v), .int (nI d)]) (rest := []) ⟨hx, hb, hml, hown, hB⟩ (k_M_dependent l D mo m0 m1 m2 m3 m4 m5 m6 o0 o1 o2 o3 o4 o5 o6 (nI 0) mn mg h mO mG mF mA mU mR hg u v d (by omega) (by omega) (by omega)) ⟨callB_of 3 hB (xg0 mc_M_dependent) rfl rfl rfl (hB _ mz_M) (hB _ ml_M_80) (by decide +kernel) ⟨Nat.le_of_ble_eq_true rfl, Nat.le_of_ble_eq_true rfl⟩, hB _ mi_M_dependent, hB _ me_M_dependent⟩ (xpV (ws := [(mo, .inr (5, [.int (nI 0), .int mn, .ref m0, .int mg, .ref m1, .ref m2, .ref m3, .ref m4, .ref m5, .ref m6])), (m0, .inl (o0, 16, .inl h)), (m1, .inl (o1, 16, .inl mO)), (m2, .inl (o2, 16, .inl mG)), (m3, .inl (o3, 16, .inl mF)), (m4, .inl (o4, 32, .inl mA)), (m5, .inl (o5, 32, .inl mU)), (m6, .inl (o6, 32, .inl mR))]) (tys := [(o0, .int), (o1, .int), (o2, .int), (o3, .int), (o4, .int), (o5, .int), (o6, .int)]) (hP.sub [0, 1, 2, 3, 4, 5, 6, 7] rfl) (hK.sub [0, 1, 2, 3, 4, 5, 6] rfl) hN (va_recv (ci := 5) (q0 := 0) (q := (R_M, F_M, 10)) hK hP rfl rfl)) rfl rfl hl.1 rfl (lv_room (Nat.le_of_ble_eq_true rfl)) d_M_gate_93 ⟨Nat.le_of_ble_eq_true rfl, Nat.le_of_ble_eq_true rfl⟩) ?_
              refine lv_if_eq (tgt := 103) hx hb d_M_gate_96 rfl (fun hc96 => ?_) (fun hc96 => ?_)
              · have hc96 := b2i_0.mp hc96
                refine lv_iconst (v := nI 0) hx hb d_M_gate_103 (by decide) ?_
                refine lv_istore hx hb d_M_gate_104 hl (by decide) rfl (fun ls hl => ?_)
                have hl : lv_has ls 7 [(5, .int (nI 0)), (4, .int (nI d)), (3, .int (fdq (gtQ h u v) d)), (0, .ref mo), (1, .int (nI u)), (2, .int (nI v))] := hl
                have hl : lv_has ls 7 [(5, .int (b2i (gtL h u v d && alq (gtC h u v d) 0))), (4, .int (nI d)), (3, .int (fdq (gtQ h u v) d)), (0, .ref mo), (1, .int (nI u)), (2, .int (nI v))] := by
                  have hz : (nI 0) = b2i (gtL h u v d && alq (gtC h u v d) 0) := by show _ = b2i (gtL h u v d && true); unfold gtL; first | (rw [decide_eq_false hc72, hc85, show dpb h u v d = true from hc96]; rfl) | (rw [show dpb h u v d = false from hc96, Bool.and_false]; rfl) | (rw [hc85, Bool.and_false]; rfl) | (rw [decide_eq_true hc72]; rfl)
                  rw [← hz]; exact hl
                refine lv_iconst (v := nI 0) hx hb d_M_gate_106 (by decide) ?_
                refine lv_istore hx hb d_M_gate_107 hl (by decide) rfl (fun ls hl => ?_)
                have hl : lv_has ls 7 [(6, .int (nI 0)), (5, .int (b2i (gtL h u v d && alq (gtC h u v d) 0))), (4, .int (nI d)), (3, .int (fdq (gtQ h u v) d)), (0, .ref mo), (1, .int (nI u)), (2, .int (nI v))] := hl
                refine xl_w (fun (e9 : Nat) ls H locs => ((e9 ≤ 16)) ∧ lv_has ls 7 [(6, .int (nI e9)), (5, .int (b2i (gtL h u v d && alq (gtC h u v d) e9))), (4, .int (nI d)), (3, .int (fdq (gtQ h u v) d)), (0, .ref mo), (1, .int (nI u)), (2, .int (nI v))] ∧ va_P D cls [(mo, .inr (5, [.int (nI 0), .int mn, .ref m0, .int mg, .ref m1, .ref m2, .ref m3, .ref m4, .ref m5, .ref m6])), (m0, .inl (o0, 16, .inl h)), (m1, .inl (o1, 16, .inl mO)), (m2, .inl (o2, 16, .inl mG)), (m3, .inl (o3, 16, .inl mF)), (m4, .inl (o4, 32, .inl mA)), (m5, .inl (o5, 32, .inl mU)), (m6, .inl (o6, 32, .inl mR))] H ∧ va_D A [(mo, .inr (5, [.int (nI 0), .int mn, .ref m0, .int mg, .ref m1, .ref m2, .ref m3, .ref m4, .ref m5, .ref m6])), (m0, .inl (o0, 16, .inl h)), (m1, .inl (o1, 16, .inl mO)), (m2, .inl (o2, 16, .inl mG)), (m3, .inl (o3, 16, .inl mF)), (m4, .inl (o4, 32, .inl mA)), (m5, .inl (o5, 32, .inl mU)), (m6, .inl (o6, 32, .inl mR))] ∧ va_S A s.heap H locs) (fun e9 => 16 - e9) (fun e9 ls H locs hI ih109 => ?_) 0 _ ⟨Nat.zero_le _, hl, hP, hD, hS⟩
                obtain ⟨hI, hl, hP, hD, hS⟩ := hI
                have he9 := hI
                refine lv_iload hx hb d_M_gate_109 (lv_at hl 0 rfl) ?_
                refine lv_bipush (v := nI 16) hx hb d_M_gate_111 (by decide) ?_
                refine lv_icmp_ge (tgt := 176) hx hb d_M_gate_113 rfl (fun hc113 => ?_) (fun hc113 => ?_)
                · have hc113 : 16 ≤ e9 := (nI_leI (by omega) (by omega)).mp hc113
                  have hl : lv_has ls 7 [(6, .int (nI e9)), (5, .int (b2i (gtQ h u v d))), (4, .int (nI d)), (3, .int (fdq (gtQ h u v) d)), (0, .ref mo), (1, .int (nI u)), (2, .int (nI v))] := by
                    have hz : (b2i (gtL h u v d && alq (gtC h u v d) e9)) = b2i (gtQ h u v d) := by unfold gtQ; first | rw [show e9 = 16 by omega] | rw [hc118, alq_end (by omega) hc118]
                    rw [← hz]; exact hl
                  refine lv_iload hx hb d_M_gate_176 (lv_at hl 1 rfl) ?_
                  refine lv_if_eq (tgt := 186) hx hb d_M_gate_178 rfl (fun hc178 => ?_) (fun hc178 => ?_)
                  · have hc178 := b2i_0.mp hc178
                    refine lv_iload_n hx hb d_M_gate_186 rfl (lv_at hl 3 rfl) ?_
                    refine lv_istore_n hx hb d_M_gate_187 rfl hl (by decide) rfl (fun ls hl => ?_)
                    have hl : lv_has ls 7 [(3, .int (fdq (gtQ h u v) d)), (6, .int (nI e9)), (5, .int (b2i (gtQ h u v d))), (4, .int (nI d)), (0, .ref mo), (1, .int (nI u)), (2, .int (nI v))] := hl
                    have hl : lv_has ls 7 [(3, .int (fdq (gtQ h u v) (d + 1))), (6, .int (nI e9)), (5, .int (b2i (gtQ h u v d))), (4, .int (nI d)), (0, .ref mo), (1, .int (nI u)), (2, .int (nI v))] := by
                      have hz : (fdq (gtQ h u v) d) = fdq (gtQ h u v) (d + 1) := (if_neg (by rw [hc178]; decide)).symm
                      rw [← hz]; exact hl
                    refine lv_iinc hx hb d_M_gate_188 hl (k := 3) rfl (v := nI (d + 1)) (nI_1 d) (by decide) rfl (fun ls hl => ?_)
                    have hl : lv_has ls 7 [(4, .int (nI (d + 1))), (3, .int (fdq (gtQ h u v) (d + 1))), (6, .int (nI e9)), (5, .int (b2i (gtQ h u v d))), (0, .ref mo), (1, .int (nI u)), (2, .int (nI v))] := hl
                    refine lv_goto (tgt := 62) hx hb d_M_gate_191 rfl ?_
                    exact ih62 (d + 1) _ H locs ⟨by omega, lv_sub hl [0, 1, 4, 5, 6] rfl, hP, hD, hS⟩ (by omega)
                  · have hc178 := b2i_n.mp hc178
                    refine lv_iload hx hb d_M_gate_181 (lv_at hl 2 rfl) ?_
                    refine lv_goto (tgt := 187) hx hb d_M_gate_183 rfl ?_
                    refine lv_istore_n hx hb d_M_gate_187 rfl hl (by decide) rfl (fun ls hl => ?_)
                    have hl : lv_has ls 7 [(3, .int (nI d)), (6, .int (nI e9)), (5, .int (b2i (gtQ h u v d))), (4, .int (nI d)), (0, .ref mo), (1, .int (nI u)), (2, .int (nI v))] := hl
                    have hl : lv_has ls 7 [(3, .int (fdq (gtQ h u v) (d + 1))), (6, .int (nI e9)), (5, .int (b2i (gtQ h u v d))), (4, .int (nI d)), (0, .ref mo), (1, .int (nI u)), (2, .int (nI v))] := by
                      have hz : (nI d) = fdq (gtQ h u v) (d + 1) := (if_pos hc178).symm
                      rw [← hz]; exact hl
                    refine lv_iinc hx hb d_M_gate_188 hl (k := 3) rfl (v := nI (d + 1)) (nI_1 d) (by decide) rfl (fun ls hl => ?_)
                    have hl : lv_has ls 7 [(4, .int (nI (d + 1))), (3, .int (fdq (gtQ h u v) (d + 1))), (6, .int (nI e9)), (5, .int (b2i (gtQ h u v d))), (0, .ref mo), (1, .int (nI u)), (2, .int (nI v))] := hl
                    refine lv_goto (tgt := 62) hx hb d_M_gate_191 rfl ?_
                    exact ih62 (d + 1) _ H locs ⟨by omega, lv_sub hl [0, 1, 4, 5, 6] rfl, hP, hD, hS⟩ (by omega)
                · have hc113 : ¬ (16 ≤ e9) := fun q9 => hc113 ((nI_leI (by omega) (by omega)).mpr q9)
                  refine lv_iload hx hb d_M_gate_116 (lv_at hl 1 rfl) ?_
                  refine lv_if_eq (tgt := 176) hx hb d_M_gate_118 rfl (fun hc118 => ?_) (fun hc118 => ?_)
                  · have hc118 := b2i_0.mp hc118
                    have hl : lv_has ls 7 [(6, .int (nI e9)), (5, .int (b2i (gtQ h u v d))), (4, .int (nI d)), (3, .int (fdq (gtQ h u v) d)), (0, .ref mo), (1, .int (nI u)), (2, .int (nI v))] := by
                      have hz : (b2i (gtL h u v d && alq (gtC h u v d) e9)) = b2i (gtQ h u v d) := by unfold gtQ; first | rw [show e9 = 16 by omega] | rw [hc118, alq_end (by omega) hc118]
                      rw [← hz]; exact hl
                    refine lv_iload hx hb d_M_gate_176 (lv_at hl 1 rfl) ?_
                    refine lv_if_eq (tgt := 186) hx hb d_M_gate_178 rfl (fun hc178 => ?_) (fun hc178 => ?_)
                    · have hc178 := b2i_0.mp hc178
                      refine lv_iload_n hx hb d_M_gate_186 rfl (lv_at hl 3 rfl) ?_
                      refine lv_istore_n hx hb d_M_gate_187 rfl hl (by decide) rfl (fun ls hl => ?_)
                      have hl : lv_has ls 7 [(3, .int (fdq (gtQ h u v) d)), (6, .int (nI e9)), (5, .int (b2i (gtQ h u v d))), (4, .int (nI d)), (0, .ref mo), (1, .int (nI u)), (2, .int (nI v))] := hl
                      have hl : lv_has ls 7 [(3, .int (fdq (gtQ h u v) (d + 1))), (6, .int (nI e9)), (5, .int (b2i (gtQ h u v d))), (4, .int (nI d)), (0, .ref mo), (1, .int (nI u)), (2, .int (nI v))] := by
                        have hz : (fdq (gtQ h u v) d) = fdq (gtQ h u v) (d + 1) := (if_neg (by rw [hc178]; decide)).symm
                        rw [← hz]; exact hl
                      refine lv_iinc hx hb d_M_gate_188 hl (k := 3) rfl (v := nI (d + 1)) (nI_1 d) (by decide) rfl (fun ls hl => ?_)
                      have hl : lv_has ls 7 [(4, .int (nI (d + 1))), (3, .int (fdq (gtQ h u v) (d + 1))), (6, .int (nI e9)), (5, .int (b2i (gtQ h u v d))), (0, .ref mo), (1, .int (nI u)), (2, .int (nI v))] := hl
                      refine lv_goto (tgt := 62) hx hb d_M_gate_191 rfl ?_
                      exact ih62 (d + 1) _ H locs ⟨by omega, lv_sub hl [0, 1, 4, 5, 6] rfl, hP, hD, hS⟩ (by omega)
                    · have hc178 := b2i_n.mp hc178
                      refine lv_iload hx hb d_M_gate_181 (lv_at hl 2 rfl) ?_
                      refine lv_goto (tgt := 187) hx hb d_M_gate_183 rfl ?_
                      refine lv_istore_n hx hb d_M_gate_187 rfl hl (by decide) rfl (fun ls hl => ?_)
                      have hl : lv_has ls 7 [(3, .int (nI d)), (6, .int (nI e9)), (5, .int (b2i (gtQ h u v d))), (4, .int (nI d)), (0, .ref mo), (1, .int (nI u)), (2, .int (nI v))] := hl
                      have hl : lv_has ls 7 [(3, .int (fdq (gtQ h u v) (d + 1))), (6, .int (nI e9)), (5, .int (b2i (gtQ h u v d))), (4, .int (nI d)), (0, .ref mo), (1, .int (nI u)), (2, .int (nI v))] := by
                        have hz : (nI d) = fdq (gtQ h u v) (d + 1) := (if_pos hc178).symm
                        rw [← hz]; exact hl
                      refine lv_iinc hx hb d_M_gate_188 hl (k := 3) rfl (v := nI (d + 1)) (nI_1 d) (by decide) rfl (fun ls hl => ?_)
                      have hl : lv_has ls 7 [(4, .int (nI (d + 1))), (3, .int (fdq (gtQ h u v) (d + 1))), (6, .int (nI e9)), (5, .int (b2i (gtQ h u v d))), (0, .ref mo), (1, .int (nI u)), (2, .int (nI v))] := hl
                      refine lv_goto (tgt := 62) hx hb d_M_gate_191 rfl ?_
                      exact ih62 (d + 1) _ H locs ⟨by omega, lv_sub hl [0, 1, 4, 5, 6] rfl, hP, hD, hS⟩ (by omega)
                  · have hc118 := b2i_n.mp hc118
                    refine lv_iload hx hb d_M_gate_121 (lv_at hl 0 rfl) ?_
                    refine lv_iload_n hx hb d_M_gate_123 rfl (lv_at hl 6 rfl) ?_
                    refine lv_icmp_eq (tgt := 163) hx hb d_M_gate_124 rfl (fun hc124 => ?_) (fun hc124 => ?_)
                    · have hc124 : e9 = v := (nI_eq (by omega) (by omega)).mp hc124
                      refine lv_iconst (v := nI 1) hx hb d_M_gate_163 (by decide) ?_
                      refine lv_goto (tgt := 168) hx hb d_M_gate_164 rfl ?_
                      refine lv_istore hx hb d_M_gate_168 hl (by decide) rfl (fun ls hl => ?_)
                      have hl : lv_has ls 7 [(5, .int (nI 1)), (6, .int (nI e9)), (4, .int (nI d)), (3, .int (fdq (gtQ h u v) d)), (0, .ref mo), (1, .int (nI u)), (2, .int (nI v))] := hl
                      have hl : lv_has ls 7 [(5, .int (b2i (gtL h u v d && alq (gtC h u v d) (e9 + 1)))), (6, .int (nI e9)), (4, .int (nI d)), (3, .int (fdq (gtQ h u v) d)), (0, .ref mo), (1, .int (nI u)), (2, .int (nI v))] := by
                        have hz : (nI 1) = b2i (gtL h u v d && alq (gtC h u v d) (e9 + 1)) := by show _ = b2i (gtL h u v d && (alq (gtC h u v d) e9 && gtC h u v d e9)); rw [← Bool.and_assoc, hc118, Bool.true_and]; unfold gtC; first | (rw [decide_eq_true hc124]; rfl) | (rw [decide_eq_false hc124, hc137]; rfl) | (rw [decide_eq_false hc124, hc137, show dpb h u v e9 = false from hc148]; rfl) | (rw [decide_eq_false hc124, hc137, show dpb h u v e9 = true from hc148, show dpb h u d e9 = true from hc160]; rfl) | (rw [decide_eq_false hc124, hc137, show dpb h u v e9 = true from hc148, show dpb h u d e9 = false from hc160]; rfl)
                        rw [← hz]; exact hl
                      refine lv_iinc hx hb d_M_gate_170 hl (k := 1) rfl (v := nI (e9 + 1)) (nI_1 e9) (by decide) rfl (fun ls hl => ?_)
                      have hl : lv_has ls 7 [(6, .int (nI (e9 + 1))), (5, .int (b2i (gtL h u v d && alq (gtC h u v d) (e9 + 1)))), (4, .int (nI d)), (3, .int (fdq (gtQ h u v) d)), (0, .ref mo), (1, .int (nI u)), (2, .int (nI v))] := hl
                      refine lv_goto (tgt := 109) hx hb d_M_gate_173 rfl ?_
                      exact ih109 (e9 + 1) _ H locs ⟨by omega, lv_sub hl [0, 1, 2, 3, 4, 5, 6] rfl, hP, hD, hS⟩ (by omega)
                    · have hc124 : ¬ (e9 = v) := fun q9 => hc124 ((nI_eq (by omega) (by omega)).mpr q9)
                      refine lv_aload_n hx hb d_M_gate_127 rfl (lv_at hl 4 rfl) ?_
                      refine lv_iload_n hx hb d_M_gate_128 rfl (lv_at hl 5 rfl) ?_
                      refine xr_cal (va_runV (As := [.int (nI u)]) (rest := []) ⟨hx, hb, hml, hown, hB⟩ (k_M_reach l D mo m0 m1 m2 m3 m4 m5 m6 o0 o1 o2 o3 o4 o5 o6 (nI 0) mn mg h mO mG mF mA mU mR hg u (by omega)) ⟨callB_of 1 hB (xg0 mc_M_reach) rfl rfl rfl (hB _ mz_M) (hB _ ml_M_51) (by decide +kernel) ⟨Nat.le_of_ble_eq_true rfl, Nat.le_of_ble_eq_true rfl⟩, hB _ mi_M_reach, hB _ me_M_reach⟩ (xpV (ws := [(mo, .inr (5, [.int (nI 0), .int mn, .ref m0, .int mg, .ref m1, .ref m2, .ref m3, .ref m4, .ref m5, .ref m6])), (m0, .inl (o0, 16, .inl h)), (m1, .inl (o1, 16, .inl mO)), (m2, .inl (o2, 16, .inl mG)), (m3, .inl (o3, 16, .inl mF)), (m4, .inl (o4, 32, .inl mA)), (m5, .inl (o5, 32, .inl mU)), (m6, .inl (o6, 32, .inl mR))]) (tys := [(o0, .int), (o1, .int), (o2, .int), (o3, .int), (o4, .int), (o5, .int), (o6, .int)]) (hP.sub [0, 1, 2, 3, 4, 5, 6, 7] rfl) (hK.sub [0, 1, 2, 3, 4, 5, 6] rfl) hN (va_recv (ci := 5) (q0 := 0) (q := (R_M, F_M, 10)) hK hP rfl rfl)) rfl rfl hl.1 rfl (lv_room (Nat.le_of_ble_eq_true rfl)) d_M_gate_129 ⟨Nat.le_of_ble_eq_true rfl, Nat.le_of_ble_eq_true rfl⟩) ?_
                      refine lv_iload hx hb d_M_gate_132 (lv_at hl 0 rfl) ?_
                      refine xr_cal (va_runS (As := [.int (RE h u), .int (nI e9)]) (rest := []) ⟨hx, hb, hml, hown, hB⟩ (k_M_has l D  (RE h u) e9 (by omega)) ⟨callB_of 2 hB (xg0 mc_M_has) rfl rfl rfl (hB _ mz_M) (hB _ ml_M_35) (by decide +kernel) ⟨Nat.le_of_ble_eq_true rfl, Nat.le_of_ble_eq_true rfl⟩, hB _ ms_M_has⟩ (xpS (ws := []) (tys := []) (hP.sub [] rfl) (hK.sub [] rfl) hN) rfl rfl hl.1 rfl (lv_room (Nat.le_of_ble_eq_true rfl)) d_M_gate_134 ⟨Nat.le_of_ble_eq_true rfl, Nat.le_of_ble_eq_true rfl⟩) ?_
                      refine lv_if_eq (tgt := 163) hx hb d_M_gate_137 rfl (fun hc137 => ?_) (fun hc137 => ?_)
                      · have hc137 := b2i_0.mp hc137
                        refine lv_iconst (v := nI 1) hx hb d_M_gate_163 (by decide) ?_
                        refine lv_goto (tgt := 168) hx hb d_M_gate_164 rfl ?_
                        refine lv_istore hx hb d_M_gate_168 hl (by decide) rfl (fun ls hl => ?_)
                        have hl : lv_has ls 7 [(5, .int (nI 1)), (6, .int (nI e9)), (4, .int (nI d)), (3, .int (fdq (gtQ h u v) d)), (0, .ref mo), (1, .int (nI u)), (2, .int (nI v))] := hl
                        have hl : lv_has ls 7 [(5, .int (b2i (gtL h u v d && alq (gtC h u v d) (e9 + 1)))), (6, .int (nI e9)), (4, .int (nI d)), (3, .int (fdq (gtQ h u v) d)), (0, .ref mo), (1, .int (nI u)), (2, .int (nI v))] := by
                          have hz : (nI 1) = b2i (gtL h u v d && alq (gtC h u v d) (e9 + 1)) := by show _ = b2i (gtL h u v d && (alq (gtC h u v d) e9 && gtC h u v d e9)); rw [← Bool.and_assoc, hc118, Bool.true_and]; unfold gtC; first | (rw [decide_eq_true hc124]; rfl) | (rw [decide_eq_false hc124, hc137]; rfl) | (rw [decide_eq_false hc124, hc137, show dpb h u v e9 = false from hc148]; rfl) | (rw [decide_eq_false hc124, hc137, show dpb h u v e9 = true from hc148, show dpb h u d e9 = true from hc160]; rfl) | (rw [decide_eq_false hc124, hc137, show dpb h u v e9 = true from hc148, show dpb h u d e9 = false from hc160]; rfl)
                          rw [← hz]; exact hl
                        refine lv_iinc hx hb d_M_gate_170 hl (k := 1) rfl (v := nI (e9 + 1)) (nI_1 e9) (by decide) rfl (fun ls hl => ?_)
                        have hl : lv_has ls 7 [(6, .int (nI (e9 + 1))), (5, .int (b2i (gtL h u v d && alq (gtC h u v d) (e9 + 1)))), (4, .int (nI d)), (3, .int (fdq (gtQ h u v) d)), (0, .ref mo), (1, .int (nI u)), (2, .int (nI v))] := hl
                        refine lv_goto (tgt := 109) hx hb d_M_gate_173 rfl ?_
                        exact ih109 (e9 + 1) _ H locs ⟨by omega, lv_sub hl [0, 1, 2, 3, 4, 5, 6] rfl, hP, hD, hS⟩ (by omega)
                      · have hc137 := b2i_n.mp hc137
                        refine lv_aload_n hx hb d_M_gate_140 rfl (lv_at hl 4 rfl) ?_
                        refine lv_iload_n hx hb d_M_gate_141 rfl (lv_at hl 5 rfl) ?_
                        refine lv_iload_n hx hb d_M_gate_142 rfl (lv_at hl 6 rfl) ?_
                        refine lv_iload hx hb d_M_gate_143 (lv_at hl 0 rfl) ?_
                        refine xr_cal (va_runV (As := [.int (nI u), .int (nI v), .int (nI e9)]) (rest := []) ⟨hx, hb, hml, hown, hB⟩ (k_M_dependent l D mo m0 m1 m2 m3 m4 m5 m6 o0 o1 o2 o3 o4 o5 o6 (nI 0) mn mg h mO mG mF mA mU mR hg u v e9 (by omega) (by omega) (by omega)) ⟨callB_of 3 hB (xg0 mc_M_dependent) rfl rfl rfl (hB _ mz_M) (hB _ ml_M_80) (by decide +kernel) ⟨Nat.le_of_ble_eq_true rfl, Nat.le_of_ble_eq_true rfl⟩, hB _ mi_M_dependent, hB _ me_M_dependent⟩ (xpV (ws := [(mo, .inr (5, [.int (nI 0), .int mn, .ref m0, .int mg, .ref m1, .ref m2, .ref m3, .ref m4, .ref m5, .ref m6])), (m0, .inl (o0, 16, .inl h)), (m1, .inl (o1, 16, .inl mO)), (m2, .inl (o2, 16, .inl mG)), (m3, .inl (o3, 16, .inl mF)), (m4, .inl (o4, 32, .inl mA)), (m5, .inl (o5, 32, .inl mU)), (m6, .inl (o6, 32, .inl mR))]) (tys := [(o0, .int), (o1, .int), (o2, .int), (o3, .int), (o4, .int), (o5, .int), (o6, .int)]) (hP.sub [0, 1, 2, 3, 4, 5, 6, 7] rfl) (hK.sub [0, 1, 2, 3, 4, 5, 6] rfl) hN (va_recv (ci := 5) (q0 := 0) (q := (R_M, F_M, 10)) hK hP rfl rfl)) rfl rfl hl.1 rfl (lv_room (Nat.le_of_ble_eq_true rfl)) d_M_gate_145 ⟨Nat.le_of_ble_eq_true rfl, Nat.le_of_ble_eq_true rfl⟩) ?_
                        refine lv_if_eq (tgt := 163) hx hb d_M_gate_148 rfl (fun hc148 => ?_) (fun hc148 => ?_)
                        · have hc148 := b2i_0.mp hc148
                          refine lv_iconst (v := nI 1) hx hb d_M_gate_163 (by decide) ?_
                          refine lv_goto (tgt := 168) hx hb d_M_gate_164 rfl ?_
                          refine lv_istore hx hb d_M_gate_168 hl (by decide) rfl (fun ls hl => ?_)
                          have hl : lv_has ls 7 [(5, .int (nI 1)), (6, .int (nI e9)), (4, .int (nI d)), (3, .int (fdq (gtQ h u v) d)), (0, .ref mo), (1, .int (nI u)), (2, .int (nI v))] := hl
                          have hl : lv_has ls 7 [(5, .int (b2i (gtL h u v d && alq (gtC h u v d) (e9 + 1)))), (6, .int (nI e9)), (4, .int (nI d)), (3, .int (fdq (gtQ h u v) d)), (0, .ref mo), (1, .int (nI u)), (2, .int (nI v))] := by
                            have hz : (nI 1) = b2i (gtL h u v d && alq (gtC h u v d) (e9 + 1)) := by show _ = b2i (gtL h u v d && (alq (gtC h u v d) e9 && gtC h u v d e9)); rw [← Bool.and_assoc, hc118, Bool.true_and]; unfold gtC; first | (rw [decide_eq_true hc124]; rfl) | (rw [decide_eq_false hc124, hc137]; rfl) | (rw [decide_eq_false hc124, hc137, show dpb h u v e9 = false from hc148]; rfl) | (rw [decide_eq_false hc124, hc137, show dpb h u v e9 = true from hc148, show dpb h u d e9 = true from hc160]; rfl) | (rw [decide_eq_false hc124, hc137, show dpb h u v e9 = true from hc148, show dpb h u d e9 = false from hc160]; rfl)
                            rw [← hz]; exact hl
                          refine lv_iinc hx hb d_M_gate_170 hl (k := 1) rfl (v := nI (e9 + 1)) (nI_1 e9) (by decide) rfl (fun ls hl => ?_)
                          have hl : lv_has ls 7 [(6, .int (nI (e9 + 1))), (5, .int (b2i (gtL h u v d && alq (gtC h u v d) (e9 + 1)))), (4, .int (nI d)), (3, .int (fdq (gtQ h u v) d)), (0, .ref mo), (1, .int (nI u)), (2, .int (nI v))] := hl
                          refine lv_goto (tgt := 109) hx hb d_M_gate_173 rfl ?_
                          exact ih109 (e9 + 1) _ H locs ⟨by omega, lv_sub hl [0, 1, 2, 3, 4, 5, 6] rfl, hP, hD, hS⟩ (by omega)
                        · have hc148 := b2i_n.mp hc148
                          refine lv_aload_n hx hb d_M_gate_151 rfl (lv_at hl 4 rfl) ?_
                          refine lv_iload_n hx hb d_M_gate_152 rfl (lv_at hl 5 rfl) ?_
                          refine lv_iload hx hb d_M_gate_153 (lv_at hl 2 rfl) ?_
                          refine lv_iload hx hb d_M_gate_155 (lv_at hl 0 rfl) ?_
                          refine xr_cal (va_runV (As := [.int (nI u), .int (nI d), .int (nI e9)]) (rest := []) ⟨hx, hb, hml, hown, hB⟩ (k_M_dependent l D mo m0 m1 m2 m3 m4 m5 m6 o0 o1 o2 o3 o4 o5 o6 (nI 0) mn mg h mO mG mF mA mU mR hg u d e9 (by omega) (by omega) (by omega)) ⟨callB_of 3 hB (xg0 mc_M_dependent) rfl rfl rfl (hB _ mz_M) (hB _ ml_M_80) (by decide +kernel) ⟨Nat.le_of_ble_eq_true rfl, Nat.le_of_ble_eq_true rfl⟩, hB _ mi_M_dependent, hB _ me_M_dependent⟩ (xpV (ws := [(mo, .inr (5, [.int (nI 0), .int mn, .ref m0, .int mg, .ref m1, .ref m2, .ref m3, .ref m4, .ref m5, .ref m6])), (m0, .inl (o0, 16, .inl h)), (m1, .inl (o1, 16, .inl mO)), (m2, .inl (o2, 16, .inl mG)), (m3, .inl (o3, 16, .inl mF)), (m4, .inl (o4, 32, .inl mA)), (m5, .inl (o5, 32, .inl mU)), (m6, .inl (o6, 32, .inl mR))]) (tys := [(o0, .int), (o1, .int), (o2, .int), (o3, .int), (o4, .int), (o5, .int), (o6, .int)]) (hP.sub [0, 1, 2, 3, 4, 5, 6, 7] rfl) (hK.sub [0, 1, 2, 3, 4, 5, 6] rfl) hN (va_recv (ci := 5) (q0 := 0) (q := (R_M, F_M, 10)) hK hP rfl rfl)) rfl rfl hl.1 rfl (lv_room (Nat.le_of_ble_eq_true rfl)) d_M_gate_157 ⟨Nat.le_of_ble_eq_true rfl, Nat.le_of_ble_eq_true rfl⟩) ?_
                          refine lv_if_eq (tgt := 167) hx hb d_M_gate_160 rfl (fun hc160 => ?_) (fun hc160 => ?_)
                          · have hc160 := b2i_0.mp hc160
                            refine lv_iconst (v := nI 0) hx hb d_M_gate_167 (by decide) ?_
                            refine lv_istore hx hb d_M_gate_168 hl (by decide) rfl (fun ls hl => ?_)
                            have hl : lv_has ls 7 [(5, .int (nI 0)), (6, .int (nI e9)), (4, .int (nI d)), (3, .int (fdq (gtQ h u v) d)), (0, .ref mo), (1, .int (nI u)), (2, .int (nI v))] := hl
                            have hl : lv_has ls 7 [(5, .int (b2i (gtL h u v d && alq (gtC h u v d) (e9 + 1)))), (6, .int (nI e9)), (4, .int (nI d)), (3, .int (fdq (gtQ h u v) d)), (0, .ref mo), (1, .int (nI u)), (2, .int (nI v))] := by
                              have hz : (nI 0) = b2i (gtL h u v d && alq (gtC h u v d) (e9 + 1)) := by show _ = b2i (gtL h u v d && (alq (gtC h u v d) e9 && gtC h u v d e9)); rw [← Bool.and_assoc, hc118, Bool.true_and]; unfold gtC; first | (rw [decide_eq_true hc124]; rfl) | (rw [decide_eq_false hc124, hc137]; rfl) | (rw [decide_eq_false hc124, hc137, show dpb h u v e9 = false from hc148]; rfl) | (rw [decide_eq_false hc124, hc137, show dpb h u v e9 = true from hc148, show dpb h u d e9 = true from hc160]; rfl) | (rw [decide_eq_false hc124, hc137, show dpb h u v e9 = true from hc148, show dpb h u d e9 = false from hc160]; rfl)
                              rw [← hz]; exact hl
                            refine lv_iinc hx hb d_M_gate_170 hl (k := 1) rfl (v := nI (e9 + 1)) (nI_1 e9) (by decide) rfl (fun ls hl => ?_)
                            have hl : lv_has ls 7 [(6, .int (nI (e9 + 1))), (5, .int (b2i (gtL h u v d && alq (gtC h u v d) (e9 + 1)))), (4, .int (nI d)), (3, .int (fdq (gtQ h u v) d)), (0, .ref mo), (1, .int (nI u)), (2, .int (nI v))] := hl
                            refine lv_goto (tgt := 109) hx hb d_M_gate_173 rfl ?_
                            exact ih109 (e9 + 1) _ H locs ⟨by omega, lv_sub hl [0, 1, 2, 3, 4, 5, 6] rfl, hP, hD, hS⟩ (by omega)
                          · have hc160 := b2i_n.mp hc160
                            refine lv_iconst (v := nI 1) hx hb d_M_gate_163 (by decide) ?_
                            refine lv_goto (tgt := 168) hx hb d_M_gate_164 rfl ?_
                            refine lv_istore hx hb d_M_gate_168 hl (by decide) rfl (fun ls hl => ?_)
                            have hl : lv_has ls 7 [(5, .int (nI 1)), (6, .int (nI e9)), (4, .int (nI d)), (3, .int (fdq (gtQ h u v) d)), (0, .ref mo), (1, .int (nI u)), (2, .int (nI v))] := hl
                            have hl : lv_has ls 7 [(5, .int (b2i (gtL h u v d && alq (gtC h u v d) (e9 + 1)))), (6, .int (nI e9)), (4, .int (nI d)), (3, .int (fdq (gtQ h u v) d)), (0, .ref mo), (1, .int (nI u)), (2, .int (nI v))] := by
                              have hz : (nI 1) = b2i (gtL h u v d && alq (gtC h u v d) (e9 + 1)) := by show _ = b2i (gtL h u v d && (alq (gtC h u v d) e9 && gtC h u v d e9)); rw [← Bool.and_assoc, hc118, Bool.true_and]; unfold gtC; first | (rw [decide_eq_true hc124]; rfl) | (rw [decide_eq_false hc124, hc137]; rfl) | (rw [decide_eq_false hc124, hc137, show dpb h u v e9 = false from hc148]; rfl) | (rw [decide_eq_false hc124, hc137, show dpb h u v e9 = true from hc148, show dpb h u d e9 = true from hc160]; rfl) | (rw [decide_eq_false hc124, hc137, show dpb h u v e9 = true from hc148, show dpb h u d e9 = false from hc160]; rfl)
                              rw [← hz]; exact hl
                            refine lv_iinc hx hb d_M_gate_170 hl (k := 1) rfl (v := nI (e9 + 1)) (nI_1 e9) (by decide) rfl (fun ls hl => ?_)
                            have hl : lv_has ls 7 [(6, .int (nI (e9 + 1))), (5, .int (b2i (gtL h u v d && alq (gtC h u v d) (e9 + 1)))), (4, .int (nI d)), (3, .int (fdq (gtQ h u v) d)), (0, .ref mo), (1, .int (nI u)), (2, .int (nI v))] := hl
                            refine lv_goto (tgt := 109) hx hb d_M_gate_173 rfl ?_
                            exact ih109 (e9 + 1) _ H locs ⟨by omega, lv_sub hl [0, 1, 2, 3, 4, 5, 6] rfl, hP, hD, hS⟩ (by omega)
              · have hc96 := b2i_n.mp hc96
                refine lv_iconst (v := nI 1) hx hb d_M_gate_99 (by decide) ?_
                refine lv_goto (tgt := 104) hx hb d_M_gate_100 rfl ?_
                refine lv_istore hx hb d_M_gate_104 hl (by decide) rfl (fun ls hl => ?_)
                have hl : lv_has ls 7 [(5, .int (nI 1)), (4, .int (nI d)), (3, .int (fdq (gtQ h u v) d)), (0, .ref mo), (1, .int (nI u)), (2, .int (nI v))] := hl
                have hl : lv_has ls 7 [(5, .int (b2i (gtL h u v d && alq (gtC h u v d) 0))), (4, .int (nI d)), (3, .int (fdq (gtQ h u v) d)), (0, .ref mo), (1, .int (nI u)), (2, .int (nI v))] := by
                  have hz : (nI 1) = b2i (gtL h u v d && alq (gtC h u v d) 0) := by show _ = b2i (gtL h u v d && true); unfold gtL; first | (rw [decide_eq_false hc72, hc85, show dpb h u v d = true from hc96]; rfl) | (rw [show dpb h u v d = false from hc96, Bool.and_false]; rfl) | (rw [hc85, Bool.and_false]; rfl) | (rw [decide_eq_true hc72]; rfl)
                  rw [← hz]; exact hl
                refine lv_iconst (v := nI 0) hx hb d_M_gate_106 (by decide) ?_
                refine lv_istore hx hb d_M_gate_107 hl (by decide) rfl (fun ls hl => ?_)
                have hl : lv_has ls 7 [(6, .int (nI 0)), (5, .int (b2i (gtL h u v d && alq (gtC h u v d) 0))), (4, .int (nI d)), (3, .int (fdq (gtQ h u v) d)), (0, .ref mo), (1, .int (nI u)), (2, .int (nI v))] := hl
                refine xl_w (fun (e9 : Nat) ls H locs => ((e9 ≤ 16)) ∧ lv_has ls 7 [(6, .int (nI e9)), (5, .int (b2i (gtL h u v d && alq (gtC h u v d) e9))), (4, .int (nI d)), (3, .int (fdq (gtQ h u v) d)), (0, .ref mo), (1, .int (nI u)), (2, .int (nI v))] ∧ va_P D cls [(mo, .inr (5, [.int (nI 0), .int mn, .ref m0, .int mg, .ref m1, .ref m2, .ref m3, .ref m4, .ref m5, .ref m6])), (m0, .inl (o0, 16, .inl h)), (m1, .inl (o1, 16, .inl mO)), (m2, .inl (o2, 16, .inl mG)), (m3, .inl (o3, 16, .inl mF)), (m4, .inl (o4, 32, .inl mA)), (m5, .inl (o5, 32, .inl mU)), (m6, .inl (o6, 32, .inl mR))] H ∧ va_D A [(mo, .inr (5, [.int (nI 0), .int mn, .ref m0, .int mg, .ref m1, .ref m2, .ref m3, .ref m4, .ref m5, .ref m6])), (m0, .inl (o0, 16, .inl h)), (m1, .inl (o1, 16, .inl mO)), (m2, .inl (o2, 16, .inl mG)), (m3, .inl (o3, 16, .inl mF)), (m4, .inl (o4, 32, .inl mA)), (m5, .inl (o5, 32, .inl mU)), (m6, .inl (o6, 32, .inl mR))] ∧ va_S A s.heap H locs) (fun e9 => 16 - e9) (fun e9 ls H locs hI ih109 => ?_) 0 _ ⟨Nat.zero_le _, hl, hP, hD, hS⟩
                obtain ⟨hI, hl, hP, hD, hS⟩ := hI
                have he9 := hI
                refine lv_iload hx hb d_M_gate_109 (lv_at hl 0 rfl) ?_
                refine lv_bipush (v := nI 16) hx hb d_M_gate_111 (by decide) ?_
                refine lv_icmp_ge (tgt := 176) hx hb d_M_gate_113 rfl (fun hc113 => ?_) (fun hc113 => ?_)
                · have hc113 : 16 ≤ e9 := (nI_leI (by omega) (by omega)).mp hc113
                  have hl : lv_has ls 7 [(6, .int (nI e9)), (5, .int (b2i (gtQ h u v d))), (4, .int (nI d)), (3, .int (fdq (gtQ h u v) d)), (0, .ref mo), (1, .int (nI u)), (2, .int (nI v))] := by
                    have hz : (b2i (gtL h u v d && alq (gtC h u v d) e9)) = b2i (gtQ h u v d) := by unfold gtQ; first | rw [show e9 = 16 by omega] | rw [hc118, alq_end (by omega) hc118]
                    rw [← hz]; exact hl
                  refine lv_iload hx hb d_M_gate_176 (lv_at hl 1 rfl) ?_
                  refine lv_if_eq (tgt := 186) hx hb d_M_gate_178 rfl (fun hc178 => ?_) (fun hc178 => ?_)
                  · have hc178 := b2i_0.mp hc178
                    refine lv_iload_n hx hb d_M_gate_186 rfl (lv_at hl 3 rfl) ?_
                    refine lv_istore_n hx hb d_M_gate_187 rfl hl (by decide) rfl (fun ls hl => ?_)
                    have hl : lv_has ls 7 [(3, .int (fdq (gtQ h u v) d)), (6, .int (nI e9)), (5, .int (b2i (gtQ h u v d))), (4, .int (nI d)), (0, .ref mo), (1, .int (nI u)), (2, .int (nI v))] := hl
                    have hl : lv_has ls 7 [(3, .int (fdq (gtQ h u v) (d + 1))), (6, .int (nI e9)), (5, .int (b2i (gtQ h u v d))), (4, .int (nI d)), (0, .ref mo), (1, .int (nI u)), (2, .int (nI v))] := by
                      have hz : (fdq (gtQ h u v) d) = fdq (gtQ h u v) (d + 1) := (if_neg (by rw [hc178]; decide)).symm
                      rw [← hz]; exact hl
                    refine lv_iinc hx hb d_M_gate_188 hl (k := 3) rfl (v := nI (d + 1)) (nI_1 d) (by decide) rfl (fun ls hl => ?_)
                    have hl : lv_has ls 7 [(4, .int (nI (d + 1))), (3, .int (fdq (gtQ h u v) (d + 1))), (6, .int (nI e9)), (5, .int (b2i (gtQ h u v d))), (0, .ref mo), (1, .int (nI u)), (2, .int (nI v))] := hl
                    refine lv_goto (tgt := 62) hx hb d_M_gate_191 rfl ?_
                    exact ih62 (d + 1) _ H locs ⟨by omega, lv_sub hl [0, 1, 4, 5, 6] rfl, hP, hD, hS⟩ (by omega)
                  · have hc178 := b2i_n.mp hc178
                    refine lv_iload hx hb d_M_gate_181 (lv_at hl 2 rfl) ?_
                    refine lv_goto (tgt := 187) hx hb d_M_gate_183 rfl ?_
                    refine lv_istore_n hx hb d_M_gate_187 rfl hl (by decide) rfl (fun ls hl => ?_)
                    have hl : lv_has ls 7 [(3, .int (nI d)), (6, .int (nI e9)), (5, .int (b2i (gtQ h u v d))), (4, .int (nI d)), (0, .ref mo), (1, .int (nI u)), (2, .int (nI v))] := hl
                    have hl : lv_has ls 7 [(3, .int (fdq (gtQ h u v) (d + 1))), (6, .int (nI e9)), (5, .int (b2i (gtQ h u v d))), (4, .int (nI d)), (0, .ref mo), (1, .int (nI u)), (2, .int (nI v))] := by
                      have hz : (nI d) = fdq (gtQ h u v) (d + 1) := (if_pos hc178).symm
                      rw [← hz]; exact hl
                    refine lv_iinc hx hb d_M_gate_188 hl (k := 3) rfl (v := nI (d + 1)) (nI_1 d) (by decide) rfl (fun ls hl => ?_)
                    have hl : lv_has ls 7 [(4, .int (nI (d + 1))), (3, .int (fdq (gtQ h u v) (d + 1))), (6, .int (nI e9)), (5, .int (b2i (gtQ h u v d))), (0, .ref mo), (1, .int (nI u)), (2, .int (nI v))] := hl
                    refine lv_goto (tgt := 62) hx hb d_M_gate_191 rfl ?_
                    exact ih62 (d + 1) _ H locs ⟨by omega, lv_sub hl [0, 1, 4, 5, 6] rfl, hP, hD, hS⟩ (by omega)
                · have hc113 : ¬ (16 ≤ e9) := fun q9 => hc113 ((nI_leI (by omega) (by omega)).mpr q9)
                  refine lv_iload hx hb d_M_gate_116 (lv_at hl 1 rfl) ?_
                  refine lv_if_eq (tgt := 176) hx hb d_M_gate_118 rfl (fun hc118 => ?_) (fun hc118 => ?_)
                  · have hc118 := b2i_0.mp hc118
                    have hl : lv_has ls 7 [(6, .int (nI e9)), (5, .int (b2i (gtQ h u v d))), (4, .int (nI d)), (3, .int (fdq (gtQ h u v) d)), (0, .ref mo), (1, .int (nI u)), (2, .int (nI v))] := by
                      have hz : (b2i (gtL h u v d && alq (gtC h u v d) e9)) = b2i (gtQ h u v d) := by unfold gtQ; first | rw [show e9 = 16 by omega] | rw [hc118, alq_end (by omega) hc118]
                      rw [← hz]; exact hl
                    refine lv_iload hx hb d_M_gate_176 (lv_at hl 1 rfl) ?_
                    refine lv_if_eq (tgt := 186) hx hb d_M_gate_178 rfl (fun hc178 => ?_) (fun hc178 => ?_)
                    · have hc178 := b2i_0.mp hc178
                      refine lv_iload_n hx hb d_M_gate_186 rfl (lv_at hl 3 rfl) ?_
                      refine lv_istore_n hx hb d_M_gate_187 rfl hl (by decide) rfl (fun ls hl => ?_)
                      have hl : lv_has ls 7 [(3, .int (fdq (gtQ h u v) d)), (6, .int (nI e9)), (5, .int (b2i (gtQ h u v d))), (4, .int (nI d)), (0, .ref mo), (1, .int (nI u)), (2, .int (nI v))] := hl
                      have hl : lv_has ls 7 [(3, .int (fdq (gtQ h u v) (d + 1))), (6, .int (nI e9)), (5, .int (b2i (gtQ h u v d))), (4, .int (nI d)), (0, .ref mo), (1, .int (nI u)), (2, .int (nI v))] := by
                        have hz : (fdq (gtQ h u v) d) = fdq (gtQ h u v) (d + 1) := (if_neg (by rw [hc178]; decide)).symm
                        rw [← hz]; exact hl
                      refine lv_iinc hx hb d_M_gate_188 hl (k := 3) rfl (v := nI (d + 1)) (nI_1 d) (by decide) rfl (fun ls hl => ?_)
                      have hl : lv_has ls 7 [(4, .int (nI (d + 1))), (3, .int (fdq (gtQ h u v) (d + 1))), (6, .int (nI e9)), (5, .int (b2i (gtQ h u v d))), (0, .ref mo), (1, .int (nI u)), (2, .int (nI v))] := hl
                      refine lv_goto (tgt := 62) hx hb d_M_gate_191 rfl ?_
                      exact ih62 (d + 1) _ H locs ⟨by omega, lv_sub hl [0, 1, 4, 5, 6] rfl, hP, hD, hS⟩ (by omega)
                    · have hc178 := b2i_n.mp hc178
                      refine lv_iload hx hb d_M_gate_181 (lv_at hl 2 rfl) ?_
                      refine lv_goto (tgt := 187) hx hb d_M_gate_183 rfl ?_
                      refine lv_istore_n hx hb d_M_gate_187 rfl hl (by decide) rfl (fun ls hl => ?_)
                      have hl : lv_has ls 7 [(3, .int (nI d)), (6, .int (nI e9)), (5, .int (b2i (gtQ h u v d))), (4, .int (nI d)), (0, .ref mo), (1, .int (nI u)), (2, .int (nI v))] := hl
                      have hl : lv_has ls 7 [(3, .int (fdq (gtQ h u v) (d + 1))), (6, .int (nI e9)), (5, .int (b2i (gtQ h u v d))), (4, .int (nI d)), (0, .ref mo), (1, .int (nI u)), (2, .int (nI v))] := by
                        have hz : (nI d) = fdq (gtQ h u v) (d + 1) := (if_pos hc178).symm
                        rw [← hz]; exact hl
                      refine lv_iinc hx hb d_M_gate_188 hl (k := 3) rfl (v := nI (d + 1)) (nI_1 d) (by decide) rfl (fun ls hl => ?_)
                      have hl : lv_has ls 7 [(4, .int (nI (d + 1))), (3, .int (fdq (gtQ h u v) (d + 1))), (6, .int (nI e9)), (5, .int (b2i (gtQ h u v d))), (0, .ref mo), (1, .int (nI u)), (2, .int (nI v))] := hl
                      refine lv_goto (tgt := 62) hx hb d_M_gate_191 rfl ?_
                      exact ih62 (d + 1) _ H locs ⟨by omega, lv_sub hl [0, 1, 4, 5, 6] rfl, hP, hD, hS⟩ (by omega)
                  · have hc118 := b2i_n.mp hc118
                    refine lv_iload hx hb d_M_gate_121 (lv_at hl 0 rfl) ?_
                    refine lv_iload_n hx hb d_M_gate_123 rfl (lv_at hl 6 rfl) ?_
                    refine lv_icmp_eq (tgt := 163) hx hb d_M_gate_124 rfl (fun hc124 => ?_) (fun hc124 => ?_)
                    · have hc124 : e9 = v := (nI_eq (by omega) (by omega)).mp hc124
                      refine lv_iconst (v := nI 1) hx hb d_M_gate_163 (by decide) ?_
                      refine lv_goto (tgt := 168) hx hb d_M_gate_164 rfl ?_
                      refine lv_istore hx hb d_M_gate_168 hl (by decide) rfl (fun ls hl => ?_)
                      have hl : lv_has ls 7 [(5, .int (nI 1)), (6, .int (nI e9)), (4, .int (nI d)), (3, .int (fdq (gtQ h u v) d)), (0, .ref mo), (1, .int (nI u)), (2, .int (nI v))] := hl
                      have hl : lv_has ls 7 [(5, .int (b2i (gtL h u v d && alq (gtC h u v d) (e9 + 1)))), (6, .int (nI e9)), (4, .int (nI d)), (3, .int (fdq (gtQ h u v) d)), (0, .ref mo), (1, .int (nI u)), (2, .int (nI v))] := by
                        have hz : (nI 1) = b2i (gtL h u v d && alq (gtC h u v d) (e9 + 1)) := by show _ = b2i (gtL h u v d && (alq (gtC h u v d) e9 && gtC h u v d e9)); rw [← Bool.and_assoc, hc118, Bool.true_and]; unfold gtC; first | (rw [decide_eq_true hc124]; rfl) | (rw [decide_eq_false hc124, hc137]; rfl) | (rw [decide_eq_false hc124, hc137, show dpb h u v e9 = false from hc148]; rfl) | (rw [decide_eq_false hc124, hc137, show dpb h u v e9 = true from hc148, show dpb h u d e9 = true from hc160]; rfl) | (rw [decide_eq_false hc124, hc137, show dpb h u v e9 = true from hc148, show dpb h u d e9 = false from hc160]; rfl)
                        rw [← hz]; exact hl
                      refine lv_iinc hx hb d_M_gate_170 hl (k := 1) rfl (v := nI (e9 + 1)) (nI_1 e9) (by decide) rfl (fun ls hl => ?_)
                      have hl : lv_has ls 7 [(6, .int (nI (e9 + 1))), (5, .int (b2i (gtL h u v d && alq (gtC h u v d) (e9 + 1)))), (4, .int (nI d)), (3, .int (fdq (gtQ h u v) d)), (0, .ref mo), (1, .int (nI u)), (2, .int (nI v))] := hl
                      refine lv_goto (tgt := 109) hx hb d_M_gate_173 rfl ?_
                      exact ih109 (e9 + 1) _ H locs ⟨by omega, lv_sub hl [0, 1, 2, 3, 4, 5, 6] rfl, hP, hD, hS⟩ (by omega)
                    · have hc124 : ¬ (e9 = v) := fun q9 => hc124 ((nI_eq (by omega) (by omega)).mpr q9)
                      refine lv_aload_n hx hb d_M_gate_127 rfl (lv_at hl 4 rfl) ?_
                      refine lv_iload_n hx hb d_M_gate_128 rfl (lv_at hl 5 rfl) ?_
                      refine xr_cal (va_runV (As := [.int (nI u)]) (rest := []) ⟨hx, hb, hml, hown, hB⟩ (k_M_reach l D mo m0 m1 m2 m3 m4 m5 m6 o0 o1 o2 o3 o4 o5 o6 (nI 0) mn mg h mO mG mF mA mU mR hg u (by omega)) ⟨callB_of 1 hB (xg0 mc_M_reach) rfl rfl rfl (hB _ mz_M) (hB _ ml_M_51) (by decide +kernel) ⟨Nat.le_of_ble_eq_true rfl, Nat.le_of_ble_eq_true rfl⟩, hB _ mi_M_reach, hB _ me_M_reach⟩ (xpV (ws := [(mo, .inr (5, [.int (nI 0), .int mn, .ref m0, .int mg, .ref m1, .ref m2, .ref m3, .ref m4, .ref m5, .ref m6])), (m0, .inl (o0, 16, .inl h)), (m1, .inl (o1, 16, .inl mO)), (m2, .inl (o2, 16, .inl mG)), (m3, .inl (o3, 16, .inl mF)), (m4, .inl (o4, 32, .inl mA)), (m5, .inl (o5, 32, .inl mU)), (m6, .inl (o6, 32, .inl mR))]) (tys := [(o0, .int), (o1, .int), (o2, .int), (o3, .int), (o4, .int), (o5, .int), (o6, .int)]) (hP.sub [0, 1, 2, 3, 4, 5, 6, 7] rfl) (hK.sub [0, 1, 2, 3, 4, 5, 6] rfl) hN (va_recv (ci := 5) (q0 := 0) (q := (R_M, F_M, 10)) hK hP rfl rfl)) rfl rfl hl.1 rfl (lv_room (Nat.le_of_ble_eq_true rfl)) d_M_gate_129 ⟨Nat.le_of_ble_eq_true rfl, Nat.le_of_ble_eq_true rfl⟩) ?_
                      refine lv_iload hx hb d_M_gate_132 (lv_at hl 0 rfl) ?_
                      refine xr_cal (va_runS (As := [.int (RE h u), .int (nI e9)]) (rest := []) ⟨hx, hb, hml, hown, hB⟩ (k_M_has l D  (RE h u) e9 (by omega)) ⟨callB_of 2 hB (xg0 mc_M_has) rfl rfl rfl (hB _ mz_M) (hB _ ml_M_35) (by decide +kernel) ⟨Nat.le_of_ble_eq_true rfl, Nat.le_of_ble_eq_true rfl⟩, hB _ ms_M_has⟩ (xpS (ws := []) (tys := []) (hP.sub [] rfl) (hK.sub [] rfl) hN) rfl rfl hl.1 rfl (lv_room (Nat.le_of_ble_eq_true rfl)) d_M_gate_134 ⟨Nat.le_of_ble_eq_true rfl, Nat.le_of_ble_eq_true rfl⟩) ?_
                      refine lv_if_eq (tgt := 163) hx hb d_M_gate_137 rfl (fun hc137 => ?_) (fun hc137 => ?_)
                      · have hc137 := b2i_0.mp hc137
                        refine lv_iconst (v := nI 1) hx hb d_M_gate_163 (by decide) ?_
                        refine lv_goto (tgt := 168) hx hb d_M_gate_164 rfl ?_
                        refine lv_istore hx hb d_M_gate_168 hl (by decide) rfl (fun ls hl => ?_)
                        have hl : lv_has ls 7 [(5, .int (nI 1)), (6, .int (nI e9)), (4, .int (nI d)), (3, .int (fdq (gtQ h u v) d)), (0, .ref mo), (1, .int (nI u)), (2, .int (nI v))] := hl
                        have hl : lv_has ls 7 [(5, .int (b2i (gtL h u v d && alq (gtC h u v d) (e9 + 1)))), (6, .int (nI e9)), (4, .int (nI d)), (3, .int (fdq (gtQ h u v) d)), (0, .ref mo), (1, .int (nI u)), (2, .int (nI v))] := by
                          have hz : (nI 1) = b2i (gtL h u v d && alq (gtC h u v d) (e9 + 1)) := by show _ = b2i (gtL h u v d && (alq (gtC h u v d) e9 && gtC h u v d e9)); rw [← Bool.and_assoc, hc118, Bool.true_and]; unfold gtC; first | (rw [decide_eq_true hc124]; rfl) | (rw [decide_eq_false hc124, hc137]; rfl) | (rw [decide_eq_false hc124, hc137, show dpb h u v e9 = false from hc148]; rfl) | (rw [decide_eq_false hc124, hc137, show dpb h u v e9 = true from hc148, show dpb h u d e9 = true from hc160]; rfl) | (rw [decide_eq_false hc124, hc137, show dpb h u v e9 = true from hc148, show dpb h u d e9 = false from hc160]; rfl)
                          rw [← hz]; exact hl
                        refine lv_iinc hx hb d_M_gate_170 hl (k := 1) rfl (v := nI (e9 + 1)) (nI_1 e9) (by decide) rfl (fun ls hl => ?_)
                        have hl : lv_has ls 7 [(6, .int (nI (e9 + 1))), (5, .int (b2i (gtL h u v d && alq (gtC h u v d) (e9 + 1)))), (4, .int (nI d)), (3, .int (fdq (gtQ h u v) d)), (0, .ref mo), (1, .int (nI u)), (2, .int (nI v))] := hl
                        refine lv_goto (tgt := 109) hx hb d_M_gate_173 rfl ?_
                        exact ih109 (e9 + 1) _ H locs ⟨by omega, lv_sub hl [0, 1, 2, 3, 4, 5, 6] rfl, hP, hD, hS⟩ (by omega)
                      · have hc137 := b2i_n.mp hc137
                        refine lv_aload_n hx hb d_M_gate_140 rfl (lv_at hl 4 rfl) ?_
                        refine lv_iload_n hx hb d_M_gate_141 rfl (lv_at hl 5 rfl) ?_
                        refine lv_iload_n hx hb d_M_gate_142 rfl (lv_at hl 6 rfl) ?_
                        refine lv_iload hx hb d_M_gate_143 (lv_at hl 0 rfl) ?_
                        refine xr_cal (va_runV (As := [.int (nI u), .int (nI v), .int (nI e9)]) (rest := []) ⟨hx, hb, hml, hown, hB⟩ (k_M_dependent l D mo m0 m1 m2 m3 m4 m5 m6 o0 o1 o2 o3 o4 o5 o6 (nI 0) mn mg h mO mG mF mA mU mR hg u v e9 (by omega) (by omega) (by omega)) ⟨callB_of 3 hB (xg0 mc_M_dependent) rfl rfl rfl (hB _ mz_M) (hB _ ml_M_80) (by decide +kernel) ⟨Nat.le_of_ble_eq_true rfl, Nat.le_of_ble_eq_true rfl⟩, hB _ mi_M_dependent, hB _ me_M_dependent⟩ (xpV (ws := [(mo, .inr (5, [.int (nI 0), .int mn, .ref m0, .int mg, .ref m1, .ref m2, .ref m3, .ref m4, .ref m5, .ref m6])), (m0, .inl (o0, 16, .inl h)), (m1, .inl (o1, 16, .inl mO)), (m2, .inl (o2, 16, .inl mG)), (m3, .inl (o3, 16, .inl mF)), (m4, .inl (o4, 32, .inl mA)), (m5, .inl (o5, 32, .inl mU)), (m6, .inl (o6, 32, .inl mR))]) (tys := [(o0, .int), (o1, .int), (o2, .int), (o3, .int), (o4, .int), (o5, .int), (o6, .int)]) (hP.sub [0, 1, 2, 3, 4, 5, 6, 7] rfl) (hK.sub [0, 1, 2, 3, 4, 5, 6] rfl) hN (va_recv (ci := 5) (q0 := 0) (q := (R_M, F_M, 10)) hK hP rfl rfl)) rfl rfl hl.1 rfl (lv_room (Nat.le_of_ble_eq_true rfl)) d_M_gate_145 ⟨Nat.le_of_ble_eq_true rfl, Nat.le_of_ble_eq_true rfl⟩) ?_
                        refine lv_if_eq (tgt := 163) hx hb d_M_gate_148 rfl (fun hc148 => ?_) (fun hc148 => ?_)
                        · have hc148 := b2i_0.mp hc148
                          refine lv_iconst (v := nI 1) hx hb d_M_gate_163 (by decide) ?_
                          refine lv_goto (tgt := 168) hx hb d_M_gate_164 rfl ?_
                          refine lv_istore hx hb d_M_gate_168 hl (by decide) rfl (fun ls hl => ?_)
                          have hl : lv_has ls 7 [(5, .int (nI 1)), (6, .int (nI e9)), (4, .int (nI d)), (3, .int (fdq (gtQ h u v) d)), (0, .ref mo), (1, .int (nI u)), (2, .int (nI v))] := hl
                          have hl : lv_has ls 7 [(5, .int (b2i (gtL h u v d && alq (gtC h u v d) (e9 + 1)))), (6, .int (nI e9)), (4, .int (nI d)), (3, .int (fdq (gtQ h u v) d)), (0, .ref mo), (1, .int (nI u)), (2, .int (nI v))] := by
                            have hz : (nI 1) = b2i (gtL h u v d && alq (gtC h u v d) (e9 + 1)) := by show _ = b2i (gtL h u v d && (alq (gtC h u v d) e9 && gtC h u v d e9)); rw [← Bool.and_assoc, hc118, Bool.true_and]; unfold gtC; first | (rw [decide_eq_true hc124]; rfl) | (rw [decide_eq_false hc124, hc137]; rfl) | (rw [decide_eq_false hc124, hc137, show dpb h u v e9 = false from hc148]; rfl) | (rw [decide_eq_false hc124, hc137, show dpb h u v e9 = true from hc148, show dpb h u d e9 = true from hc160]; rfl) | (rw [decide_eq_false hc124, hc137, show dpb h u v e9 = true from hc148, show dpb h u d e9 = false from hc160]; rfl)
                            rw [← hz]; exact hl
                          refine lv_iinc hx hb d_M_gate_170 hl (k := 1) rfl (v := nI (e9 + 1)) (nI_1 e9) (by decide) rfl (fun ls hl => ?_)
                          have hl : lv_has ls 7 [(6, .int (nI (e9 + 1))), (5, .int (b2i (gtL h u v d && alq (gtC h u v d) (e9 + 1)))), (4, .int (nI d)), (3, .int (fdq (gtQ h u v) d)), (0, .ref mo), (1, .int (nI u)), (2, .int (nI v))] := hl
                          refine lv_goto (tgt := 109) hx hb d_M_gate_173 rfl ?_
                          exact ih109 (e9 + 1) _ H locs ⟨by omega, lv_sub hl [0, 1, 2, 3, 4, 5, 6] rfl, hP, hD, hS⟩ (by omega)
                        · have hc148 := b2i_n.mp hc148
                          refine lv_aload_n hx hb d_M_gate_151 rfl (lv_at hl 4 rfl) ?_
                          refine lv_iload_n hx hb d_M_gate_152 rfl (lv_at hl 5 rfl) ?_
                          refine lv_iload hx hb d_M_gate_153 (lv_at hl 2 rfl) ?_
                          refine lv_iload hx hb d_M_gate_155 (lv_at hl 0 rfl) ?_
                          refine xr_cal (va_runV (As := [.int (nI u), .int (nI d), .int (nI e9)]) (rest := []) ⟨hx, hb, hml, hown, hB⟩ (k_M_dependent l D mo m0 m1 m2 m3 m4 m5 m6 o0 o1 o2 o3 o4 o5 o6 (nI 0) mn mg h mO mG mF mA mU mR hg u d e9 (by omega) (by omega) (by omega)) ⟨callB_of 3 hB (xg0 mc_M_dependent) rfl rfl rfl (hB _ mz_M) (hB _ ml_M_80) (by decide +kernel) ⟨Nat.le_of_ble_eq_true rfl, Nat.le_of_ble_eq_true rfl⟩, hB _ mi_M_dependent, hB _ me_M_dependent⟩ (xpV (ws := [(mo, .inr (5, [.int (nI 0), .int mn, .ref m0, .int mg, .ref m1, .ref m2, .ref m3, .ref m4, .ref m5, .ref m6])), (m0, .inl (o0, 16, .inl h)), (m1, .inl (o1, 16, .inl mO)), (m2, .inl (o2, 16, .inl mG)), (m3, .inl (o3, 16, .inl mF)), (m4, .inl (o4, 32, .inl mA)), (m5, .inl (o5, 32, .inl mU)), (m6, .inl (o6, 32, .inl mR))]) (tys := [(o0, .int), (o1, .int), (o2, .int), (o3, .int), (o4, .int), (o5, .int), (o6, .int)]) (hP.sub [0, 1, 2, 3, 4, 5, 6, 7] rfl) (hK.sub [0, 1, 2, 3, 4, 5, 6] rfl) hN (va_recv (ci := 5) (q0 := 0) (q := (R_M, F_M, 10)) hK hP rfl rfl)) rfl rfl hl.1 rfl (lv_room (Nat.le_of_ble_eq_true rfl)) d_M_gate_157 ⟨Nat.le_of_ble_eq_true rfl, Nat.le_of_ble_eq_true rfl⟩) ?_
                          refine lv_if_eq (tgt := 167) hx hb d_M_gate_160 rfl (fun hc160 => ?_) (fun hc160 => ?_)
                          · have hc160 := b2i_0.mp hc160
                            refine lv_iconst (v := nI 0) hx hb d_M_gate_167 (by decide) ?_
                            refine lv_istore hx hb d_M_gate_168 hl (by decide) rfl (fun ls hl => ?_)
                            have hl : lv_has ls 7 [(5, .int (nI 0)), (6, .int (nI e9)), (4, .int (nI d)), (3, .int (fdq (gtQ h u v) d)), (0, .ref mo), (1, .int (nI u)), (2, .int (nI v))] := hl
                            have hl : lv_has ls 7 [(5, .int (b2i (gtL h u v d && alq (gtC h u v d) (e9 + 1)))), (6, .int (nI e9)), (4, .int (nI d)), (3, .int (fdq (gtQ h u v) d)), (0, .ref mo), (1, .int (nI u)), (2, .int (nI v))] := by
                              have hz : (nI 0) = b2i (gtL h u v d && alq (gtC h u v d) (e9 + 1)) := by show _ = b2i (gtL h u v d && (alq (gtC h u v d) e9 && gtC h u v d e9)); rw [← Bool.and_assoc, hc118, Bool.true_and]; unfold gtC; first | (rw [decide_eq_true hc124]; rfl) | (rw [decide_eq_false hc124, hc137]; rfl) | (rw [decide_eq_false hc124, hc137, show dpb h u v e9 = false from hc148]; rfl) | (rw [decide_eq_false hc124, hc137, show dpb h u v e9 = true from hc148, show dpb h u d e9 = true from hc160]; rfl) | (rw [decide_eq_false hc124, hc137, show dpb h u v e9 = true from hc148, show dpb h u d e9 = false from hc160]; rfl)
                              rw [← hz]; exact hl
                            refine lv_iinc hx hb d_M_gate_170 hl (k := 1) rfl (v := nI (e9 + 1)) (nI_1 e9) (by decide) rfl (fun ls hl => ?_)
                            have hl : lv_has ls 7 [(6, .int (nI (e9 + 1))), (5, .int (b2i (gtL h u v d && alq (gtC h u v d) (e9 + 1)))), (4, .int (nI d)), (3, .int (fdq (gtQ h u v) d)), (0, .ref mo), (1, .int (nI u)), (2, .int (nI v))] := hl
                            refine lv_goto (tgt := 109) hx hb d_M_gate_173 rfl ?_
                            exact ih109 (e9 + 1) _ H locs ⟨by omega, lv_sub hl [0, 1, 2, 3, 4, 5, 6] rfl, hP, hD, hS⟩ (by omega)
                          · have hc160 := b2i_n.mp hc160
                            refine lv_iconst (v := nI 1) hx hb d_M_gate_163 (by decide) ?_
                            refine lv_goto (tgt := 168) hx hb d_M_gate_164 rfl ?_
                            refine lv_istore hx hb d_M_gate_168 hl (by decide) rfl (fun ls hl => ?_)
                            have hl : lv_has ls 7 [(5, .int (nI 1)), (6, .int (nI e9)), (4, .int (nI d)), (3, .int (fdq (gtQ h u v) d)), (0, .ref mo), (1, .int (nI u)), (2, .int (nI v))] := hl
                            have hl : lv_has ls 7 [(5, .int (b2i (gtL h u v d && alq (gtC h u v d) (e9 + 1)))), (6, .int (nI e9)), (4, .int (nI d)), (3, .int (fdq (gtQ h u v) d)), (0, .ref mo), (1, .int (nI u)), (2, .int (nI v))] := by
                              have hz : (nI 1) = b2i (gtL h u v d && alq (gtC h u v d) (e9 + 1)) := by show _ = b2i (gtL h u v d && (alq (gtC h u v d) e9 && gtC h u v d e9)); rw [← Bool.and_assoc, hc118, Bool.true_and]; unfold gtC; first | (rw [decide_eq_true hc124]; rfl) | (rw [decide_eq_false hc124, hc137]; rfl) | (rw [decide_eq_false hc124, hc137, show dpb h u v e9 = false from hc148]; rfl) | (rw [decide_eq_false hc124, hc137, show dpb h u v e9 = true from hc148, show dpb h u d e9 = true from hc160]; rfl) | (rw [decide_eq_false hc124, hc137, show dpb h u v e9 = true from hc148, show dpb h u d e9 = false from hc160]; rfl)
                              rw [← hz]; exact hl
                            refine lv_iinc hx hb d_M_gate_170 hl (k := 1) rfl (v := nI (e9 + 1)) (nI_1 e9) (by decide) rfl (fun ls hl => ?_)
                            have hl : lv_has ls 7 [(6, .int (nI (e9 + 1))), (5, .int (b2i (gtL h u v d && alq (gtC h u v d) (e9 + 1)))), (4, .int (nI d)), (3, .int (fdq (gtQ h u v) d)), (0, .ref mo), (1, .int (nI u)), (2, .int (nI v))] := hl
                            refine lv_goto (tgt := 109) hx hb d_M_gate_173 rfl ?_
                            exact ih109 (e9 + 1) _ H locs ⟨by omega, lv_sub hl [0, 1, 2, 3, 4, 5, 6] rfl, hP, hD, hS⟩ (by omega)
      · have hc41 : u = v := (nI_eq (by omega) (by omega)).mp hc41
        exact absurd hc41 huv
  · have hc6 := b2i_n.mp hc6
    exact absurd hc6 (by rw [isP2 (by omega) (by omega)]; decide)
