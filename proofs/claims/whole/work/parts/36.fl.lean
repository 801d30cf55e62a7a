set_option maxHeartbeats 4000000 in
set_option maxRecDepth 100000 in
theorem k_Fl_readArrows (l : Launch) (D : va_G) (f f0 f1 f2 f3 : Nat) (j0 j1 j2 j3 : ClassId) (li : Nat → Int32) (us : Nat → Int32) (fe : Nat → Int32) (cF : Nat → Int32) (w hd : Nat) (cA : ClassId) (ct : Int32) (h : Nat → Int32)  (sz : Nat) : Met l y_Fl_readArrows (Cond.code y_Fl_readArrows c_Fl_readArrows 3 none :: BS) { frames := 1, cells := 0, slots := 0, locals := 21 } (va_Pc [.ref f, .ref w] (xWp D [(f, .inr (4, [.ref f0, .ref f1, .ref f2, .ref f3])), (f0, .inl (j0, 32, .inl li)), (f1, .inl (j1, 32, .inl us)), (f2, .inl (j2, 32, .inl fe)), (f3, .inl (j3, 32, .inl cF)), (w, .inr (1, [.ref hd, .int ct])), (hd, .inl (cA, 16, .inl h))] [(j0, .int), (j1, .int), (j2, .int), (j3, .int), (cA, .int)] sz)) (xQv D [(f, .inr (4, [.ref f0, .ref f1, .ref f2, .ref f3])), (f0, .inl (j0, 32, .inl li)), (f1, .inl (j1, 32, .inl us)), (f2, .inl (j2, 32, .inl fe)), (f3, .inl (j3, 32, .inl cF)), (w, .inr (1, [.ref hd, .int ct])), (hd, .inl (cA, 16, .inl h))] [(f, .inr (4, [.ref f0, .ref f1, .ref f2, .ref f3])), (f0, .inl (j0, 32, .inl (fun k => if k < 16 then h k else li k))), (f1, .inl (j1, 32, .inl us)), (f2, .inl (j2, 32, .inl fe)), (f3, .inl (j3, 32, .inl cF)), (w, .inr (1, [.ref hd, .int ct])), (hd, .inl (cA, 16, .inl h))] [(j0, .int), (j1, .int), (j2, .int), (j3, .int), (cA, .int)] sz) 0 0 (va_A [(f, .inr (4, [.ref f0, .ref f1, .ref f2, .ref f3])), (f0, .inl (j0, 32, .inl li)), (f1, .inl (j1, 32, .inl us)), (f2, .inl (j2, 32, .inl fe)), (f3, .inl (j3, 32, .inl cF)), (w, .inr (1, [.ref hd, .int ct])), (hd, .inl (cA, 16, .inl h))] sz) := by
  refine Met.ofW (cc := c_Fl_readArrows) (maxL := 3) (ret := none) (by decide) rfl ?_
  intro p e s m args below meth c s₁ B hml hv
  obtain ⟨rfl, hsz, hP, hK, hD0, hN⟩ := hv
  have hx := B.exec
  have hb := B.bytes
  have hr := B.returns
  have hB := xB B.pre
  have hown : s.vm.findClass R_Fl = some m.cls := findClass_of_methodNamed B.named
  have hlocks := B.notSynchronized
  subst hsz
  have hD := hD0.self (sz := s.heap.size)
  obtain ⟨A, hAe⟩ : ∃ A, A = va_A [(f, .inr (4, [.ref f0, .ref f1, .ref f2, .ref f3])), (f0, .inl (j0, 32, .inl li)), (f1, .inl (j1, 32, .inl us)), (f2, .inl (j2, 32, .inl fe)), (f3, .inl (j3, 32, .inl cF)), (w, .inr (1, [.ref hd, .int ct])), (hd, .inl (cA, 16, .inl h))] s.heap.size := ⟨_, rfl⟩
  rw [← hAe] at hD
  have hA : ∀ q : Nat, s.heap.size ≤ q → A q := fun q h => by rw [hAe]; exact Or.inr h
  have hS : va_S A s.heap s.heap [] := va_S.rf
  have hl := lv_entry ([.ref f, .ref w]) (n := 3) (Nat.le_of_ble_eq_true rfl)
  rw [lg_entry_eq]
  generalize (lg_sl ([.ref f, .ref w]) ++ List.replicate (3 - (lg_sl ([.ref f, .ref w])).length) Slot.unset).toArray = ls at hl ⊢
  have hl : lv_has ls 3 [(0, .ref f), (1, .ref w)] := hl
  refine lv_iconst (v := nI 0) hx hb d_Fl_readArrows_0 (by decide) ?_
  refine lv_istore_n hx hb d_Fl_readArrows_1 rfl hl (by decide) rfl (fun ls hl => ?_)
  have hl : lv_has ls 3 [(2, .int (nI 0)), (0, .ref f), (1, .ref w)] := hl
  have hP := xP_ext hP 1 (fun k => if k < 0 then h k else li k) rfl (fun j9 hj9 => congrFun lt0_f j9)
  have hD := xD_ext hD 1 (y := .inl (j0, 32, .inl (fun k => if k < 0 then h k else li k))) rfl
  have hP : va_P D cls [(f, .inr (4, [.ref f0, .ref f1, .ref f2, .ref f3])), (f0, .inl (j0, 32, .inl (fun k => if k < 0 then h k else li k))), (f1, .inl (j1, 32, .inl us)), (f2, .inl (j2, 32, .inl fe)), (f3, .inl (j3, 32, .inl cF)), (w, .inr (1, [.ref hd, .int ct])), (hd, .inl (cA, 16, .inl h))] _ := hP
  have hD : va_D A [(f, .inr (4, [.ref f0, .ref f1, .ref f2, .ref f3])), (f0, .inl (j0, 32, .inl (fun k => if k < 0 then h k else li k))), (f1, .inl (j1, 32, .inl us)), (f2, .inl (j2, 32, .inl fe)), (f3, .inl (j3, 32, .inl cF)), (w, .inr (1, [.ref hd, .int ct])), (hd, .inl (cA, 16, .inl h))] := hD
  refine xl_w (fun (u : Nat) ls H locs => ((u ≤ 16)) ∧ lv_has ls 3 [(2, .int (nI u)), (0, .ref f), (1, .ref w)] ∧ va_P D cls [(f, .inr (4, [.ref f0, .ref f1, .ref f2, .ref f3])), (f0, .inl (j0, 32, .inl (fun k => if k < u then h k else li k))), (f1, .inl (j1, 32, .inl us)), (f2, .inl (j2, 32, .inl fe)), (f3, .inl (j3, 32, .inl cF)), (w, .inr (1, [.ref hd, .int ct])), (hd, .inl (cA, 16, .inl h))] H ∧ va_D A [(f, .inr (4, [.ref f0, .ref f1, .ref f2, .ref f3])), (f0, .inl (j0, 32, .inl (fun k => if k < u then h k else li k))), (f1, .inl (j1, 32, .inl us)), (f2, .inl (j2, 32, .inl fe)), (f3, .inl (j3, 32, .inl cF)), (w, .inr (1, [.ref hd, .int ct])), (hd, .inl (cA, 16, .inl h))] ∧ va_S A s.heap H locs) (fun u => 16 - u) (fun u ls H locs hI ih2 => ?_) 0 _ ⟨Nat.zero_le _, hl, hP, hD, hS⟩
  obtain ⟨hI, hl, hP, hD, hS⟩ := hI
  have hu := hI
  refine lv_iload_n hx hb d_Fl_readArrows_2 rfl (lv_at hl 0 rfl) ?_
  refine lv_bipush (v := nI 16) hx hb d_Fl_readArrows_3 (by decide) ?_
  refine lv_icmp_ge (tgt := 25) hx hb d_Fl_readArrows_5 rfl (fun hc5 => ?_) (fun hc5 => ?_)
  · have hc5 : 16 ≤ u := (nI_leI (by omega) (by omega)).mp hc5
    have hz : (fun k => if k < u then h k else li k) = (fun k => if k < 16 then h k else li k) := by rw [show u = 16 by omega]
    rw [hz] at hP hD
    have hP9 := hP.sub (ws' := [(f, .inr (4, [.ref f0, .ref f1, .ref f2, .ref f3])), (f0, .inl (j0, 32, .inl (fun k => if k < 16 then h k else li k))), (f1, .inl (j1, 32, .inl us)), (f2, .inl (j2, 32, .inl fe)), (f3, .inl (j3, 32, .inl cF)), (w, .inr (1, [.ref hd, .int ct])), (hd, .inl (cA, 16, .inl h))]) [0, 1, 2, 3, 4, 5, 6] rfl
    have hD9 := hD.sub (ws' := [(f, .inr (4, [.ref f0, .ref f1, .ref f2, .ref f3])), (f0, .inl (j0, 32, .inl (fun k => if k < 16 then h k else li k))), (f1, .inl (j1, 32, .inl us)), (f2, .inl (j2, 32, .inl fe)), (f3, .inl (j3, 32, .inl cF)), (w, .inr (1, [.ref hd, .int ct])), (hd, .inl (cA, 16, .inl h))]) [0, 1, 2, 3, 4, 5, 6] (by decide) rfl
    subst hAe
    exact W.vret hx hb hr (fun t ht hW => ⟨⟨(), rfl, trivial, by rw [ht]; exact hP9, va_K.moved hW.alike hK, hD9⟩, hS.F ht⟩) hS.2.2 d_Fl_readArrows_25
  · have hc5 : ¬ (16 ≤ u) := fun q9 => hc5 ((nI_leI (by omega) (by omega)).mpr q9)
    refine lv_aload_n hx hb d_Fl_readArrows_8 rfl (lv_at hl 1 rfl) ?_
    refine va_get (D := D) (ci := 4) (v := .ref f0) (C := R_Fl) (T := F_Fl) (N := 4) hx hb hB in_Fl hown hK hP 0 rfl rfl 0 (by decide) (hB _ mf_Fl_11) (fun _ h9 => h9) rfl d_Fl_readArrows_9 ?_
    refine lv_iload_n hx hb d_Fl_readArrows_12 rfl (lv_at hl 0 rfl) ?_
    refine lv_aload_n hx hb d_Fl_readArrows_13 rfl (lv_at hl 2 rfl) ?_
    refine lv_iload_n hx hb d_Fl_readArrows_14 rfl (lv_at hl 0 rfl) ?_
    refine xr_cal (va_runV (As := [.int (nI u)]) (rest := [.int (nI u), .ref f0]) ⟨hx, hb, hml, hown, hB⟩ (k_Web_headsOf l D w hd cA ct h u (by omega)) ⟨callB_of 1 hB (xg0 mc_Web_headsOf) rfl rfl rfl (hB _ mz_Web) (hB _ ml_Fl_24) (by decide +kernel) ⟨Nat.le_of_ble_eq_true rfl, Nat.le_of_ble_eq_true rfl⟩, hB _ mi_Web_headsOf, hB _ me_Web_headsOf⟩ (xpV (ws := [(w, .inr (1, [.ref hd, .int ct])), (hd, .inl (cA, 16, .inl h))]) (tys := [(cA, .int)]) (hP.sub [5, 6] rfl) (hK.sub [4] rfl) hN (va_recv (ci := 1) (q0 := 5) (q := (R_Web, F_Web, 2)) hK hP rfl rfl)) rfl rfl hl.1 rfl (lv_room (Nat.le_of_ble_eq_true rfl)) d_Fl_readArrows_15 ⟨Nat.le_of_ble_eq_true rfl, Nat.le_of_ble_eq_true rfl⟩) ?_
    refine xa_st (u := u) hx hb hK hP hD hS 1 0 rfl rfl (by omega) (by decide) d_Fl_readArrows_18 (fun H locs hP hD hS => ?_)
    have hP : va_P D cls [(f, .inr (4, [.ref f0, .ref f1, .ref f2, .ref f3])), (f0, .inl (j0, 32, .inl (upd (fun k => if k < u then h k else li k) u (h u)))), (f1, .inl (j1, 32, .inl us)), (f2, .inl (j2, 32, .inl fe)), (f3, .inl (j3, 32, .inl cF)), (w, .inr (1, [.ref hd, .int ct])), (hd, .inl (cA, 16, .inl h))] H := hP
    have hD : va_D A [(f, .inr (4, [.ref f0, .ref f1, .ref f2, .ref f3])), (f0, .inl (j0, 32, .inl (upd (fun k => if k < u then h k else li k) u (h u)))), (f1, .inl (j1, 32, .inl us)), (f2, .inl (j2, 32, .inl fe)), (f3, .inl (j3, 32, .inl cF)), (w, .inr (1, [.ref hd, .int ct])), (hd, .inl (cA, 16, .inl h))] := hD
    have hz : (upd (fun k => if k < u then h k else li k) u (h u)) = (fun k => if k < u + 1 then h k else li k) := upd_ltf rfl
    rw [hz] at hP hD
    refine lv_iinc hx hb d_Fl_readArrows_19 hl (k := 0) rfl (v := nI (u + 1)) (nI_1 u) (by decide) rfl (fun ls hl => ?_)
    have hl : lv_has ls 3 [(2, .int (nI (u + 1))), (0, .ref f), (1, .ref w)] := hl
    refine lv_goto (tgt := 2) hx hb d_Fl_readArrows_22 rfl ?_
    exact ih2 (u + 1) _ H locs ⟨by omega, lv_sub hl [0, 1, 2] rfl, hP, hD, hS⟩ (by omega)
set_option maxHeartbeats 4000000 in
set_option maxRecDepth 100000 in
theorem k_Fl_readPlaces (l : Launch) (D : va_G) (f f0 f1 f2 f3 : Nat) (j0 j1 j2 j3 : ClassId) (li : Nat → Int32) (us : Nat → Int32) (fe : Nat → Int32) (cF : Nat → Int32) (w hd : Nat) (cA : ClassId) (ct : Int32) (h : Nat → Int32)  (sz : Nat) : Met l y_Fl_readPlaces (Cond.code y_Fl_readPlaces c_Fl_readPlaces 3 none :: BS) { frames := 1, cells := 0, slots := 0, locals := 21 } (va_Pc [.ref f, .ref w] (xWp D [(f, .inr (4, [.ref f0, .ref f1, .ref f2, .ref f3])), (f0, .inl (j0, 32, .inl li)), (f1, .inl (j1, 32, .inl us)), (f2, .inl (j2, 32, .inl fe)), (f3, .inl (j3, 32, .inl cF)), (w, .inr (1, [.ref hd, .int ct])), (hd, .inl (cA, 16, .inl h))] [(j0, .int), (j1, .int), (j2, .int), (j3, .int), (cA, .int)] sz)) (xQv D [(f, .inr (4, [.ref f0, .ref f1, .ref f2, .ref f3])), (f0, .inl (j0, 32, .inl li)), (f1, .inl (j1, 32, .inl us)), (f2, .inl (j2, 32, .inl fe)), (f3, .inl (j3, 32, .inl cF)), (w, .inr (1, [.ref hd, .int ct])), (hd, .inl (cA, 16, .inl h))] [(f, .inr (4, [.ref f0, .ref f1, .ref f2, .ref f3])), (f0, .inl (j0, 32, .inl (plc h li 16))), (f1, .inl (j1, 32, .inl us)), (f2, .inl (j2, 32, .inl fe)), (f3, .inl (j3, 32, .inl cF)), (w, .inr (1, [.ref hd, .int ct])), (hd, .inl (cA, 16, .inl h))] [(j0, .int), (j1, .int), (j2, .int), (j3, .int), (cA, .int)] sz) 0 0 (va_A [(f, .inr (4, [.ref f0, .ref f1, .ref f2, .ref f3])), (f0, .inl (j0, 32, .inl li)), (f1, .inl (j1, 32, .inl us)), (f2, .inl (j2, 32, .inl fe)), (f3, .inl (j3, 32, .inl cF)), (w, .inr (1, [.ref hd, .int ct])), (hd, .inl (cA, 16, .inl h))] sz) := by
  refine Met.ofW (cc := c_Fl_readPlaces) (maxL := 3) (ret := none) (by decide) rfl ?_
  intro p e s m args below meth c s₁ B hml hv
  obtain ⟨rfl, hsz, hP, hK, hD0, hN⟩ := hv
  have hx := B.exec
  have hb := B.bytes
  have hr := B.returns
  have hB := xB B.pre
  have hown : s.vm.findClass R_Fl = some m.cls := findClass_of_methodNamed B.named
  have hlocks := B.notSynchronized
  subst hsz
  have hD := hD0.self (sz := s.heap.size)
  obtain ⟨A, hAe⟩ : ∃ A, A = va_A [(f, .inr (4, [.ref f0, .ref f1, .ref f2, .ref f3])), (f0, .inl (j0, 32, .inl li)), (f1, .inl (j1, 32, .inl us)), (f2, .inl (j2, 32, .inl fe)), (f3, .inl (j3, 32, .inl cF)), (w, .inr (1, [.ref hd, .int ct])), (hd, .inl (cA, 16, .inl h))] s.heap.size := ⟨_, rfl⟩
  rw [← hAe] at hD
  have hA : ∀ q : Nat, s.heap.size ≤ q → A q := fun q h => by rw [hAe]; exact Or.inr h
  have hS : va_S A s.heap s.heap [] := va_S.rf
  have hl := lv_entry ([.ref f, .ref w]) (n := 3) (Nat.le_of_ble_eq_true rfl)
  rw [lg_entry_eq]
  generalize (lg_sl ([.ref f, .ref w]) ++ List.replicate (3 - (lg_sl ([.ref f, .ref w])).length) Slot.unset).toArray = ls at hl ⊢
  have hl : lv_has ls 3 [(0, .ref f), (1, .ref w)] := hl
  refine lv_iconst (v := nI 0) hx hb d_Fl_readPlaces_0 (by decide) ?_
  refine lv_istore_n hx hb d_Fl_readPlaces_1 rfl hl (by decide) rfl (fun ls hl => ?_)
  have hl : lv_has ls 3 [(2, .int (nI 0)), (0, .ref f), (1, .ref w)] := hl
  have hP := xP_ext hP 1 (plc h li 0) rfl (fun j9 hj9 => congrFun plc_0 j9)
  have hD := xD_ext hD 1 (y := .inl (j0, 32, .inl (plc h li 0))) rfl
  have hP : va_P D cls [(f, .inr (4, [.ref f0, .ref f1, .ref f2, .ref f3])), (f0, .inl (j0, 32, .inl (plc h li 0))), (f1, .inl (j1, 32, .inl us)), (f2, .inl (j2, 32, .inl fe)), (f3, .inl (j3, 32, .inl cF)), (w, .inr (1, [.ref hd, .int ct])), (hd, .inl (cA, 16, .inl h))] _ := hP
  have hD : va_D A [(f, .inr (4, [.ref f0, .ref f1, .ref f2, .ref f3])), (f0, .inl (j0, 32, .inl (plc h li 0))), (f1, .inl (j1, 32, .inl us)), (f2, .inl (j2, 32, .inl fe)), (f3, .inl (j3, 32, .inl cF)), (w, .inr (1, [.ref hd, .int ct])), (hd, .inl (cA, 16, .inl h))] := hD
  refine xl_w (fun (u : Nat) ls H locs => ((u ≤ 16)) ∧ lv_has ls 3 [(2, .int (nI u)), (0, .ref f), (1, .ref w)] ∧ va_P D cls [(f, .inr (4, [.ref f0, .ref f1, .ref f2, .ref f3])), (f0, .inl (j0, 32, .inl (plc h li u))), (f1, .inl (j1, 32, .inl us)), (f2, .inl (j2, 32, .inl fe)), (f3, .inl (j3, 32, .inl cF)), (w, .inr (1, [.ref hd, .int ct])), (hd, .inl (cA, 16, .inl h))] H ∧ va_D A [(f, .inr (4, [.ref f0, .ref f1, .ref f2, .ref f3])), (f0, .inl (j0, 32, .inl (plc h li u))), (f1, .inl (j1, 32, .inl us)), (f2, .inl (j2, 32, .inl fe)), (f3, .inl (j3, 32, .inl cF)), (w, .inr (1, [.ref hd, .int ct])), (hd, .inl (cA, 16, .inl h))] ∧ va_S A s.heap H locs) (fun u => 16 - u) (fun u ls H locs hI ih2 => ?_) 0 _ ⟨Nat.zero_le _, hl, hP, hD, hS⟩
  obtain ⟨hI, hl, hP, hD, hS⟩ := hI
  have hu := hI
  refine lv_iload_n hx hb d_Fl_readPlaces_2 rfl (lv_at hl 0 rfl) ?_
  refine lv_bipush (v := nI 16) hx hb d_Fl_readPlaces_3 (by decide) ?_
  refine lv_icmp_ge (tgt := 41) hx hb d_Fl_readPlaces_5 rfl (fun hc5 => ?_) (fun hc5 => ?_)
  · have hc5 : 16 ≤ u := (nI_leI (by omega) (by omega)).mp hc5
    have hz : (plc h li u) = (plc h li 16) := by rw [show u = 16 by omega]
    rw [hz] at hP hD
    have hP9 := hP.sub (ws' := [(f, .inr (4, [.ref f0, .ref f1, .ref f2, .ref f3])), (f0, .inl (j0, 32, .inl (plc h li 16))), (f1, .inl (j1, 32, .inl us)), (f2, .inl (j2, 32, .inl fe)), (f3, .inl (j3, 32, .inl cF)), (w, .inr (1, [.ref hd, .int ct])), (hd, .inl (cA, 16, .inl h))]) [0, 1, 2, 3, 4, 5, 6] rfl
    have hD9 := hD.sub (ws' := [(f, .inr (4, [.ref f0, .ref f1, .ref f2, .ref f3])), (f0, .inl (j0, 32, .inl (plc h li 16))), (f1, .inl (j1, 32, .inl us)), (f2, .inl (j2, 32, .inl fe)), (f3, .inl (j3, 32, .inl cF)), (w, .inr (1, [.ref hd, .int ct])), (hd, .inl (cA, 16, .inl h))]) [0, 1, 2, 3, 4, 5, 6] (by decide) rfl
    subst hAe
    exact W.vret hx hb hr (fun t ht hW => ⟨⟨(), rfl, trivial, by rw [ht]; exact hP9, va_K.moved hW.alike hK, hD9⟩, hS.F ht⟩) hS.2.2 d_Fl_readPlaces_41
  · have hc5 : ¬ (16 ≤ u) := fun q9 => hc5 ((nI_leI (by omega) (by omega)).mpr q9)
    refine lv_aload_n hx hb d_Fl_readPlaces_8 rfl (lv_at hl 1 rfl) ?_
    refine va_get (D := D) (ci := 4) (v := .ref f0) (C := R_Fl) (T := F_Fl) (N := 4) hx hb hB in_Fl hown hK hP 0 rfl rfl 0 (by decide) (hB _ mf_Fl_11) (fun _ h9 => h9) rfl d_Fl_readPlaces_9 ?_
    refine lv_iload_n hx hb d_Fl_readPlaces_12 rfl (lv_at hl 0 rfl) ?_
    refine lv_iload_n hx hb d_Fl_readPlaces_13 rfl (lv_at hl 0 rfl) ?_
    refine xr_cal (va_runS (As := [.int (nI u)]) (rest := [.int (nI u), .ref f0]) ⟨hx, hb, hml, hown, hB⟩ (k_Fl_exitOf l D u) ⟨callB_of 1 hB (xg0 mc_Fl_exitOf) rfl rfl rfl (hB _ mz_Fl) (hB _ ml_Fl_30) (by decide +kernel) ⟨Nat.le_of_ble_eq_true rfl, Nat.le_of_ble_eq_true rfl⟩, hB _ ms_Fl_exitOf⟩ (xpS (ws := []) (tys := []) (hP.sub [] rfl) (hK.sub [] rfl) hN) rfl rfl hl.1 rfl (lv_room (Nat.le_of_ble_eq_true rfl)) d_Fl_readPlaces_14 ⟨Nat.le_of_ble_eq_true rfl, Nat.le_of_ble_eq_true rfl⟩) ?_
    refine xr_cal (va_runSN (As := [.int (nI (u + 16))]) (rest := [.int (nI u), .ref f0]) ⟨hx, hb, hml, hown, hB⟩ (k_A_only l D (u + 16)) ⟨va_cnB 1 hB (xg0 mc_A_only) rfl rfl rfl (xn_Fl_33 hN) (hB _ mz_A) (by decide +kernel) ⟨Nat.le_of_ble_eq_true rfl, Nat.le_of_ble_eq_true rfl⟩, hB _ ms_A_only, trivial⟩ (xpS (ws := []) (tys := []) (hP.sub [] rfl) (hK.sub [] rfl) hN) rfl rfl hl.1 rfl (lv_room (Nat.le_of_ble_eq_true rfl)) d_Fl_readPlaces_17 ⟨Nat.le_of_ble_eq_true rfl, Nat.le_of_ble_eq_true rfl⟩) ?_
    refine xa_st (u := u) hx hb hK hP hD hS 1 0 rfl rfl (by omega) (by decide) d_Fl_readPlaces_20 (fun H locs hP hD hS => ?_)
    have hP : va_P D cls [(f, .inr (4, [.ref f0, .ref f1, .ref f2, .ref f3])), (f0, .inl (j0, 32, .inl (upd (plc h li u) u (bit (u + 16))))), (f1, .inl (j1, 32, .inl us)), (f2, .inl (j2, 32, .inl fe)), (f3, .inl (j3, 32, .inl cF)), (w, .inr (1, [.ref hd, .int ct])), (hd, .inl (cA, 16, .inl h))] H := hP
    have hD : va_D A [(f, .inr (4, [.ref f0, .ref f1, .ref f2, .ref f3])), (f0, .inl (j0, 32, .inl (upd (plc h li u) u (bit (u + 16))))), (f1, .inl (j1, 32, .inl us)), (f2, .inl (j2, 32, .inl fe)), (f3, .inl (j3, 32, .inl cF)), (w, .inr (1, [.ref hd, .int ct])), (hd, .inl (cA, 16, .inl h))] := hD
    refine lv_aload_n hx hb d_Fl_readPlaces_21 rfl (lv_at hl 1 rfl) ?_
    refine va_get (D := D) (ci := 4) (v := .ref f0) (C := R_Fl) (T := F_Fl) (N := 4) hx hb hB in_Fl hown hK hP 0 rfl rfl 0 (by decide) (hB _ mf_Fl_11) (fun _ h9 => h9) rfl d_Fl_readPlaces_22 ?_
    refine lv_iload_n hx hb d_Fl_readPlaces_25 rfl (lv_at hl 0 rfl) ?_
    refine xr_cal (va_runS (As := [.int (nI u)]) (rest := [.ref f0]) ⟨hx, hb, hml, hown, hB⟩ (k_Fl_exitOf l D u) ⟨callB_of 1 hB (xg0 mc_Fl_exitOf) rfl rfl rfl (hB _ mz_Fl) (hB _ ml_Fl_30) (by decide +kernel) ⟨Nat.le_of_ble_eq_true rfl, Nat.le_of_ble_eq_true rfl⟩, hB _ ms_Fl_exitOf⟩ (xpS (ws := []) (tys := []) (hP.sub [] rfl) (hK.sub [] rfl) hN) rfl rfl hl.1 rfl (lv_room (Nat.le_of_ble_eq_true rfl)) d_Fl_readPlaces_26 ⟨Nat.le_of_ble_eq_true rfl, Nat.le_of_ble_eq_true rfl⟩) ?_
    refine lv_aload_n hx hb d_Fl_readPlaces_29 rfl (lv_at hl 2 rfl) ?_
    refine lv_iload_n hx hb d_Fl_readPlaces_30 rfl (lv_at hl 0 rfl) ?_
    refine xr_cal (va_runV (As := [.int (nI u)]) (rest := [.int (nI (u + 16)), .ref f0]) ⟨hx, hb, hml, hown, hB⟩ (k_Web_headsOf l D w hd cA ct h u (by omega)) ⟨callB_of 1 hB (xg0 mc_Web_headsOf) rfl rfl rfl (hB _ mz_Web) (hB _ ml_Fl_24) (by decide +kernel) ⟨Nat.le_of_ble_eq_true rfl, Nat.le_of_ble_eq_true rfl⟩, hB _ mi_Web_headsOf, hB _ me_Web_headsOf⟩ (xpV (ws := [(w, .inr (1, [.ref hd, .int ct])), (hd, .inl (cA, 16, .inl h))]) (tys := [(cA, .int)]) (hP.sub [5, 6] rfl) (hK.sub [4] rfl) hN (va_recv (ci := 1) (q0 := 5) (q := (R_Web, F_Web, 2)) hK hP rfl rfl)) rfl rfl hl.1 rfl (lv_room (Nat.le_of_ble_eq_true rfl)) d_Fl_readPlaces_31 ⟨Nat.le_of_ble_eq_true rfl, Nat.le_of_ble_eq_true rfl⟩) ?_
    refine xa_st (u := (u + 16)) hx hb hK hP hD hS 1 0 rfl rfl (by omega) (by decide) d_Fl_readPlaces_34 (fun H locs hP hD hS => ?_)
    have hP : va_P D cls [(f, .inr (4, [.ref f0, .ref f1, .ref f2, .ref f3])), (f0, .inl (j0, 32, .inl (upd (upd (plc h li u) u (bit (u + 16))) (u + 16) (h u)))), (f1, .inl (j1, 32, .inl us)), (f2, .inl (j2, 32, .inl fe)), (f3, .inl (j3, 32, .inl cF)), (w, .inr (1, [.ref hd, .int ct])), (hd, .inl (cA, 16, .inl h))] H := hP
    have hD : va_D A [(f, .inr (4, [.ref f0, .ref f1, .ref f2, .ref f3])), (f0, .inl (j0, 32, .inl (upd (upd (plc h li u) u (bit (u + 16))) (u + 16) (h u)))), (f1, .inl (j1, 32, .inl us)), (f2, .inl (j2, 32, .inl fe)), (f3, .inl (j3, 32, .inl cF)), (w, .inr (1, [.ref hd, .int ct])), (hd, .inl (cA, 16, .inl h))] := hD
    have hz : (upd (upd (plc h li u) u (bit (u + 16))) (u + 16) (h u)) = (plc h li (u + 1)) := plc_st (by omega)
    rw [hz] at hP hD
    refine lv_iinc hx hb d_Fl_readPlaces_35 hl (k := 0) rfl (v := nI (u + 1)) (nI_1 u) (by decide) rfl (fun ls hl => ?_)
    have hl : lv_has ls 3 [(2, .int (nI (u + 1))), (0, .ref f), (1, .ref w)] := hl
    refine lv_goto (tgt := 2) hx hb d_Fl_readPlaces_38 rfl ?_
    exact ih2 (u + 1) _ H locs ⟨by omega, lv_sub hl [0, 1, 2] rfl, hP, hD, hS⟩ (by omega)
set_option maxHeartbeats 4000000 in
set_option maxRecDepth 100000 in
theorem k_Fl_markFrom (l : Launch) (D : va_G) (f f0 f1 f2 f3 : Nat) (j0 j1 j2 j3 : ClassId) (li : Nat → Int32) (us : Nat → Int32) (fe : Nat → Int32) (cf : Nat → Nat) (a9 : Nat) (fx : Int32) (sz : Nat) : Met l y_Fl_markFrom (Cond.code y_Fl_markFrom c_Fl_markFrom 4 none :: BS) { frames := 1, cells := 0, slots := 0, locals := 21 } (va_Pc [.ref f, .int (nI a9), .int fx] (xWp D [(f, .inr (4, [.ref f0, .ref f1, .ref f2, .ref f3])), (f0, .inl (j0, 32, .inl li)), (f1, .inl (j1, 32, .inl us)), (f2, .inl (j2, 32, .inl fe)), (f3, .inl (j3, 32, .inl (fun k => nI (cf k))))] [(j0, .int), (j1, .int), (j2, .int), (j3, .int)] sz)) (xQv D [(f, .inr (4, [.ref f0, .ref f1, .ref f2, .ref f3])), (f0, .inl (j0, 32, .inl li)), (f1, .inl (j1, 32, .inl us)), (f2, .inl (j2, 32, .inl fe)), (f3, .inl (j3, 32, .inl (fun k => nI (cf k))))] [(f, .inr (4, [.ref f0, .ref f1, .ref f2, .ref f3])), (f0, .inl (j0, 32, .inl li)), (f1, .inl (j1, 32, .inl us)), (f2, .inl (j2, 32, .inl fe)), (f3, .inl (j3, 32, .inl (fun k => nI (mkF fx a9 cf k))))] [(j0, .int), (j1, .int), (j2, .int), (j3, .int)] sz) 0 0 (va_A [(f, .inr (4, [.ref f0, .ref f1, .ref f2, .ref f3])), (f0, .inl (j0, 32, .inl li)), (f1, .inl (j1, 32, .inl us)), (f2, .inl (j2, 32, .inl fe)), (f3, .inl (j3, 32, .inl (fun k => nI (cf k))))] sz) := by
  refine Met.ofW (cc := c_Fl_markFrom) (maxL := 4) (ret := none) (by decide) rfl ?_
  intro p e s m args below meth c s₁ B hml hv
  obtain ⟨rfl, hsz, hP, hK, hD0, hN⟩ := hv
  have hx := B.exec
  have hb := B.bytes
  have hr := B.returns
  have hB := xB B.pre
  have hown : s.vm.findClass R_Fl = some m.cls := findClass_of_methodNamed B.named
  have hlocks := B.notSynchronized
  subst hsz
  have hD := hD0.self (sz := s.heap.size)
  obtain ⟨A, hAe⟩ : ∃ A, A = va_A [(f, .inr (4, [.ref f0, .ref f1, .ref f2, .ref f3])), (f0, .inl (j0, 32, .inl li)), (f1, .inl (j1, 32, .inl us)), (f2, .inl (j2, 32, .inl fe)), (f3, .inl (j3, 32, .inl (fun k => nI (cf k))))] s.heap.size := ⟨_, rfl⟩
  rw [← hAe] at hD
  have hA : ∀ q : Nat, s.heap.size ≤ q → A q := fun q h => by rw [hAe]; exact Or.inr h
  have hS : va_S A s.heap s.heap [] := va_S.rf
  have hl := lv_entry ([.ref f, .int (nI a9), .int fx]) (n := 4) (Nat.le_of_ble_eq_true rfl)
  rw [lg_entry_eq]
  generalize (lg_sl ([.ref f, .int (nI a9), .int fx]) ++ List.replicate (4 - (lg_sl ([.ref f, .int (nI a9), .int fx])).length) Slot.unset).toArray = ls at hl ⊢
  have hl : lv_has ls 4 [(0, .ref f), (1, .int (nI a9)), (2, .int fx)] := hl
  refine lv_iconst (v := nI 0) hx hb d_Fl_markFrom_0 (by decide) ?_
  refine lv_istore_n hx hb d_Fl_markFrom_1 rfl hl (by decide) rfl (fun ls hl => ?_)
  have hl : lv_has ls 4 [(3, .int (nI 0)), (0, .ref f), (1, .int (nI a9)), (2, .int fx)] := hl
  have hP := xP_ext hP 4 (fun k => nI (mkU fx a9 cf 0 k)) rfl (fun j9 hj9 => by rw [← mkU_0])
  have hD := xD_ext hD 4 (y := .inl (j3, 32, .inl (fun k => nI (mkU fx a9 cf 0 k)))) rfl
  have hP : va_P D cls [(f, .inr (4, [.ref f0, .ref f1, .ref f2, .ref f3])), (f0, .inl (j0, 32, .inl li)), (f1, .inl (j1, 32, .inl us)), (f2, .inl (j2, 32, .inl fe)), (f3, .inl (j3, 32, .inl (fun k => nI (mkU fx a9 cf 0 k))))] _ := hP
  have hD : va_D A [(f, .inr (4, [.ref f0, .ref f1, .ref f2, .ref f3])), (f0, .inl (j0, 32, .inl li)), (f1, .inl (j1, 32, .inl us)), (f2, .inl (j2, 32, .inl fe)), (f3, .inl (j3, 32, .inl (fun k => nI (mkU fx a9 cf 0 k))))] := hD
  refine xl_w (fun (u : Nat) ls H locs => ((u ≤ 32)) ∧ lv_has ls 4 [(3, .int (nI u)), (0, .ref f), (1, .int (nI a9)), (2, .int fx)] ∧ va_P D cls [(f, .inr (4, [.ref f0, .ref f1, .ref f2, .ref f3])), (f0, .inl (j0, 32, .inl li)), (f1, .inl (j1, 32, .inl us)), (f2, .inl (j2, 32, .inl fe)), (f3, .inl (j3, 32, .inl (fun k => nI (mkU fx a9 cf u k))))] H ∧ va_D A [(f, .inr (4, [.ref f0, .ref f1, .ref f2, .ref f3])), (f0, .inl (j0, 32, .inl li)), (f1, .inl (j1, 32, .inl us)), (f2, .inl (j2, 32, .inl fe)), (f3, .inl (j3, 32, .inl (fun k => nI (mkU fx a9 cf u k))))] ∧ va_S A s.heap H locs) (fun u => 32 - u) (fun u ls H locs hI ih2 => ?_) 0 _ ⟨Nat.zero_le _, hl, hP, hD, hS⟩
  obtain ⟨hI, hl, hP, hD, hS⟩ := hI
  have hu := hI
  refine lv_iload_n hx hb d_Fl_markFrom_2 rfl (lv_at hl 0 rfl) ?_
  refine lv_bipush (v := nI 32) hx hb d_Fl_markFrom_3 (by decide) ?_
  refine lv_icmp_ge (tgt := 29) hx hb d_Fl_markFrom_5 rfl (fun hc5 => ?_) (fun hc5 => ?_)
  · have hc5 : 32 ≤ u := (nI_leI (by omega) (by omega)).mp hc5
    have hP := xP_ext hP 4 (fun k => nI (mkF fx a9 cf k)) rfl (fun j9 hj9 => by rw [show u = 32 by omega, mkU_32])
    have hD := xD_ext hD 4 (y := .inl (j3, 32, .inl (fun k => nI (mkF fx a9 cf k)))) rfl
    have hP : va_P D cls [(f, .inr (4, [.ref f0, .ref f1, .ref f2, .ref f3])), (f0, .inl (j0, 32, .inl li)), (f1, .inl (j1, 32, .inl us)), (f2, .inl (j2, 32, .inl fe)), (f3, .inl (j3, 32, .inl (fun k => nI (mkF fx a9 cf k))))] _ := hP
    have hD : va_D A [(f, .inr (4, [.ref f0, .ref f1, .ref f2, .ref f3])), (f0, .inl (j0, 32, .inl li)), (f1, .inl (j1, 32, .inl us)), (f2, .inl (j2, 32, .inl fe)), (f3, .inl (j3, 32, .inl (fun k => nI (mkF fx a9 cf k))))] := hD
    have hP9 := hP.sub (ws' := [(f, .inr (4, [.ref f0, .ref f1, .ref f2, .ref f3])), (f0, .inl (j0, 32, .inl li)), (f1, .inl (j1, 32, .inl us)), (f2, .inl (j2, 32, .inl fe)), (f3, .inl (j3, 32, .inl (fun k => nI (mkF fx a9 cf k))))]) [0, 1, 2, 3, 4] rfl
    have hD9 := hD.sub (ws' := [(f, .inr (4, [.ref f0, .ref f1, .ref f2, .ref f3])), (f0, .inl (j0, 32, .inl li)), (f1, .inl (j1, 32, .inl us)), (f2, .inl (j2, 32, .inl fe)), (f3, .inl (j3, 32, .inl (fun k => nI (mkF fx a9 cf k))))]) [0, 1, 2, 3, 4] (by decide) rfl
    subst hAe
    exact W.vret hx hb hr (fun t ht hW => ⟨⟨(), rfl, trivial, by rw [ht]; exact hP9, va_K.moved hW.alike hK, hD9⟩, hS.F ht⟩) hS.2.2 d_Fl_markFrom_29
  · have hc5 : ¬ (32 ≤ u) := fun q9 => hc5 ((nI_leI (by omega) (by omega)).mpr q9)
    refine lv_iload_n hx hb d_Fl_markFrom_8 rfl (lv_at hl 3 rfl) ?_
    refine lv_iload_n hx hb d_Fl_markFrom_9 rfl (lv_at hl 0 rfl) ?_
    refine xr_cal (va_runSN (As := [.int fx, .int (nI u)]) (rest := []) ⟨hx, hb, hml, hown, hB⟩ (k_A_has l D fx u (by omega)) ⟨va_cnB 2 hB (xg0 mc_A_has) rfl rfl rfl (xn_Fl_50 hN) (hB _ mz_A) (by decide +kernel) ⟨Nat.le_of_ble_eq_true rfl, Nat.le_of_ble_eq_true rfl⟩, hB _ ms_A_has, trivial⟩ (xpS (ws := []) (tys := []) (hP.sub [] rfl) (hK.sub [] rfl) hN) rfl rfl hl.1 rfl (lv_room (Nat.le_of_ble_eq_true rfl)) d_Fl_markFrom_10 ⟨Nat.le_of_ble_eq_true rfl, Nat.le_of_ble_eq_true rfl⟩) ?_
    refine lv_if_eq (tgt := 23) hx hb d_Fl_markFrom_13 rfl (fun hc13 => ?_) (fun hc13 => ?_)
    · have hc13 := b2i_0.mp hc13
      have hP := xP_ext hP 4 (fun k => nI (mkU fx a9 cf (u + 1) k)) rfl (fun j9 hj9 => by rw [mkU_f hc13])
      have hD := xD_ext hD 4 (y := .inl (j3, 32, .inl (fun k => nI (mkU fx a9 cf (u + 1) k)))) rfl
      have hP : va_P D cls [(f, .inr (4, [.ref f0, .ref f1, .ref f2, .ref f3])), (f0, .inl (j0, 32, .inl li)), (f1, .inl (j1, 32, .inl us)), (f2, .inl (j2, 32, .inl fe)), (f3, .inl (j3, 32, .inl (fun k => nI (mkU fx a9 cf (u + 1) k))))] _ := hP
      have hD : va_D A [(f, .inr (4, [.ref f0, .ref f1, .ref f2, .ref f3])), (f0, .inl (j0, 32, .inl li)), (f1, .inl (j1, 32, .inl us)), (f2, .inl (j2, 32, .inl fe)), (f3, .inl (j3, 32, .inl (fun k => nI (mkU fx a9 cf (u + 1) k))))] := hD
      refine lv_iinc hx hb d_Fl_markFrom_23 hl (k := 0) rfl (v := nI (u + 1)) (nI_1 u) (by decide) rfl (fun ls hl => ?_)
      have hl : lv_has ls 4 [(3, .int (nI (u + 1))), (0, .ref f), (1, .int (nI a9)), (2, .int fx)] := hl
      refine lv_goto (tgt := 2) hx hb d_Fl_markFrom_26 rfl ?_
      exact ih2 (u + 1) _ H locs ⟨by omega, lv_sub hl [0, 1, 2, 3] rfl, hP, hD, hS⟩ (by omega)
    · have hc13 := b2i_n.mp hc13
      refine lv_aload_n hx hb d_Fl_markFrom_16 rfl (lv_at hl 1 rfl) ?_
      refine va_get (D := D) (ci := 4) (v := .ref f3) (C := R_Fl) (T := F_Fl) (N := 4) hx hb hB in_Fl hown hK hP 0 rfl rfl 3 (by decide) (hB _ mf_Fl_21) (fun _ h9 => h9) rfl d_Fl_markFrom_17 ?_
      refine lv_iload_n hx hb d_Fl_markFrom_20 rfl (lv_at hl 0 rfl) ?_
      refine lv_iload_n hx hb d_Fl_markFrom_21 rfl (lv_at hl 2 rfl) ?_
      refine xa_st (u := u) hx hb hK hP hD hS 4 3 rfl rfl (by omega) (by decide) d_Fl_markFrom_22 (fun H locs hP hD hS => ?_)
      have hP : va_P D cls [(f, .inr (4, [.ref f0, .ref f1, .ref f2, .ref f3])), (f0, .inl (j0, 32, .inl li)), (f1, .inl (j1, 32, .inl us)), (f2, .inl (j2, 32, .inl fe)), (f3, .inl (j3, 32, .inl (upd (fun k => nI (mkU fx a9 cf u k)) u (nI a9))))] H := hP
      have hD : va_D A [(f, .inr (4, [.ref f0, .ref f1, .ref f2, .ref f3])), (f0, .inl (j0, 32, .inl li)), (f1, .inl (j1, 32, .inl us)), (f2, .inl (j2, 32, .inl fe)), (f3, .inl (j3, 32, .inl (upd (fun k => nI (mkU fx a9 cf u k)) u (nI a9))))] := hD
      have hz : (upd (fun k => nI (mkU fx a9 cf u k)) u (nI a9)) = (fun k => nI (mkU fx a9 cf (u + 1) k)) := mkU_t hc13
      rw [hz] at hP hD
      refine lv_iinc hx hb d_Fl_markFrom_23 hl (k := 0) rfl (v := nI (u + 1)) (nI_1 u) (by decide) rfl (fun ls hl => ?_)
      have hl : lv_has ls 4 [(3, .int (nI (u + 1))), (0, .ref f), (1, .int (nI a9)), (2, .int fx)] := hl
      refine lv_goto (tgt := 2) hx hb d_Fl_markFrom_26 rfl ?_
      exact ih2 (u + 1) _ H locs ⟨by omega, lv_sub hl [0, 1, 2, 3] rfl, hP, hD, hS⟩ (by omega)
set_option maxHeartbeats 4000000 in
set_option maxRecDepth 100000 in
theorem k_Fl_pushOver (l : Launch) (D : va_G) (f f0 f1 f2 f3 : Nat) (j0 j1 j2 j3 : ClassId) (li : Nat → Int32) (us : Nat → Int32) (fe : Nat → Int32) (cF : Nat → Int32) (a9 b9 : Nat) (ha9 : a9 < 32) (hb9 : b9 < 32) (sz : Nat) : Met l y_Fl_pushOver (Cond.code y_Fl_pushOver c_Fl_pushOver 3 none :: BS) { frames := 1, cells := 0, slots := 0, locals := 21 } (va_Pc [.ref f, .int (nI a9), .int (nI b9)] (xWp D [(f, .inr (4, [.ref f0, .ref f1, .ref f2, .ref f3])), (f0, .inl (j0, 32, .inl li)), (f1, .inl (j1, 32, .inl us)), (f2, .inl (j2, 32, .inl fe)), (f3, .inl (j3, 32, .inl cF))] [(j0, .int), (j1, .int), (j2, .int), (j3, .int)] sz)) (xQv D [(f, .inr (4, [.ref f0, .ref f1, .ref f2, .ref f3])), (f0, .inl (j0, 32, .inl li)), (f1, .inl (j1, 32, .inl us)), (f2, .inl (j2, 32, .inl fe)), (f3, .inl (j3, 32, .inl cF))] [(f, .inr (4, [.ref f0, .ref f1, .ref f2, .ref f3])), (f0, .inl (j0, 32, .inl li)), (f1, .inl (j1, 32, .inl (psU us fe a9 b9))), (f2, .inl (j2, 32, .inl (psF us fe a9 b9))), (f3, .inl (j3, 32, .inl cF))] [(j0, .int), (j1, .int), (j2, .int), (j3, .int)] sz) 0 0 (va_A [(f, .inr (4, [.ref f0, .ref f1, .ref f2, .ref f3])), (f0, .inl (j0, 32, .inl li)), (f1, .inl (j1, 32, .inl us)), (f2, .inl (j2, 32, .inl fe)), (f3, .inl (j3, 32, .inl cF))] sz) := by
  refine Met.ofW (cc := c_Fl_pushOver) (maxL := 3) (ret := none) (by decide) rfl ?_
  intro p e s m args below meth c s₁ B hml hv
  obtain ⟨rfl, hsz, hP, hK, hD0, hN⟩ := hv
  have hx := B.exec
  have hb := B.bytes
  have hr := B.returns
  have hB := xB B.pre
  have hown : s.vm.findClass R_Fl = some m.cls := findClass_of_methodNamed B.named
  have hlocks := B.notSynchronized
  subst hsz
  have hD := hD0.self (sz := s.heap.size)
  obtain ⟨A, hAe⟩ : ∃ A, A = va_A [(f, .inr (4, [.ref f0, .ref f1, .ref f2, .ref f3])), (f0, .inl (j0, 32, .inl li)), (f1, .inl (j1, 32, .inl us)), (f2, .inl (j2, 32, .inl fe)), (f3, .inl (j3, 32, .inl cF))] s.heap.size := ⟨_, rfl⟩
  rw [← hAe] at hD
  have hA : ∀ q : Nat, s.heap.size ≤ q → A q := fun q h => by rw [hAe]; exact Or.inr h
  have hS : va_S A s.heap s.heap [] := va_S.rf
  have hl := lv_entry ([.ref f, .int (nI a9), .int (nI b9)]) (n := 3) (Nat.le_of_ble_eq_true rfl)
  rw [lg_entry_eq]
  generalize (lg_sl ([.ref f, .int (nI a9), .int (nI b9)]) ++ List.replicate (3 - (lg_sl ([.ref f, .int (nI a9), .int (nI b9)])).length) Slot.unset).toArray = ls at hl ⊢
  have hl : lv_has ls 3 [(0, .ref f), (1, .int (nI a9)), (2, .int (nI b9))] := hl
  refine lv_aload_n hx hb d_Fl_pushOver_0 rfl (lv_at hl 0 rfl) ?_
  refine va_get (D := D) (ci := 4) (v := .ref f2) (C := R_Fl) (T := F_Fl) (N := 4) hx hb hB in_Fl hown hK hP 0 rfl rfl 2 (by decide) (hB _ mf_Fl_18) (fun _ h9 => h9) rfl d_Fl_pushOver_1 ?_
  refine lv_iload_n hx hb d_Fl_pushOver_4 rfl (lv_at hl 1 rfl) ?_
  refine xa_ld (u := a9) hx hb hK hP 3 2 rfl rfl (by omega) (by decide) d_Fl_pushOver_5 ?_
  refine lv_iload_n hx hb d_Fl_pushOver_6 rfl (lv_at hl 2 rfl) ?_
  refine xr_cal (va_runSN (As := [.int (fe a9), .int (nI b9)]) (rest := []) ⟨hx, hb, hml, hown, hB⟩ (k_A_has l D (fe a9) b9 (by omega)) ⟨va_cnB 2 hB (xg0 mc_A_has) rfl rfl rfl (xn_Fl_50 hN) (hB _ mz_A) (by decide +kernel) ⟨Nat.le_of_ble_eq_true rfl, Nat.le_of_ble_eq_true rfl⟩, hB _ ms_A_has, trivial⟩ (xpS (ws := []) (tys := []) (hP.sub [] rfl) (hK.sub [] rfl) hN) rfl rfl hl.1 rfl (lv_room (Nat.le_of_ble_eq_true rfl)) d_Fl_pushOver_7 ⟨Nat.le_of_ble_eq_true rfl, Nat.le_of_ble_eq_true rfl⟩) ?_
  refine lv_if_eq (tgt := 46) hx hb d_Fl_pushOver_10 rfl (fun hc10 => ?_) (fun hc10 => ?_)
  · have hc10 := b2i_0.mp hc10
    refine lv_aload_n hx hb d_Fl_pushOver_46 rfl (lv_at hl 0 rfl) ?_
    refine va_get (D := D) (ci := 4) (v := .ref f1) (C := R_Fl) (T := F_Fl) (N := 4) hx hb hB in_Fl hown hK hP 0 rfl rfl 1 (by decide) (hB _ mf_Fl_15) (fun _ h9 => h9) rfl d_Fl_pushOver_47 ?_
    refine lv_iload_n hx hb d_Fl_pushOver_50 rfl (lv_at hl 1 rfl) ?_
    refine lv_dup2_11 hx hb d_Fl_pushOver_51 rfl rfl ?_
    refine xa_ld (u := a9) hx hb hK hP 2 1 rfl rfl (by omega) (by decide) d_Fl_pushOver_52 ?_
    refine lv_iload_n hx hb d_Fl_pushOver_53 rfl (lv_at hl 2 rfl) ?_
    refine xr_cal (va_runSN (As := [.int (nI b9)]) (rest := [.int (us a9), .int (nI a9), .ref f1]) ⟨hx, hb, hml, hown, hB⟩ (k_A_only l D b9) ⟨va_cnB 1 hB (xg0 mc_A_only) rfl rfl rfl (xn_Fl_33 hN) (hB _ mz_A) (by decide +kernel) ⟨Nat.le_of_ble_eq_true rfl, Nat.le_of_ble_eq_true rfl⟩, hB _ ms_A_only, trivial⟩ (xpS (ws := []) (tys := []) (hP.sub [] rfl) (hK.sub [] rfl) hN) rfl rfl hl.1 rfl (lv_room (Nat.le_of_ble_eq_true rfl)) d_Fl_pushOver_54 ⟨Nat.le_of_ble_eq_true rfl, Nat.le_of_ble_eq_true rfl⟩) ?_
    refine lv_ior hx hb d_Fl_pushOver_57 ?_
    refine xa_st (u := a9) hx hb hK hP hD hS 2 1 rfl rfl (by omega) (by decide) d_Fl_pushOver_58 (fun H locs hP hD hS => ?_)
    have hP : va_P D cls [(f, .inr (4, [.ref f0, .ref f1, .ref f2, .ref f3])), (f0, .inl (j0, 32, .inl li)), (f1, .inl (j1, 32, .inl (upd us a9 ((us a9) ||| (bit b9))))), (f2, .inl (j2, 32, .inl fe)), (f3, .inl (j3, 32, .inl cF))] H := hP
    have hD : va_D A [(f, .inr (4, [.ref f0, .ref f1, .ref f2, .ref f3])), (f0, .inl (j0, 32, .inl li)), (f1, .inl (j1, 32, .inl (upd us a9 ((us a9) ||| (bit b9))))), (f2, .inl (j2, 32, .inl fe)), (f3, .inl (j3, 32, .inl cF))] := hD
    refine lv_aload_n hx hb d_Fl_pushOver_59 rfl (lv_at hl 0 rfl) ?_
    refine va_get (D := D) (ci := 4) (v := .ref f2) (C := R_Fl) (T := F_Fl) (N := 4) hx hb hB in_Fl hown hK hP 0 rfl rfl 2 (by decide) (hB _ mf_Fl_18) (fun _ h9 => h9) rfl d_Fl_pushOver_60 ?_
    refine lv_iload_n hx hb d_Fl_pushOver_63 rfl (lv_at hl 2 rfl) ?_
    refine lv_dup2_11 hx hb d_Fl_pushOver_64 rfl rfl ?_
    refine xa_ld (u := b9) hx hb hK hP 3 2 rfl rfl (by omega) (by decide) d_Fl_pushOver_65 ?_
    refine lv_iload_n hx hb d_Fl_pushOver_66 rfl (lv_at hl 1 rfl) ?_
    refine xr_cal (va_runSN (As := [.int (nI a9)]) (rest := [.int (fe b9), .int (nI b9), .ref f2]) ⟨hx, hb, hml, hown, hB⟩ (k_A_only l D a9) ⟨va_cnB 1 hB (xg0 mc_A_only) rfl rfl rfl (xn_Fl_33 hN) (hB _ mz_A) (by decide +kernel) ⟨Nat.le_of_ble_eq_true rfl, Nat.le_of_ble_eq_true rfl⟩, hB _ ms_A_only, trivial⟩ (xpS (ws := []) (tys := []) (hP.sub [] rfl) (hK.sub [] rfl) hN) rfl rfl hl.1 rfl (lv_room (Nat.le_of_ble_eq_true rfl)) d_Fl_pushOver_67 ⟨Nat.le_of_ble_eq_true rfl, Nat.le_of_ble_eq_true rfl⟩) ?_
    refine lv_ior hx hb d_Fl_pushOver_70 ?_
    refine xa_st (u := b9) hx hb hK hP hD hS 3 2 rfl rfl (by omega) (by decide) d_Fl_pushOver_71 (fun H locs hP hD hS => ?_)
    have hP : va_P D cls [(f, .inr (4, [.ref f0, .ref f1, .ref f2, .ref f3])), (f0, .inl (j0, 32, .inl li)), (f1, .inl (j1, 32, .inl (upd us a9 ((us a9) ||| (bit b9))))), (f2, .inl (j2, 32, .inl (upd fe b9 ((fe b9) ||| (bit a9))))), (f3, .inl (j3, 32, .inl cF))] H := hP
    have hD : va_D A [(f, .inr (4, [.ref f0, .ref f1, .ref f2, .ref f3])), (f0, .inl (j0, 32, .inl li)), (f1, .inl (j1, 32, .inl (upd us a9 ((us a9) ||| (bit b9))))), (f2, .inl (j2, 32, .inl (upd fe b9 ((fe b9) ||| (bit a9))))), (f3, .inl (j3, 32, .inl cF))] := hD
    have hz : (upd us a9 ((us a9) ||| (bit b9))) = (psU us fe a9 b9) := (if_neg (by rw [hc10]; decide)).symm
    rw [hz] at hP hD
    have hz : (upd fe b9 ((fe b9) ||| (bit a9))) = (psF us fe a9 b9) := (if_neg (by rw [hc10]; decide)).symm
    rw [hz] at hP hD
    have hP9 := hP.sub (ws' := [(f, .inr (4, [.ref f0, .ref f1, .ref f2, .ref f3])), (f0, .inl (j0, 32, .inl li)), (f1, .inl (j1, 32, .inl (psU us fe a9 b9))), (f2, .inl (j2, 32, .inl (psF us fe a9 b9))), (f3, .inl (j3, 32, .inl cF))]) [0, 1, 2, 3, 4] rfl
    have hD9 := hD.sub (ws' := [(f, .inr (4, [.ref f0, .ref f1, .ref f2, .ref f3])), (f0, .inl (j0, 32, .inl li)), (f1, .inl (j1, 32, .inl (psU us fe a9 b9))), (f2, .inl (j2, 32, .inl (psF us fe a9 b9))), (f3, .inl (j3, 32, .inl cF))]) [0, 1, 2, 3, 4] (by decide) rfl
    subst hAe
    exact W.vret hx hb hr (fun t ht hW => ⟨⟨(), rfl, trivial, by rw [ht]; exact hP9, va_K.moved hW.alike hK, hD9⟩, hS.F ht⟩) hS.2.2 d_Fl_pushOver_72
  · have hc10 := b2i_n.mp hc10
    refine lv_aload_n hx hb d_Fl_pushOver_13 rfl (lv_at hl 0 rfl) ?_
    refine va_get (D := D) (ci := 4) (v := .ref f2) (C := R_Fl) (T := F_Fl) (N := 4) hx hb hB in_Fl hown hK hP 0 rfl rfl 2 (by decide) (hB _ mf_Fl_18) (fun _ h9 => h9) rfl d_Fl_pushOver_14 ?_
    refine lv_iload_n hx hb d_Fl_pushOver_17 rfl (lv_at hl 1 rfl) ?_
    refine lv_dup2_11 hx hb d_Fl_pushOver_18 rfl rfl ?_
    refine xa_ld (u := a9) hx hb hK hP 3 2 rfl rfl (by omega) (by decide) d_Fl_pushOver_19 ?_
    refine lv_iload_n hx hb d_Fl_pushOver_20 rfl (lv_at hl 2 rfl) ?_
    refine xr_cal (va_runSN (As := [.int (nI b9)]) (rest := [.int (fe a9), .int (nI a9), .ref f2]) ⟨hx, hb, hml, hown, hB⟩ (k_A_only l D b9) ⟨va_cnB 1 hB (xg0 mc_A_only) rfl rfl rfl (xn_Fl_33 hN) (hB _ mz_A) (by decide +kernel) ⟨Nat.le_of_ble_eq_true rfl, Nat.le_of_ble_eq_true rfl⟩, hB _ ms_A_only, trivial⟩ (xpS (ws := []) (tys := []) (hP.sub [] rfl) (hK.sub [] rfl) hN) rfl rfl hl.1 rfl (lv_room (Nat.le_of_ble_eq_true rfl)) d_Fl_pushOver_21 ⟨Nat.le_of_ble_eq_true rfl, Nat.le_of_ble_eq_true rfl⟩) ?_
    refine lv_iconst (v := -1) hx hb d_Fl_pushOver_24 (by decide) ?_
    refine lv_ixor hx hb d_Fl_pushOver_25 ?_
    refine lv_iand hx hb d_Fl_pushOver_26 ?_
    refine xa_st (u := a9) hx hb hK hP hD hS 3 2 rfl rfl (by omega) (by decide) d_Fl_pushOver_27 (fun H locs hP hD hS => ?_)
    have hP : va_P D cls [(f, .inr (4, [.ref f0, .ref f1, .ref f2, .ref f3])), (f0, .inl (j0, 32, .inl li)), (f1, .inl (j1, 32, .inl us)), (f2, .inl (j2, 32, .inl (upd fe a9 ((fe a9) &&& ((bit b9) ^^^ (-1)))))), (f3, .inl (j3, 32, .inl cF))] H := hP
    have hD : va_D A [(f, .inr (4, [.ref f0, .ref f1, .ref f2, .ref f3])), (f0, .inl (j0, 32, .inl li)), (f1, .inl (j1, 32, .inl us)), (f2, .inl (j2, 32, .inl (upd fe a9 ((fe a9) &&& ((bit b9) ^^^ (-1)))))), (f3, .inl (j3, 32, .inl cF))] := hD
    refine lv_aload_n hx hb d_Fl_pushOver_28 rfl (lv_at hl 0 rfl) ?_
    refine va_get (D := D) (ci := 4) (v := .ref f1) (C := R_Fl) (T := F_Fl) (N := 4) hx hb hB in_Fl hown hK hP 0 rfl rfl 1 (by decide) (hB _ mf_Fl_15) (fun _ h9 => h9) rfl d_Fl_pushOver_29 ?_
    refine lv_iload_n hx hb d_Fl_pushOver_32 rfl (lv_at hl 2 rfl) ?_
    refine lv_dup2_11 hx hb d_Fl_pushOver_33 rfl rfl ?_
    refine xa_ld (u := b9) hx hb hK hP 2 1 rfl rfl (by omega) (by decide) d_Fl_pushOver_34 ?_
    refine lv_iload_n hx hb d_Fl_pushOver_35 rfl (lv_at hl 1 rfl) ?_
    refine xr_cal (va_runSN (As := [.int (nI a9)]) (rest := [.int (us b9), .int (nI b9), .ref f1]) ⟨hx, hb, hml, hown, hB⟩ (k_A_only l D a9) ⟨va_cnB 1 hB (xg0 mc_A_only) rfl rfl rfl (xn_Fl_33 hN) (hB _ mz_A) (by decide +kernel) ⟨Nat.le_of_ble_eq_true rfl, Nat.le_of_ble_eq_true rfl⟩, hB _ ms_A_only, trivial⟩ (xpS (ws := []) (tys := []) (hP.sub [] rfl) (hK.sub [] rfl) hN) rfl rfl hl.1 rfl (lv_room (Nat.le_of_ble_eq_true rfl)) d_Fl_pushOver_36 ⟨Nat.le_of_ble_eq_true rfl, Nat.le_of_ble_eq_true rfl⟩) ?_
    refine lv_iconst (v := -1) hx hb d_Fl_pushOver_39 (by decide) ?_
    refine lv_ixor hx hb d_Fl_pushOver_40 ?_
    refine lv_iand hx hb d_Fl_pushOver_41 ?_
    refine xa_st (u := b9) hx hb hK hP hD hS 2 1 rfl rfl (by omega) (by decide) d_Fl_pushOver_42 (fun H locs hP hD hS => ?_)
    have hP : va_P D cls [(f, .inr (4, [.ref f0, .ref f1, .ref f2, .ref f3])), (f0, .inl (j0, 32, .inl li)), (f1, .inl (j1, 32, .inl (upd us b9 ((us b9) &&& ((bit a9) ^^^ (-1)))))), (f2, .inl (j2, 32, .inl (upd fe a9 ((fe a9) &&& ((bit b9) ^^^ (-1)))))), (f3, .inl (j3, 32, .inl cF))] H := hP
    have hD : va_D A [(f, .inr (4, [.ref f0, .ref f1, .ref f2, .ref f3])), (f0, .inl (j0, 32, .inl li)), (f1, .inl (j1, 32, .inl (upd us b9 ((us b9) &&& ((bit a9) ^^^ (-1)))))), (f2, .inl (j2, 32, .inl (upd fe a9 ((fe a9) &&& ((bit b9) ^^^ (-1)))))), (f3, .inl (j3, 32, .inl cF))] := hD
    refine lv_goto (tgt := 72) hx hb d_Fl_pushOver_43 rfl ?_
    have hz : (upd us b9 ((us b9) &&& ((bit a9) ^^^ (-1)))) = (psU us fe a9 b9) := (if_pos hc10).symm
    rw [hz] at hP hD
    have hz : (upd fe a9 ((fe a9) &&& ((bit b9) ^^^ (-1)))) = (psF us fe a9 b9) := (if_pos hc10).symm
    rw [hz] at hP hD
    have hP9 := hP.sub (ws' := [(f, .inr (4, [.ref f0, .ref f1, .ref f2, .ref f3])), (f0, .inl (j0, 32, .inl li)), (f1, .inl (j1, 32, .inl (psU us fe a9 b9))), (f2, .inl (j2, 32, .inl (psF us fe a9 b9))), (f3, .inl (j3, 32, .inl cF))]) [0, 1, 2, 3, 4] rfl
    have hD9 := hD.sub (ws' := [(f, .inr (4, [.ref f0, .ref f1, .ref f2, .ref f3])), (f0, .inl (j0, 32, .inl li)), (f1, .inl (j1, 32, .inl (psU us fe a9 b9))), (f2, .inl (j2, 32, .inl (psF us fe a9 b9))), (f3, .inl (j3, 32, .inl cF))]) [0, 1, 2, 3, 4] (by decide) rfl
    subst hAe
    exact W.vret hx hb hr (fun t ht hW => ⟨⟨(), rfl, trivial, by rw [ht]; exact hP9, va_K.moved hW.alike hK, hD9⟩, hS.F ht⟩) hS.2.2 d_Fl_pushOver_72
set_option maxHeartbeats 4000000 in
set_option maxRecDepth 100000 in
theorem k_Fl_pushOne (l : Launch) (D : va_G) (f f0 f1 f2 f3 : Nat) (j0 j1 j2 j3 : ClassId) (li : Nat → Int32) (us : Nat → Int32) (fe : Nat → Int32) (cf : Nat → Nat) (hcf : ∀ k, k < 32 → cf k < 32) (frm to9 : Nat) (hfrm : frm < 32) (hto : to9 < 32) (sz : Nat) : Met l y_Fl_pushOne (Cond.code y_Fl_pushOne c_Fl_pushOne 6 none :: BS) { frames := 2, cells := 0, slots := 0, locals := 43 } (va_Pc [.ref f, .int (nI frm), .int (nI to9)] (xWp D [(f, .inr (4, [.ref f0, .ref f1, .ref f2, .ref f3])), (f0, .inl (j0, 32, .inl li)), (f1, .inl (j1, 32, .inl us)), (f2, .inl (j2, 32, .inl fe)), (f3, .inl (j3, 32, .inl (fun k => nI (cf k))))] [(j0, .int), (j1, .int), (j2, .int), (j3, .int)] sz)) (xQv D [(f, .inr (4, [.ref f0, .ref f1, .ref f2, .ref f3])), (f0, .inl (j0, 32, .inl li)), (f1, .inl (j1, 32, .inl us)), (f2, .inl (j2, 32, .inl fe)), (f3, .inl (j3, 32, .inl (fun k => nI (cf k))))] [(f, .inr (4, [.ref f0, .ref f1, .ref f2, .ref f3])), (f0, .inl (j0, 32, .inl li)), (f1, .inl (j1, 32, .inl (ps3 cf frm us fe to9 32).2.1)), (f2, .inl (j2, 32, .inl (ps3 cf frm us fe to9 32).2.2)), (f3, .inl (j3, 32, .inl (fun k => nI (cf k))))] [(j0, .int), (j1, .int), (j2, .int), (j3, .int)] sz) 0 0 (va_A [(f, .inr (4, [.ref f0, .ref f1, .ref f2, .ref f3])), (f0, .inl (j0, 32, .inl li)), (f1, .inl (j1, 32, .inl us)), (f2, .inl (j2, 32, .inl fe)), (f3, .inl (j3, 32, .inl (fun k => nI (cf k))))] sz) := by
  refine Met.ofW (cc := c_Fl_pushOne) (maxL := 6) (ret := none) (by decide) rfl ?_
  intro p e s m args below meth c s₁ B hml hv
  obtain ⟨rfl, hsz, hP, hK, hD0, hN⟩ := hv
  have hx := B.exec
  have hb := B.bytes
  have hr := B.returns
  have hB := xB B.pre
  have hown : s.vm.findClass R_Fl = some m.cls := findClass_of_methodNamed B.named
  have hlocks := B.notSynchronized
  subst hsz
  have hD := hD0.self (sz := s.heap.size)
  obtain ⟨A, hAe⟩ : ∃ A, A = va_A [(f, .inr (4, [.ref f0, .ref f1, .ref f2, .ref f3])), (f0, .inl (j0, 32, .inl li)), (f1, .inl (j1, 32, .inl us)), (f2, .inl (j2, 32, .inl fe)), (f3, .inl (j3, 32, .inl (fun k => nI (cf k))))] s.heap.size := ⟨_, rfl⟩
  rw [← hAe] at hD
  have hA : ∀ q : Nat, s.heap.size ≤ q → A q := fun q h => by rw [hAe]; exact Or.inr h
  have hS : va_S A s.heap s.heap [] := va_S.rf
  have hl := lv_entry ([.ref f, .int (nI frm), .int (nI to9)]) (n := 6) (Nat.le_of_ble_eq_true rfl)
  rw [lg_entry_eq]
  generalize (lg_sl ([.ref f, .int (nI frm), .int (nI to9)]) ++ List.replicate (6 - (lg_sl ([.ref f, .int (nI frm), .int (nI to9)])).length) Slot.unset).toArray = ls at hl ⊢
  have hl : lv_has ls 6 [(0, .ref f), (1, .int (nI frm)), (2, .int (nI to9))] := hl
  refine lv_iload_n hx hb d_Fl_pushOne_0 rfl (lv_at hl 2 rfl) ?_
  refine lv_istore_n hx hb d_Fl_pushOne_1 rfl hl (by decide) rfl (fun ls hl => ?_)
  have hl : lv_has ls 6 [(3, .int (nI to9)), (0, .ref f), (1, .int (nI frm)), (2, .int (nI to9))] := hl
  refine lv_iconst (v := nI 0) hx hb d_Fl_pushOne_2 (by decide) ?_
  refine lv_istore hx hb d_Fl_pushOne_3 hl (by decide) rfl (fun ls hl => ?_)
  have hl : lv_has ls 6 [(4, .int (nI 0)), (3, .int (nI to9)), (0, .ref f), (1, .int (nI frm)), (2, .int (nI to9))] := hl
  refine xl_w (fun (k : Nat) ls H locs => ((k ≤ 32)) ∧ lv_has ls 6 [(4, .int (nI k)), (3, .int (nI (ps3 cf frm us fe to9 k).1)), (0, .ref f), (1, .int (nI frm)), (2, .int (nI to9))] ∧ va_P D cls [(f, .inr (4, [.ref f0, .ref f1, .ref f2, .ref f3])), (f0, .inl (j0, 32, .inl li)), (f1, .inl (j1, 32, .inl (ps3 cf frm us fe to9 k).2.1)), (f2, .inl (j2, 32, .inl (ps3 cf frm us fe to9 k).2.2)), (f3, .inl (j3, 32, .inl (fun k => nI (cf k))))] H ∧ va_D A [(f, .inr (4, [.ref f0, .ref f1, .ref f2, .ref f3])), (f0, .inl (j0, 32, .inl li)), (f1, .inl (j1, 32, .inl (ps3 cf frm us fe to9 k).2.1)), (f2, .inl (j2, 32, .inl (ps3 cf frm us fe to9 k).2.2)), (f3, .inl (j3, 32, .inl (fun k => nI (cf k))))] ∧ va_S A s.heap H locs) (fun k => 32 - k) (fun k ls H locs hI ih5 => ?_) 0 _ ⟨Nat.zero_le _, hl, hP, hD, hS⟩
  obtain ⟨hI, hl, hP, hD, hS⟩ := hI
  have hk := hI
  refine lv_iload hx hb d_Fl_pushOne_5 (lv_at hl 0 rfl) ?_
  refine lv_bipush (v := nI 32) hx hb d_Fl_pushOne_7 (by decide) ?_
  refine lv_icmp_ge (tgt := 41) hx hb d_Fl_pushOne_9 rfl (fun hc9 => ?_) (fun hc9 => ?_)
  · have hc9 : 32 ≤ k := (nI_leI (by omega) (by omega)).mp hc9
    have hz : (ps3 cf frm us fe to9 k).2.1 = (ps3 cf frm us fe to9 32).2.1 := by first | rw [ps3_end (by omega) hc14] | rw [show k = 32 by omega]
    rw [hz] at hP hD
    have hz : (ps3 cf frm us fe to9 k).2.2 = (ps3 cf frm us fe to9 32).2.2 := by first | rw [ps3_end (by omega) hc14] | rw [show k = 32 by omega]
    rw [hz] at hP hD
    have hP9 := hP.sub (ws' := [(f, .inr (4, [.ref f0, .ref f1, .ref f2, .ref f3])), (f0, .inl (j0, 32, .inl li)), (f1, .inl (j1, 32, .inl (ps3 cf frm us fe to9 32).2.1)), (f2, .inl (j2, 32, .inl (ps3 cf frm us fe to9 32).2.2)), (f3, .inl (j3, 32, .inl (fun k => nI (cf k))))]) [0, 1, 2, 3, 4] rfl
    have hD9 := hD.sub (ws' := [(f, .inr (4, [.ref f0, .ref f1, .ref f2, .ref f3])), (f0, .inl (j0, 32, .inl li)), (f1, .inl (j1, 32, .inl (ps3 cf frm us fe to9 32).2.1)), (f2, .inl (j2, 32, .inl (ps3 cf frm us fe to9 32).2.2)), (f3, .inl (j3, 32, .inl (fun k => nI (cf k))))]) [0, 1, 2, 3, 4] (by decide) rfl
    subst hAe
    exact W.vret hx hb hr (fun t ht hW => ⟨⟨(), rfl, trivial, by rw [ht]; exact hP9, va_K.moved hW.alike hK, hD9⟩, hS.F ht⟩) hS.2.2 d_Fl_pushOne_41
  · have hc9 : ¬ (32 ≤ k) := fun q9 => hc9 ((nI_leI (by omega) (by omega)).mpr q9)
    have hp1 := ps3_lt (frm := frm) (us := us) (fe := fe) hto hcf k
    refine lv_iload_n hx hb d_Fl_pushOne_12 rfl (lv_at hl 1 rfl) ?_
    refine lv_iload_n hx hb d_Fl_pushOne_13 rfl (lv_at hl 3 rfl) ?_
    refine lv_icmp_eq (tgt := 41) hx hb d_Fl_pushOne_14 rfl (fun hc14 => ?_) (fun hc14 => ?_)
    · have hc14 : (ps3 cf frm us fe to9 k).1 = frm := (nI_eq (by omega) (by omega)).mp hc14
      have hz : (ps3 cf frm us fe to9 k).2.1 = (ps3 cf frm us fe to9 32).2.1 := by first | rw [ps3_end (by omega) hc14] | rw [show k = 32 by omega]
      rw [hz] at hP hD
      have hz : (ps3 cf frm us fe to9 k).2.2 = (ps3 cf frm us fe to9 32).2.2 := by first | rw [ps3_end (by omega) hc14] | rw [show k = 32 by omega]
      rw [hz] at hP hD
      have hP9 := hP.sub (ws' := [(f, .inr (4, [.ref f0, .ref f1, .ref f2, .ref f3])), (f0, .inl (j0, 32, .inl li)), (f1, .inl (j1, 32, .inl (ps3 cf frm us fe to9 32).2.1)), (f2, .inl (j2, 32, .inl (ps3 cf frm us fe to9 32).2.2)), (f3, .inl (j3, 32, .inl (fun k => nI (cf k))))]) [0, 1, 2, 3, 4] rfl
      have hD9 := hD.sub (ws' := [(f, .inr (4, [.ref f0, .ref f1, .ref f2, .ref f3])), (f0, .inl (j0, 32, .inl li)), (f1, .inl (j1, 32, .inl (ps3 cf frm us fe to9 32).2.1)), (f2, .inl (j2, 32, .inl (ps3 cf frm us fe to9 32).2.2)), (f3, .inl (j3, 32, .inl (fun k => nI (cf k))))]) [0, 1, 2, 3, 4] (by decide) rfl
      subst hAe
      exact W.vret hx hb hr (fun t ht hW => ⟨⟨(), rfl, trivial, by rw [ht]; exact hP9, va_K.moved hW.alike hK, hD9⟩, hS.F ht⟩) hS.2.2 d_Fl_pushOne_41
    · have hc14 : ¬ ((ps3 cf frm us fe to9 k).1 = frm) := fun q9 => hc14 ((nI_eq (by omega) (by omega)).mpr q9)
      refine lv_aload_n hx hb d_Fl_pushOne_17 rfl (lv_at hl 2 rfl) ?_
      refine va_get (D := D) (ci := 4) (v := .ref f3) (C := R_Fl) (T := F_Fl) (N := 4) hx hb hB in_Fl hown hK hP 0 rfl rfl 3 (by decide) (hB _ mf_Fl_21) (fun _ h9 => h9) rfl d_Fl_pushOne_18 ?_
      refine lv_iload_n hx hb d_Fl_pushOne_21 rfl (lv_at hl 1 rfl) ?_
      refine xa_ld (u := (ps3 cf frm us fe to9 k).1) hx hb hK hP 4 3 rfl rfl (by omega) (by decide) d_Fl_pushOne_22 ?_
      refine xv_top (x' := nI (cf (ps3 cf frm us fe to9 k).1)) (rfl) ?_
      have hp2 := hcf _ hp1
      refine lv_istore hx hb d_Fl_pushOne_23 hl (by decide) rfl (fun ls hl => ?_)
      have hl : lv_has ls 6 [(5, .int (nI (cf (ps3 cf frm us fe to9 k).1))), (4, .int (nI k)), (3, .int (nI (ps3 cf frm us fe to9 k).1)), (0, .ref f), (1, .int (nI frm)), (2, .int (nI to9))] := hl
      refine lv_aload_n hx hb d_Fl_pushOne_25 rfl (lv_at hl 3 rfl) ?_
      refine lv_iload hx hb d_Fl_pushOne_26 (lv_at hl 0 rfl) ?_
      refine lv_iload_n hx hb d_Fl_pushOne_28 rfl (lv_at hl 2 rfl) ?_
      refine xw_v (wc := [(f, .inr (4, [.ref f0, .ref f1, .ref f2, .ref f3])), (f0, .inl (j0, 32, .inl li)), (f1, .inl (j1, 32, .inl (ps3 cf frm us fe to9 k).2.1)), (f2, .inl (j2, 32, .inl (ps3 cf frm us fe to9 k).2.2)), (f3, .inl (j3, 32, .inl (fun k => nI (cf k))))]) (wr := []) (w1 := [(f, .inr (4, [.ref f0, .ref f1, .ref f2, .ref f3])), (f0, .inl (j0, 32, .inl li)), (f1, .inl (j1, 32, .inl (psU (ps3 cf frm us fe to9 k).2.1 (ps3 cf frm us fe to9 k).2.2 (cf (ps3 cf frm us fe to9 k).1) (ps3 cf frm us fe to9 k).1))), (f2, .inl (j2, 32, .inl (psF (ps3 cf frm us fe to9 k).2.1 (ps3 cf frm us fe to9 k).2.2 (cf (ps3 cf frm us fe to9 k).1) (ps3 cf frm us fe to9 k).1))), (f3, .inl (j3, 32, .inl (fun k => nI (cf k))))]) (va_runV (As := [.int (nI (cf (ps3 cf frm us fe to9 k).1)), .int (nI (ps3 cf frm us fe to9 k).1)]) (rest := []) ⟨hx, hb, hml, hown, hB⟩ (k_Fl_pushOver l D f f0 f1 f2 f3 j0 j1 j2 j3 li (ps3 cf frm us fe to9 k).2.1 (ps3 cf frm us fe to9 k).2.2 (fun k => nI (cf k)) (cf (ps3 cf frm us fe to9 k).1) (ps3 cf frm us fe to9 k).1 (by omega) (by omega) _) ⟨callB_of 2 hB (xg0 mc_Fl_pushOver) rfl rfl rfl (hB _ mz_Fl) (hB _ ml_Fl_56) (by decide +kernel) ⟨Nat.le_of_ble_eq_true rfl, Nat.le_of_ble_eq_true rfl⟩, hB _ mi_Fl_pushOver, hB _ me_Fl_pushOver⟩ (xqV (ws := [(f, .inr (4, [.ref f0, .ref f1, .ref f2, .ref f3])), (f0, .inl (j0, 32, .inl li)), (f1, .inl (j1, 32, .inl (ps3 cf frm us fe to9 k).2.1)), (f2, .inl (j2, 32, .inl (ps3 cf frm us fe to9 k).2.2)), (f3, .inl (j3, 32, .inl (fun k => nI (cf k))))]) (tys := [(j0, .int), (j1, .int), (j2, .int), (j3, .int)]) (hP.sub [0, 1, 2, 3, 4] rfl) (hD.sub [0, 1, 2, 3, 4] (by decide) rfl) (hK.sub [0, 1, 2, 3] rfl) hN (va_recv (ci := 4) (q0 := 0) (q := (R_Fl, F_Fl, 4)) hK hP rfl rfl)) rfl rfl hl.1 rfl (lv_room (Nat.le_of_ble_eq_true rfl)) d_Fl_pushOne_29 ⟨Nat.le_of_ble_eq_true rfl, Nat.le_of_ble_eq_true rfl⟩) hP hD hS hA [0, 1, 2, 3, 4] [] rfl rfl (by decide) (by decide) (fun H locs hP hD hS => ?_)
      have hP : va_P D cls [(f, .inr (4, [.ref f0, .ref f1, .ref f2, .ref f3])), (f0, .inl (j0, 32, .inl li)), (f1, .inl (j1, 32, .inl (psU (ps3 cf frm us fe to9 k).2.1 (ps3 cf frm us fe to9 k).2.2 (cf (ps3 cf frm us fe to9 k).1) (ps3 cf frm us fe to9 k).1))), (f2, .inl (j2, 32, .inl (psF (ps3 cf frm us fe to9 k).2.1 (ps3 cf frm us fe to9 k).2.2 (cf (ps3 cf frm us fe to9 k).1) (ps3 cf frm us fe to9 k).1))), (f3, .inl (j3, 32, .inl (fun k => nI (cf k))))] H := hP
      have hD : va_D A [(f, .inr (4, [.ref f0, .ref f1, .ref f2, .ref f3])), (f0, .inl (j0, 32, .inl li)), (f1, .inl (j1, 32, .inl (psU (ps3 cf frm us fe to9 k).2.1 (ps3 cf frm us fe to9 k).2.2 (cf (ps3 cf frm us fe to9 k).1) (ps3 cf frm us fe to9 k).1))), (f2, .inl (j2, 32, .inl (psF (ps3 cf frm us fe to9 k).2.1 (ps3 cf frm us fe to9 k).2.2 (cf (ps3 cf frm us fe to9 k).1) (ps3 cf frm us fe to9 k).1))), (f3, .inl (j3, 32, .inl (fun k => nI (cf k))))] := hD
      refine lv_iload hx hb d_Fl_pushOne_32 (lv_at hl 0 rfl) ?_
      refine lv_istore_n hx hb d_Fl_pushOne_34 rfl hl (by decide) rfl (fun ls hl => ?_)
      have hl : lv_has ls 6 [(3, .int (nI (cf (ps3 cf frm us fe to9 k).1))), (5, .int (nI (cf (ps3 cf frm us fe to9 k).1))), (4, .int (nI k)), (0, .ref f), (1, .int (nI frm)), (2, .int (nI to9))] := hl
      refine lv_iinc hx hb d_Fl_pushOne_35 hl (k := 2) rfl (v := nI (k + 1)) (nI_1 k) (by decide) rfl (fun ls hl => ?_)
      have hl : lv_has ls 6 [(4, .int (nI (k + 1))), (3, .int (nI (cf (ps3 cf frm us fe to9 k).1))), (5, .int (nI (cf (ps3 cf frm us fe to9 k).1))), (0, .ref f), (1, .int (nI frm)), (2, .int (nI to9))] := hl
      have hl : lv_has ls 6 [(4, .int (nI (k + 1))), (3, .int (nI (ps3 cf frm us fe to9 (k + 1)).1)), (5, .int (nI (cf (ps3 cf frm us fe to9 k).1))), (0, .ref f), (1, .int (nI frm)), (2, .int (nI to9))] := by
        have hz : (nI (cf (ps3 cf frm us fe to9 k).1)) = nI (ps3 cf frm us fe to9 (k + 1)).1 := by rw [ps3_go hc14]
        rw [← hz]; exact hl
      have hz : (psU (ps3 cf frm us fe to9 k).2.1 (ps3 cf frm us fe to9 k).2.2 (cf (ps3 cf frm us fe to9 k).1) (ps3 cf frm us fe to9 k).1) = (ps3 cf frm us fe to9 (k + 1)).2.1 := by rw [ps3_go hc14]
      rw [hz] at hP hD
      have hz : (psF (ps3 cf frm us fe to9 k).2.1 (ps3 cf frm us fe to9 k).2.2 (cf (ps3 cf frm us fe to9 k).1) (ps3 cf frm us fe to9 k).1) = (ps3 cf frm us fe to9 (k + 1)).2.2 := by rw [ps3_go hc14]
      rw [hz] at hP hD
      refine lv_goto (tgt := 5) hx hb d_Fl_pushOne_38 rfl ?_
      exact ih5 (k + 1) _ H locs ⟨by omega, lv_sub hl [0, 1, 3, 4, 5] rfl, hP, hD, hS⟩ (by omega)
