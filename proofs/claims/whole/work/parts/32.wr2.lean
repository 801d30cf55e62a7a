set_option maxHeartbeats 4000000 in
set_option maxRecDepth 100000 in
theorem k_Web_put (l : Launch) (D : va_G) (w hd : Nat) (cA : ClassId) (ct : Int32) (h : Nat → Int32) (u v : Nat) (hu : u < 16) (hv : v < 16) (sz : Nat) : Met l y_Web_put (Cond.code y_Web_put c_Web_put 3 none :: BS) { frames := 1, cells := 0, slots := 0, locals := 20 } (va_Pc [.ref w, .int (nI u), .int (nI v)] (xWp D [(w, .inr (1, [.ref hd, .int ct])), (hd, .inl (cA, 16, .inl h))] [(cA, .int)] sz)) (xQv D [(w, .inr (1, [.ref hd, .int ct])), (hd, .inl (cA, 16, .inl h))] [(w, .inr (1, [.ref hd, .int (ct + nI 1)])), (hd, .inl (cA, 16, .inl (upd h u (h u ||| bit v))))] [(cA, .int)] sz) 0 0 (va_A [(w, .inr (1, [.ref hd, .int ct])), (hd, .inl (cA, 16, .inl h))] sz) := by
  refine Met.ofW (cc := c_Web_put) (maxL := 3) (ret := none) (by decide) rfl ?_
  intro p e s m args below meth c s₁ B hml hv
  obtain ⟨rfl, hsz, hP, hK, hD0, hN⟩ := hv
  have hx := B.exec
  have hb := B.bytes
  have hr := B.returns
  have hB := xB B.pre
  have hown : s.vm.findClass R_Web = some m.cls := findClass_of_methodNamed B.named
  have hlocks := B.notSynchronized
  subst hsz
  have hD := hD0.self (sz := s.heap.size)
  obtain ⟨A, hAe⟩ : ∃ A, A = va_A [(w, .inr (1, [.ref hd, .int ct])), (hd, .inl (cA, 16, .inl h))] s.heap.size := ⟨_, rfl⟩
  rw [← hAe] at hD
  have hA : ∀ q : Nat, s.heap.size ≤ q → A q := fun q h => by rw [hAe]; exact Or.inr h
  have hS : va_S A s.heap s.heap [] := va_S.rf
  have hl := lv_entry ([.ref w, .int (nI u), .int (nI v)]) (n := 3) (Nat.le_of_ble_eq_true rfl)
  rw [lg_entry_eq]
  generalize (lg_sl ([.ref w, .int (nI u), .int (nI v)]) ++ List.replicate (3 - (lg_sl ([.ref w, .int (nI u), .int (nI v)])).length) Slot.unset).toArray = ls at hl ⊢
  have hl : lv_has ls 3 [(0, .ref w), (1, .int (nI u)), (2, .int (nI v))] := hl
  refine lv_aload_n hx hb d_Web_put_0 rfl (lv_at hl 0 rfl) ?_
  refine va_get (D := D) (ci := 1) (v := .ref hd) (C := R_Web) (T := F_Web) (N := 2) hx hb hB in_Web hown hK hP 0 rfl rfl 0 (by decide) (hB _ mf_Web_9) (fun _ h9 => h9) rfl d_Web_put_1 ?_
  refine lv_iload_n hx hb d_Web_put_4 rfl (lv_at hl 1 rfl) ?_
  refine lv_dup2_11 hx hb d_Web_put_5 rfl rfl ?_
  refine xa_ld (u := u) hx hb hK hP 1 0 rfl rfl (by omega) (by decide) d_Web_put_6 ?_
  refine lv_iload_n hx hb d_Web_put_7 rfl (lv_at hl 2 rfl) ?_
  refine xr_cal (va_runSN (As := [.int (nI v)]) (rest := [.int (h u), .int (nI u), .ref hd]) ⟨hx, hb, hml, hown, hB⟩ (k_A_only l D v) ⟨va_cnB 1 hB (xg0 mc_A_only) rfl rfl rfl (xn_Web_23 hN) (hB _ mz_A) (by decide +kernel) ⟨Nat.le_of_ble_eq_true rfl, Nat.le_of_ble_eq_true rfl⟩, hB _ ms_A_only, trivial⟩ (xpS (ws := []) (tys := []) (hP.sub [] rfl) (hK.sub [] rfl) hN) rfl rfl hl.1 rfl (lv_room (Nat.le_of_ble_eq_true rfl)) d_Web_put_8 ⟨Nat.le_of_ble_eq_true rfl, Nat.le_of_ble_eq_true rfl⟩) ?_
  refine lv_ior hx hb d_Web_put_11 ?_
  refine xa_st (u := u) hx hb hK hP hD hS 1 0 rfl rfl (by omega) (by decide) d_Web_put_12 (fun H locs hP hD hS => ?_)
  have hP : va_P D cls [(w, .inr (1, [.ref hd, .int ct])), (hd, .inl (cA, 16, .inl (upd h u ((h u) ||| (bit v)))))] H := hP
  have hD : va_D A [(w, .inr (1, [.ref hd, .int ct])), (hd, .inl (cA, 16, .inl (upd h u ((h u) ||| (bit v)))))] := hD
  refine lv_aload_n hx hb d_Web_put_13 rfl (lv_at hl 0 rfl) ?_
  refine lv_dup hx hb d_Web_put_14 rfl ?_
  refine va_get (D := D) (ci := 1) (v := .int ct) (C := R_Web) (T := F_Web) (N := 2) hx hb hB in_Web hown hK hP 0 rfl rfl 1 (by decide) (hB _ mf_Web_15) (fun _ h9 => h9) rfl d_Web_put_15 ?_
  refine lv_iconst (v := nI 1) hx hb d_Web_put_18 (by decide) ?_
  refine lv_iadd hx hb d_Web_put_19 ?_
  refine va_put (D := D) (ci := 1) (v := .int (ct + (nI 1))) (ty := .int) (C := R_Web) (T := F_Web) (N := 2) hx hb hB in_Web t_Web t_Web_ok n_Web hown hK hP hD hS 0 rfl rfl 1 (by decide) (hB _ mf_Web_15) (fun _ h9 => h9) rfl (by decide +kernel) rfl rfl (Nat.le_of_ble_eq_true rfl) d_Web_put_20 (fun H locs hP hD hS => ?_)
  have hP : va_P D cls [(w, .inr (1, [.ref hd, .int (ct + (nI 1))])), (hd, .inl (cA, 16, .inl (upd h u ((h u) ||| (bit v)))))] H := hP
  have hD : va_D A [(w, .inr (1, [.ref hd, .int (ct + (nI 1))])), (hd, .inl (cA, 16, .inl (upd h u ((h u) ||| (bit v)))))] := hD
  have hP9 := hP.sub (ws' := [(w, .inr (1, [.ref hd, .int (ct + nI 1)])), (hd, .inl (cA, 16, .inl (upd h u (h u ||| bit v))))]) [0, 1] rfl
  have hD9 := hD.sub (ws' := [(w, .inr (1, [.ref hd, .int (ct + nI 1)])), (hd, .inl (cA, 16, .inl (upd h u (h u ||| bit v))))]) [0, 1] (by decide) rfl
  subst hAe
  exact W.vret hx hb hr (fun t ht hW => ⟨⟨(), rfl, trivial, by rw [ht]; exact hP9, va_K.moved hW.alike hK, hD9⟩, hS.F ht⟩) hS.2.2 d_Web_put_23
set_option maxHeartbeats 4000000 in
set_option maxRecDepth 100000 in
theorem k_Web_take (l : Launch) (D : va_G) (w hd : Nat) (cA : ClassId) (ct : Int32) (h : Nat → Int32) (u v : Nat) (hu : u < 16) (hv : v < 16) (sz : Nat) : Met l y_Web_take (Cond.code y_Web_take c_Web_take 3 none :: BS) { frames := 1, cells := 0, slots := 0, locals := 20 } (va_Pc [.ref w, .int (nI u), .int (nI v)] (xWp D [(w, .inr (1, [.ref hd, .int ct])), (hd, .inl (cA, 16, .inl h))] [(cA, .int)] sz)) (xQv D [(w, .inr (1, [.ref hd, .int ct])), (hd, .inl (cA, 16, .inl h))] [(w, .inr (1, [.ref hd, .int (ct - nI 1)])), (hd, .inl (cA, 16, .inl (upd h u (h u &&& (bit v ^^^ (-1))))))] [(cA, .int)] sz) 0 0 (va_A [(w, .inr (1, [.ref hd, .int ct])), (hd, .inl (cA, 16, .inl h))] sz) := by
  refine Met.ofW (cc := c_Web_take) (maxL := 3) (ret := none) (by decide) rfl ?_
  intro p e s m args below meth c s₁ B hml hv
  obtain ⟨rfl, hsz, hP, hK, hD0, hN⟩ := hv
  have hx := B.exec
  have hb := B.bytes
  have hr := B.returns
  have hB := xB B.pre
  have hown : s.vm.findClass R_Web = some m.cls := findClass_of_methodNamed B.named
  have hlocks := B.notSynchronized
  subst hsz
  have hD := hD0.self (sz := s.heap.size)
  obtain ⟨A, hAe⟩ : ∃ A, A = va_A [(w, .inr (1, [.ref hd, .int ct])), (hd, .inl (cA, 16, .inl h))] s.heap.size := ⟨_, rfl⟩
  rw [← hAe] at hD
  have hA : ∀ q : Nat, s.heap.size ≤ q → A q := fun q h => by rw [hAe]; exact Or.inr h
  have hS : va_S A s.heap s.heap [] := va_S.rf
  have hl := lv_entry ([.ref w, .int (nI u), .int (nI v)]) (n := 3) (Nat.le_of_ble_eq_true rfl)
  rw [lg_entry_eq]
  generalize (lg_sl ([.ref w, .int (nI u), .int (nI v)]) ++ List.replicate (3 - (lg_sl ([.ref w, .int (nI u), .int (nI v)])).length) Slot.unset).toArray = ls at hl ⊢
  have hl : lv_has ls 3 [(0, .ref w), (1, .int (nI u)), (2, .int (nI v))] := hl
  refine lv_aload_n hx hb d_Web_take_0 rfl (lv_at hl 0 rfl) ?_
  refine va_get (D := D) (ci := 1) (v := .ref hd) (C := R_Web) (T := F_Web) (N := 2) hx hb hB in_Web hown hK hP 0 rfl rfl 0 (by decide) (hB _ mf_Web_9) (fun _ h9 => h9) rfl d_Web_take_1 ?_
  refine lv_iload_n hx hb d_Web_take_4 rfl (lv_at hl 1 rfl) ?_
  refine lv_dup2_11 hx hb d_Web_take_5 rfl rfl ?_
  refine xa_ld (u := u) hx hb hK hP 1 0 rfl rfl (by omega) (by decide) d_Web_take_6 ?_
  refine lv_iload_n hx hb d_Web_take_7 rfl (lv_at hl 2 rfl) ?_
  refine xr_cal (va_runSN (As := [.int (nI v)]) (rest := [.int (h u), .int (nI u), .ref hd]) ⟨hx, hb, hml, hown, hB⟩ (k_A_only l D v) ⟨va_cnB 1 hB (xg0 mc_A_only) rfl rfl rfl (xn_Web_23 hN) (hB _ mz_A) (by decide +kernel) ⟨Nat.le_of_ble_eq_true rfl, Nat.le_of_ble_eq_true rfl⟩, hB _ ms_A_only, trivial⟩ (xpS (ws := []) (tys := []) (hP.sub [] rfl) (hK.sub [] rfl) hN) rfl rfl hl.1 rfl (lv_room (Nat.le_of_ble_eq_true rfl)) d_Web_take_8 ⟨Nat.le_of_ble_eq_true rfl, Nat.le_of_ble_eq_true rfl⟩) ?_
  refine lv_iconst (v := -1) hx hb d_Web_take_11 (by decide) ?_
  refine lv_ixor hx hb d_Web_take_12 ?_
  refine lv_iand hx hb d_Web_take_13 ?_
  refine xa_st (u := u) hx hb hK hP hD hS 1 0 rfl rfl (by omega) (by decide) d_Web_take_14 (fun H locs hP hD hS => ?_)
  have hP : va_P D cls [(w, .inr (1, [.ref hd, .int ct])), (hd, .inl (cA, 16, .inl (upd h u ((h u) &&& ((bit v) ^^^ (-1))))))] H := hP
  have hD : va_D A [(w, .inr (1, [.ref hd, .int ct])), (hd, .inl (cA, 16, .inl (upd h u ((h u) &&& ((bit v) ^^^ (-1))))))] := hD
  refine lv_aload_n hx hb d_Web_take_15 rfl (lv_at hl 0 rfl) ?_
  refine lv_dup hx hb d_Web_take_16 rfl ?_
  refine va_get (D := D) (ci := 1) (v := .int ct) (C := R_Web) (T := F_Web) (N := 2) hx hb hB in_Web hown hK hP 0 rfl rfl 1 (by decide) (hB _ mf_Web_15) (fun _ h9 => h9) rfl d_Web_take_17 ?_
  refine lv_iconst (v := nI 1) hx hb d_Web_take_20 (by decide) ?_
  refine lv_isub hx hb d_Web_take_21 ?_
  refine va_put (D := D) (ci := 1) (v := .int (ct - (nI 1))) (ty := .int) (C := R_Web) (T := F_Web) (N := 2) hx hb hB in_Web t_Web t_Web_ok n_Web hown hK hP hD hS 0 rfl rfl 1 (by decide) (hB _ mf_Web_15) (fun _ h9 => h9) rfl (by decide +kernel) rfl rfl (Nat.le_of_ble_eq_true rfl) d_Web_take_22 (fun H locs hP hD hS => ?_)
  have hP : va_P D cls [(w, .inr (1, [.ref hd, .int (ct - (nI 1))])), (hd, .inl (cA, 16, .inl (upd h u ((h u) &&& ((bit v) ^^^ (-1))))))] H := hP
  have hD : va_D A [(w, .inr (1, [.ref hd, .int (ct - (nI 1))])), (hd, .inl (cA, 16, .inl (upd h u ((h u) &&& ((bit v) ^^^ (-1))))))] := hD
  have hP9 := hP.sub (ws' := [(w, .inr (1, [.ref hd, .int (ct - nI 1)])), (hd, .inl (cA, 16, .inl (upd h u (h u &&& (bit v ^^^ (-1))))))]) [0, 1] rfl
  have hD9 := hD.sub (ws' := [(w, .inr (1, [.ref hd, .int (ct - nI 1)])), (hd, .inl (cA, 16, .inl (upd h u (h u &&& (bit v ^^^ (-1))))))]) [0, 1] (by decide) rfl
  subst hAe
  exact W.vret hx hb hr (fun t ht hW => ⟨⟨(), rfl, trivial, by rw [ht]; exact hP9, va_K.moved hW.alike hK, hD9⟩, hS.F ht⟩) hS.2.2 d_Web_take_25
set_option maxHeartbeats 4000000 in
set_option maxRecDepth 100000 in
theorem k_Web_takeAll (l : Launch) (D : va_G) (w hd : Nat) (cA : ClassId) (ct : Int32) (h : Nat → Int32)  (sz : Nat) : Met l y_Web_takeAll (Cond.code y_Web_takeAll c_Web_takeAll 1 none :: BS) { frames := 1, cells := 0, slots := 0, locals := 23 } (va_Pc [.ref w] (xWp D [(w, .inr (1, [.ref hd, .int ct])), (hd, .inl (cA, 16, .inl h))] [(cA, .int)] sz)) (xQv D [(w, .inr (1, [.ref hd, .int ct])), (hd, .inl (cA, 16, .inl h))] [(w, .inr (1, [.ref hd, .int (nI 0)])), (hd, .inl (cA, 16, .inl (fun _ => nI 0)))] [(cA, .int)] sz) 0 0 (va_A [(w, .inr (1, [.ref hd, .int ct])), (hd, .inl (cA, 16, .inl h))] sz) := by
  refine Met.ofW (cc := c_Web_takeAll) (maxL := 1) (ret := none) (by decide) rfl ?_
  intro p e s m args below meth c s₁ B hml hv
  obtain ⟨rfl, hsz, hP, hK, hD0, hN⟩ := hv
  have hx := B.exec
  have hb := B.bytes
  have hr := B.returns
  have hB := xB B.pre
  have hown : s.vm.findClass R_Web = some m.cls := findClass_of_methodNamed B.named
  have hlocks := B.notSynchronized
  subst hsz
  have hD := hD0.self (sz := s.heap.size)
  obtain ⟨A, hAe⟩ : ∃ A, A = va_A [(w, .inr (1, [.ref hd, .int ct])), (hd, .inl (cA, 16, .inl h))] s.heap.size := ⟨_, rfl⟩
  rw [← hAe] at hD
  have hA : ∀ q : Nat, s.heap.size ≤ q → A q := fun q h => by rw [hAe]; exact Or.inr h
  have hS : va_S A s.heap s.heap [] := va_S.rf
  have hl := lv_entry ([.ref w]) (n := 1) (Nat.le_of_ble_eq_true rfl)
  rw [lg_entry_eq]
  generalize (lg_sl ([.ref w]) ++ List.replicate (1 - (lg_sl ([.ref w])).length) Slot.unset).toArray = ls at hl ⊢
  have hl : lv_has ls 1 [(0, .ref w)] := hl
  refine lv_aload_n hx hb d_Web_takeAll_0 rfl (lv_at hl 0 rfl) ?_
  refine va_get (D := D) (ci := 1) (v := .ref hd) (C := R_Web) (T := F_Web) (N := 2) hx hb hB in_Web hown hK hP 0 rfl rfl 0 (by decide) (hB _ mf_Web_9) (fun _ h9 => h9) rfl d_Web_takeAll_1 ?_
  refine lv_iconst (v := nI 0) hx hb d_Web_takeAll_4 (by decide) ?_
  refine xw_v (wc := [(hd, .inl (cA, 16, .inl h))]) (wr := [(w, .inr (1, [.ref hd, .int ct]))]) (w1 := [(hd, .inl (cA, 16, .inl (fun _ => (nI 0))))]) (va_runS (As := [.ref hd, .int (nI 0)]) (rest := []) ⟨hx, hb, hml, hown, hB⟩ (k_Ar_fill l D hd cA 16 h (nI 0) (by decide) _) ⟨callB_of 2 hB (xg0 mc_Ar_fill) rfl rfl rfl (hB _ mz_Ar) (hB _ ml_Web_27) (by decide +kernel) ⟨Nat.le_of_ble_eq_true rfl, Nat.le_of_ble_eq_true rfl⟩, hB _ ms_Ar_fill⟩ (xqS (ws := [(hd, .inl (cA, 16, .inl h))]) (tys := [(cA, .int)]) (hP.sub [1] rfl) (hD.sub [1] (by decide) rfl) (hK.sub [0] rfl) hN) rfl rfl hl.1 rfl (lv_room (Nat.le_of_ble_eq_true rfl)) d_Web_takeAll_5 ⟨Nat.le_of_ble_eq_true rfl, Nat.le_of_ble_eq_true rfl⟩) hP hD hS hA [1] [0] rfl rfl (by decide) (by decide) (fun H locs hP hD hS => ?_)
  have hP : va_P D cls [(w, .inr (1, [.ref hd, .int ct])), (hd, .inl (cA, 16, .inl (fun _ => (nI 0))))] H := hP
  have hD : va_D A [(w, .inr (1, [.ref hd, .int ct])), (hd, .inl (cA, 16, .inl (fun _ => (nI 0))))] := hD
  refine lv_aload_n hx hb d_Web_takeAll_8 rfl (lv_at hl 0 rfl) ?_
  refine lv_iconst (v := nI 0) hx hb d_Web_takeAll_9 (by decide) ?_
  refine va_put (D := D) (ci := 1) (v := .int (nI 0)) (ty := .int) (C := R_Web) (T := F_Web) (N := 2) hx hb hB in_Web t_Web t_Web_ok n_Web hown hK hP hD hS 0 rfl rfl 1 (by decide) (hB _ mf_Web_15) (fun _ h9 => h9) rfl (by decide +kernel) rfl rfl (Nat.le_of_ble_eq_true rfl) d_Web_takeAll_10 (fun H locs hP hD hS => ?_)
  have hP : va_P D cls [(w, .inr (1, [.ref hd, .int (nI 0)])), (hd, .inl (cA, 16, .inl (fun _ => (nI 0))))] H := hP
  have hD : va_D A [(w, .inr (1, [.ref hd, .int (nI 0)])), (hd, .inl (cA, 16, .inl (fun _ => (nI 0))))] := hD
  have hP9 := hP.sub (ws' := [(w, .inr (1, [.ref hd, .int (nI 0)])), (hd, .inl (cA, 16, .inl (fun _ => nI 0)))]) [0, 1] rfl
  have hD9 := hD.sub (ws' := [(w, .inr (1, [.ref hd, .int (nI 0)])), (hd, .inl (cA, 16, .inl (fun _ => nI 0)))]) [0, 1] (by decide) rfl
  subst hAe
  exact W.vret hx hb hr (fun t ht hW => ⟨⟨(), rfl, trivial, by rw [ht]; exact hP9, va_K.moved hW.alike hK, hD9⟩, hS.F ht⟩) hS.2.2 d_Web_takeAll_13
set_option maxHeartbeats 4000000 in
set_option maxRecDepth 100000 in
theorem k_Wy_readTo (l : Launch) (D : va_G) (yw la : Nat) (cL : ClassId) (lf : Nat → Int32) (w hd : Nat) (cA : ClassId) (ct : Int32) (h : Nat → Int32) (v : Nat) (hv : v < 16) (sz : Nat) : Met l y_Wy_readTo (Cond.code y_Wy_readTo c_Wy_readTo 4 none :: BS) { frames := 2, cells := 0, slots := 0, locals := 44 } (va_Pc [.ref yw, .int (nI v), .ref w] (xWp D [(yw, .inr (3, [.ref la])), (la, .inl (cL, 16, .inl lf)), (w, .inr (1, [.ref hd, .int ct])), (hd, .inl (cA, 16, .inl h))] [(cL, .int), (cA, .int)] sz)) (xQv D [(yw, .inr (3, [.ref la])), (la, .inl (cL, 16, .inl lf)), (w, .inr (1, [.ref hd, .int ct])), (hd, .inl (cA, 16, .inl h))] [(yw, .inr (3, [.ref la])), (la, .inl (cL, 16, .inl (ly h v))), (w, .inr (1, [.ref hd, .int ct])), (hd, .inl (cA, 16, .inl h))] [(cL, .int), (cA, .int)] sz) 0 0 (va_A [(yw, .inr (3, [.ref la])), (la, .inl (cL, 16, .inl lf)), (w, .inr (1, [.ref hd, .int ct])), (hd, .inl (cA, 16, .inl h))] sz) := by
  refine Met.ofW (cc := c_Wy_readTo) (maxL := 4) (ret := none) (by decide) rfl ?_
  intro p e s m args below meth c s₁ B hml hv
  obtain ⟨rfl, hsz, hP, hK, hD0, hN⟩ := hv
  have hx := B.exec
  have hb := B.bytes
  have hr := B.returns
  have hB := xB B.pre
  have hown : s.vm.findClass R_Wy = some m.cls := findClass_of_methodNamed B.named
  have hlocks := B.notSynchronized
  subst hsz
  have hD := hD0.self (sz := s.heap.size)
  obtain ⟨A, hAe⟩ : ∃ A, A = va_A [(yw, .inr (3, [.ref la])), (la, .inl (cL, 16, .inl lf)), (w, .inr (1, [.ref hd, .int ct])), (hd, .inl (cA, 16, .inl h))] s.heap.size := ⟨_, rfl⟩
  rw [← hAe] at hD
  have hA : ∀ q : Nat, s.heap.size ≤ q → A q := fun q h => by rw [hAe]; exact Or.inr h
  have hS : va_S A s.heap s.heap [] := va_S.rf
  have hl := lv_entry ([.ref yw, .int (nI v), .ref w]) (n := 4) (Nat.le_of_ble_eq_true rfl)
  rw [lg_entry_eq]
  generalize (lg_sl ([.ref yw, .int (nI v), .ref w]) ++ List.replicate (4 - (lg_sl ([.ref yw, .int (nI v), .ref w])).length) Slot.unset).toArray = ls at hl ⊢
  have hl : lv_has ls 4 [(0, .ref yw), (1, .int (nI v)), (2, .ref w)] := hl
  refine lv_aload_n hx hb d_Wy_readTo_0 rfl (lv_at hl 0 rfl) ?_
  refine va_get (D := D) (ci := 3) (v := .ref la) (C := R_Wy) (T := F_Wy) (N := 1) hx hb hB in_Wy hown hK hP 0 rfl rfl 0 (by decide) (hB _ mf_Wy_9) (fun _ h9 => h9) rfl d_Wy_readTo_1 ?_
  refine lv_iconst (v := nI 0) hx hb d_Wy_readTo_4 (by decide) ?_
  refine lv_iload_n hx hb d_Wy_readTo_5 rfl (lv_at hl 1 rfl) ?_
  refine xr_cal (va_runSN (As := [.int (nI v)]) (rest := [.int (nI 0), .ref la]) ⟨hx, hb, hml, hown, hB⟩ (k_A_only l D v) ⟨va_cnB 1 hB (xg0 mc_A_only) rfl rfl rfl (xn_Wy_15 hN) (hB _ mz_A) (by decide +kernel) ⟨Nat.le_of_ble_eq_true rfl, Nat.le_of_ble_eq_true rfl⟩, hB _ ms_A_only, trivial⟩ (xpS (ws := []) (tys := []) (hP.sub [] rfl) (hK.sub [] rfl) hN) rfl rfl hl.1 rfl (lv_room (Nat.le_of_ble_eq_true rfl)) d_Wy_readTo_6 ⟨Nat.le_of_ble_eq_true rfl, Nat.le_of_ble_eq_true rfl⟩) ?_
  refine xa_st (u := 0) hx hb hK hP hD hS 1 0 rfl rfl (by decide) (by decide) d_Wy_readTo_9 (fun H locs hP hD hS => ?_)
  have hP : va_P D cls [(yw, .inr (3, [.ref la])), (la, .inl (cL, 16, .inl (upd lf 0 (bit v)))), (w, .inr (1, [.ref hd, .int ct])), (hd, .inl (cA, 16, .inl h))] H := hP
  have hD : va_D A [(yw, .inr (3, [.ref la])), (la, .inl (cL, 16, .inl (upd lf 0 (bit v)))), (w, .inr (1, [.ref hd, .int ct])), (hd, .inl (cA, 16, .inl h))] := hD
  refine lv_iconst (v := nI 1) hx hb d_Wy_readTo_10 (by decide) ?_
  refine lv_istore_n hx hb d_Wy_readTo_11 rfl hl (by decide) rfl (fun ls hl => ?_)
  have hl : lv_has ls 4 [(3, .int (nI 1)), (0, .ref yw), (1, .int (nI v)), (2, .ref w)] := hl
  have hz : (upd lf 0 (bit v)) = (fun k => if k < 0 + 1 then ly h v k else lf k) := upd_0f rfl
  rw [hz] at hP hD
  refine xl_w (fun (n : Nat) ls H locs => ((n ≤ 15)) ∧ lv_has ls 4 [(3, .int (nI (n + 1))), (0, .ref yw), (1, .int (nI v)), (2, .ref w)] ∧ va_P D cls [(yw, .inr (3, [.ref la])), (la, .inl (cL, 16, .inl (fun k => if k < n + 1 then ly h v k else lf k))), (w, .inr (1, [.ref hd, .int ct])), (hd, .inl (cA, 16, .inl h))] H ∧ va_D A [(yw, .inr (3, [.ref la])), (la, .inl (cL, 16, .inl (fun k => if k < n + 1 then ly h v k else lf k))), (w, .inr (1, [.ref hd, .int ct])), (hd, .inl (cA, 16, .inl h))] ∧ va_S A s.heap H locs) (fun n => 15 - n) (fun n ls H locs hI ih12 => ?_) 0 _ ⟨Nat.zero_le _, hl, hP, hD, hS⟩
  obtain ⟨hI, hl, hP, hD, hS⟩ := hI
  have hn := hI
  refine lv_iload_n hx hb d_Wy_readTo_12 rfl (lv_at hl 0 rfl) ?_
  refine lv_bipush (v := nI 16) hx hb d_Wy_readTo_13 (by decide) ?_
  refine lv_icmp_ge (tgt := 42) hx hb d_Wy_readTo_15 rfl (fun hc15 => ?_) (fun hc15 => ?_)
  · have hc15 : 16 ≤ (n + 1) := (nI_leI (by omega) (by omega)).mp hc15
    have hP := xP_ext hP 1 (ly h v) rfl (fun j9 hj9 => if_pos (by omega))
    have hD := xD_ext hD 1 (y := .inl (cL, 16, .inl (ly h v))) rfl
    have hP : va_P D cls [(yw, .inr (3, [.ref la])), (la, .inl (cL, 16, .inl (ly h v))), (w, .inr (1, [.ref hd, .int ct])), (hd, .inl (cA, 16, .inl h))] _ := hP
    have hD : va_D A [(yw, .inr (3, [.ref la])), (la, .inl (cL, 16, .inl (ly h v))), (w, .inr (1, [.ref hd, .int ct])), (hd, .inl (cA, 16, .inl h))] := hD
    have hP9 := hP.sub (ws' := [(yw, .inr (3, [.ref la])), (la, .inl (cL, 16, .inl (ly h v))), (w, .inr (1, [.ref hd, .int ct])), (hd, .inl (cA, 16, .inl h))]) [0, 1, 2, 3] rfl
    have hD9 := hD.sub (ws' := [(yw, .inr (3, [.ref la])), (la, .inl (cL, 16, .inl (ly h v))), (w, .inr (1, [.ref hd, .int ct])), (hd, .inl (cA, 16, .inl h))]) [0, 1, 2, 3] (by decide) rfl
    subst hAe
    exact W.vret hx hb hr (fun t ht hW => ⟨⟨(), rfl, trivial, by rw [ht]; exact hP9, va_K.moved hW.alike hK, hD9⟩, hS.F ht⟩) hS.2.2 d_Wy_readTo_42
  · have hc15 : ¬ (16 ≤ (n + 1)) := fun q9 => hc15 ((nI_leI (by omega) (by omega)).mpr q9)
    refine lv_aload_n hx hb d_Wy_readTo_18 rfl (lv_at hl 1 rfl) ?_
    refine va_get (D := D) (ci := 3) (v := .ref la) (C := R_Wy) (T := F_Wy) (N := 1) hx hb hB in_Wy hown hK hP 0 rfl rfl 0 (by decide) (hB _ mf_Wy_9) (fun _ h9 => h9) rfl d_Wy_readTo_19 ?_
    refine lv_iload_n hx hb d_Wy_readTo_22 rfl (lv_at hl 0 rfl) ?_
    refine lv_aload_n hx hb d_Wy_readTo_23 rfl (lv_at hl 1 rfl) ?_
    refine va_get (D := D) (ci := 3) (v := .ref la) (C := R_Wy) (T := F_Wy) (N := 1) hx hb hB in_Wy hown hK hP 0 rfl rfl 0 (by decide) (hB _ mf_Wy_9) (fun _ h9 => h9) rfl d_Wy_readTo_24 ?_
    refine lv_iload_n hx hb d_Wy_readTo_27 rfl (lv_at hl 0 rfl) ?_
    refine lv_iconst (v := nI 1) hx hb d_Wy_readTo_28 (by decide) ?_
    refine lv_isub hx hb d_Wy_readTo_29 ?_
    refine xv_top (x' := nI n) (by rw [pk_sub (by omega)]; rfl) ?_
    refine xa_ld (u := n) hx hb hK hP 1 0 rfl rfl (by omega) (by decide) d_Wy_readTo_30 ?_
    refine xv_top (x' := ly h v n) (if_pos (by omega)) ?_
    refine lv_aload_n hx hb d_Wy_readTo_31 rfl (lv_at hl 3 rfl) ?_
    refine xr_cal (va_runS (As := [.int (ly h v n), .ref w]) (rest := [.int (nI (n + 1)), .ref la]) ⟨hx, hb, hml, hown, hB⟩ (k_Wy_tailsInto l D w hd cA ct h (ly h v n)) ⟨callB_of 2 hB (xg0 mc_Wy_tailsInto) rfl rfl rfl (hB _ mz_Wy) (hB _ ml_Wy_19) (by decide +kernel) ⟨Nat.le_of_ble_eq_true rfl, Nat.le_of_ble_eq_true rfl⟩, hB _ ms_Wy_tailsInto⟩ (xpS (ws := [(w, .inr (1, [.ref hd, .int ct])), (hd, .inl (cA, 16, .inl h))]) (tys := [(cA, .int)]) (hP.sub [2, 3] rfl) (hK.sub [1] rfl) hN) rfl rfl hl.1 rfl (lv_room (Nat.le_of_ble_eq_true rfl)) d_Wy_readTo_32 ⟨Nat.le_of_ble_eq_true rfl, Nat.le_of_ble_eq_true rfl⟩) ?_
    refine xv_top (x' := ly h v (n + 1)) (rfl) ?_
    refine xa_st (u := (n + 1)) hx hb hK hP hD hS 1 0 rfl rfl (by omega) (by decide) d_Wy_readTo_35 (fun H locs hP hD hS => ?_)
    have hP : va_P D cls [(yw, .inr (3, [.ref la])), (la, .inl (cL, 16, .inl (upd (fun k => if k < n + 1 then ly h v k else lf k) (n + 1) (ly h v (n + 1))))), (w, .inr (1, [.ref hd, .int ct])), (hd, .inl (cA, 16, .inl h))] H := hP
    have hD : va_D A [(yw, .inr (3, [.ref la])), (la, .inl (cL, 16, .inl (upd (fun k => if k < n + 1 then ly h v k else lf k) (n + 1) (ly h v (n + 1))))), (w, .inr (1, [.ref hd, .int ct])), (hd, .inl (cA, 16, .inl h))] := hD
    have hz : (upd (fun k => if k < n + 1 then ly h v k else lf k) (n + 1) (ly h v (n + 1))) = (fun k => if k < n + 1 + 1 then ly h v k else lf k) := upd_ltf rfl
    rw [hz] at hP hD
    refine lv_iinc hx hb d_Wy_readTo_36 hl (k := 0) rfl (v := nI ((n + 1) + 1)) (nI_1 (n + 1)) (by decide) rfl (fun ls hl => ?_)
    have hl : lv_has ls 4 [(3, .int (nI ((n + 1) + 1))), (0, .ref yw), (1, .int (nI v)), (2, .ref w)] := hl
    refine lv_goto (tgt := 12) hx hb d_Wy_readTo_39 rfl ?_
    exact ih12 (n + 1) _ H locs ⟨by omega, lv_sub hl [0, 1, 2, 3] rfl, hP, hD, hS⟩ (by omega)
set_option maxHeartbeats 4000000 in
set_option maxRecDepth 100000 in
theorem k_Gr_readReached (l : Launch) (D : va_G) (g g0 g1 g2 g3 g4 g5 : Nat) (k0 k1 k2 k3 k4 k5 : ClassId) (gc : Int32) (rE nM lD bF oR cH : Nat → Int32) (w hd : Nat) (cA : ClassId) (ct : Int32) (h : Nat → Int32) (hg : gd h) (sz : Nat) : Met l y_Gr_readReached (Cond.code y_Gr_readReached c_Gr_readReached 4 none :: BS) { frames := 1, cells := 0, slots := 0, locals := 21 } (va_Pc [.ref g, .ref w] (xWp D [(g, .inr (2, [.ref g0, .ref g1, .ref g2, .ref g3, .ref g4, .ref g5, .int gc])), (g0, .inl (k0, 16, .inl rE)), (g1, .inl (k1, 16, .inl nM)), (g2, .inl (k2, 16, .inl lD)), (g3, .inl (k3, 16, .inl bF)), (g4, .inl (k4, 16, .inl oR)), (g5, .inl (k5, 16, .inl cH)), (w, .inr (1, [.ref hd, .int ct])), (hd, .inl (cA, 16, .inl h))] [(k0, .int), (k1, .int), (k2, .int), (k3, .int), (k4, .int), (k5, .int), (cA, .int)] sz)) (xQv D [(g, .inr (2, [.ref g0, .ref g1, .ref g2, .ref g3, .ref g4, .ref g5, .int gc])), (g0, .inl (k0, 16, .inl rE)), (g1, .inl (k1, 16, .inl nM)), (g2, .inl (k2, 16, .inl lD)), (g3, .inl (k3, 16, .inl bF)), (g4, .inl (k4, 16, .inl oR)), (g5, .inl (k5, 16, .inl cH)), (w, .inr (1, [.ref hd, .int ct])), (hd, .inl (cA, 16, .inl h))] [(g, .inr (2, [.ref g0, .ref g1, .ref g2, .ref g3, .ref g4, .ref g5, .int gc])), (g0, .inl (k0, 16, .inl (RE h))), (g1, .inl (k1, 16, .inl nM)), (g2, .inl (k2, 16, .inl lD)), (g3, .inl (k3, 16, .inl bF)), (g4, .inl (k4, 16, .inl oR)), (g5, .inl (k5, 16, .inl cH)), (w, .inr (1, [.ref hd, .int ct])), (hd, .inl (cA, 16, .inl h))] [(k0, .int), (k1, .int), (k2, .int), (k3, .int), (k4, .int), (k5, .int), (cA, .int)] sz) 0 0 (va_A [(g, .inr (2, [.ref g0, .ref g1, .ref g2, .ref g3, .ref g4, .ref g5, .int gc])), (g0, .inl (k0, 16, .inl rE)), (g1, .inl (k1, 16, .inl nM)), (g2, .inl (k2, 16, .inl lD)), (g3, .inl (k3, 16, .inl bF)), (g4, .inl (k4, 16, .inl oR)), (g5, .inl (k5, 16, .inl cH)), (w, .inr (1, [.ref hd, .int ct])), (hd, .inl (cA, 16, .inl h))] sz) := by
  refine Met.ofW (cc := c_Gr_readReached) (maxL := 4) (ret := none) (by decide) rfl ?_
  intro p e s m args below meth c s₁ B hml hv
  obtain ⟨rfl, hsz, hP, hK, hD0, hN⟩ := hv
  have hx := B.exec
  have hb := B.bytes
  have hr := B.returns
  have hB := xB B.pre
  have hown : s.vm.findClass R_Gr = some m.cls := findClass_of_methodNamed B.named
  have hlocks := B.notSynchronized
  subst hsz
  have hD := hD0.self (sz := s.heap.size)
  obtain ⟨A, hAe⟩ : ∃ A, A = va_A [(g, .inr (2, [.ref g0, .ref g1, .ref g2, .ref g3, .ref g4, .ref g5, .int gc])), (g0, .inl (k0, 16, .inl rE)), (g1, .inl (k1, 16, .inl nM)), (g2, .inl (k2, 16, .inl lD)), (g3, .inl (k3, 16, .inl bF)), (g4, .inl (k4, 16, .inl oR)), (g5, .inl (k5, 16, .inl cH)), (w, .inr (1, [.ref hd, .int ct])), (hd, .inl (cA, 16, .inl h))] s.heap.size := ⟨_, rfl⟩
  rw [← hAe] at hD
  have hA : ∀ q : Nat, s.heap.size ≤ q → A q := fun q h => by rw [hAe]; exact Or.inr h
  have hS : va_S A s.heap s.heap [] := va_S.rf
  have hl := lv_entry ([.ref g, .ref w]) (n := 4) (Nat.le_of_ble_eq_true rfl)
  rw [lg_entry_eq]
  generalize (lg_sl ([.ref g, .ref w]) ++ List.replicate (4 - (lg_sl ([.ref g, .ref w])).length) Slot.unset).toArray = ls at hl ⊢
  have hl : lv_has ls 4 [(0, .ref g), (1, .ref w)] := hl
  refine lv_iconst (v := nI 0) hx hb d_Gr_readReached_0 (by decide) ?_
  refine lv_istore_n hx hb d_Gr_readReached_1 rfl hl (by decide) rfl (fun ls hl => ?_)
  have hl : lv_has ls 4 [(2, .int (nI 0)), (0, .ref g), (1, .ref w)] := hl
  have hz : rE = (fun k => if k < 0 then ws0 h k else rE k) := lt0_f
  rw [hz] at hP hD
  refine xl_w (fun (u : Nat) ls H locs => ((u ≤ 16)) ∧ lv_has ls 4 [(2, .int (nI u)), (0, .ref g), (1, .ref w)] ∧ va_P D cls [(g, .inr (2, [.ref g0, .ref g1, .ref g2, .ref g3, .ref g4, .ref g5, .int gc])), (g0, .inl (k0, 16, .inl (fun k => if k < u then ws0 h k else rE k))), (g1, .inl (k1, 16, .inl nM)), (g2, .inl (k2, 16, .inl lD)), (g3, .inl (k3, 16, .inl bF)), (g4, .inl (k4, 16, .inl oR)), (g5, .inl (k5, 16, .inl cH)), (w, .inr (1, [.ref hd, .int ct])), (hd, .inl (cA, 16, .inl h))] H ∧ va_D A [(g, .inr (2, [.ref g0, .ref g1, .ref g2, .ref g3, .ref g4, .ref g5, .int gc])), (g0, .inl (k0, 16, .inl (fun k => if k < u then ws0 h k else rE k))), (g1, .inl (k1, 16, .inl nM)), (g2, .inl (k2, 16, .inl lD)), (g3, .inl (k3, 16, .inl bF)), (g4, .inl (k4, 16, .inl oR)), (g5, .inl (k5, 16, .inl cH)), (w, .inr (1, [.ref hd, .int ct])), (hd, .inl (cA, 16, .inl h))] ∧ va_S A s.heap H locs) (fun u => 16 - u) (fun u ls H locs hI ih2 => ?_) 0 _ ⟨Nat.zero_le _, hl, hP, hD, hS⟩
  obtain ⟨hI, hl, hP, hD, hS⟩ := hI
  have hu := hI
  refine lv_iload_n hx hb d_Gr_readReached_2 rfl (lv_at hl 0 rfl) ?_
  refine lv_bipush (v := nI 16) hx hb d_Gr_readReached_3 (by decide) ?_
  refine lv_icmp_ge (tgt := 30) hx hb d_Gr_readReached_5 rfl (fun hc5 => ?_) (fun hc5 => ?_)
  · have hc5 : 16 ≤ u := (nI_leI (by omega) (by omega)).mp hc5
    have hP := xP_ext hP 1 (ws0 h) rfl (fun j9 hj9 => if_pos (by omega))
    have hD := xD_ext hD 1 (y := .inl (k0, 16, .inl (ws0 h))) rfl
    have hP : va_P D cls [(g, .inr (2, [.ref g0, .ref g1, .ref g2, .ref g3, .ref g4, .ref g5, .int gc])), (g0, .inl (k0, 16, .inl (ws0 h))), (g1, .inl (k1, 16, .inl nM)), (g2, .inl (k2, 16, .inl lD)), (g3, .inl (k3, 16, .inl bF)), (g4, .inl (k4, 16, .inl oR)), (g5, .inl (k5, 16, .inl cH)), (w, .inr (1, [.ref hd, .int ct])), (hd, .inl (cA, 16, .inl h))] _ := hP
    have hD : va_D A [(g, .inr (2, [.ref g0, .ref g1, .ref g2, .ref g3, .ref g4, .ref g5, .int gc])), (g0, .inl (k0, 16, .inl (ws0 h))), (g1, .inl (k1, 16, .inl nM)), (g2, .inl (k2, 16, .inl lD)), (g3, .inl (k3, 16, .inl bF)), (g4, .inl (k4, 16, .inl oR)), (g5, .inl (k5, 16, .inl cH)), (w, .inr (1, [.ref hd, .int ct])), (hd, .inl (cA, 16, .inl h))] := hD
    refine lv_iconst (v := nI 0) hx hb d_Gr_readReached_30 (by decide) ?_
    refine lv_istore_n hx hb d_Gr_readReached_31 rfl hl (by decide) rfl (fun ls hl => ?_)
    have hl : lv_has ls 4 [(2, .int (nI 0)), (0, .ref g), (1, .ref w)] := hl
    have hz : (ws0 h) = (wsh h 0) := rfl
    rw [hz] at hP hD
    refine xl_w (fun (m9 : Nat) ls H locs => ((m9 ≤ 16)) ∧ lv_has ls 4 [(2, .int (nI m9)), (0, .ref g), (1, .ref w)] ∧ va_P D cls [(g, .inr (2, [.ref g0, .ref g1, .ref g2, .ref g3, .ref g4, .ref g5, .int gc])), (g0, .inl (k0, 16, .inl (wsh h m9))), (g1, .inl (k1, 16, .inl nM)), (g2, .inl (k2, 16, .inl lD)), (g3, .inl (k3, 16, .inl bF)), (g4, .inl (k4, 16, .inl oR)), (g5, .inl (k5, 16, .inl cH)), (w, .inr (1, [.ref hd, .int ct])), (hd, .inl (cA, 16, .inl h))] H ∧ va_D A [(g, .inr (2, [.ref g0, .ref g1, .ref g2, .ref g3, .ref g4, .ref g5, .int gc])), (g0, .inl (k0, 16, .inl (wsh h m9))), (g1, .inl (k1, 16, .inl nM)), (g2, .inl (k2, 16, .inl lD)), (g3, .inl (k3, 16, .inl bF)), (g4, .inl (k4, 16, .inl oR)), (g5, .inl (k5, 16, .inl cH)), (w, .inr (1, [.ref hd, .int ct])), (hd, .inl (cA, 16, .inl h))] ∧ va_S A s.heap H locs) (fun m9 => 16 - m9) (fun m9 ls H locs hI ih32 => ?_) 0 _ ⟨Nat.zero_le _, hl, hP, hD, hS⟩
    obtain ⟨hI, hl, hP, hD, hS⟩ := hI
    have hm9 := hI
    refine lv_iload_n hx hb d_Gr_readReached_32 rfl (lv_at hl 0 rfl) ?_
    refine lv_bipush (v := nI 16) hx hb d_Gr_readReached_33 (by decide) ?_
    refine lv_icmp_ge (tgt := 86) hx hb d_Gr_readReached_35 rfl (fun hc35 => ?_) (fun hc35 => ?_)
    · have hc35 : 16 ≤ m9 := (nI_leI (by omega) (by omega)).mp hc35
      have hP := xP_ext hP 1 (RE h) rfl (fun j9 hj9 => by rw [show m9 = 16 by omega]; exact wsh_RE hg hj9)
      have hD := xD_ext hD 1 (y := .inl (k0, 16, .inl (RE h))) rfl
      have hP : va_P D cls [(g, .inr (2, [.ref g0, .ref g1, .ref g2, .ref g3, .ref g4, .ref g5, .int gc])), (g0, .inl (k0, 16, .inl (RE h))), (g1, .inl (k1, 16, .inl nM)), (g2, .inl (k2, 16, .inl lD)), (g3, .inl (k3, 16, .inl bF)), (g4, .inl (k4, 16, .inl oR)), (g5, .inl (k5, 16, .inl cH)), (w, .inr (1, [.ref hd, .int ct])), (hd, .inl (cA, 16, .inl h))] _ := hP
      have hD : va_D A [(g, .inr (2, [.ref g0, .ref g1, .ref g2, .ref g3, .ref g4, .ref g5, .int gc])), (g0, .inl (k0, 16, .inl (RE h))), (g1, .inl (k1, 16, .inl nM)), (g2, .inl (k2, 16, .inl lD)), (g3, .inl (k3, 16, .inl bF)), (g4, .inl (k4, 16, .inl oR)), (g5, .inl (k5, 16, .inl cH)), (w, .inr (1, [.ref hd, .int ct])), (hd, .inl (cA, 16, .inl h))] := hD
      have hP9 := hP.sub (ws' := [(g, .inr (2, [.ref g0, .ref g1, .ref g2, .ref g3, .ref g4, .ref g5, .int gc])), (g0, .inl (k0, 16, .inl (RE h))), (g1, .inl (k1, 16, .inl nM)), (g2, .inl (k2, 16, .inl lD)), (g3, .inl (k3, 16, .inl bF)), (g4, .inl (k4, 16, .inl oR)), (g5, .inl (k5, 16, .inl cH)), (w, .inr (1, [.ref hd, .int ct])), (hd, .inl (cA, 16, .inl h))]) [0, 1, 2, 3, 4, 5, 6, 7, 8] rfl
      have hD9 := hD.sub (ws' := [(g, .inr (2, [.ref g0, .ref g1, .ref g2, .ref g3, .ref g4, .ref g5, .int gc])), (g0, .inl (k0, 16, .inl (RE h))), (g1, .inl (k1, 16, .inl nM)), (g2, .inl (k2, 16, .inl lD)), (g3, .inl (k3, 16, .inl bF)), (g4, .inl (k4, 16, .inl oR)), (g5, .inl (k5, 16, .inl cH)), (w, .inr (1, [.ref hd, .int ct])), (hd, .inl (cA, 16, .inl h))]) [0, 1, 2, 3, 4, 5, 6, 7, 8] (by decide) rfl
      subst hAe
      exact W.vret hx hb hr (fun t ht hW => ⟨⟨(), rfl, trivial, by rw [ht]; exact hP9, va_K.moved hW.alike hK, hD9⟩, hS.F ht⟩) hS.2.2 d_Gr_readReached_86
    · have hc35 : ¬ (16 ≤ m9) := fun q9 => hc35 ((nI_leI (by omega) (by omega)).mpr q9)
      refine lv_iconst (v := nI 0) hx hb d_Gr_readReached_38 (by decide) ?_
      refine lv_istore_n hx hb d_Gr_readReached_39 rfl hl (by decide) rfl (fun ls hl => ?_)
      have hl : lv_has ls 4 [(3, .int (nI 0)), (2, .int (nI m9)), (0, .ref g), (1, .ref w)] := hl
      have hz : (wsh h m9) = (fun k => if k < 0 then wph (wsh h m9) m9 k else wsh h m9 k) := lt0_f
      rw [hz] at hP hD
      refine xl_w (fun (v : Nat) ls H locs => ((v ≤ 16)) ∧ lv_has ls 4 [(3, .int (nI v)), (2, .int (nI m9)), (0, .ref g), (1, .ref w)] ∧ va_P D cls [(g, .inr (2, [.ref g0, .ref g1, .ref g2, .ref g3, .ref g4, .ref g5, .int gc])), (g0, .inl (k0, 16, .inl (fun k => if k < v then wph (wsh h m9) m9 k else wsh h m9 k))), (g1, .inl (k1, 16, .inl nM)), (g2, .inl (k2, 16, .inl lD)), (g3, .inl (k3, 16, .inl bF)), (g4, .inl (k4, 16, .inl oR)), (g5, .inl (k5, 16, .inl cH)), (w, .inr (1, [.ref hd, .int ct])), (hd, .inl (cA, 16, .inl h))] H ∧ va_D A [(g, .inr (2, [.ref g0, .ref g1, .ref g2, .ref g3, .ref g4, .ref g5, .int gc])), (g0, .inl (k0, 16, .inl (fun k => if k < v then wph (wsh h m9) m9 k else wsh h m9 k))), (g1, .inl (k1, 16, .inl nM)), (g2, .inl (k2, 16, .inl lD)), (g3, .inl (k3, 16, .inl bF)), (g4, .inl (k4, 16, .inl oR)), (g5, .inl (k5, 16, .inl cH)), (w, .inr (1, [.ref hd, .int ct])), (hd, .inl (cA, 16, .inl h))] ∧ va_S A s.heap H locs) (fun v => 16 - v) (fun v ls H locs hI ih40 => ?_) 0 _ ⟨Nat.zero_le _, hl, hP, hD, hS⟩
      obtain ⟨hI, hl, hP, hD, hS⟩ := hI
      have hv := hI
      refine lv_iload_n hx hb d_Gr_readReached_40 rfl (lv_at hl 0 rfl) ?_
      refine lv_bipush (v := nI 16) hx hb d_Gr_readReached_41 (by decide) ?_
      refine lv_icmp_ge (tgt := 80) hx hb d_Gr_readReached_43 rfl (fun hc43 => ?_) (fun hc43 => ?_)
      · have hc43 : 16 ≤ v := (nI_leI (by omega) (by omega)).mp hc43
        have hP := xP_ext hP 1 (wsh h (m9 + 1)) rfl (fun j9 hj9 => if_pos (by omega))
        have hD := xD_ext hD 1 (y := .inl (k0, 16, .inl (wsh h (m9 + 1)))) rfl
        have hP : va_P D cls [(g, .inr (2, [.ref g0, .ref g1, .ref g2, .ref g3, .ref g4, .ref g5, .int gc])), (g0, .inl (k0, 16, .inl (wsh h (m9 + 1)))), (g1, .inl (k1, 16, .inl nM)), (g2, .inl (k2, 16, .inl lD)), (g3, .inl (k3, 16, .inl bF)), (g4, .inl (k4, 16, .inl oR)), (g5, .inl (k5, 16, .inl cH)), (w, .inr (1, [.ref hd, .int ct])), (hd, .inl (cA, 16, .inl h))] _ := hP
        have hD : va_D A [(g, .inr (2, [.ref g0, .ref g1, .ref g2, .ref g3, .ref g4, .ref g5, .int gc])), (g0, .inl (k0, 16, .inl (wsh h (m9 + 1)))), (g1, .inl (k1, 16, .inl nM)), (g2, .inl (k2, 16, .inl lD)), (g3, .inl (k3, 16, .inl bF)), (g4, .inl (k4, 16, .inl oR)), (g5, .inl (k5, 16, .inl cH)), (w, .inr (1, [.ref hd, .int ct])), (hd, .inl (cA, 16, .inl h))] := hD
        refine lv_iinc hx hb d_Gr_readReached_80 hl (k := 1) rfl (v := nI (m9 + 1)) (nI_1 m9) (by decide) rfl (fun ls hl => ?_)
        have hl : lv_has ls 4 [(2, .int (nI (m9 + 1))), (3, .int (nI v)), (0, .ref g), (1, .ref w)] := hl
        refine lv_goto (tgt := 32) hx hb d_Gr_readReached_83 rfl ?_
        exact ih32 (m9 + 1) _ H locs ⟨by omega, lv_sub hl [0, 2, 3] rfl, hP, hD, hS⟩ (by omega)
      · have hc43 : ¬ (16 ≤ v) := fun q9 => hc43 ((nI_leI (by omega) (by omega)).mpr q9)
        refine lv_aload_n hx hb d_Gr_readReached_46 rfl (lv_at hl 2 rfl) ?_
        refine va_get (D := D) (ci := 2) (v := .ref g0) (C := R_Gr) (T := F_Gr) (N := 7) hx hb hB in_Gr hown hK hP 0 rfl rfl 0 (by decide) (hB _ mf_Gr_9) (fun _ h9 => h9) rfl d_Gr_readReached_47 ?_
        refine lv_iload_n hx hb d_Gr_readReached_50 rfl (lv_at hl 0 rfl) ?_
        refine xa_ld (u := v) hx hb hK hP 1 0 rfl rfl (by omega) (by decide) d_Gr_readReached_51 ?_
        refine xv_top (x' := wsh h m9 v) (if_neg (by omega)) ?_
        refine lv_iload_n hx hb d_Gr_readReached_52 rfl (lv_at hl 1 rfl) ?_
        refine xr_cal (va_runSN (As := [.int (wsh h m9 v), .int (nI m9)]) (rest := []) ⟨hx, hb, hml, hown, hB⟩ (k_A_has l D (wsh h m9 v) m9 (by omega)) ⟨va_cnB 2 hB (xg0 mc_A_has) rfl rfl rfl (xn_Gr_53 hN) (hB _ mz_A) (by decide +kernel) ⟨Nat.le_of_ble_eq_true rfl, Nat.le_of_ble_eq_true rfl⟩, hB _ ms_A_has, trivial⟩ (xpS (ws := []) (tys := []) (hP.sub [] rfl) (hK.sub [] rfl) hN) rfl rfl hl.1 rfl (lv_room (Nat.le_of_ble_eq_true rfl)) d_Gr_readReached_53 ⟨Nat.le_of_ble_eq_true rfl, Nat.le_of_ble_eq_true rfl⟩) ?_
        refine lv_if_eq (tgt := 74) hx hb d_Gr_readReached_56 rfl (fun hc56 => ?_) (fun hc56 => ?_)
        · have hc56 := b2i_0.mp hc56
          have hz : (fun k => if k < v then wph (wsh h m9) m9 k else wsh h m9 k) = (fun k => if k < v + 1 then wph (wsh h m9) m9 k else wsh h m9 k) := keep_lt (if_neg (by rw [hc56]; decide))
          rw [hz] at hP hD
          refine lv_iinc hx hb d_Gr_readReached_74 hl (k := 0) rfl (v := nI (v + 1)) (nI_1 v) (by decide) rfl (fun ls hl => ?_)
          have hl : lv_has ls 4 [(3, .int (nI (v + 1))), (2, .int (nI m9)), (0, .ref g), (1, .ref w)] := hl
          refine lv_goto (tgt := 40) hx hb d_Gr_readReached_77 rfl ?_
          exact ih40 (v + 1) _ H locs ⟨by omega, lv_sub hl [0, 1, 2, 3] rfl, hP, hD, hS⟩ (by omega)
        · have hc56 := b2i_n.mp hc56
          refine lv_aload_n hx hb d_Gr_readReached_59 rfl (lv_at hl 2 rfl) ?_
          refine va_get (D := D) (ci := 2) (v := .ref g0) (C := R_Gr) (T := F_Gr) (N := 7) hx hb hB in_Gr hown hK hP 0 rfl rfl 0 (by decide) (hB _ mf_Gr_9) (fun _ h9 => h9) rfl d_Gr_readReached_60 ?_
          refine lv_iload_n hx hb d_Gr_readReached_63 rfl (lv_at hl 0 rfl) ?_
          refine lv_dup2_11 hx hb d_Gr_readReached_64 rfl rfl ?_
          refine xa_ld (u := v) hx hb hK hP 1 0 rfl rfl (by omega) (by decide) d_Gr_readReached_65 ?_
          refine xv_top (x' := wsh h m9 v) (if_neg (by omega)) ?_
          refine lv_aload_n hx hb d_Gr_readReached_66 rfl (lv_at hl 2 rfl) ?_
          refine va_get (D := D) (ci := 2) (v := .ref g0) (C := R_Gr) (T := F_Gr) (N := 7) hx hb hB in_Gr hown hK hP 0 rfl rfl 0 (by decide) (hB _ mf_Gr_9) (fun _ h9 => h9) rfl d_Gr_readReached_67 ?_
          refine lv_iload_n hx hb d_Gr_readReached_70 rfl (lv_at hl 1 rfl) ?_
          refine xa_ld (u := m9) hx hb hK hP 1 0 rfl rfl (by omega) (by decide) d_Gr_readReached_71 ?_
          refine xv_top (x' := wsh h m9 m9) (by (try dsimp only); split; exact wph_self; rfl) ?_
          refine lv_ior hx hb d_Gr_readReached_72 ?_
          refine xv_top (x' := wph (wsh h m9) m9 v) ((if_pos hc56).symm) ?_
          refine xa_st (u := v) hx hb hK hP hD hS 1 0 rfl rfl (by omega) (by decide) d_Gr_readReached_73 (fun H locs hP hD hS => ?_)
          have hP : va_P D cls [(g, .inr (2, [.ref g0, .ref g1, .ref g2, .ref g3, .ref g4, .ref g5, .int gc])), (g0, .inl (k0, 16, .inl (upd (fun k => if k < v then wph (wsh h m9) m9 k else wsh h m9 k) v (wph (wsh h m9) m9 v)))), (g1, .inl (k1, 16, .inl nM)), (g2, .inl (k2, 16, .inl lD)), (g3, .inl (k3, 16, .inl bF)), (g4, .inl (k4, 16, .inl oR)), (g5, .inl (k5, 16, .inl cH)), (w, .inr (1, [.ref hd, .int ct])), (hd, .inl (cA, 16, .inl h))] H := hP
          have hD : va_D A [(g, .inr (2, [.ref g0, .ref g1, .ref g2, .ref g3, .ref g4, .ref g5, .int gc])), (g0, .inl (k0, 16, .inl (upd (fun k => if k < v then wph (wsh h m9) m9 k else wsh h m9 k) v (wph (wsh h m9) m9 v)))), (g1, .inl (k1, 16, .inl nM)), (g2, .inl (k2, 16, .inl lD)), (g3, .inl (k3, 16, .inl bF)), (g4, .inl (k4, 16, .inl oR)), (g5, .inl (k5, 16, .inl cH)), (w, .inr (1, [.ref hd, .int ct])), (hd, .inl (cA, 16, .inl h))] := hD
          have hz : (upd (fun k => if k < v then wph (wsh h m9) m9 k else wsh h m9 k) v (wph (wsh h m9) m9 v)) = (fun k => if k < v + 1 then wph (wsh h m9) m9 k else wsh h m9 k) := upd_ltf rfl
          rw [hz] at hP hD
          refine lv_iinc hx hb d_Gr_readReached_74 hl (k := 0) rfl (v := nI (v + 1)) (nI_1 v) (by decide) rfl (fun ls hl => ?_)
          have hl : lv_has ls 4 [(3, .int (nI (v + 1))), (2, .int (nI m9)), (0, .ref g), (1, .ref w)] := hl
          refine lv_goto (tgt := 40) hx hb d_Gr_readReached_77 rfl ?_
          exact ih40 (v + 1) _ H locs ⟨by omega, lv_sub hl [0, 1, 2, 3] rfl, hP, hD, hS⟩ (by omega)
  · have hc5 : ¬ (16 ≤ u) := fun q9 => hc5 ((nI_leI (by omega) (by omega)).mpr q9)
    refine lv_aload_n hx hb d_Gr_readReached_8 rfl (lv_at hl 1 rfl) ?_
    refine va_get (D := D) (ci := 2) (v := .ref g0) (C := R_Gr) (T := F_Gr) (N := 7) hx hb hB in_Gr hown hK hP 0 rfl rfl 0 (by decide) (hB _ mf_Gr_9) (fun _ h9 => h9) rfl d_Gr_readReached_9 ?_
    refine lv_iload_n hx hb d_Gr_readReached_12 rfl (lv_at hl 0 rfl) ?_
    refine lv_iload_n hx hb d_Gr_readReached_13 rfl (lv_at hl 0 rfl) ?_
    refine xr_cal (va_runSN (As := [.int (nI u)]) (rest := [.int (nI u), .ref g0]) ⟨hx, hb, hml, hown, hB⟩ (k_A_only l D u) ⟨va_cnB 1 hB (xg0 mc_A_only) rfl rfl rfl (xn_Gr_57 hN) (hB _ mz_A) (by decide +kernel) ⟨Nat.le_of_ble_eq_true rfl, Nat.le_of_ble_eq_true rfl⟩, hB _ ms_A_only, trivial⟩ (xpS (ws := []) (tys := []) (hP.sub [] rfl) (hK.sub [] rfl) hN) rfl rfl hl.1 rfl (lv_room (Nat.le_of_ble_eq_true rfl)) d_Gr_readReached_14 ⟨Nat.le_of_ble_eq_true rfl, Nat.le_of_ble_eq_true rfl⟩) ?_
    refine lv_aload_n hx hb d_Gr_readReached_17 rfl (lv_at hl 2 rfl) ?_
    refine lv_iload_n hx hb d_Gr_readReached_18 rfl (lv_at hl 0 rfl) ?_
    refine xr_cal (va_runV (As := [.int (nI u)]) (rest := [.int (bit u), .int (nI u), .ref g0]) ⟨hx, hb, hml, hown, hB⟩ (k_Web_headsOf l D w hd cA ct h u (by omega)) ⟨callB_of 1 hB (xg0 mc_Web_headsOf) rfl rfl rfl (hB _ mz_Web) (hB _ ml_Gr_72) (by decide +kernel) ⟨Nat.le_of_ble_eq_true rfl, Nat.le_of_ble_eq_true rfl⟩, hB _ mi_Web_headsOf, hB _ me_Web_headsOf⟩ (xpV (ws := [(w, .inr (1, [.ref hd, .int ct])), (hd, .inl (cA, 16, .inl h))]) (tys := [(cA, .int)]) (hP.sub [7, 8] rfl) (hK.sub [6] rfl) hN (va_recv (ci := 1) (q0 := 7) (q := (R_Web, F_Web, 2)) hK hP rfl rfl)) rfl rfl hl.1 rfl (lv_room (Nat.le_of_ble_eq_true rfl)) d_Gr_readReached_19 ⟨Nat.le_of_ble_eq_true rfl, Nat.le_of_ble_eq_true rfl⟩) ?_
    refine lv_ior hx hb d_Gr_readReached_22 ?_
    refine xa_st (u := u) hx hb hK hP hD hS 1 0 rfl rfl (by omega) (by decide) d_Gr_readReached_23 (fun H locs hP hD hS => ?_)
    have hP : va_P D cls [(g, .inr (2, [.ref g0, .ref g1, .ref g2, .ref g3, .ref g4, .ref g5, .int gc])), (g0, .inl (k0, 16, .inl (upd (fun k => if k < u then ws0 h k else rE k) u ((bit u) ||| (h u))))), (g1, .inl (k1, 16, .inl nM)), (g2, .inl (k2, 16, .inl lD)), (g3, .inl (k3, 16, .inl bF)), (g4, .inl (k4, 16, .inl oR)), (g5, .inl (k5, 16, .inl cH)), (w, .inr (1, [.ref hd, .int ct])), (hd, .inl (cA, 16, .inl h))] H := hP
    have hD : va_D A [(g, .inr (2, [.ref g0, .ref g1, .ref g2, .ref g3, .ref g4, .ref g5, .int gc])), (g0, .inl (k0, 16, .inl (upd (fun k => if k < u then ws0 h k else rE k) u ((bit u) ||| (h u))))), (g1, .inl (k1, 16, .inl nM)), (g2, .inl (k2, 16, .inl lD)), (g3, .inl (k3, 16, .inl bF)), (g4, .inl (k4, 16, .inl oR)), (g5, .inl (k5, 16, .inl cH)), (w, .inr (1, [.ref hd, .int ct])), (hd, .inl (cA, 16, .inl h))] := hD
    have hz : (upd (fun k => if k < u then ws0 h k else rE k) u ((bit u) ||| (h u))) = (fun k => if k < u + 1 then ws0 h k else rE k) := upd_ltf rfl
    rw [hz] at hP hD
    refine lv_iinc hx hb d_Gr_readReached_24 hl (k := 0) rfl (v := nI (u + 1)) (nI_1 u) (by decide) rfl (fun ls hl => ?_)
    have hl : lv_has ls 4 [(2, .int (nI (u + 1))), (0, .ref g), (1, .ref w)] := hl
    refine lv_goto (tgt := 2) hx hb d_Gr_readReached_27 rfl ?_
    exact ih2 (u + 1) _ H locs ⟨by omega, lv_sub hl [0, 1, 2] rfl, hP, hD, hS⟩ (by omega)
set_option maxHeartbeats 4000000 in
set_option maxRecDepth 100000 in
theorem k_Gr_readNames (l : Launch) (D : va_G) (g g0 g1 g2 g3 g4 g5 : Nat) (k0 k1 k2 k3 k4 k5 : ClassId) (gc : Int32) (rE nM lD bF oR cH : Nat → Int32)  (sz : Nat) : Met l y_Gr_readNames (Cond.code y_Gr_readNames c_Gr_readNames 2 none :: BS) { frames := 2, cells := 0, slots := 0, locals := 43 } (va_Pc [.ref g] (xWp D [(g, .inr (2, [.ref g0, .ref g1, .ref g2, .ref g3, .ref g4, .ref g5, .int gc])), (g0, .inl (k0, 16, .inl rE)), (g1, .inl (k1, 16, .inl nM)), (g2, .inl (k2, 16, .inl lD)), (g3, .inl (k3, 16, .inl bF)), (g4, .inl (k4, 16, .inl oR)), (g5, .inl (k5, 16, .inl cH))] [(k0, .int), (k1, .int), (k2, .int), (k3, .int), (k4, .int), (k5, .int)] sz)) (xQv D [(g, .inr (2, [.ref g0, .ref g1, .ref g2, .ref g3, .ref g4, .ref g5, .int gc])), (g0, .inl (k0, 16, .inl rE)), (g1, .inl (k1, 16, .inl nM)), (g2, .inl (k2, 16, .inl lD)), (g3, .inl (k3, 16, .inl bF)), (g4, .inl (k4, 16, .inl oR)), (g5, .inl (k5, 16, .inl cH))] [(g, .inr (2, [.ref g0, .ref g1, .ref g2, .ref g3, .ref g4, .ref g5, .int (nI (cq (fun v9 => decide (lwN rE v9 = v9)) 16))])), (g0, .inl (k0, 16, .inl rE)), (g1, .inl (k1, 16, .inl (fun k => nI (lwN rE k)))), (g2, .inl (k2, 16, .inl lD)), (g3, .inl (k3, 16, .inl bF)), (g4, .inl (k4, 16, .inl oR)), (g5, .inl (k5, 16, .inl cH))] [(k0, .int), (k1, .int), (k2, .int), (k3, .int), (k4, .int), (k5, .int)] sz) 0 0 (va_A [(g, .inr (2, [.ref g0, .ref g1, .ref g2, .ref g3, .ref g4, .ref g5, .int gc])), (g0, .inl (k0, 16, .inl rE)), (g1, .inl (k1, 16, .inl nM)), (g2, .inl (k2, 16, .inl lD)), (g3, .inl (k3, 16, .inl bF)), (g4, .inl (k4, 16, .inl oR)), (g5, .inl (k5, 16, .inl cH))] sz) := by
  refine Met.ofW (cc := c_Gr_readNames) (maxL := 2) (ret := none) (by decide) rfl ?_
  intro p e s m args below meth c s₁ B hml hv
  obtain ⟨rfl, hsz, hP, hK, hD0, hN⟩ := hv
  have hx := B.exec
  have hb := B.bytes
  have hr := B.returns
  have hB := xB B.pre
  have hown : s.vm.findClass R_Gr = some m.cls := findClass_of_methodNamed B.named
  have hlocks := B.notSynchronized
  subst hsz
  have hD := hD0.self (sz := s.heap.size)
  obtain ⟨A, hAe⟩ : ∃ A, A = va_A [(g, .inr (2, [.ref g0, .ref g1, .ref g2, .ref g3, .ref g4, .ref g5, .int gc])), (g0, .inl (k0, 16, .inl rE)), (g1, .inl (k1, 16, .inl nM)), (g2, .inl (k2, 16, .inl lD)), (g3, .inl (k3, 16, .inl bF)), (g4, .inl (k4, 16, .inl oR)), (g5, .inl (k5, 16, .inl cH))] s.heap.size := ⟨_, rfl⟩
  rw [← hAe] at hD
  have hA : ∀ q : Nat, s.heap.size ≤ q → A q := fun q h => by rw [hAe]; exact Or.inr h
  have hS : va_S A s.heap s.heap [] := va_S.rf
  have hl := lv_entry ([.ref g]) (n := 2) (Nat.le_of_ble_eq_true rfl)
  rw [lg_entry_eq]
  generalize (lg_sl ([.ref g]) ++ List.replicate (2 - (lg_sl ([.ref g])).length) Slot.unset).toArray = ls at hl ⊢
  have hl : lv_has ls 2 [(0, .ref g)] := hl
  refine lv_aload_n hx hb d_Gr_readNames_0 rfl (lv_at hl 0 rfl) ?_
  refine lv_iconst (v := nI 0) hx hb d_Gr_readNames_1 (by decide) ?_
  refine va_put (D := D) (ci := 2) (v := .int (nI 0)) (ty := .int) (C := R_Gr) (T := F_Gr) (N := 7) hx hb hB in_Gr t_Gr t_Gr_ok n_Gr hown hK hP hD hS 0 rfl rfl 6 (by decide) (hB _ mf_Gr_30) (fun _ h9 => h9) rfl (by decide +kernel) rfl rfl (Nat.le_of_ble_eq_true rfl) d_Gr_readNames_2 (fun H locs hP hD hS => ?_)
  have hP : va_P D cls [(g, .inr (2, [.ref g0, .ref g1, .ref g2, .ref g3, .ref g4, .ref g5, .int (nI 0)])), (g0, .inl (k0, 16, .inl rE)), (g1, .inl (k1, 16, .inl nM)), (g2, .inl (k2, 16, .inl lD)), (g3, .inl (k3, 16, .inl bF)), (g4, .inl (k4, 16, .inl oR)), (g5, .inl (k5, 16, .inl cH))] H := hP
  have hD : va_D A [(g, .inr (2, [.ref g0, .ref g1, .ref g2, .ref g3, .ref g4, .ref g5, .int (nI 0)])), (g0, .inl (k0, 16, .inl rE)), (g1, .inl (k1, 16, .inl nM)), (g2, .inl (k2, 16, .inl lD)), (g3, .inl (k3, 16, .inl bF)), (g4, .inl (k4, 16, .inl oR)), (g5, .inl (k5, 16, .inl cH))] := hD
  refine lv_iconst (v := nI 0) hx hb d_Gr_readNames_5 (by decide) ?_
  refine lv_istore_n hx hb d_Gr_readNames_6 rfl hl (by decide) rfl (fun ls hl => ?_)
  have hl : lv_has ls 2 [(1, .int (nI 0)), (0, .ref g)] := hl
  have hz : nM = (fun k => if k < 0 then nI (lwN rE k) else nM k) := lt0_f
  rw [hz] at hP hD
  have hP : va_P D cls [(g, .inr (2, [.ref g0, .ref g1, .ref g2, .ref g3, .ref g4, .ref g5, .int (nI (cq (fun v9 => decide (lwN rE v9 = v9)) 0))])), (g0, .inl (k0, 16, .inl rE)), (g1, .inl (k1, 16, .inl (fun k => if k < 0 then nI (lwN rE k) else nM k))), (g2, .inl (k2, 16, .inl lD)), (g3, .inl (k3, 16, .inl bF)), (g4, .inl (k4, 16, .inl oR)), (g5, .inl (k5, 16, .inl cH))] _ := hP
  have hD : va_D A [(g, .inr (2, [.ref g0, .ref g1, .ref g2, .ref g3, .ref g4, .ref g5, .int (nI (cq (fun v9 => decide (lwN rE v9 = v9)) 0))])), (g0, .inl (k0, 16, .inl rE)), (g1, .inl (k1, 16, .inl (fun k => if k < 0 then nI (lwN rE k) else nM k))), (g2, .inl (k2, 16, .inl lD)), (g3, .inl (k3, 16, .inl bF)), (g4, .inl (k4, 16, .inl oR)), (g5, .inl (k5, 16, .inl cH))] := hD
  refine xl_w (fun (u : Nat) ls H locs => ((u ≤ 16)) ∧ lv_has ls 2 [(1, .int (nI u)), (0, .ref g)] ∧ va_P D cls [(g, .inr (2, [.ref g0, .ref g1, .ref g2, .ref g3, .ref g4, .ref g5, .int (nI (cq (fun v9 => decide (lwN rE v9 = v9)) u))])), (g0, .inl (k0, 16, .inl rE)), (g1, .inl (k1, 16, .inl (fun k => if k < u then nI (lwN rE k) else nM k))), (g2, .inl (k2, 16, .inl lD)), (g3, .inl (k3, 16, .inl bF)), (g4, .inl (k4, 16, .inl oR)), (g5, .inl (k5, 16, .inl cH))] H ∧ va_D A [(g, .inr (2, [.ref g0, .ref g1, .ref g2, .ref g3, .ref g4, .ref g5, .int (nI (cq (fun v9 => decide (lwN rE v9 = v9)) u))])), (g0, .inl (k0, 16, .inl rE)), (g1, .inl (k1, 16, .inl (fun k => if k < u then nI (lwN rE k) else nM k))), (g2, .inl (k2, 16, .inl lD)), (g3, .inl (k3, 16, .inl bF)), (g4, .inl (k4, 16, .inl oR)), (g5, .inl (k5, 16, .inl cH))] ∧ va_S A s.heap H locs) (fun u => 16 - u) (fun u ls H locs hI ih7 => ?_) 0 _ ⟨Nat.zero_le _, hl, hP, hD, hS⟩
  obtain ⟨hI, hl, hP, hD, hS⟩ := hI
  have hu := hI
  refine lv_iload_n hx hb d_Gr_readNames_7 rfl (lv_at hl 0 rfl) ?_
  refine lv_bipush (v := nI 16) hx hb d_Gr_readNames_8 (by decide) ?_
  refine lv_icmp_ge (tgt := 50) hx hb d_Gr_readNames_10 rfl (fun hc10 => ?_) (fun hc10 => ?_)
  · have hc10 : 16 ≤ u := (nI_leI (by omega) (by omega)).mp hc10
    have hP := xP_ext hP 2 (fun k => nI (lwN rE k)) rfl (fun j9 hj9 => if_pos (by omega))
    have hD := xD_ext hD 2 (y := .inl (k1, 16, .inl (fun k => nI (lwN rE k)))) rfl
    have hP : va_P D cls [(g, .inr (2, [.ref g0, .ref g1, .ref g2, .ref g3, .ref g4, .ref g5, .int (nI (cq (fun v9 => decide (lwN rE v9 = v9)) u))])), (g0, .inl (k0, 16, .inl rE)), (g1, .inl (k1, 16, .inl (fun k => nI (lwN rE k)))), (g2, .inl (k2, 16, .inl lD)), (g3, .inl (k3, 16, .inl bF)), (g4, .inl (k4, 16, .inl oR)), (g5, .inl (k5, 16, .inl cH))] _ := hP
    have hD : va_D A [(g, .inr (2, [.ref g0, .ref g1, .ref g2, .ref g3, .ref g4, .ref g5, .int (nI (cq (fun v9 => decide (lwN rE v9 = v9)) u))])), (g0, .inl (k0, 16, .inl rE)), (g1, .inl (k1, 16, .inl (fun k => nI (lwN rE k)))), (g2, .inl (k2, 16, .inl lD)), (g3, .inl (k3, 16, .inl bF)), (g4, .inl (k4, 16, .inl oR)), (g5, .inl (k5, 16, .inl cH))] := hD
    have hz : (nI (cq (fun v9 => decide (lwN rE v9 = v9)) u)) = nI (cq (fun v9 => decide (lwN rE v9 = v9)) 16) := by rw [show u = 16 by omega]
    rw [hz] at hP hD
    have hP9 := hP.sub (ws' := [(g, .inr (2, [.ref g0, .ref g1, .ref g2, .ref g3, .ref g4, .ref g5, .int (nI (cq (fun v9 => decide (lwN rE v9 = v9)) 16))])), (g0, .inl (k0, 16, .inl rE)), (g1, .inl (k1, 16, .inl (fun k => nI (lwN rE k)))), (g2, .inl (k2, 16, .inl lD)), (g3, .inl (k3, 16, .inl bF)), (g4, .inl (k4, 16, .inl oR)), (g5, .inl (k5, 16, .inl cH))]) [0, 1, 2, 3, 4, 5, 6] rfl
    have hD9 := hD.sub (ws' := [(g, .inr (2, [.ref g0, .ref g1, .ref g2, .ref g3, .ref g4, .ref g5, .int (nI (cq (fun v9 => decide (lwN rE v9 = v9)) 16))])), (g0, .inl (k0, 16, .inl rE)), (g1, .inl (k1, 16, .inl (fun k => nI (lwN rE k)))), (g2, .inl (k2, 16, .inl lD)), (g3, .inl (k3, 16, .inl bF)), (g4, .inl (k4, 16, .inl oR)), (g5, .inl (k5, 16, .inl cH))]) [0, 1, 2, 3, 4, 5, 6] (by decide) rfl
    subst hAe
    exact W.vret hx hb hr (fun t ht hW => ⟨⟨(), rfl, trivial, by rw [ht]; exact hP9, va_K.moved hW.alike hK, hD9⟩, hS.F ht⟩) hS.2.2 d_Gr_readNames_50
  · have hc10 : ¬ (16 ≤ u) := fun q9 => hc10 ((nI_leI (by omega) (by omega)).mpr q9)
    refine lv_aload_n hx hb d_Gr_readNames_13 rfl (lv_at hl 1 rfl) ?_
    refine va_get (D := D) (ci := 2) (v := .ref g1) (C := R_Gr) (T := F_Gr) (N := 7) hx hb hB in_Gr hown hK hP 0 rfl rfl 1 (by decide) (hB _ mf_Gr_15) (fun _ h9 => h9) rfl d_Gr_readNames_14 ?_
    refine lv_iload_n hx hb d_Gr_readNames_17 rfl (lv_at hl 0 rfl) ?_
    refine lv_aload_n hx hb d_Gr_readNames_18 rfl (lv_at hl 1 rfl) ?_
    refine lv_iload_n hx hb d_Gr_readNames_19 rfl (lv_at hl 0 rfl) ?_
    refine xr_cal (va_runV (As := [.int (nI u)]) (rest := [.int (nI u), .ref g1]) ⟨hx, hb, hml, hown, hB⟩ (k_Gr_leastWith l D g g0 g1 g2 g3 g4 g5 k0 k1 k2 k3 k4 k5 (nI (cq (fun v9 => decide (lwN rE v9 = v9)) u)) rE (fun k => if k < u then nI (lwN rE k) else nM k) lD bF oR cH u (by omega)) ⟨callB_of 1 hB (xg0 mc_Gr_leastWith) rfl rfl rfl (hB _ mz_Gr) (hB _ ml_Gr_77) (by decide +kernel) ⟨Nat.le_of_ble_eq_true rfl, Nat.le_of_ble_eq_true rfl⟩, hB _ mi_Gr_leastWith, hB _ me_Gr_leastWith⟩ (xpV (ws := [(g, .inr (2, [.ref g0, .ref g1, .ref g2, .ref g3, .ref g4, .ref g5, .int (nI (cq (fun v9 => decide (lwN rE v9 = v9)) u))])), (g0, .inl (k0, 16, .inl rE)), (g1, .inl (k1, 16, .inl (fun k => if k < u then nI (lwN rE k) else nM k))), (g2, .inl (k2, 16, .inl lD)), (g3, .inl (k3, 16, .inl bF)), (g4, .inl (k4, 16, .inl oR)), (g5, .inl (k5, 16, .inl cH))]) (tys := [(k0, .int), (k1, .int), (k2, .int), (k3, .int), (k4, .int), (k5, .int)]) (hP.sub [0, 1, 2, 3, 4, 5, 6] rfl) (hK.sub [0, 1, 2, 3, 4, 5] rfl) hN (va_recv (ci := 2) (q0 := 0) (q := (R_Gr, F_Gr, 7)) hK hP rfl rfl)) rfl rfl hl.1 rfl (lv_room (Nat.le_of_ble_eq_true rfl)) d_Gr_readNames_20 ⟨Nat.le_of_ble_eq_true rfl, Nat.le_of_ble_eq_true rfl⟩) ?_
    refine xv_top (x' := nI (lwN rE u)) (rfl) ?_
    refine xa_st (u := u) hx hb hK hP hD hS 2 1 rfl rfl (by omega) (by decide) d_Gr_readNames_23 (fun H locs hP hD hS => ?_)
    have hP : va_P D cls [(g, .inr (2, [.ref g0, .ref g1, .ref g2, .ref g3, .ref g4, .ref g5, .int (nI (cq (fun v9 => decide (lwN rE v9 = v9)) u))])), (g0, .inl (k0, 16, .inl rE)), (g1, .inl (k1, 16, .inl (upd (fun k => if k < u then nI (lwN rE k) else nM k) u (nI (lwN rE u))))), (g2, .inl (k2, 16, .inl lD)), (g3, .inl (k3, 16, .inl bF)), (g4, .inl (k4, 16, .inl oR)), (g5, .inl (k5, 16, .inl cH))] H := hP
    have hD : va_D A [(g, .inr (2, [.ref g0, .ref g1, .ref g2, .ref g3, .ref g4, .ref g5, .int (nI (cq (fun v9 => decide (lwN rE v9 = v9)) u))])), (g0, .inl (k0, 16, .inl rE)), (g1, .inl (k1, 16, .inl (upd (fun k => if k < u then nI (lwN rE k) else nM k) u (nI (lwN rE u))))), (g2, .inl (k2, 16, .inl lD)), (g3, .inl (k3, 16, .inl bF)), (g4, .inl (k4, 16, .inl oR)), (g5, .inl (k5, 16, .inl cH))] := hD
    have hz : (upd (fun k => if k < u then nI (lwN rE k) else nM k) u (nI (lwN rE u))) = (fun k => if k < u + 1 then nI (lwN rE k) else nM k) := upd_ltf rfl
    rw [hz] at hP hD
    have hlw := lwN_le rE u
    refine lv_aload_n hx hb d_Gr_readNames_24 rfl (lv_at hl 1 rfl) ?_
    refine va_get (D := D) (ci := 2) (v := .ref g1) (C := R_Gr) (T := F_Gr) (N := 7) hx hb hB in_Gr hown hK hP 0 rfl rfl 1 (by decide) (hB _ mf_Gr_15) (fun _ h9 => h9) rfl d_Gr_readNames_25 ?_
    refine lv_iload_n hx hb d_Gr_readNames_28 rfl (lv_at hl 0 rfl) ?_
    refine xa_ld (u := u) hx hb hK hP 2 1 rfl rfl (by omega) (by decide) d_Gr_readNames_29 ?_
    refine xv_top (x' := nI (lwN rE u)) (if_pos (by omega)) ?_
    refine lv_iload_n hx hb d_Gr_readNames_30 rfl (lv_at hl 0 rfl) ?_
    refine lv_icmp_ne (tgt := 44) hx hb d_Gr_readNames_31 rfl (fun hc31 => ?_) (fun hc31 => ?_)
    · have hc31 : ¬ ((lwN rE u) = u) := fun q9 => hc31 ((nI_eq (by omega) (by omega)).mpr q9)
      have hz : (nI (cq (fun v9 => decide (lwN rE v9 = v9)) u)) = nI (cq (fun v9 => decide (lwN rE v9 = v9)) (u + 1)) := by rw [cq_f (decide_eq_false hc31)]
      rw [hz] at hP hD
      refine lv_iinc hx hb d_Gr_readNames_44 hl (k := 0) rfl (v := nI (u + 1)) (nI_1 u) (by decide) rfl (fun ls hl => ?_)
      have hl : lv_has ls 2 [(1, .int (nI (u + 1))), (0, .ref g)] := hl
      refine lv_goto (tgt := 7) hx hb d_Gr_readNames_47 rfl ?_
      exact ih7 (u + 1) _ H locs ⟨by omega, lv_sub hl [0, 1] rfl, hP, hD, hS⟩ (by omega)
    · have hc31 : (lwN rE u) = u := (nI_eq (by omega) (by omega)).mp hc31
      refine lv_aload_n hx hb d_Gr_readNames_34 rfl (lv_at hl 1 rfl) ?_
      refine lv_dup hx hb d_Gr_readNames_35 rfl ?_
      refine va_get (D := D) (ci := 2) (v := .int (nI (cq (fun v9 => decide (lwN rE v9 = v9)) u))) (C := R_Gr) (T := F_Gr) (N := 7) hx hb hB in_Gr hown hK hP 0 rfl rfl 6 (by decide) (hB _ mf_Gr_30) (fun _ h9 => h9) rfl d_Gr_readNames_36 ?_
      refine lv_iconst (v := nI 1) hx hb d_Gr_readNames_39 (by decide) ?_
      refine lv_iadd hx hb d_Gr_readNames_40 ?_
      refine va_put (D := D) (ci := 2) (v := .int ((nI (cq (fun v9 => decide (lwN rE v9 = v9)) u)) + (nI 1))) (ty := .int) (C := R_Gr) (T := F_Gr) (N := 7) hx hb hB in_Gr t_Gr t_Gr_ok n_Gr hown hK hP hD hS 0 rfl rfl 6 (by decide) (hB _ mf_Gr_30) (fun _ h9 => h9) rfl (by decide +kernel) rfl rfl (Nat.le_of_ble_eq_true rfl) d_Gr_readNames_41 (fun H locs hP hD hS => ?_)
      have hP : va_P D cls [(g, .inr (2, [.ref g0, .ref g1, .ref g2, .ref g3, .ref g4, .ref g5, .int ((nI (cq (fun v9 => decide (lwN rE v9 = v9)) u)) + (nI 1))])), (g0, .inl (k0, 16, .inl rE)), (g1, .inl (k1, 16, .inl (fun k => if k < u + 1 then nI (lwN rE k) else nM k))), (g2, .inl (k2, 16, .inl lD)), (g3, .inl (k3, 16, .inl bF)), (g4, .inl (k4, 16, .inl oR)), (g5, .inl (k5, 16, .inl cH))] H := hP
      have hD : va_D A [(g, .inr (2, [.ref g0, .ref g1, .ref g2, .ref g3, .ref g4, .ref g5, .int ((nI (cq (fun v9 => decide (lwN rE v9 = v9)) u)) + (nI 1))])), (g0, .inl (k0, 16, .inl rE)), (g1, .inl (k1, 16, .inl (fun k => if k < u + 1 then nI (lwN rE k) else nM k))), (g2, .inl (k2, 16, .inl lD)), (g3, .inl (k3, 16, .inl bF)), (g4, .inl (k4, 16, .inl oR)), (g5, .inl (k5, 16, .inl cH))] := hD
      have hz : ((nI (cq (fun v9 => decide (lwN rE v9 = v9)) u)) + (nI 1)) = nI (cq (fun v9 => decide (lwN rE v9 = v9)) (u + 1)) := by rw [cq_t (decide_eq_true hc31)]; exact nI_add _ 1
      rw [hz] at hP hD
      refine lv_iinc hx hb d_Gr_readNames_44 hl (k := 0) rfl (v := nI (u + 1)) (nI_1 u) (by decide) rfl (fun ls hl => ?_)
      have hl : lv_has ls 2 [(1, .int (nI (u + 1))), (0, .ref g)] := hl
      refine lv_goto (tgt := 7) hx hb d_Gr_readNames_47 rfl ?_
      exact ih7 (u + 1) _ H locs ⟨by omega, lv_sub hl [0, 1] rfl, hP, hD, hS⟩ (by omega)
