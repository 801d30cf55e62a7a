theorem xN_cell (n : Nat) (cA : ClassId) : vp_cell cA (n, .inl (fun _ => nI 0)) = arrV cA n (fun _ => defaultValue .int) := by
  rw [vp_cell_i]
  rfl
theorem xN_by {n : Nat} (h : n ≤ 32) : n * componentBytes .int ≤ 536870912 := by
  show n * 4 ≤ _
  omega
abbrev at_Web (D : va_G) (A : Nat → Prop) (w : Nat) (u : Nat × ClassId) (t : State) : Prop := va_P D cls [(w, .inr (1, [.ref u.1, .int 0])), (u.1, .inl (u.2, 16, .inl (fun _ => nI 0)))] t.heap ∧ va_K D cls [(u.2, .int)] t ∧ va_D A [(w, .inr (1, [.ref u.1, .int 0])), (u.1, .inl (u.2, 16, .inl (fun _ => nI 0)))]
set_option maxHeartbeats 4000000 in
set_option maxRecDepth 100000 in
theorem k_Web_init (l : Launch) (D : va_G) (w sz : Nat) : Met l y_Web_init (Cond.code y_Web_init c_Web_init 1 none :: BS) { frames := 1, cells := 1, slots := 16, locals := 12 } (va_Pc [.ref w] (xWp D [(w, .inr (1, [.null, .int 0]))] [] sz)) (va_Qv (fun _ : Nat × ClassId => True) (at_Web D (va_A [(w, .inr (1, [.null, .int 0]))] sz) w) (va_A [(w, .inr (1, [.null, .int 0]))] sz)) 1 16 (va_A [(w, .inr (1, [.null, .int 0]))] sz) := by
  refine Met.ofW (cc := c_Web_init) (maxL := 1) (ret := none) (by decide) rfl ?_
  intro p e s m args below meth c s₁ B hml hv
  obtain ⟨rfl, hsz, hP, hK, hD0, hN⟩ := hv
  have hx := B.exec
  have hb := B.bytes
  have hr := B.returns
  have hB := xB B.pre
  have hown : s.vm.findClass R_Web = some m.cls := findClass_of_methodNamed B.named
  have hlocks := B.notSynchronized
  have hin : meth.name = "<init>" := (name_of_methodNamed B.named B.method).1
  subst hsz
  have hD := hD0.self (sz := s.heap.size)
  obtain ⟨A, hAe⟩ : ∃ A, A = va_A [(w, .inr (1, [.null, .int 0]))] s.heap.size := ⟨_, rfl⟩
  rw [← hAe] at hD
  have hA : ∀ q : Nat, s.heap.size ≤ q → A q := fun q h => by rw [hAe]; exact Or.inr h
  have hS : va_S A s.heap s.heap [] := va_S.rf
  have hl := lv_entry ([.ref w]) (n := 1) (Nat.le_of_ble_eq_true rfl)
  rw [lg_entry_eq]
  generalize (lg_sl ([.ref w]) ++ List.replicate (1 - (lg_sl ([.ref w])).length) Slot.unset).toArray = ls at hl ⊢
  have hl : lv_has ls 1 [(0, .ref w)] := hl
  refine lv_aload_n hx hb d_Web_init_0 rfl (lv_at hl 0 rfl) ?_
  refine W.objInit hx hb hown (hB _ mo_Web) (hB _ mo_inst) (hB _ mo_code) rfl (by rw [hml]; exact hl.1) rfl d_Web_init_1 (Nat.le_of_ble_eq_true rfl) (Nat.le_of_ble_eq_true rfl) ?_
  refine W.eq (g2 := F0 m 4 ls []) rfl ?_
  refine lv_aload_n hx hb d_Web_init_4 rfl (lv_at hl 0 rfl) ?_
  refine lv_bipush (v := nI 16) hx hb d_Web_init_5 (by decide) ?_
  refine va_newa (atype := .int) (ty := .int) (n := nI 16) (a0 := (16, .inl (fun _ => nI 0))) (N' := 16) hx hb (hB _ mo_arr) rfl hK hP hD hS hA (xN_cell 16) (by decide) (by decide) (xN_by (by decide)) (Nat.le_of_ble_eq_true rfl) (Nat.le_of_ble_eq_true rfl) d_Web_init_7 (fun q7 z7 H hK hP hD hS => ?_)
  have hP : va_P D cls [(w, .inr (1, [.null, .int 0])), (q7, .inl (z7, 16, .inl (fun _ => nI 0)))] H := hP
  have hD : va_D A [(w, .inr (1, [.null, .int 0])), (q7, .inl (z7, 16, .inl (fun _ => nI 0)))] := hD
  have hK : va_K D cls [(z7, .int)] s := hK
  refine va_putF (D := D) (ci := 1) (v := .ref q7) (ty := t_Web 0) (C := R_Web) (T := F_Web) (N := 2) hx hb hB in_Web t_Web t_Web_ok n_Web hown hK hP hD hS 0 rfl rfl 0 (by decide) (hB _ mf_Web_9) (fun _ h9 => h9) rfl hin rfl (by decide +kernel) rfl rfl (Nat.le_of_ble_eq_true rfl) d_Web_init_9 (fun H locs hP hD hS => ?_)
  have hP : va_P D cls [(w, .inr (1, [.ref q7, .int 0])), (q7, .inl (z7, 16, .inl (fun _ => nI 0)))] H := hP
  have hD : va_D A [(w, .inr (1, [.ref q7, .int 0])), (q7, .inl (z7, 16, .inl (fun _ => nI 0)))] := hD
  refine lv_aload_n hx hb d_Web_init_12 rfl (lv_at hl 0 rfl) ?_
  refine lv_iconst (v := 0) hx hb d_Web_init_13 (by decide) ?_
  refine va_put (D := D) (ci := 1) (v := .int 0) (ty := .int) (C := R_Web) (T := F_Web) (N := 2) hx hb hB in_Web t_Web t_Web_ok n_Web hown hK hP hD hS 0 rfl rfl 1 (by decide) (hB _ mf_Web_15) (fun _ h9 => h9) rfl (by decide +kernel) rfl rfl (Nat.le_of_ble_eq_true rfl) d_Web_init_14 (fun H locs hP hD hS => ?_)
  have hP : va_P D cls [(w, .inr (1, [.ref q7, .int 0])), (q7, .inl (z7, 16, .inl (fun _ => nI 0)))] H := hP
  have hD : va_D A [(w, .inr (1, [.ref q7, .int 0])), (q7, .inl (z7, 16, .inl (fun _ => nI 0)))] := hD
  subst hAe
  exact W.vret hx hb hr (fun t ht hW => ⟨⟨(q7, z7), rfl, trivial, by rw [ht]; exact hP, va_K.moved hW.alike hK, hD⟩, hS.F ht⟩) hS.2.2 d_Web_init_17
abbrev at_Wy (D : va_G) (A : Nat → Prop) (yw : Nat) (u : Nat × ClassId) (t : State) : Prop := va_P D cls [(yw, .inr (3, [.ref u.1])), (u.1, .inl (u.2, 16, .inl (fun _ => nI 0)))] t.heap ∧ va_K D cls [(u.2, .int)] t ∧ va_D A [(yw, .inr (3, [.ref u.1])), (u.1, .inl (u.2, 16, .inl (fun _ => nI 0)))]
set_option maxHeartbeats 4000000 in
set_option maxRecDepth 100000 in
theorem k_Wy_init (l : Launch) (D : va_G) (yw sz : Nat) : Met l y_Wy_init (Cond.code y_Wy_init c_Wy_init 1 none :: BS) { frames := 1, cells := 1, slots := 16, locals := 12 } (va_Pc [.ref yw] (xWp D [(yw, .inr (3, [.null]))] [] sz)) (va_Qv (fun _ : Nat × ClassId => True) (at_Wy D (va_A [(yw, .inr (3, [.null]))] sz) yw) (va_A [(yw, .inr (3, [.null]))] sz)) 1 16 (va_A [(yw, .inr (3, [.null]))] sz) := by
  refine Met.ofW (cc := c_Wy_init) (maxL := 1) (ret := none) (by decide) rfl ?_
  intro p e s m args below meth c s₁ B hml hv
  obtain ⟨rfl, hsz, hP, hK, hD0, hN⟩ := hv
  have hx := B.exec
  have hb := B.bytes
  have hr := B.returns
  have hB := xB B.pre
  have hown : s.vm.findClass R_Wy = some m.cls := findClass_of_methodNamed B.named
  have hlocks := B.notSynchronized
  have hin : meth.name = "<init>" := (name_of_methodNamed B.named B.method).1
  subst hsz
  have hD := hD0.self (sz := s.heap.size)
  obtain ⟨A, hAe⟩ : ∃ A, A = va_A [(yw, .inr (3, [.null]))] s.heap.size := ⟨_, rfl⟩
  rw [← hAe] at hD
  have hA : ∀ q : Nat, s.heap.size ≤ q → A q := fun q h => by rw [hAe]; exact Or.inr h
  have hS : va_S A s.heap s.heap [] := va_S.rf
  have hl := lv_entry ([.ref yw]) (n := 1) (Nat.le_of_ble_eq_true rfl)
  rw [lg_entry_eq]
  generalize (lg_sl ([.ref yw]) ++ List.replicate (1 - (lg_sl ([.ref yw])).length) Slot.unset).toArray = ls at hl ⊢
  have hl : lv_has ls 1 [(0, .ref yw)] := hl
  refine lv_aload_n hx hb d_Wy_init_0 rfl (lv_at hl 0 rfl) ?_
  refine W.objInit hx hb hown (hB _ mo_Wy) (hB _ mo_inst) (hB _ mo_code) rfl (by rw [hml]; exact hl.1) rfl d_Wy_init_1 (Nat.le_of_ble_eq_true rfl) (Nat.le_of_ble_eq_true rfl) ?_
  refine W.eq (g2 := F0 m 4 ls []) rfl ?_
  refine lv_aload_n hx hb d_Wy_init_4 rfl (lv_at hl 0 rfl) ?_
  refine lv_bipush (v := nI 16) hx hb d_Wy_init_5 (by decide) ?_
  refine va_newa (atype := .int) (ty := .int) (n := nI 16) (a0 := (16, .inl (fun _ => nI 0))) (N' := 16) hx hb (hB _ mo_arr) rfl hK hP hD hS hA (xN_cell 16) (by decide) (by decide) (xN_by (by decide)) (Nat.le_of_ble_eq_true rfl) (Nat.le_of_ble_eq_true rfl) d_Wy_init_7 (fun q7 z7 H hK hP hD hS => ?_)
  have hP : va_P D cls [(yw, .inr (3, [.null])), (q7, .inl (z7, 16, .inl (fun _ => nI 0)))] H := hP
  have hD : va_D A [(yw, .inr (3, [.null])), (q7, .inl (z7, 16, .inl (fun _ => nI 0)))] := hD
  have hK : va_K D cls [(z7, .int)] s := hK
  refine va_putF (D := D) (ci := 3) (v := .ref q7) (ty := t_Wy 0) (C := R_Wy) (T := F_Wy) (N := 1) hx hb hB in_Wy t_Wy t_Wy_ok n_Wy hown hK hP hD hS 0 rfl rfl 0 (by decide) (hB _ mf_Wy_9) (fun _ h9 => h9) rfl hin rfl (by decide +kernel) rfl rfl (Nat.le_of_ble_eq_true rfl) d_Wy_init_9 (fun H locs hP hD hS => ?_)
  have hP : va_P D cls [(yw, .inr (3, [.ref q7])), (q7, .inl (z7, 16, .inl (fun _ => nI 0)))] H := hP
  have hD : va_D A [(yw, .inr (3, [.ref q7])), (q7, .inl (z7, 16, .inl (fun _ => nI 0)))] := hD
  subst hAe
  exact W.vret hx hb hr (fun t ht hW => ⟨⟨(q7, z7), rfl, trivial, by rw [ht]; exact hP, va_K.moved hW.alike hK, hD⟩, hS.F ht⟩) hS.2.2 d_Wy_init_12
abbrev at_Gr (D : va_G) (A : Nat → Prop) (g : Nat) (u : Nat × ClassId × Nat × ClassId × Nat × ClassId × Nat × ClassId × Nat × ClassId × Nat × ClassId) (t : State) : Prop := va_P D cls [(g, .inr (2, [.ref u.1, .ref u.2.2.1, .ref u.2.2.2.2.1, .ref u.2.2.2.2.2.2.1, .ref u.2.2.2.2.2.2.2.2.1, .ref u.2.2.2.2.2.2.2.2.2.2.1, .int 0])), (u.1, .inl (u.2.1, 16, .inl (fun _ => nI 0))), (u.2.2.1, .inl (u.2.2.2.1, 16, .inl (fun _ => nI 0))), (u.2.2.2.2.1, .inl (u.2.2.2.2.2.1, 16, .inl (fun _ => nI 0))), (u.2.2.2.2.2.2.1, .inl (u.2.2.2.2.2.2.2.1, 16, .inl (fun _ => nI 0))), (u.2.2.2.2.2.2.2.2.1, .inl (u.2.2.2.2.2.2.2.2.2.1, 16, .inl (fun _ => nI 0))), (u.2.2.2.2.2.2.2.2.2.2.1, .inl (u.2.2.2.2.2.2.2.2.2.2.2, 16, .inl (fun _ => nI 0)))] t.heap ∧ va_K D cls [(u.2.1, .int), (u.2.2.2.1, .int), (u.2.2.2.2.2.1, .int), (u.2.2.2.2.2.2.2.1, .int), (u.2.2.2.2.2.2.2.2.2.1, .int), (u.2.2.2.2.2.2.2.2.2.2.2, .int)] t ∧ va_D A [(g, .inr (2, [.ref u.1, .ref u.2.2.1, .ref u.2.2.2.2.1, .ref u.2.2.2.2.2.2.1, .ref u.2.2.2.2.2.2.2.2.1, .ref u.2.2.2.2.2.2.2.2.2.2.1, .int 0])), (u.1, .inl (u.2.1, 16, .inl (fun _ => nI 0))), (u.2.2.1, .inl (u.2.2.2.1, 16, .inl (fun _ => nI 0))), (u.2.2.2.2.1, .inl (u.2.2.2.2.2.1, 16, .inl (fun _ => nI 0))), (u.2.2.2.2.2.2.1, .inl (u.2.2.2.2.2.2.2.1, 16, .inl (fun _ => nI 0))), (u.2.2.2.2.2.2.2.2.1, .inl (u.2.2.2.2.2.2.2.2.2.1, 16, .inl (fun _ => nI 0))), (u.2.2.2.2.2.2.2.2.2.2.1, .inl (u.2.2.2.2.2.2.2.2.2.2.2, 16, .inl (fun _ => nI 0)))]
set_option maxHeartbeats 4000000 in
set_option maxRecDepth 100000 in
theorem k_Gr_init (l : Launch) (D : va_G) (g sz : Nat) : Met l y_Gr_init (Cond.code y_Gr_init c_Gr_init 1 none :: BS) { frames := 1, cells := 6, slots := 96, locals := 12 } (va_Pc [.ref g] (xWp D [(g, .inr (2, [.null, .null, .null, .null, .null, .null, .int 0]))] [] sz)) (va_Qv (fun _ : Nat × ClassId × Nat × ClassId × Nat × ClassId × Nat × ClassId × Nat × ClassId × Nat × ClassId => True) (at_Gr D (va_A [(g, .inr (2, [.null, .null, .null, .null, .null, .null, .int 0]))] sz) g) (va_A [(g, .inr (2, [.null, .null, .null, .null, .null, .null, .int 0]))] sz)) 6 96 (va_A [(g, .inr (2, [.null, .null, .null, .null, .null, .null, .int 0]))] sz) := by
  refine Met.ofW (cc := c_Gr_init) (maxL := 1) (ret := none) (by decide) rfl ?_
  intro p e s m args below meth c s₁ B hml hv
  obtain ⟨rfl, hsz, hP, hK, hD0, hN⟩ := hv
  have hx := B.exec
  have hb := B.bytes
  have hr := B.returns
  have hB := xB B.pre
  have hown : s.vm.findClass R_Gr = some m.cls := findClass_of_methodNamed B.named
  have hlocks := B.notSynchronized
  have hin : meth.name = "<init>" := (name_of_methodNamed B.named B.method).1
  subst hsz
  have hD := hD0.self (sz := s.heap.size)
  obtain ⟨A, hAe⟩ : ∃ A, A = va_A [(g, .inr (2, [.null, .null, .null, .null, .null, .null, .int 0]))] s.heap.size := ⟨_, rfl⟩
  rw [← hAe] at hD
  have hA : ∀ q : Nat, s.heap.size ≤ q → A q := fun q h => by rw [hAe]; exact Or.inr h
  have hS : va_S A s.heap s.heap [] := va_S.rf
  have hl := lv_entry ([.ref g]) (n := 1) (Nat.le_of_ble_eq_true rfl)
  rw [lg_entry_eq]
  generalize (lg_sl ([.ref g]) ++ List.replicate (1 - (lg_sl ([.ref g])).length) Slot.unset).toArray = ls at hl ⊢
  have hl : lv_has ls 1 [(0, .ref g)] := hl
  refine lv_aload_n hx hb d_Gr_init_0 rfl (lv_at hl 0 rfl) ?_
  refine W.objInit hx hb hown (hB _ mo_Gr) (hB _ mo_inst) (hB _ mo_code) rfl (by rw [hml]; exact hl.1) rfl d_Gr_init_1 (Nat.le_of_ble_eq_true rfl) (Nat.le_of_ble_eq_true rfl) ?_
  refine W.eq (g2 := F0 m 4 ls []) rfl ?_
  refine lv_aload_n hx hb d_Gr_init_4 rfl (lv_at hl 0 rfl) ?_
  refine lv_bipush (v := nI 16) hx hb d_Gr_init_5 (by decide) ?_
  refine va_newa (atype := .int) (ty := .int) (n := nI 16) (a0 := (16, .inl (fun _ => nI 0))) (N' := 16) hx hb (hB _ mo_arr) rfl hK hP hD hS hA (xN_cell 16) (by decide) (by decide) (xN_by (by decide)) (Nat.le_of_ble_eq_true rfl) (Nat.le_of_ble_eq_true rfl) d_Gr_init_7 (fun q7 z7 H hK hP hD hS => ?_)
  have hP : va_P D cls [(g, .inr (2, [.null, .null, .null, .null, .null, .null, .int 0])), (q7, .inl (z7, 16, .inl (fun _ => nI 0)))] H := hP
  have hD : va_D A [(g, .inr (2, [.null, .null, .null, .null, .null, .null, .int 0])), (q7, .inl (z7, 16, .inl (fun _ => nI 0)))] := hD
  have hK : va_K D cls [(z7, .int)] s := hK
  refine va_putF (D := D) (ci := 2) (v := .ref q7) (ty := t_Gr 0) (C := R_Gr) (T := F_Gr) (N := 7) hx hb hB in_Gr t_Gr t_Gr_ok n_Gr hown hK hP hD hS 0 rfl rfl 0 (by decide) (hB _ mf_Gr_9) (fun _ h9 => h9) rfl hin rfl (by decide +kernel) rfl rfl (Nat.le_of_ble_eq_true rfl) d_Gr_init_9 (fun H locs hP hD hS => ?_)
  have hP : va_P D cls [(g, .inr (2, [.ref q7, .null, .null, .null, .null, .null, .int 0])), (q7, .inl (z7, 16, .inl (fun _ => nI 0)))] H := hP
  have hD : va_D A [(g, .inr (2, [.ref q7, .null, .null, .null, .null, .null, .int 0])), (q7, .inl (z7, 16, .inl (fun _ => nI 0)))] := hD
  refine lv_aload_n hx hb d_Gr_init_12 rfl (lv_at hl 0 rfl) ?_
  refine lv_bipush (v := nI 16) hx hb d_Gr_init_13 (by decide) ?_
  refine va_newa (atype := .int) (ty := .int) (n := nI 16) (a0 := (16, .inl (fun _ => nI 0))) (N' := 16) hx hb (hB _ mo_arr) rfl hK hP hD hS hA (xN_cell 16) (by decide) (by decide) (xN_by (by decide)) (Nat.le_of_ble_eq_true rfl) (Nat.le_of_ble_eq_true rfl) d_Gr_init_15 (fun q15 z15 H hK hP hD hS => ?_)
  have hP : va_P D cls [(g, .inr (2, [.ref q7, .null, .null, .null, .null, .null, .int 0])), (q7, .inl (z7, 16, .inl (fun _ => nI 0))), (q15, .inl (z15, 16, .inl (fun _ => nI 0)))] H := hP
  have hD : va_D A [(g, .inr (2, [.ref q7, .null, .null, .null, .null, .null, .int 0])), (q7, .inl (z7, 16, .inl (fun _ => nI 0))), (q15, .inl (z15, 16, .inl (fun _ => nI 0)))] := hD
  have hK : va_K D cls [(z7, .int), (z15, .int)] s := hK
  refine va_putF (D := D) (ci := 2) (v := .ref q15) (ty := t_Gr 1) (C := R_Gr) (T := F_Gr) (N := 7) hx hb hB in_Gr t_Gr t_Gr_ok n_Gr hown hK hP hD hS 0 rfl rfl 1 (by decide) (hB _ mf_Gr_15) (fun _ h9 => h9) rfl hin rfl (by decide +kernel) rfl rfl (Nat.le_of_ble_eq_true rfl) d_Gr_init_17 (fun H locs hP hD hS => ?_)
  have hP : va_P D cls [(g, .inr (2, [.ref q7, .ref q15, .null, .null, .null, .null, .int 0])), (q7, .inl (z7, 16, .inl (fun _ => nI 0))), (q15, .inl (z15, 16, .inl (fun _ => nI 0)))] H := hP
  have hD : va_D A [(g, .inr (2, [.ref q7, .ref q15, .null, .null, .null, .null, .int 0])), (q7, .inl (z7, 16, .inl (fun _ => nI 0))), (q15, .inl (z15, 16, .inl (fun _ => nI 0)))] := hD
  refine lv_aload_n hx hb d_Gr_init_20 rfl (lv_at hl 0 rfl) ?_
  refine lv_bipush (v := nI 16) hx hb d_Gr_init_21 (by decide) ?_
  refine va_newa (atype := .int) (ty := .int) (n := nI 16) (a0 := (16, .inl (fun _ => nI 0))) (N' := 16) hx hb (hB _ mo_arr) rfl hK hP hD hS hA (xN_cell 16) (by decide) (by decide) (xN_by (by decide)) (Nat.le_of_ble_eq_true rfl) (Nat.le_of_ble_eq_true rfl) d_Gr_init_23 (fun q23 z23 H hK hP hD hS => ?_)
  have hP : va_P D cls [(g, .inr (2, [.ref q7, .ref q15, .null, .null, .null, .null, .int 0])), (q7, .inl (z7, 16, .inl (fun _ => nI 0))), (q15, .inl (z15, 16, .inl (fun _ => nI 0))), (q23, .inl (z23, 16, .inl (fun _ => nI 0)))] H := hP
  have hD : va_D A [(g, .inr (2, [.ref q7, .ref q15, .null, .null, .null, .null, .int 0])), (q7, .inl (z7, 16, .inl (fun _ => nI 0))), (q15, .inl (z15, 16, .inl (fun _ => nI 0))), (q23, .inl (z23, 16, .inl (fun _ => nI 0)))] := hD
  have hK : va_K D cls [(z7, .int), (z15, .int), (z23, .int)] s := hK
  refine va_putF (D := D) (ci := 2) (v := .ref q23) (ty := t_Gr 2) (C := R_Gr) (T := F_Gr) (N := 7) hx hb hB in_Gr t_Gr t_Gr_ok n_Gr hown hK hP hD hS 0 rfl rfl 2 (by decide) (hB _ mf_Gr_18) (fun _ h9 => h9) rfl hin rfl (by decide +kernel) rfl rfl (Nat.le_of_ble_eq_true rfl) d_Gr_init_25 (fun H locs hP hD hS => ?_)
  have hP : va_P D cls [(g, .inr (2, [.ref q7, .ref q15, .ref q23, .null, .null, .null, .int 0])), (q7, .inl (z7, 16, .inl (fun _ => nI 0))), (q15, .inl (z15, 16, .inl (fun _ => nI 0))), (q23, .inl (z23, 16, .inl (fun _ => nI 0)))] H := hP
  have hD : va_D A [(g, .inr (2, [.ref q7, .ref q15, .ref q23, .null, .null, .null, .int 0])), (q7, .inl (z7, 16, .inl (fun _ => nI 0))), (q15, .inl (z15, 16, .inl (fun _ => nI 0))), (q23, .inl (z23, 16, .inl (fun _ => nI 0)))] := hD
  refine lv_aload_n hx hb d_Gr_init_28 rfl (lv_at hl 0 rfl) ?_
  refine lv_bipush (v := nI 16) hx hb d_Gr_init_29 (by decide) ?_
  refine va_newa (atype := .int) (ty := .int) (n := nI 16) (a0 := (16, .inl (fun _ => nI 0))) (N' := 16) hx hb (hB _ mo_arr) rfl hK hP hD hS hA (xN_cell 16) (by decide) (by decide) (xN_by (by decide)) (Nat.le_of_ble_eq_true rfl) (Nat.le_of_ble_eq_true rfl) d_Gr_init_31 (fun q31 z31 H hK hP hD hS => ?_)
  have hP : va_P D cls [(g, .inr (2, [.ref q7, .ref q15, .ref q23, .null, .null, .null, .int 0])), (q7, .inl (z7, 16, .inl (fun _ => nI 0))), (q15, .inl (z15, 16, .inl (fun _ => nI 0))), (q23, .inl (z23, 16, .inl (fun _ => nI 0))), (q31, .inl (z31, 16, .inl (fun _ => nI 0)))] H := hP
  have hD : va_D A [(g, .inr (2, [.ref q7, .ref q15, .ref q23, .null, .null, .null, .int 0])), (q7, .inl (z7, 16, .inl (fun _ => nI 0))), (q15, .inl (z15, 16, .inl (fun _ => nI 0))), (q23, .inl (z23, 16, .inl (fun _ => nI 0))), (q31, .inl (z31, 16, .inl (fun _ => nI 0)))] := hD
  have hK : va_K D cls [(z7, .int), (z15, .int), (z23, .int), (z31, .int)] s := hK
  refine va_putF (D := D) (ci := 2) (v := .ref q31) (ty := t_Gr 3) (C := R_Gr) (T := F_Gr) (N := 7) hx hb hB in_Gr t_Gr t_Gr_ok n_Gr hown hK hP hD hS 0 rfl rfl 3 (by decide) (hB _ mf_Gr_21) (fun _ h9 => h9) rfl hin rfl (by decide +kernel) rfl rfl (Nat.le_of_ble_eq_true rfl) d_Gr_init_33 (fun H locs hP hD hS => ?_)
  have hP : va_P D cls [(g, .inr (2, [.ref q7, .ref q15, .ref q23, .ref q31, .null, .null, .int 0])), (q7, .inl (z7, 16, .inl (fun _ => nI 0))), (q15, .inl (z15, 16, .inl (fun _ => nI 0))), (q23, .inl (z23, 16, .inl (fun _ => nI 0))), (q31, .inl (z31, 16, .inl (fun _ => nI 0)))] H := hP
  have hD : va_D A [(g, .inr (2, [.ref q7, .ref q15, .ref q23, .ref q31, .null, .null, .int 0])), (q7, .inl (z7, 16, .inl (fun _ => nI 0))), (q15, .inl (z15, 16, .inl (fun _ => nI 0))), (q23, .inl (z23, 16, .inl (fun _ => nI 0))), (q31, .inl (z31, 16, .inl (fun _ => nI 0)))] := hD
  refine lv_aload_n hx hb d_Gr_init_36 rfl (lv_at hl 0 rfl) ?_
  refine lv_bipush (v := nI 16) hx hb d_Gr_init_37 (by decide) ?_
  refine va_newa (atype := .int) (ty := .int) (n := nI 16) (a0 := (16, .inl (fun _ => nI 0))) (N' := 16) hx hb (hB _ mo_arr) rfl hK hP hD hS hA (xN_cell 16) (by decide) (by decide) (xN_by (by decide)) (Nat.le_of_ble_eq_true rfl) (Nat.le_of_ble_eq_true rfl) d_Gr_init_39 (fun q39 z39 H hK hP hD hS => ?_)
  have hP : va_P D cls [(g, .inr (2, [.ref q7, .ref q15, .ref q23, .ref q31, .null, .null, .int 0])), (q7, .inl (z7, 16, .inl (fun _ => nI 0))), (q15, .inl (z15, 16, .inl (fun _ => nI 0))), (q23, .inl (z23, 16, .inl (fun _ => nI 0))), (q31, .inl (z31, 16, .inl (fun _ => nI 0))), (q39, .inl (z39, 16, .inl (fun _ => nI 0)))] H := hP
  have hD : va_D A [(g, .inr (2, [.ref q7, .ref q15, .ref q23, .ref q31, .null, .null, .int 0])), (q7, .inl (z7, 16, .inl (fun _ => nI 0))), (q15, .inl (z15, 16, .inl (fun _ => nI 0))), (q23, .inl (z23, 16, .inl (fun _ => nI 0))), (q31, .inl (z31, 16, .inl (fun _ => nI 0))), (q39, .inl (z39, 16, .inl (fun _ => nI 0)))] := hD
  have hK : va_K D cls [(z7, .int), (z15, .int), (z23, .int), (z31, .int), (z39, .int)] s := hK
  refine va_putF (D := D) (ci := 2) (v := .ref q39) (ty := t_Gr 4) (C := R_Gr) (T := F_Gr) (N := 7) hx hb hB in_Gr t_Gr t_Gr_ok n_Gr hown hK hP hD hS 0 rfl rfl 4 (by decide) (hB _ mf_Gr_24) (fun _ h9 => h9) rfl hin rfl (by decide +kernel) rfl rfl (Nat.le_of_ble_eq_true rfl) d_Gr_init_41 (fun H locs hP hD hS => ?_)
  have hP : va_P D cls [(g, .inr (2, [.ref q7, .ref q15, .ref q23, .ref q31, .ref q39, .null, .int 0])), (q7, .inl (z7, 16, .inl (fun _ => nI 0))), (q15, .inl (z15, 16, .inl (fun _ => nI 0))), (q23, .inl (z23, 16, .inl (fun _ => nI 0))), (q31, .inl (z31, 16, .inl (fun _ => nI 0))), (q39, .inl (z39, 16, .inl (fun _ => nI 0)))] H := hP
  have hD : va_D A [(g, .inr (2, [.ref q7, .ref q15, .ref q23, .ref q31, .ref q39, .null, .int 0])), (q7, .inl (z7, 16, .inl (fun _ => nI 0))), (q15, .inl (z15, 16, .inl (fun _ => nI 0))), (q23, .inl (z23, 16, .inl (fun _ => nI 0))), (q31, .inl (z31, 16, .inl (fun _ => nI 0))), (q39, .inl (z39, 16, .inl (fun _ => nI 0)))] := hD
  refine lv_aload_n hx hb d_Gr_init_44 rfl (lv_at hl 0 rfl) ?_
  refine lv_bipush (v := nI 16) hx hb d_Gr_init_45 (by decide) ?_
  refine va_newa (atype := .int) (ty := .int) (n := nI 16) (a0 := (16, .inl (fun _ => nI 0))) (N' := 16) hx hb (hB _ mo_arr) rfl hK hP hD hS hA (xN_cell 16) (by decide) (by decide) (xN_by (by decide)) (Nat.le_of_ble_eq_true rfl) (Nat.le_of_ble_eq_true rfl) d_Gr_init_47 (fun q47 z47 H hK hP hD hS => ?_)
  have hP : va_P D cls [(g, .inr (2, [.ref q7, .ref q15, .ref q23, .ref q31, .ref q39, .null, .int 0])), (q7, .inl (z7, 16, .inl (fun _ => nI 0))), (q15, .inl (z15, 16, .inl (fun _ => nI 0))), (q23, .inl (z23, 16, .inl (fun _ => nI 0))), (q31, .inl (z31, 16, .inl (fun _ => nI 0))), (q39, .inl (z39, 16, .inl (fun _ => nI 0))), (q47, .inl (z47, 16, .inl (fun _ => nI 0)))] H := hP
  have hD : va_D A [(g, .inr (2, [.ref q7, .ref q15, .ref q23, .ref q31, .ref q39, .null, .int 0])), (q7, .inl (z7, 16, .inl (fun _ => nI 0))), (q15, .inl (z15, 16, .inl (fun _ => nI 0))), (q23, .inl (z23, 16, .inl (fun _ => nI 0))), (q31, .inl (z31, 16, .inl (fun _ => nI 0))), (q39, .inl (z39, 16, .inl (fun _ => nI 0))), (q47, .inl (z47, 16, .inl (fun _ => nI 0)))] := hD
  have hK : va_K D cls [(z7, .int), (z15, .int), (z23, .int), (z31, .int), (z39, .int), (z47, .int)] s := hK
  refine va_putF (D := D) (ci := 2) (v := .ref q47) (ty := t_Gr 5) (C := R_Gr) (T := F_Gr) (N := 7) hx hb hB in_Gr t_Gr t_Gr_ok n_Gr hown hK hP hD hS 0 rfl rfl 5 (by decide) (hB _ mf_Gr_27) (fun _ h9 => h9) rfl hin rfl (by decide +kernel) rfl rfl (Nat.le_of_ble_eq_true rfl) d_Gr_init_49 (fun H locs hP hD hS => ?_)
  have hP : va_P D cls [(g, .inr (2, [.ref q7, .ref q15, .ref q23, .ref q31, .ref q39, .ref q47, .int 0])), (q7, .inl (z7, 16, .inl (fun _ => nI 0))), (q15, .inl (z15, 16, .inl (fun _ => nI 0))), (q23, .inl (z23, 16, .inl (fun _ => nI 0))), (q31, .inl (z31, 16, .inl (fun _ => nI 0))), (q39, .inl (z39, 16, .inl (fun _ => nI 0))), (q47, .inl (z47, 16, .inl (fun _ => nI 0)))] H := hP
  have hD : va_D A [(g, .inr (2, [.ref q7, .ref q15, .ref q23, .ref q31, .ref q39, .ref q47, .int 0])), (q7, .inl (z7, 16, .inl (fun _ => nI 0))), (q15, .inl (z15, 16, .inl (fun _ => nI 0))), (q23, .inl (z23, 16, .inl (fun _ => nI 0))), (q31, .inl (z31, 16, .inl (fun _ => nI 0))), (q39, .inl (z39, 16, .inl (fun _ => nI 0))), (q47, .inl (z47, 16, .inl (fun _ => nI 0)))] := hD
  refine lv_aload_n hx hb d_Gr_init_52 rfl (lv_at hl 0 rfl) ?_
  refine lv_iconst (v := 0) hx hb d_Gr_init_53 (by decide) ?_
  refine va_put (D := D) (ci := 2) (v := .int 0) (ty := .int) (C := R_Gr) (T := F_Gr) (N := 7) hx hb hB in_Gr t_Gr t_Gr_ok n_Gr hown hK hP hD hS 0 rfl rfl 6 (by decide) (hB _ mf_Gr_30) (fun _ h9 => h9) rfl (by decide +kernel) rfl rfl (Nat.le_of_ble_eq_true rfl) d_Gr_init_54 (fun H locs hP hD hS => ?_)
  have hP : va_P D cls [(g, .inr (2, [.ref q7, .ref q15, .ref q23, .ref q31, .ref q39, .ref q47, .int 0])), (q7, .inl (z7, 16, .inl (fun _ => nI 0))), (q15, .inl (z15, 16, .inl (fun _ => nI 0))), (q23, .inl (z23, 16, .inl (fun _ => nI 0))), (q31, .inl (z31, 16, .inl (fun _ => nI 0))), (q39, .inl (z39, 16, .inl (fun _ => nI 0))), (q47, .inl (z47, 16, .inl (fun _ => nI 0)))] H := hP
  have hD : va_D A [(g, .inr (2, [.ref q7, .ref q15, .ref q23, .ref q31, .ref q39, .ref q47, .int 0])), (q7, .inl (z7, 16, .inl (fun _ => nI 0))), (q15, .inl (z15, 16, .inl (fun _ => nI 0))), (q23, .inl (z23, 16, .inl (fun _ => nI 0))), (q31, .inl (z31, 16, .inl (fun _ => nI 0))), (q39, .inl (z39, 16, .inl (fun _ => nI 0))), (q47, .inl (z47, 16, .inl (fun _ => nI 0)))] := hD
  subst hAe
  exact W.vret hx hb hr (fun t ht hW => ⟨⟨(q7, z7, q15, z15, q23, z23, q31, z31, q39, z39, q47, z47), rfl, trivial, by rw [ht]; exact hP, va_K.moved hW.alike hK, hD⟩, hS.F ht⟩) hS.2.2 d_Gr_init_57
abbrev at_Fl (D : va_G) (A : Nat → Prop) (f : Nat) (u : Nat × ClassId × Nat × ClassId × Nat × ClassId × Nat × ClassId) (t : State) : Prop := va_P D cls [(f, .inr (4, [.ref u.1, .ref u.2.2.1, .ref u.2.2.2.2.1, .ref u.2.2.2.2.2.2.1])), (u.1, .inl (u.2.1, 32, .inl (fun _ => nI 0))), (u.2.2.1, .inl (u.2.2.2.1, 32, .inl (fun _ => nI 0))), (u.2.2.2.2.1, .inl (u.2.2.2.2.2.1, 32, .inl (fun _ => nI 0))), (u.2.2.2.2.2.2.1, .inl (u.2.2.2.2.2.2.2, 32, .inl (fun _ => nI 0)))] t.heap ∧ va_K D cls [(u.2.1, .int), (u.2.2.2.1, .int), (u.2.2.2.2.2.1, .int), (u.2.2.2.2.2.2.2, .int)] t ∧ va_D A [(f, .inr (4, [.ref u.1, .ref u.2.2.1, .ref u.2.2.2.2.1, .ref u.2.2.2.2.2.2.1])), (u.1, .inl (u.2.1, 32, .inl (fun _ => nI 0))), (u.2.2.1, .inl (u.2.2.2.1, 32, .inl (fun _ => nI 0))), (u.2.2.2.2.1, .inl (u.2.2.2.2.2.1, 32, .inl (fun _ => nI 0))), (u.2.2.2.2.2.2.1, .inl (u.2.2.2.2.2.2.2, 32, .inl (fun _ => nI 0)))]
set_option maxHeartbeats 4000000 in
set_option maxRecDepth 100000 in
theorem k_Fl_init (l : Launch) (D : va_G) (f sz : Nat) : Met l y_Fl_init (Cond.code y_Fl_init c_Fl_init 1 none :: BS) { frames := 1, cells := 4, slots := 128, locals := 12 } (va_Pc [.ref f] (xWp D [(f, .inr (4, [.null, .null, .null, .null]))] [] sz)) (va_Qv (fun _ : Nat × ClassId × Nat × ClassId × Nat × ClassId × Nat × ClassId => True) (at_Fl D (va_A [(f, .inr (4, [.null, .null, .null, .null]))] sz) f) (va_A [(f, .inr (4, [.null, .null, .null, .null]))] sz)) 4 128 (va_A [(f, .inr (4, [.null, .null, .null, .null]))] sz) := by
  refine Met.ofW (cc := c_Fl_init) (maxL := 1) (ret := none) (by decide) rfl ?_
  intro p e s m args below meth c s₁ B hml hv
  obtain ⟨rfl, hsz, hP, hK, hD0, hN⟩ := hv
  have hx := B.exec
  have hb := B.bytes
  have hr := B.returns
  have hB := xB B.pre
  have hown : s.vm.findClass R_Fl = some m.cls := findClass_of_methodNamed B.named
  have hlocks := B.notSynchronized
  have hin : meth.name = "<init>" := (name_of_methodNamed B.named B.method).1
  subst hsz
  have hD := hD0.self (sz := s.heap.size)
  obtain ⟨A, hAe⟩ : ∃ A, A = va_A [(f, .inr (4, [.null, .null, .null, .null]))] s.heap.size := ⟨_, rfl⟩
  rw [← hAe] at hD
  have hA : ∀ q : Nat, s.heap.size ≤ q → A q := fun q h => by rw [hAe]; exact Or.inr h
  have hS : va_S A s.heap s.heap [] := va_S.rf
  have hl := lv_entry ([.ref f]) (n := 1) (Nat.le_of_ble_eq_true rfl)
  rw [lg_entry_eq]
  generalize (lg_sl ([.ref f]) ++ List.replicate (1 - (lg_sl ([.ref f])).length) Slot.unset).toArray = ls at hl ⊢
  have hl : lv_has ls 1 [(0, .ref f)] := hl
  refine lv_aload_n hx hb d_Fl_init_0 rfl (lv_at hl 0 rfl) ?_
  refine W.objInit hx hb hown (hB _ mo_Fl) (hB _ mo_inst) (hB _ mo_code) rfl (by rw [hml]; exact hl.1) rfl d_Fl_init_1 (Nat.le_of_ble_eq_true rfl) (Nat.le_of_ble_eq_true rfl) ?_
  refine W.eq (g2 := F0 m 4 ls []) rfl ?_
  refine lv_aload_n hx hb d_Fl_init_4 rfl (lv_at hl 0 rfl) ?_
  refine lv_bipush (v := nI 32) hx hb d_Fl_init_5 (by decide) ?_
  refine va_newa (atype := .int) (ty := .int) (n := nI 32) (a0 := (32, .inl (fun _ => nI 0))) (N' := 32) hx hb (hB _ mo_arr) rfl hK hP hD hS hA (xN_cell 32) (by decide) (by decide) (xN_by (by decide)) (Nat.le_of_ble_eq_true rfl) (Nat.le_of_ble_eq_true rfl) d_Fl_init_7 (fun q7 z7 H hK hP hD hS => ?_)
  have hP : va_P D cls [(f, .inr (4, [.null, .null, .null, .null])), (q7, .inl (z7, 32, .inl (fun _ => nI 0)))] H := hP
  have hD : va_D A [(f, .inr (4, [.null, .null, .null, .null])), (q7, .inl (z7, 32, .inl (fun _ => nI 0)))] := hD
  have hK : va_K D cls [(z7, .int)] s := hK
  refine va_putF (D := D) (ci := 4) (v := .ref q7) (ty := t_Fl 0) (C := R_Fl) (T := F_Fl) (N := 4) hx hb hB in_Fl t_Fl t_Fl_ok n_Fl hown hK hP hD hS 0 rfl rfl 0 (by decide) (hB _ mf_Fl_11) (fun _ h9 => h9) rfl hin rfl (by decide +kernel) rfl rfl (Nat.le_of_ble_eq_true rfl) d_Fl_init_9 (fun H locs hP hD hS => ?_)
  have hP : va_P D cls [(f, .inr (4, [.ref q7, .null, .null, .null])), (q7, .inl (z7, 32, .inl (fun _ => nI 0)))] H := hP
  have hD : va_D A [(f, .inr (4, [.ref q7, .null, .null, .null])), (q7, .inl (z7, 32, .inl (fun _ => nI 0)))] := hD
  refine lv_aload_n hx hb d_Fl_init_12 rfl (lv_at hl 0 rfl) ?_
  refine lv_bipush (v := nI 32) hx hb d_Fl_init_13 (by decide) ?_
  refine va_newa (atype := .int) (ty := .int) (n := nI 32) (a0 := (32, .inl (fun _ => nI 0))) (N' := 32) hx hb (hB _ mo_arr) rfl hK hP hD hS hA (xN_cell 32) (by decide) (by decide) (xN_by (by decide)) (Nat.le_of_ble_eq_true rfl) (Nat.le_of_ble_eq_true rfl) d_Fl_init_15 (fun q15 z15 H hK hP hD hS => ?_)
  have hP : va_P D cls [(f, .inr (4, [.ref q7, .null, .null, .null])), (q7, .inl (z7, 32, .inl (fun _ => nI 0))), (q15, .inl (z15, 32, .inl (fun _ => nI 0)))] H := hP
  have hD : va_D A [(f, .inr (4, [.ref q7, .null, .null, .null])), (q7, .inl (z7, 32, .inl (fun _ => nI 0))), (q15, .inl (z15, 32, .inl (fun _ => nI 0)))] := hD
  have hK : va_K D cls [(z7, .int), (z15, .int)] s := hK
  refine va_putF (D := D) (ci := 4) (v := .ref q15) (ty := t_Fl 1) (C := R_Fl) (T := F_Fl) (N := 4) hx hb hB in_Fl t_Fl t_Fl_ok n_Fl hown hK hP hD hS 0 rfl rfl 1 (by decide) (hB _ mf_Fl_15) (fun _ h9 => h9) rfl hin rfl (by decide +kernel) rfl rfl (Nat.le_of_ble_eq_true rfl) d_Fl_init_17 (fun H locs hP hD hS => ?_)
  have hP : va_P D cls [(f, .inr (4, [.ref q7, .ref q15, .null, .null])), (q7, .inl (z7, 32, .inl (fun _ => nI 0))), (q15, .inl (z15, 32, .inl (fun _ => nI 0)))] H := hP
  have hD : va_D A [(f, .inr (4, [.ref q7, .ref q15, .null, .null])), (q7, .inl (z7, 32, .inl (fun _ => nI 0))), (q15, .inl (z15, 32, .inl (fun _ => nI 0)))] := hD
  refine lv_aload_n hx hb d_Fl_init_20 rfl (lv_at hl 0 rfl) ?_
  refine lv_bipush (v := nI 32) hx hb d_Fl_init_21 (by decide) ?_
  refine va_newa (atype := .int) (ty := .int) (n := nI 32) (a0 := (32, .inl (fun _ => nI 0))) (N' := 32) hx hb (hB _ mo_arr) rfl hK hP hD hS hA (xN_cell 32) (by decide) (by decide) (xN_by (by decide)) (Nat.le_of_ble_eq_true rfl) (Nat.le_of_ble_eq_true rfl) d_Fl_init_23 (fun q23 z23 H hK hP hD hS => ?_)
  have hP : va_P D cls [(f, .inr (4, [.ref q7, .ref q15, .null, .null])), (q7, .inl (z7, 32, .inl (fun _ => nI 0))), (q15, .inl (z15, 32, .inl (fun _ => nI 0))), (q23, .inl (z23, 32, .inl (fun _ => nI 0)))] H := hP
  have hD : va_D A [(f, .inr (4, [.ref q7, .ref q15, .null, .null])), (q7, .inl (z7, 32, .inl (fun _ => nI 0))), (q15, .inl (z15, 32, .inl (fun _ => nI 0))), (q23, .inl (z23, 32, .inl (fun _ => nI 0)))] := hD
  have hK : va_K D cls [(z7, .int), (z15, .int), (z23, .int)] s := hK
  refine va_putF (D := D) (ci := 4) (v := .ref q23) (ty := t_Fl 2) (C := R_Fl) (T := F_Fl) (N := 4) hx hb hB in_Fl t_Fl t_Fl_ok n_Fl hown hK hP hD hS 0 rfl rfl 2 (by decide) (hB _ mf_Fl_18) (fun _ h9 => h9) rfl hin rfl (by decide +kernel) rfl rfl (Nat.le_of_ble_eq_true rfl) d_Fl_init_25 (fun H locs hP hD hS => ?_)
  have hP : va_P D cls [(f, .inr (4, [.ref q7, .ref q15, .ref q23, .null])), (q7, .inl (z7, 32, .inl (fun _ => nI 0))), (q15, .inl (z15, 32, .inl (fun _ => nI 0))), (q23, .inl (z23, 32, .inl (fun _ => nI 0)))] H := hP
  have hD : va_D A [(f, .inr (4, [.ref q7, .ref q15, .ref q23, .null])), (q7, .inl (z7, 32, .inl (fun _ => nI 0))), (q15, .inl (z15, 32, .inl (fun _ => nI 0))), (q23, .inl (z23, 32, .inl (fun _ => nI 0)))] := hD
  refine lv_aload_n hx hb d_Fl_init_28 rfl (lv_at hl 0 rfl) ?_
  refine lv_bipush (v := nI 32) hx hb d_Fl_init_29 (by decide) ?_
  refine va_newa (atype := .int) (ty := .int) (n := nI 32) (a0 := (32, .inl (fun _ => nI 0))) (N' := 32) hx hb (hB _ mo_arr) rfl hK hP hD hS hA (xN_cell 32) (by decide) (by decide) (xN_by (by decide)) (Nat.le_of_ble_eq_true rfl) (Nat.le_of_ble_eq_true rfl) d_Fl_init_31 (fun q31 z31 H hK hP hD hS => ?_)
  have hP : va_P D cls [(f, .inr (4, [.ref q7, .ref q15, .ref q23, .null])), (q7, .inl (z7, 32, .inl (fun _ => nI 0))), (q15, .inl (z15, 32, .inl (fun _ => nI 0))), (q23, .inl (z23, 32, .inl (fun _ => nI 0))), (q31, .inl (z31, 32, .inl (fun _ => nI 0)))] H := hP
  have hD : va_D A [(f, .inr (4, [.ref q7, .ref q15, .ref q23, .null])), (q7, .inl (z7, 32, .inl (fun _ => nI 0))), (q15, .inl (z15, 32, .inl (fun _ => nI 0))), (q23, .inl (z23, 32, .inl (fun _ => nI 0))), (q31, .inl (z31, 32, .inl (fun _ => nI 0)))] := hD
  have hK : va_K D cls [(z7, .int), (z15, .int), (z23, .int), (z31, .int)] s := hK
  refine va_putF (D := D) (ci := 4) (v := .ref q31) (ty := t_Fl 3) (C := R_Fl) (T := F_Fl) (N := 4) hx hb hB in_Fl t_Fl t_Fl_ok n_Fl hown hK hP hD hS 0 rfl rfl 3 (by decide) (hB _ mf_Fl_21) (fun _ h9 => h9) rfl hin rfl (by decide +kernel) rfl rfl (Nat.le_of_ble_eq_true rfl) d_Fl_init_33 (fun H locs hP hD hS => ?_)
  have hP : va_P D cls [(f, .inr (4, [.ref q7, .ref q15, .ref q23, .ref q31])), (q7, .inl (z7, 32, .inl (fun _ => nI 0))), (q15, .inl (z15, 32, .inl (fun _ => nI 0))), (q23, .inl (z23, 32, .inl (fun _ => nI 0))), (q31, .inl (z31, 32, .inl (fun _ => nI 0)))] H := hP
  have hD : va_D A [(f, .inr (4, [.ref q7, .ref q15, .ref q23, .ref q31])), (q7, .inl (z7, 32, .inl (fun _ => nI 0))), (q15, .inl (z15, 32, .inl (fun _ => nI 0))), (q23, .inl (z23, 32, .inl (fun _ => nI 0))), (q31, .inl (z31, 32, .inl (fun _ => nI 0)))] := hD
  subst hAe
  exact W.vret hx hb hr (fun t ht hW => ⟨⟨(q7, z7, q15, z15, q23, z23, q31, z31), rfl, trivial, by rw [ht]; exact hP, va_K.moved hW.alike hK, hD⟩, hS.F ht⟩) hS.2.2 d_Fl_init_36
abbrev at_M (D : va_G) (A : Nat → Prop) (mo : Nat) (u : Nat × ClassId × Nat × ClassId × Nat × ClassId × Nat × ClassId × Nat × ClassId × Nat × ClassId × Nat × ClassId) (t : State) : Prop := va_P D cls [(mo, .inr (5, [.int 0, .int 0, .ref u.1, .int 0, .ref u.2.2.1, .ref u.2.2.2.2.1, .ref u.2.2.2.2.2.2.1, .ref u.2.2.2.2.2.2.2.2.1, .ref u.2.2.2.2.2.2.2.2.2.2.1, .ref u.2.2.2.2.2.2.2.2.2.2.2.2.1])), (u.1, .inl (u.2.1, 16, .inl (fun _ => nI 0))), (u.2.2.1, .inl (u.2.2.2.1, 16, .inl (fun _ => nI 0))), (u.2.2.2.2.1, .inl (u.2.2.2.2.2.1, 16, .inl (fun _ => nI 0))), (u.2.2.2.2.2.2.1, .inl (u.2.2.2.2.2.2.2.1, 16, .inl (fun _ => nI 0))), (u.2.2.2.2.2.2.2.2.1, .inl (u.2.2.2.2.2.2.2.2.2.1, 32, .inl (fun _ => nI 0))), (u.2.2.2.2.2.2.2.2.2.2.1, .inl (u.2.2.2.2.2.2.2.2.2.2.2.1, 32, .inl (fun _ => nI 0))), (u.2.2.2.2.2.2.2.2.2.2.2.2.1, .inl (u.2.2.2.2.2.2.2.2.2.2.2.2.2, 32, .inl (fun _ => nI 0)))] t.heap ∧ va_K D cls [(u.2.1, .int), (u.2.2.2.1, .int), (u.2.2.2.2.2.1, .int), (u.2.2.2.2.2.2.2.1, .int), (u.2.2.2.2.2.2.2.2.2.1, .int), (u.2.2.2.2.2.2.2.2.2.2.2.1, .int), (u.2.2.2.2.2.2.2.2.2.2.2.2.2, .int)] t ∧ va_D A [(mo, .inr (5, [.int 0, .int 0, .ref u.1, .int 0, .ref u.2.2.1, .ref u.2.2.2.2.1, .ref u.2.2.2.2.2.2.1, .ref u.2.2.2.2.2.2.2.2.1, .ref u.2.2.2.2.2.2.2.2.2.2.1, .ref u.2.2.2.2.2.2.2.2.2.2.2.2.1])), (u.1, .inl (u.2.1, 16, .inl (fun _ => nI 0))), (u.2.2.1, .inl (u.2.2.2.1, 16, .inl (fun _ => nI 0))), (u.2.2.2.2.1, .inl (u.2.2.2.2.2.1, 16, .inl (fun _ => nI 0))), (u.2.2.2.2.2.2.1, .inl (u.2.2.2.2.2.2.2.1, 16, .inl (fun _ => nI 0))), (u.2.2.2.2.2.2.2.2.1, .inl (u.2.2.2.2.2.2.2.2.2.1, 32, .inl (fun _ => nI 0))), (u.2.2.2.2.2.2.2.2.2.2.1, .inl (u.2.2.2.2.2.2.2.2.2.2.2.1, 32, .inl (fun _ => nI 0))), (u.2.2.2.2.2.2.2.2.2.2.2.2.1, .inl (u.2.2.2.2.2.2.2.2.2.2.2.2.2, 32, .inl (fun _ => nI 0)))]
set_option maxHeartbeats 4000000 in
set_option maxRecDepth 100000 in
theorem k_M_init (l : Launch) (D : va_G) (mo sz : Nat) : Met l y_M_init (Cond.code y_M_init c_M_init 1 none :: BS) { frames := 1, cells := 7, slots := 160, locals := 12 } (va_Pc [.ref mo] (xWp D [(mo, .inr (5, [.int 0, .int 0, .null, .int 0, .null, .null, .null, .null, .null, .null]))] [] sz)) (va_Qv (fun _ : Nat × ClassId × Nat × ClassId × Nat × ClassId × Nat × ClassId × Nat × ClassId × Nat × ClassId × Nat × ClassId => True) (at_M D (va_A [(mo, .inr (5, [.int 0, .int 0, .null, .int 0, .null, .null, .null, .null, .null, .null]))] sz) mo) (va_A [(mo, .inr (5, [.int 0, .int 0, .null, .int 0, .null, .null, .null, .null, .null, .null]))] sz)) 7 160 (va_A [(mo, .inr (5, [.int 0, .int 0, .null, .int 0, .null, .null, .null, .null, .null, .null]))] sz) := by
  refine Met.ofW (cc := c_M_init) (maxL := 1) (ret := none) (by decide) rfl ?_
  intro p e s m args below meth c s₁ B hml hv
  obtain ⟨rfl, hsz, hP, hK, hD0, hN⟩ := hv
  have hx := B.exec
  have hb := B.bytes
  have hr := B.returns
  have hB := xB B.pre
  have hown : s.vm.findClass R_M = some m.cls := findClass_of_methodNamed B.named
  have hlocks := B.notSynchronized
  have hin : meth.name = "<init>" := (name_of_methodNamed B.named B.method).1
  subst hsz
  have hD := hD0.self (sz := s.heap.size)
  obtain ⟨A, hAe⟩ : ∃ A, A = va_A [(mo, .inr (5, [.int 0, .int 0, .null, .int 0, .null, .null, .null, .null, .null, .null]))] s.heap.size := ⟨_, rfl⟩
  rw [← hAe] at hD
  have hA : ∀ q : Nat, s.heap.size ≤ q → A q := fun q h => by rw [hAe]; exact Or.inr h
  have hS : va_S A s.heap s.heap [] := va_S.rf
  have hl := lv_entry ([.ref mo]) (n := 1) (Nat.le_of_ble_eq_true rfl)
  rw [lg_entry_eq]
  generalize (lg_sl ([.ref mo]) ++ List.replicate (1 - (lg_sl ([.ref mo])).length) Slot.unset).toArray = ls at hl ⊢
  have hl : lv_has ls 1 [(0, .ref mo)] := hl
  refine lv_aload_n hx hb d_M_init_0 rfl (lv_at hl 0 rfl) ?_
  refine W.objInit hx hb hown (hB _ mo_M) (hB _ mo_inst) (hB _ mo_code) rfl (by rw [hml]; exact hl.1) rfl d_M_init_1 (Nat.le_of_ble_eq_true rfl) (Nat.le_of_ble_eq_true rfl) ?_
  refine W.eq (g2 := F0 m 4 ls []) rfl ?_
  refine lv_aload_n hx hb d_M_init_4 rfl (lv_at hl 0 rfl) ?_
  refine lv_bipush (v := nI 16) hx hb d_M_init_5 (by decide) ?_
  refine va_newa (atype := .int) (ty := .int) (n := nI 16) (a0 := (16, .inl (fun _ => nI 0))) (N' := 16) hx hb (hB _ mo_arr) rfl hK hP hD hS hA (xN_cell 16) (by decide) (by decide) (xN_by (by decide)) (Nat.le_of_ble_eq_true rfl) (Nat.le_of_ble_eq_true rfl) d_M_init_7 (fun q7 z7 H hK hP hD hS => ?_)
  have hP : va_P D cls [(mo, .inr (5, [.int 0, .int 0, .null, .int 0, .null, .null, .null, .null, .null, .null])), (q7, .inl (z7, 16, .inl (fun _ => nI 0)))] H := hP
  have hD : va_D A [(mo, .inr (5, [.int 0, .int 0, .null, .int 0, .null, .null, .null, .null, .null, .null])), (q7, .inl (z7, 16, .inl (fun _ => nI 0)))] := hD
  have hK : va_K D cls [(z7, .int)] s := hK
  refine va_putF (D := D) (ci := 5) (v := .ref q7) (ty := t_M 2) (C := R_M) (T := F_M) (N := 10) hx hb hB in_M t_M t_M_ok n_M hown hK hP hD hS 0 rfl rfl 2 (by decide) (hB _ mf_M_7) (fun _ h9 => h9) rfl hin rfl (by decide +kernel) rfl rfl (Nat.le_of_ble_eq_true rfl) d_M_init_9 (fun H locs hP hD hS => ?_)
  have hP : va_P D cls [(mo, .inr (5, [.int 0, .int 0, .ref q7, .int 0, .null, .null, .null, .null, .null, .null])), (q7, .inl (z7, 16, .inl (fun _ => nI 0)))] H := hP
  have hD : va_D A [(mo, .inr (5, [.int 0, .int 0, .ref q7, .int 0, .null, .null, .null, .null, .null, .null])), (q7, .inl (z7, 16, .inl (fun _ => nI 0)))] := hD
  refine lv_aload_n hx hb d_M_init_12 rfl (lv_at hl 0 rfl) ?_
  refine lv_bipush (v := nI 16) hx hb d_M_init_13 (by decide) ?_
  refine va_newa (atype := .int) (ty := .int) (n := nI 16) (a0 := (16, .inl (fun _ => nI 0))) (N' := 16) hx hb (hB _ mo_arr) rfl hK hP hD hS hA (xN_cell 16) (by decide) (by decide) (xN_by (by decide)) (Nat.le_of_ble_eq_true rfl) (Nat.le_of_ble_eq_true rfl) d_M_init_15 (fun q15 z15 H hK hP hD hS => ?_)
  have hP : va_P D cls [(mo, .inr (5, [.int 0, .int 0, .ref q7, .int 0, .null, .null, .null, .null, .null, .null])), (q7, .inl (z7, 16, .inl (fun _ => nI 0))), (q15, .inl (z15, 16, .inl (fun _ => nI 0)))] H := hP
  have hD : va_D A [(mo, .inr (5, [.int 0, .int 0, .ref q7, .int 0, .null, .null, .null, .null, .null, .null])), (q7, .inl (z7, 16, .inl (fun _ => nI 0))), (q15, .inl (z15, 16, .inl (fun _ => nI 0)))] := hD
  have hK : va_K D cls [(z7, .int), (z15, .int)] s := hK
  refine va_putF (D := D) (ci := 5) (v := .ref q15) (ty := t_M 4) (C := R_M) (T := F_M) (N := 10) hx hb hB in_M t_M t_M_ok n_M hown hK hP hD hS 0 rfl rfl 4 (by decide) (hB _ mf_M_13) (fun _ h9 => h9) rfl hin rfl (by decide +kernel) rfl rfl (Nat.le_of_ble_eq_true rfl) d_M_init_17 (fun H locs hP hD hS => ?_)
  have hP : va_P D cls [(mo, .inr (5, [.int 0, .int 0, .ref q7, .int 0, .ref q15, .null, .null, .null, .null, .null])), (q7, .inl (z7, 16, .inl (fun _ => nI 0))), (q15, .inl (z15, 16, .inl (fun _ => nI 0)))] H := hP
  have hD : va_D A [(mo, .inr (5, [.int 0, .int 0, .ref q7, .int 0, .ref q15, .null, .null, .null, .null, .null])), (q7, .inl (z7, 16, .inl (fun _ => nI 0))), (q15, .inl (z15, 16, .inl (fun _ => nI 0)))] := hD
  refine lv_aload_n hx hb d_M_init_20 rfl (lv_at hl 0 rfl) ?_
  refine lv_bipush (v := nI 16) hx hb d_M_init_21 (by decide) ?_
  refine va_newa (atype := .int) (ty := .int) (n := nI 16) (a0 := (16, .inl (fun _ => nI 0))) (N' := 16) hx hb (hB _ mo_arr) rfl hK hP hD hS hA (xN_cell 16) (by decide) (by decide) (xN_by (by decide)) (Nat.le_of_ble_eq_true rfl) (Nat.le_of_ble_eq_true rfl) d_M_init_23 (fun q23 z23 H hK hP hD hS => ?_)
  have hP : va_P D cls [(mo, .inr (5, [.int 0, .int 0, .ref q7, .int 0, .ref q15, .null, .null, .null, .null, .null])), (q7, .inl (z7, 16, .inl (fun _ => nI 0))), (q15, .inl (z15, 16, .inl (fun _ => nI 0))), (q23, .inl (z23, 16, .inl (fun _ => nI 0)))] H := hP
  have hD : va_D A [(mo, .inr (5, [.int 0, .int 0, .ref q7, .int 0, .ref q15, .null, .null, .null, .null, .null])), (q7, .inl (z7, 16, .inl (fun _ => nI 0))), (q15, .inl (z15, 16, .inl (fun _ => nI 0))), (q23, .inl (z23, 16, .inl (fun _ => nI 0)))] := hD
  have hK : va_K D cls [(z7, .int), (z15, .int), (z23, .int)] s := hK
  refine va_putF (D := D) (ci := 5) (v := .ref q23) (ty := t_M 5) (C := R_M) (T := F_M) (N := 10) hx hb hB in_M t_M t_M_ok n_M hown hK hP hD hS 0 rfl rfl 5 (by decide) (hB _ mf_M_16) (fun _ h9 => h9) rfl hin rfl (by decide +kernel) rfl rfl (Nat.le_of_ble_eq_true rfl) d_M_init_25 (fun H locs hP hD hS => ?_)
  have hP : va_P D cls [(mo, .inr (5, [.int 0, .int 0, .ref q7, .int 0, .ref q15, .ref q23, .null, .null, .null, .null])), (q7, .inl (z7, 16, .inl (fun _ => nI 0))), (q15, .inl (z15, 16, .inl (fun _ => nI 0))), (q23, .inl (z23, 16, .inl (fun _ => nI 0)))] H := hP
  have hD : va_D A [(mo, .inr (5, [.int 0, .int 0, .ref q7, .int 0, .ref q15, .ref q23, .null, .null, .null, .null])), (q7, .inl (z7, 16, .inl (fun _ => nI 0))), (q15, .inl (z15, 16, .inl (fun _ => nI 0))), (q23, .inl (z23, 16, .inl (fun _ => nI 0)))] := hD
  refine lv_aload_n hx hb d_M_init_28 rfl (lv_at hl 0 rfl) ?_
  refine lv_bipush (v := nI 16) hx hb d_M_init_29 (by decide) ?_
  refine va_newa (atype := .int) (ty := .int) (n := nI 16) (a0 := (16, .inl (fun _ => nI 0))) (N' := 16) hx hb (hB _ mo_arr) rfl hK hP hD hS hA (xN_cell 16) (by decide) (by decide) (xN_by (by decide)) (Nat.le_of_ble_eq_true rfl) (Nat.le_of_ble_eq_true rfl) d_M_init_31 (fun q31 z31 H hK hP hD hS => ?_)
  have hP : va_P D cls [(mo, .inr (5, [.int 0, .int 0, .ref q7, .int 0, .ref q15, .ref q23, .null, .null, .null, .null])), (q7, .inl (z7, 16, .inl (fun _ => nI 0))), (q15, .inl (z15, 16, .inl (fun _ => nI 0))), (q23, .inl (z23, 16, .inl (fun _ => nI 0))), (q31, .inl (z31, 16, .inl (fun _ => nI 0)))] H := hP
  have hD : va_D A [(mo, .inr (5, [.int 0, .int 0, .ref q7, .int 0, .ref q15, .ref q23, .null, .null, .null, .null])), (q7, .inl (z7, 16, .inl (fun _ => nI 0))), (q15, .inl (z15, 16, .inl (fun _ => nI 0))), (q23, .inl (z23, 16, .inl (fun _ => nI 0))), (q31, .inl (z31, 16, .inl (fun _ => nI 0)))] := hD
  have hK : va_K D cls [(z7, .int), (z15, .int), (z23, .int), (z31, .int)] s := hK
  refine va_putF (D := D) (ci := 5) (v := .ref q31) (ty := t_M 6) (C := R_M) (T := F_M) (N := 10) hx hb hB in_M t_M t_M_ok n_M hown hK hP hD hS 0 rfl rfl 6 (by decide) (hB _ mf_M_19) (fun _ h9 => h9) rfl hin rfl (by decide +kernel) rfl rfl (Nat.le_of_ble_eq_true rfl) d_M_init_33 (fun H locs hP hD hS => ?_)
  have hP : va_P D cls [(mo, .inr (5, [.int 0, .int 0, .ref q7, .int 0, .ref q15, .ref q23, .ref q31, .null, .null, .null])), (q7, .inl (z7, 16, .inl (fun _ => nI 0))), (q15, .inl (z15, 16, .inl (fun _ => nI 0))), (q23, .inl (z23, 16, .inl (fun _ => nI 0))), (q31, .inl (z31, 16, .inl (fun _ => nI 0)))] H := hP
  have hD : va_D A [(mo, .inr (5, [.int 0, .int 0, .ref q7, .int 0, .ref q15, .ref q23, .ref q31, .null, .null, .null])), (q7, .inl (z7, 16, .inl (fun _ => nI 0))), (q15, .inl (z15, 16, .inl (fun _ => nI 0))), (q23, .inl (z23, 16, .inl (fun _ => nI 0))), (q31, .inl (z31, 16, .inl (fun _ => nI 0)))] := hD
  refine lv_aload_n hx hb d_M_init_36 rfl (lv_at hl 0 rfl) ?_
  refine lv_bipush (v := nI 32) hx hb d_M_init_37 (by decide) ?_
  refine va_newa (atype := .int) (ty := .int) (n := nI 32) (a0 := (32, .inl (fun _ => nI 0))) (N' := 32) hx hb (hB _ mo_arr) rfl hK hP hD hS hA (xN_cell 32) (by decide) (by decide) (xN_by (by decide)) (Nat.le_of_ble_eq_true rfl) (Nat.le_of_ble_eq_true rfl) d_M_init_39 (fun q39 z39 H hK hP hD hS => ?_)
  have hP : va_P D cls [(mo, .inr (5, [.int 0, .int 0, .ref q7, .int 0, .ref q15, .ref q23, .ref q31, .null, .null, .null])), (q7, .inl (z7, 16, .inl (fun _ => nI 0))), (q15, .inl (z15, 16, .inl (fun _ => nI 0))), (q23, .inl (z23, 16, .inl (fun _ => nI 0))), (q31, .inl (z31, 16, .inl (fun _ => nI 0))), (q39, .inl (z39, 32, .inl (fun _ => nI 0)))] H := hP
  have hD : va_D A [(mo, .inr (5, [.int 0, .int 0, .ref q7, .int 0, .ref q15, .ref q23, .ref q31, .null, .null, .null])), (q7, .inl (z7, 16, .inl (fun _ => nI 0))), (q15, .inl (z15, 16, .inl (fun _ => nI 0))), (q23, .inl (z23, 16, .inl (fun _ => nI 0))), (q31, .inl (z31, 16, .inl (fun _ => nI 0))), (q39, .inl (z39, 32, .inl (fun _ => nI 0)))] := hD
  have hK : va_K D cls [(z7, .int), (z15, .int), (z23, .int), (z31, .int), (z39, .int)] s := hK
  refine va_putF (D := D) (ci := 5) (v := .ref q39) (ty := t_M 7) (C := R_M) (T := F_M) (N := 10) hx hb hB in_M t_M t_M_ok n_M hown hK hP hD hS 0 rfl rfl 7 (by decide) (hB _ mf_M_22) (fun _ h9 => h9) rfl hin rfl (by decide +kernel) rfl rfl (Nat.le_of_ble_eq_true rfl) d_M_init_41 (fun H locs hP hD hS => ?_)
  have hP : va_P D cls [(mo, .inr (5, [.int 0, .int 0, .ref q7, .int 0, .ref q15, .ref q23, .ref q31, .ref q39, .null, .null])), (q7, .inl (z7, 16, .inl (fun _ => nI 0))), (q15, .inl (z15, 16, .inl (fun _ => nI 0))), (q23, .inl (z23, 16, .inl (fun _ => nI 0))), (q31, .inl (z31, 16, .inl (fun _ => nI 0))), (q39, .inl (z39, 32, .inl (fun _ => nI 0)))] H := hP
  have hD : va_D A [(mo, .inr (5, [.int 0, .int 0, .ref q7, .int 0, .ref q15, .ref q23, .ref q31, .ref q39, .null, .null])), (q7, .inl (z7, 16, .inl (fun _ => nI 0))), (q15, .inl (z15, 16, .inl (fun _ => nI 0))), (q23, .inl (z23, 16, .inl (fun _ => nI 0))), (q31, .inl (z31, 16, .inl (fun _ => nI 0))), (q39, .inl (z39, 32, .inl (fun _ => nI 0)))] := hD
  refine lv_aload_n hx hb d_M_init_44 rfl (lv_at hl 0 rfl) ?_
  refine lv_bipush (v := nI 32) hx hb d_M_init_45 (by decide) ?_
  refine va_newa (atype := .int) (ty := .int) (n := nI 32) (a0 := (32, .inl (fun _ => nI 0))) (N' := 32) hx hb (hB _ mo_arr) rfl hK hP hD hS hA (xN_cell 32) (by decide) (by decide) (xN_by (by decide)) (Nat.le_of_ble_eq_true rfl) (Nat.le_of_ble_eq_true rfl) d_M_init_47 (fun q47 z47 H hK hP hD hS => ?_)
  have hP : va_P D cls [(mo, .inr (5, [.int 0, .int 0, .ref q7, .int 0, .ref q15, .ref q23, .ref q31, .ref q39, .null, .null])), (q7, .inl (z7, 16, .inl (fun _ => nI 0))), (q15, .inl (z15, 16, .inl (fun _ => nI 0))), (q23, .inl (z23, 16, .inl (fun _ => nI 0))), (q31, .inl (z31, 16, .inl (fun _ => nI 0))), (q39, .inl (z39, 32, .inl (fun _ => nI 0))), (q47, .inl (z47, 32, .inl (fun _ => nI 0)))] H := hP
  have hD : va_D A [(mo, .inr (5, [.int 0, .int 0, .ref q7, .int 0, .ref q15, .ref q23, .ref q31, .ref q39, .null, .null])), (q7, .inl (z7, 16, .inl (fun _ => nI 0))), (q15, .inl (z15, 16, .inl (fun _ => nI 0))), (q23, .inl (z23, 16, .inl (fun _ => nI 0))), (q31, .inl (z31, 16, .inl (fun _ => nI 0))), (q39, .inl (z39, 32, .inl (fun _ => nI 0))), (q47, .inl (z47, 32, .inl (fun _ => nI 0)))] := hD
  have hK : va_K D cls [(z7, .int), (z15, .int), (z23, .int), (z31, .int), (z39, .int), (z47, .int)] s := hK
  refine va_putF (D := D) (ci := 5) (v := .ref q47) (ty := t_M 8) (C := R_M) (T := F_M) (N := 10) hx hb hB in_M t_M t_M_ok n_M hown hK hP hD hS 0 rfl rfl 8 (by decide) (hB _ mf_M_25) (fun _ h9 => h9) rfl hin rfl (by decide +kernel) rfl rfl (Nat.le_of_ble_eq_true rfl) d_M_init_49 (fun H locs hP hD hS => ?_)
  have hP : va_P D cls [(mo, .inr (5, [.int 0, .int 0, .ref q7, .int 0, .ref q15, .ref q23, .ref q31, .ref q39, .ref q47, .null])), (q7, .inl (z7, 16, .inl (fun _ => nI 0))), (q15, .inl (z15, 16, .inl (fun _ => nI 0))), (q23, .inl (z23, 16, .inl (fun _ => nI 0))), (q31, .inl (z31, 16, .inl (fun _ => nI 0))), (q39, .inl (z39, 32, .inl (fun _ => nI 0))), (q47, .inl (z47, 32, .inl (fun _ => nI 0)))] H := hP
  have hD : va_D A [(mo, .inr (5, [.int 0, .int 0, .ref q7, .int 0, .ref q15, .ref q23, .ref q31, .ref q39, .ref q47, .null])), (q7, .inl (z7, 16, .inl (fun _ => nI 0))), (q15, .inl (z15, 16, .inl (fun _ => nI 0))), (q23, .inl (z23, 16, .inl (fun _ => nI 0))), (q31, .inl (z31, 16, .inl (fun _ => nI 0))), (q39, .inl (z39, 32, .inl (fun _ => nI 0))), (q47, .inl (z47, 32, .inl (fun _ => nI 0)))] := hD
  refine lv_aload_n hx hb d_M_init_52 rfl (lv_at hl 0 rfl) ?_
  refine lv_bipush (v := nI 32) hx hb d_M_init_53 (by decide) ?_
  refine va_newa (atype := .int) (ty := .int) (n := nI 32) (a0 := (32, .inl (fun _ => nI 0))) (N' := 32) hx hb (hB _ mo_arr) rfl hK hP hD hS hA (xN_cell 32) (by decide) (by decide) (xN_by (by decide)) (Nat.le_of_ble_eq_true rfl) (Nat.le_of_ble_eq_true rfl) d_M_init_55 (fun q55 z55 H hK hP hD hS => ?_)
  have hP : va_P D cls [(mo, .inr (5, [.int 0, .int 0, .ref q7, .int 0, .ref q15, .ref q23, .ref q31, .ref q39, .ref q47, .null])), (q7, .inl (z7, 16, .inl (fun _ => nI 0))), (q15, .inl (z15, 16, .inl (fun _ => nI 0))), (q23, .inl (z23, 16, .inl (fun _ => nI 0))), (q31, .inl (z31, 16, .inl (fun _ => nI 0))), (q39, .inl (z39, 32, .inl (fun _ => nI 0))), (q47, .inl (z47, 32, .inl (fun _ => nI 0))), (q55, .inl (z55, 32, .inl (fun _ => nI 0)))] H := hP
  have hD : va_D A [(mo, .inr (5, [.int 0, .int 0, .ref q7, .int 0, .ref q15, .ref q23, .ref q31, .ref q39, .ref q47, .null])), (q7, .inl (z7, 16, .inl (fun _ => nI 0))), (q15, .inl (z15, 16, .inl (fun _ => nI 0))), (q23, .inl (z23, 16, .inl (fun _ => nI 0))), (q31, .inl (z31, 16, .inl (fun _ => nI 0))), (q39, .inl (z39, 32, .inl (fun _ => nI 0))), (q47, .inl (z47, 32, .inl (fun _ => nI 0))), (q55, .inl (z55, 32, .inl (fun _ => nI 0)))] := hD
  have hK : va_K D cls [(z7, .int), (z15, .int), (z23, .int), (z31, .int), (z39, .int), (z47, .int), (z55, .int)] s := hK
  refine va_putF (D := D) (ci := 5) (v := .ref q55) (ty := t_M 9) (C := R_M) (T := F_M) (N := 10) hx hb hB in_M t_M t_M_ok n_M hown hK hP hD hS 0 rfl rfl 9 (by decide) (hB _ mf_M_28) (fun _ h9 => h9) rfl hin rfl (by decide +kernel) rfl rfl (Nat.le_of_ble_eq_true rfl) d_M_init_57 (fun H locs hP hD hS => ?_)
  have hP : va_P D cls [(mo, .inr (5, [.int 0, .int 0, .ref q7, .int 0, .ref q15, .ref q23, .ref q31, .ref q39, .ref q47, .ref q55])), (q7, .inl (z7, 16, .inl (fun _ => nI 0))), (q15, .inl (z15, 16, .inl (fun _ => nI 0))), (q23, .inl (z23, 16, .inl (fun _ => nI 0))), (q31, .inl (z31, 16, .inl (fun _ => nI 0))), (q39, .inl (z39, 32, .inl (fun _ => nI 0))), (q47, .inl (z47, 32, .inl (fun _ => nI 0))), (q55, .inl (z55, 32, .inl (fun _ => nI 0)))] H := hP
  have hD : va_D A [(mo, .inr (5, [.int 0, .int 0, .ref q7, .int 0, .ref q15, .ref q23, .ref q31, .ref q39, .ref q47, .ref q55])), (q7, .inl (z7, 16, .inl (fun _ => nI 0))), (q15, .inl (z15, 16, .inl (fun _ => nI 0))), (q23, .inl (z23, 16, .inl (fun _ => nI 0))), (q31, .inl (z31, 16, .inl (fun _ => nI 0))), (q39, .inl (z39, 32, .inl (fun _ => nI 0))), (q47, .inl (z47, 32, .inl (fun _ => nI 0))), (q55, .inl (z55, 32, .inl (fun _ => nI 0)))] := hD
  subst hAe
  exact W.vret hx hb hr (fun t ht hW => ⟨⟨(q7, z7, q15, z15, q23, z23, q31, z31, q39, z39, q47, z47, q55, z55), rfl, trivial, by rw [ht]; exact hP, va_K.moved hW.alike hK, hD⟩, hS.F ht⟩) hS.2.2 d_M_init_60
