set_option maxHeartbeats 4000000 in
set_option maxRecDepth 100000 in
theorem k_A_add_there (l : Launch) (D : va_G) (a w g yw f : Nat)  (hd : Nat) (cA : ClassId) (ct : Int32) (h : Nat → Int32) (u v : Nat) (hu : u < 16) (hv : v < 16) (huv : ¬ u = v) (hb9 : bt (h u) v = true) (sz : Nat) : Met l y_A_add (Cond.code y_A_add c_A_add 3 (some .boolean) :: BS) { frames := 2, cells := 0, slots := 0, locals := 43 } (va_Pc [.ref a, .int (nI u), .int (nI v)] (xWp D [(a, .inr (0, [.ref w, .ref g, .ref yw, .ref f])), (w, .inr (1, [.ref hd, .int ct])), (hd, .inl (cA, 16, .inl h))] [(cA, .int)] sz)) (xQi D [(a, .inr (0, [.ref w, .ref g, .ref yw, .ref f])), (w, .inr (1, [.ref hd, .int ct])), (hd, .inl (cA, 16, .inl h))] [(a, .inr (0, [.ref w, .ref g, .ref yw, .ref f])), (w, .inr (1, [.ref hd, .int ct])), (hd, .inl (cA, 16, .inl h))] [(cA, .int)] sz (b2i false)) 0 0 (va_A [(a, .inr (0, [.ref w, .ref g, .ref yw, .ref f])), (w, .inr (1, [.ref hd, .int ct])), (hd, .inl (cA, 16, .inl h))] sz) := by
  refine Met.ofW (cc := c_A_add) (maxL := 3) (ret := (some .boolean)) (by decide) rfl ?_
  intro p e s m args below meth c s₁ B hml hv
  obtain ⟨rfl, hsz, hP, hK, hD0, hN⟩ := hv
  have hx := B.exec
  have hb := B.bytes
  have hr := B.returns
  have hB := xB B.pre
  have hown : s.vm.findClass R_A = some m.cls := findClass_of_methodNamed B.named
  have hlocks := B.notSynchronized
  subst hsz
  have hD := hD0.self (sz := s.heap.size)
  obtain ⟨A, hAe⟩ : ∃ A, A = va_A [(a, .inr (0, [.ref w, .ref g, .ref yw, .ref f])), (w, .inr (1, [.ref hd, .int ct])), (hd, .inl (cA, 16, .inl h))] s.heap.size := ⟨_, rfl⟩
  rw [← hAe] at hD
  have hA : ∀ q : Nat, s.heap.size ≤ q → A q := fun q h => by rw [hAe]; exact Or.inr h
  have hS : va_S A s.heap s.heap [] := va_S.rf
  have hl := lv_entry ([.ref a, .int (nI u), .int (nI v)]) (n := 3) (Nat.le_of_ble_eq_true rfl)
  rw [lg_entry_eq]
  generalize (lg_sl ([.ref a, .int (nI u), .int (nI v)]) ++ List.replicate (3 - (lg_sl ([.ref a, .int (nI u), .int (nI v)])).length) Slot.unset).toArray = ls at hl ⊢
  have hl : lv_has ls 3 [(0, .ref a), (1, .int (nI u)), (2, .int (nI v))] := hl
  refine lv_iload_n hx hb d_A_add_0 rfl (lv_at hl 1 rfl) ?_
  refine lv_iload_n hx hb d_A_add_1 rfl (lv_at hl 2 rfl) ?_
  refine xr_v (va_runS (As := [.int (nI u), .int (nI v)]) (rest := []) ⟨hx, hb, hml, hown, hB⟩ (k_A_requirePlaces l (nI u) (nI v) (isP2 (by omega) (by omega))) ⟨callB_of 2 hB (xg0 mc_A_requirePlaces) rfl rfl rfl (hB _ mz_A) (hB _ ml_A_37) (by decide +kernel) ⟨Nat.le_of_ble_eq_true rfl, Nat.le_of_ble_eq_true rfl⟩, hB _ ms_A_requirePlaces⟩ xTT_pre rfl rfl hl.1 rfl (lv_room (Nat.le_of_ble_eq_true rfl)) d_A_add_2 ⟨Nat.le_of_ble_eq_true rfl, Nat.le_of_ble_eq_true rfl⟩) ?_
  refine lv_iload_n hx hb d_A_add_5 rfl (lv_at hl 1 rfl) ?_
  refine lv_iload_n hx hb d_A_add_6 rfl (lv_at hl 2 rfl) ?_
  refine lv_icmp_ne (tgt := 20) hx hb d_A_add_7 rfl (fun hc7 => ?_) (fun hc7 => ?_)
  · have hc7 : ¬ (u = v) := fun q9 => hc7 ((nI_eq (by omega) (by omega)).mpr q9)
    refine lv_aload_n hx hb d_A_add_20 rfl (lv_at hl 0 rfl) ?_
    refine va_get (D := D) (ci := 0) (v := .ref w) (C := R_A) (T := F_A) (N := 4) hx hb hB in_A hown hK hP 0 rfl rfl 0 (by decide) (hB _ mf_A_10) (fun _ h9 => h9) rfl d_A_add_21 ?_
    refine lv_iload_n hx hb d_A_add_24 rfl (lv_at hl 1 rfl) ?_
    refine lv_iload_n hx hb d_A_add_25 rfl (lv_at hl 2 rfl) ?_
    refine xr_cal (va_runV (As := [.int (nI u), .int (nI v)]) (rest := []) ⟨hx, hb, hml, hown, hB⟩ (k_Web_holds l D w hd cA ct h u v (by omega) (by omega)) ⟨callB_of 2 hB (xg0 mc_Web_holds) rfl rfl rfl (hB _ mz_Web) (hB _ ml_A_48) (by decide +kernel) ⟨Nat.le_of_ble_eq_true rfl, Nat.le_of_ble_eq_true rfl⟩, hB _ mi_Web_holds, hB _ me_Web_holds⟩ (xpV (ws := [(w, .inr (1, [.ref hd, .int ct])), (hd, .inl (cA, 16, .inl h))]) (tys := [(cA, .int)]) (hP.sub [1, 2] rfl) (hK.sub [0] rfl) hN (va_recv (ci := 1) (q0 := 1) (q := (R_Web, F_Web, 2)) hK hP rfl rfl)) rfl rfl hl.1 rfl (lv_room (Nat.le_of_ble_eq_true rfl)) d_A_add_26 ⟨Nat.le_of_ble_eq_true rfl, Nat.le_of_ble_eq_true rfl⟩) ?_
    refine lv_if_eq (tgt := 34) hx hb d_A_add_29 rfl (fun hc29 => ?_) (fun hc29 => ?_)
    · have hc29 := b2i_0.mp hc29
      exact absurd hb9 (by rw [hc29]; decide)
    · have hc29 := b2i_n.mp hc29
      refine lv_iconst (v := nI 0) hx hb d_A_add_32 (by decide) ?_
      have hP9 := hP.sub (ws' := [(a, .inr (0, [.ref w, .ref g, .ref yw, .ref f])), (w, .inr (1, [.ref hd, .int ct])), (hd, .inl (cA, 16, .inl h))]) [0, 1, 2] rfl
      have hD9 := hD.sub (ws' := [(a, .inr (0, [.ref w, .ref g, .ref yw, .ref f])), (w, .inr (1, [.ref hd, .int ct])), (hd, .inl (cA, 16, .inl h))]) [0, 1, 2] (by decide) rfl
      subst hAe
      refine xv_top (x' := b2i false) (rfl) ?_
      exact W.zret (v := b2i false) hx hb hr (b2i_nar _) (fun t ht hW => ⟨⟨_, (), rfl, rfl, by rw [ht]; exact hP9, va_K.moved hW.alike hK, hD9⟩, hS.F ht⟩) hS.2.2 d_A_add_33
  · have hc7 : u = v := (nI_eq (by omega) (by omega)).mp hc7
    exact absurd hc7 huv
set_option maxHeartbeats 4000000 in
set_option maxRecDepth 100000 in
theorem k_A_add_put (l : Launch) (D : va_G) (a w g yw f : Nat)  (hd : Nat) (cA : ClassId) (ct : Int32) (h : Nat → Int32) (u v : Nat) (hu : u < 16) (hv : v < 16) (huv : ¬ u = v) (hb9 : bt (h u) v = false) (hct : ct < nI 80) (sz : Nat) : Met l y_A_add (Cond.code y_A_add c_A_add 3 (some .boolean) :: BS) { frames := 2, cells := 0, slots := 0, locals := 43 } (va_Pc [.ref a, .int (nI u), .int (nI v)] (xWp D [(a, .inr (0, [.ref w, .ref g, .ref yw, .ref f])), (w, .inr (1, [.ref hd, .int ct])), (hd, .inl (cA, 16, .inl h))] [(cA, .int)] sz)) (xQi D [(a, .inr (0, [.ref w, .ref g, .ref yw, .ref f])), (w, .inr (1, [.ref hd, .int ct])), (hd, .inl (cA, 16, .inl h))] [(a, .inr (0, [.ref w, .ref g, .ref yw, .ref f])), (w, .inr (1, [.ref hd, .int (ct + nI 1)])), (hd, .inl (cA, 16, .inl (upd h u (h u ||| bit v))))] [(cA, .int)] sz (b2i true)) 0 0 (va_A [(a, .inr (0, [.ref w, .ref g, .ref yw, .ref f])), (w, .inr (1, [.ref hd, .int ct])), (hd, .inl (cA, 16, .inl h))] sz) := by
  refine Met.ofW (cc := c_A_add) (maxL := 3) (ret := (some .boolean)) (by decide) rfl ?_
  intro p e s m args below meth c s₁ B hml hv
  obtain ⟨rfl, hsz, hP, hK, hD0, hN⟩ := hv
  have hx := B.exec
  have hb := B.bytes
  have hr := B.returns
  have hB := xB B.pre
  have hown : s.vm.findClass R_A = some m.cls := findClass_of_methodNamed B.named
  have hlocks := B.notSynchronized
  subst hsz
  have hD := hD0.self (sz := s.heap.size)
  obtain ⟨A, hAe⟩ : ∃ A, A = va_A [(a, .inr (0, [.ref w, .ref g, .ref yw, .ref f])), (w, .inr (1, [.ref hd, .int ct])), (hd, .inl (cA, 16, .inl h))] s.heap.size := ⟨_, rfl⟩
  rw [← hAe] at hD
  have hA : ∀ q : Nat, s.heap.size ≤ q → A q := fun q h => by rw [hAe]; exact Or.inr h
  have hS : va_S A s.heap s.heap [] := va_S.rf
  have hl := lv_entry ([.ref a, .int (nI u), .int (nI v)]) (n := 3) (Nat.le_of_ble_eq_true rfl)
  rw [lg_entry_eq]
  generalize (lg_sl ([.ref a, .int (nI u), .int (nI v)]) ++ List.replicate (3 - (lg_sl ([.ref a, .int (nI u), .int (nI v)])).length) Slot.unset).toArray = ls at hl ⊢
  have hl : lv_has ls 3 [(0, .ref a), (1, .int (nI u)), (2, .int (nI v))] := hl
  refine lv_iload_n hx hb d_A_add_0 rfl (lv_at hl 1 rfl) ?_
  refine lv_iload_n hx hb d_A_add_1 rfl (lv_at hl 2 rfl) ?_
  refine xr_v (va_runS (As := [.int (nI u), .int (nI v)]) (rest := []) ⟨hx, hb, hml, hown, hB⟩ (k_A_requirePlaces l (nI u) (nI v) (isP2 (by omega) (by omega))) ⟨callB_of 2 hB (xg0 mc_A_requirePlaces) rfl rfl rfl (hB _ mz_A) (hB _ ml_A_37) (by decide +kernel) ⟨Nat.le_of_ble_eq_true rfl, Nat.le_of_ble_eq_true rfl⟩, hB _ ms_A_requirePlaces⟩ xTT_pre rfl rfl hl.1 rfl (lv_room (Nat.le_of_ble_eq_true rfl)) d_A_add_2 ⟨Nat.le_of_ble_eq_true rfl, Nat.le_of_ble_eq_true rfl⟩) ?_
  refine lv_iload_n hx hb d_A_add_5 rfl (lv_at hl 1 rfl) ?_
  refine lv_iload_n hx hb d_A_add_6 rfl (lv_at hl 2 rfl) ?_
  refine lv_icmp_ne (tgt := 20) hx hb d_A_add_7 rfl (fun hc7 => ?_) (fun hc7 => ?_)
  · have hc7 : ¬ (u = v) := fun q9 => hc7 ((nI_eq (by omega) (by omega)).mpr q9)
    refine lv_aload_n hx hb d_A_add_20 rfl (lv_at hl 0 rfl) ?_
    refine va_get (D := D) (ci := 0) (v := .ref w) (C := R_A) (T := F_A) (N := 4) hx hb hB in_A hown hK hP 0 rfl rfl 0 (by decide) (hB _ mf_A_10) (fun _ h9 => h9) rfl d_A_add_21 ?_
    refine lv_iload_n hx hb d_A_add_24 rfl (lv_at hl 1 rfl) ?_
    refine lv_iload_n hx hb d_A_add_25 rfl (lv_at hl 2 rfl) ?_
    refine xr_cal (va_runV (As := [.int (nI u), .int (nI v)]) (rest := []) ⟨hx, hb, hml, hown, hB⟩ (k_Web_holds l D w hd cA ct h u v (by omega) (by omega)) ⟨callB_of 2 hB (xg0 mc_Web_holds) rfl rfl rfl (hB _ mz_Web) (hB _ ml_A_48) (by decide +kernel) ⟨Nat.le_of_ble_eq_true rfl, Nat.le_of_ble_eq_true rfl⟩, hB _ mi_Web_holds, hB _ me_Web_holds⟩ (xpV (ws := [(w, .inr (1, [.ref hd, .int ct])), (hd, .inl (cA, 16, .inl h))]) (tys := [(cA, .int)]) (hP.sub [1, 2] rfl) (hK.sub [0] rfl) hN (va_recv (ci := 1) (q0 := 1) (q := (R_Web, F_Web, 2)) hK hP rfl rfl)) rfl rfl hl.1 rfl (lv_room (Nat.le_of_ble_eq_true rfl)) d_A_add_26 ⟨Nat.le_of_ble_eq_true rfl, Nat.le_of_ble_eq_true rfl⟩) ?_
    refine lv_if_eq (tgt := 34) hx hb d_A_add_29 rfl (fun hc29 => ?_) (fun hc29 => ?_)
    · have hc29 := b2i_0.mp hc29
      refine lv_aload_n hx hb d_A_add_34 rfl (lv_at hl 0 rfl) ?_
      refine va_get (D := D) (ci := 0) (v := .ref w) (C := R_A) (T := F_A) (N := 4) hx hb hB in_A hown hK hP 0 rfl rfl 0 (by decide) (hB _ mf_A_10) (fun _ h9 => h9) rfl d_A_add_35 ?_
      refine xr_cal (va_runV (As := []) (rest := []) ⟨hx, hb, hml, hown, hB⟩ (k_Web_count l D w hd cA ct h ) ⟨callB_of 0 hB (xg0 mc_Web_count) rfl rfl rfl (hB _ mz_Web) (hB _ ml_A_52) (by decide +kernel) ⟨Nat.le_of_ble_eq_true rfl, Nat.le_of_ble_eq_true rfl⟩, hB _ mi_Web_count, hB _ me_Web_count⟩ (xpV (ws := [(w, .inr (1, [.ref hd, .int ct])), (hd, .inl (cA, 16, .inl h))]) (tys := [(cA, .int)]) (hP.sub [1, 2] rfl) (hK.sub [0] rfl) hN (va_recv (ci := 1) (q0 := 1) (q := (R_Web, F_Web, 2)) hK hP rfl rfl)) rfl rfl hl.1 rfl (lv_room (Nat.le_of_ble_eq_true rfl)) d_A_add_38 ⟨Nat.le_of_ble_eq_true rfl, Nat.le_of_ble_eq_true rfl⟩) ?_
      refine lv_bipush (v := nI 80) hx hb d_A_add_41 (by decide) ?_
      refine lv_icmp_lt (tgt := 56) hx hb d_A_add_43 rfl (fun hc43 => ?_) (fun hc43 => ?_)
      · refine lv_aload_n hx hb d_A_add_56 rfl (lv_at hl 0 rfl) ?_
        refine va_get (D := D) (ci := 0) (v := .ref w) (C := R_A) (T := F_A) (N := 4) hx hb hB in_A hown hK hP 0 rfl rfl 0 (by decide) (hB _ mf_A_10) (fun _ h9 => h9) rfl d_A_add_57 ?_
        refine lv_iload_n hx hb d_A_add_60 rfl (lv_at hl 1 rfl) ?_
        refine lv_iload_n hx hb d_A_add_61 rfl (lv_at hl 2 rfl) ?_
        refine xw_v (wc := [(w, .inr (1, [.ref hd, .int ct])), (hd, .inl (cA, 16, .inl h))]) (wr := [(a, .inr (0, [.ref w, .ref g, .ref yw, .ref f]))]) (w1 := [(w, .inr (1, [.ref hd, .int (ct + nI 1)])), (hd, .inl (cA, 16, .inl (upd h u (h u ||| bit v))))]) (va_runV (As := [.int (nI u), .int (nI v)]) (rest := []) ⟨hx, hb, hml, hown, hB⟩ (k_Web_put l D w hd cA ct h u v (by omega) (by omega) _) ⟨callB_of 2 hB (xg0 mc_Web_put) rfl rfl rfl (hB _ mz_Web) (hB _ ml_A_61) (by decide +kernel) ⟨Nat.le_of_ble_eq_true rfl, Nat.le_of_ble_eq_true rfl⟩, hB _ mi_Web_put, hB _ me_Web_put⟩ (xqV (ws := [(w, .inr (1, [.ref hd, .int ct])), (hd, .inl (cA, 16, .inl h))]) (tys := [(cA, .int)]) (hP.sub [1, 2] rfl) (hD.sub [1, 2] (by decide) rfl) (hK.sub [0] rfl) hN (va_recv (ci := 1) (q0 := 1) (q := (R_Web, F_Web, 2)) hK hP rfl rfl)) rfl rfl hl.1 rfl (lv_room (Nat.le_of_ble_eq_true rfl)) d_A_add_62 ⟨Nat.le_of_ble_eq_true rfl, Nat.le_of_ble_eq_true rfl⟩) hP hD hS hA [1, 2] [0] rfl rfl (by decide) (by decide) (fun H locs hP hD hS => ?_)
        have hP : va_P D cls [(a, .inr (0, [.ref w, .ref g, .ref yw, .ref f])), (w, .inr (1, [.ref hd, .int (ct + nI 1)])), (hd, .inl (cA, 16, .inl (upd h u (h u ||| bit v))))] H := hP
        have hD : va_D A [(a, .inr (0, [.ref w, .ref g, .ref yw, .ref f])), (w, .inr (1, [.ref hd, .int (ct + nI 1)])), (hd, .inl (cA, 16, .inl (upd h u (h u ||| bit v))))] := hD
        refine lv_iconst (v := nI 1) hx hb d_A_add_65 (by decide) ?_
        have hP9 := hP.sub (ws' := [(a, .inr (0, [.ref w, .ref g, .ref yw, .ref f])), (w, .inr (1, [.ref hd, .int (ct + nI 1)])), (hd, .inl (cA, 16, .inl (upd h u (h u ||| bit v))))]) [0, 1, 2] rfl
        have hD9 := hD.sub (ws' := [(a, .inr (0, [.ref w, .ref g, .ref yw, .ref f])), (w, .inr (1, [.ref hd, .int (ct + nI 1)])), (hd, .inl (cA, 16, .inl (upd h u (h u ||| bit v))))]) [0, 1, 2] (by decide) rfl
        subst hAe
        refine xv_top (x' := b2i true) (rfl) ?_
        exact W.zret (v := b2i true) hx hb hr (b2i_nar _) (fun t ht hW => ⟨⟨_, (), rfl, rfl, by rw [ht]; exact hP9, va_K.moved hW.alike hK, hD9⟩, hS.F ht⟩) hS.2.2 d_A_add_66
      · exact absurd hct hc43
    · have hc29 := b2i_n.mp hc29
      exact absurd hc29 (by rw [hb9]; decide)
  · have hc7 : u = v := (nI_eq (by omega) (by omega)).mp hc7
    exact absurd hc7 huv
set_option maxHeartbeats 4000000 in
set_option maxRecDepth 100000 in
theorem k_A_remove_none (l : Launch) (D : va_G) (a w g yw f : Nat)  (hd : Nat) (cA : ClassId) (ct : Int32) (h : Nat → Int32) (u v : Nat) (hu : u < 16) (hv : v < 16) (hb9 : bt (h u) v = false) (sz : Nat) : Met l y_A_remove (Cond.code y_A_remove c_A_remove 3 (some .boolean) :: BS) { frames := 2, cells := 0, slots := 0, locals := 43 } (va_Pc [.ref a, .int (nI u), .int (nI v)] (xWp D [(a, .inr (0, [.ref w, .ref g, .ref yw, .ref f])), (w, .inr (1, [.ref hd, .int ct])), (hd, .inl (cA, 16, .inl h))] [(cA, .int)] sz)) (xQi D [(a, .inr (0, [.ref w, .ref g, .ref yw, .ref f])), (w, .inr (1, [.ref hd, .int ct])), (hd, .inl (cA, 16, .inl h))] [(a, .inr (0, [.ref w, .ref g, .ref yw, .ref f])), (w, .inr (1, [.ref hd, .int ct])), (hd, .inl (cA, 16, .inl h))] [(cA, .int)] sz (b2i false)) 0 0 (va_A [(a, .inr (0, [.ref w, .ref g, .ref yw, .ref f])), (w, .inr (1, [.ref hd, .int ct])), (hd, .inl (cA, 16, .inl h))] sz) := by
  refine Met.ofW (cc := c_A_remove) (maxL := 3) (ret := (some .boolean)) (by decide) rfl ?_
  intro p e s m args below meth c s₁ B hml hv
  obtain ⟨rfl, hsz, hP, hK, hD0, hN⟩ := hv
  have hx := B.exec
  have hb := B.bytes
  have hr := B.returns
  have hB := xB B.pre
  have hown : s.vm.findClass R_A = some m.cls := findClass_of_methodNamed B.named
  have hlocks := B.notSynchronized
  subst hsz
  have hD := hD0.self (sz := s.heap.size)
  obtain ⟨A, hAe⟩ : ∃ A, A = va_A [(a, .inr (0, [.ref w, .ref g, .ref yw, .ref f])), (w, .inr (1, [.ref hd, .int ct])), (hd, .inl (cA, 16, .inl h))] s.heap.size := ⟨_, rfl⟩
  rw [← hAe] at hD
  have hA : ∀ q : Nat, s.heap.size ≤ q → A q := fun q h => by rw [hAe]; exact Or.inr h
  have hS : va_S A s.heap s.heap [] := va_S.rf
  have hl := lv_entry ([.ref a, .int (nI u), .int (nI v)]) (n := 3) (Nat.le_of_ble_eq_true rfl)
  rw [lg_entry_eq]
  generalize (lg_sl ([.ref a, .int (nI u), .int (nI v)]) ++ List.replicate (3 - (lg_sl ([.ref a, .int (nI u), .int (nI v)])).length) Slot.unset).toArray = ls at hl ⊢
  have hl : lv_has ls 3 [(0, .ref a), (1, .int (nI u)), (2, .int (nI v))] := hl
  refine lv_iload_n hx hb d_A_remove_0 rfl (lv_at hl 1 rfl) ?_
  refine lv_iload_n hx hb d_A_remove_1 rfl (lv_at hl 2 rfl) ?_
  refine xr_v (va_runS (As := [.int (nI u), .int (nI v)]) (rest := []) ⟨hx, hb, hml, hown, hB⟩ (k_A_requirePlaces l (nI u) (nI v) (isP2 (by omega) (by omega))) ⟨callB_of 2 hB (xg0 mc_A_requirePlaces) rfl rfl rfl (hB _ mz_A) (hB _ ml_A_37) (by decide +kernel) ⟨Nat.le_of_ble_eq_true rfl, Nat.le_of_ble_eq_true rfl⟩, hB _ ms_A_requirePlaces⟩ xTT_pre rfl rfl hl.1 rfl (lv_room (Nat.le_of_ble_eq_true rfl)) d_A_remove_2 ⟨Nat.le_of_ble_eq_true rfl, Nat.le_of_ble_eq_true rfl⟩) ?_
  refine lv_aload_n hx hb d_A_remove_5 rfl (lv_at hl 0 rfl) ?_
  refine va_get (D := D) (ci := 0) (v := .ref w) (C := R_A) (T := F_A) (N := 4) hx hb hB in_A hown hK hP 0 rfl rfl 0 (by decide) (hB _ mf_A_10) (fun _ h9 => h9) rfl d_A_remove_6 ?_
  refine lv_iload_n hx hb d_A_remove_9 rfl (lv_at hl 1 rfl) ?_
  refine lv_iload_n hx hb d_A_remove_10 rfl (lv_at hl 2 rfl) ?_
  refine xr_cal (va_runV (As := [.int (nI u), .int (nI v)]) (rest := []) ⟨hx, hb, hml, hown, hB⟩ (k_Web_holds l D w hd cA ct h u v (by omega) (by omega)) ⟨callB_of 2 hB (xg0 mc_Web_holds) rfl rfl rfl (hB _ mz_Web) (hB _ ml_A_48) (by decide +kernel) ⟨Nat.le_of_ble_eq_true rfl, Nat.le_of_ble_eq_true rfl⟩, hB _ mi_Web_holds, hB _ me_Web_holds⟩ (xpV (ws := [(w, .inr (1, [.ref hd, .int ct])), (hd, .inl (cA, 16, .inl h))]) (tys := [(cA, .int)]) (hP.sub [1, 2] rfl) (hK.sub [0] rfl) hN (va_recv (ci := 1) (q0 := 1) (q := (R_Web, F_Web, 2)) hK hP rfl rfl)) rfl rfl hl.1 rfl (lv_room (Nat.le_of_ble_eq_true rfl)) d_A_remove_11 ⟨Nat.le_of_ble_eq_true rfl, Nat.le_of_ble_eq_true rfl⟩) ?_
  refine lv_if_ne (tgt := 19) hx hb d_A_remove_14 rfl (fun hc14 => ?_) (fun hc14 => ?_)
  · have hc14 := b2i_n.mp hc14
    exact absurd hc14 (by rw [hb9]; decide)
  · have hc14 := b2i_0.mp hc14
    refine lv_iconst (v := nI 0) hx hb d_A_remove_17 (by decide) ?_
    have hP9 := hP.sub (ws' := [(a, .inr (0, [.ref w, .ref g, .ref yw, .ref f])), (w, .inr (1, [.ref hd, .int ct])), (hd, .inl (cA, 16, .inl h))]) [0, 1, 2] rfl
    have hD9 := hD.sub (ws' := [(a, .inr (0, [.ref w, .ref g, .ref yw, .ref f])), (w, .inr (1, [.ref hd, .int ct])), (hd, .inl (cA, 16, .inl h))]) [0, 1, 2] (by decide) rfl
    subst hAe
    refine xv_top (x' := b2i false) (rfl) ?_
    exact W.zret (v := b2i false) hx hb hr (b2i_nar _) (fun t ht hW => ⟨⟨_, (), rfl, rfl, by rw [ht]; exact hP9, va_K.moved hW.alike hK, hD9⟩, hS.F ht⟩) hS.2.2 d_A_remove_18
set_option maxHeartbeats 4000000 in
set_option maxRecDepth 100000 in
theorem k_A_remove_take (l : Launch) (D : va_G) (a w g yw f : Nat)  (hd : Nat) (cA : ClassId) (ct : Int32) (h : Nat → Int32) (u v : Nat) (hu : u < 16) (hv : v < 16) (hb9 : bt (h u) v = true) (sz : Nat) : Met l y_A_remove (Cond.code y_A_remove c_A_remove 3 (some .boolean) :: BS) { frames := 2, cells := 0, slots := 0, locals := 43 } (va_Pc [.ref a, .int (nI u), .int (nI v)] (xWp D [(a, .inr (0, [.ref w, .ref g, .ref yw, .ref f])), (w, .inr (1, [.ref hd, .int ct])), (hd, .inl (cA, 16, .inl h))] [(cA, .int)] sz)) (xQi D [(a, .inr (0, [.ref w, .ref g, .ref yw, .ref f])), (w, .inr (1, [.ref hd, .int ct])), (hd, .inl (cA, 16, .inl h))] [(a, .inr (0, [.ref w, .ref g, .ref yw, .ref f])), (w, .inr (1, [.ref hd, .int (ct - nI 1)])), (hd, .inl (cA, 16, .inl (upd h u (h u &&& (bit v ^^^ (-1))))))] [(cA, .int)] sz (b2i true)) 0 0 (va_A [(a, .inr (0, [.ref w, .ref g, .ref yw, .ref f])), (w, .inr (1, [.ref hd, .int ct])), (hd, .inl (cA, 16, .inl h))] sz) := by
  refine Met.ofW (cc := c_A_remove) (maxL := 3) (ret := (some .boolean)) (by decide) rfl ?_
  intro p e s m args below meth c s₁ B hml hv
  obtain ⟨rfl, hsz, hP, hK, hD0, hN⟩ := hv
  have hx := B.exec
  have hb := B.bytes
  have hr := B.returns
  have hB := xB B.pre
  have hown : s.vm.findClass R_A = some m.cls := findClass_of_methodNamed B.named
  have hlocks := B.notSynchronized
  subst hsz
  have hD := hD0.self (sz := s.heap.size)
  obtain ⟨A, hAe⟩ : ∃ A, A = va_A [(a, .inr (0, [.ref w, .ref g, .ref yw, .ref f])), (w, .inr (1, [.ref hd, .int ct])), (hd, .inl (cA, 16, .inl h))] s.heap.size := ⟨_, rfl⟩
  rw [← hAe] at hD
  have hA : ∀ q : Nat, s.heap.size ≤ q → A q := fun q h => by rw [hAe]; exact Or.inr h
  have hS : va_S A s.heap s.heap [] := va_S.rf
  have hl := lv_entry ([.ref a, .int (nI u), .int (nI v)]) (n := 3) (Nat.le_of_ble_eq_true rfl)
  rw [lg_entry_eq]
  generalize (lg_sl ([.ref a, .int (nI u), .int (nI v)]) ++ List.replicate (3 - (lg_sl ([.ref a, .int (nI u), .int (nI v)])).length) Slot.unset).toArray = ls at hl ⊢
  have hl : lv_has ls 3 [(0, .ref a), (1, .int (nI u)), (2, .int (nI v))] := hl
  refine lv_iload_n hx hb d_A_remove_0 rfl (lv_at hl 1 rfl) ?_
  refine lv_iload_n hx hb d_A_remove_1 rfl (lv_at hl 2 rfl) ?_
  refine xr_v (va_runS (As := [.int (nI u), .int (nI v)]) (rest := []) ⟨hx, hb, hml, hown, hB⟩ (k_A_requirePlaces l (nI u) (nI v) (isP2 (by omega) (by omega))) ⟨callB_of 2 hB (xg0 mc_A_requirePlaces) rfl rfl rfl (hB _ mz_A) (hB _ ml_A_37) (by decide +kernel) ⟨Nat.le_of_ble_eq_true rfl, Nat.le_of_ble_eq_true rfl⟩, hB _ ms_A_requirePlaces⟩ xTT_pre rfl rfl hl.1 rfl (lv_room (Nat.le_of_ble_eq_true rfl)) d_A_remove_2 ⟨Nat.le_of_ble_eq_true rfl, Nat.le_of_ble_eq_true rfl⟩) ?_
  refine lv_aload_n hx hb d_A_remove_5 rfl (lv_at hl 0 rfl) ?_
  refine va_get (D := D) (ci := 0) (v := .ref w) (C := R_A) (T := F_A) (N := 4) hx hb hB in_A hown hK hP 0 rfl rfl 0 (by decide) (hB _ mf_A_10) (fun _ h9 => h9) rfl d_A_remove_6 ?_
  refine lv_iload_n hx hb d_A_remove_9 rfl (lv_at hl 1 rfl) ?_
  refine lv_iload_n hx hb d_A_remove_10 rfl (lv_at hl 2 rfl) ?_
  refine xr_cal (va_runV (As := [.int (nI u), .int (nI v)]) (rest := []) ⟨hx, hb, hml, hown, hB⟩ (k_Web_holds l D w hd cA ct h u v (by omega) (by omega)) ⟨callB_of 2 hB (xg0 mc_Web_holds) rfl rfl rfl (hB _ mz_Web) (hB _ ml_A_48) (by decide +kernel) ⟨Nat.le_of_ble_eq_true rfl, Nat.le_of_ble_eq_true rfl⟩, hB _ mi_Web_holds, hB _ me_Web_holds⟩ (xpV (ws := [(w, .inr (1, [.ref hd, .int ct])), (hd, .inl (cA, 16, .inl h))]) (tys := [(cA, .int)]) (hP.sub [1, 2] rfl) (hK.sub [0] rfl) hN (va_recv (ci := 1) (q0 := 1) (q := (R_Web, F_Web, 2)) hK hP rfl rfl)) rfl rfl hl.1 rfl (lv_room (Nat.le_of_ble_eq_true rfl)) d_A_remove_11 ⟨Nat.le_of_ble_eq_true rfl, Nat.le_of_ble_eq_true rfl⟩) ?_
  refine lv_if_ne (tgt := 19) hx hb d_A_remove_14 rfl (fun hc14 => ?_) (fun hc14 => ?_)
  · have hc14 := b2i_n.mp hc14
    refine lv_aload_n hx hb d_A_remove_19 rfl (lv_at hl 0 rfl) ?_
    refine va_get (D := D) (ci := 0) (v := .ref w) (C := R_A) (T := F_A) (N := 4) hx hb hB in_A hown hK hP 0 rfl rfl 0 (by decide) (hB _ mf_A_10) (fun _ h9 => h9) rfl d_A_remove_20 ?_
    refine lv_iload_n hx hb d_A_remove_23 rfl (lv_at hl 1 rfl) ?_
    refine lv_iload_n hx hb d_A_remove_24 rfl (lv_at hl 2 rfl) ?_
    refine xw_v (wc := [(w, .inr (1, [.ref hd, .int ct])), (hd, .inl (cA, 16, .inl h))]) (wr := [(a, .inr (0, [.ref w, .ref g, .ref yw, .ref f]))]) (w1 := [(w, .inr (1, [.ref hd, .int (ct - nI 1)])), (hd, .inl (cA, 16, .inl (upd h u (h u &&& (bit v ^^^ (-1))))))]) (va_runV (As := [.int (nI u), .int (nI v)]) (rest := []) ⟨hx, hb, hml, hown, hB⟩ (k_Web_take l D w hd cA ct h u v (by omega) (by omega) _) ⟨callB_of 2 hB (xg0 mc_Web_take) rfl rfl rfl (hB _ mz_Web) (hB _ ml_A_64) (by decide +kernel) ⟨Nat.le_of_ble_eq_true rfl, Nat.le_of_ble_eq_true rfl⟩, hB _ mi_Web_take, hB _ me_Web_take⟩ (xqV (ws := [(w, .inr (1, [.ref hd, .int ct])), (hd, .inl (cA, 16, .inl h))]) (tys := [(cA, .int)]) (hP.sub [1, 2] rfl) (hD.sub [1, 2] (by decide) rfl) (hK.sub [0] rfl) hN (va_recv (ci := 1) (q0 := 1) (q := (R_Web, F_Web, 2)) hK hP rfl rfl)) rfl rfl hl.1 rfl (lv_room (Nat.le_of_ble_eq_true rfl)) d_A_remove_25 ⟨Nat.le_of_ble_eq_true rfl, Nat.le_of_ble_eq_true rfl⟩) hP hD hS hA [1, 2] [0] rfl rfl (by decide) (by decide) (fun H locs hP hD hS => ?_)
    have hP : va_P D cls [(a, .inr (0, [.ref w, .ref g, .ref yw, .ref f])), (w, .inr (1, [.ref hd, .int (ct - nI 1)])), (hd, .inl (cA, 16, .inl (upd h u (h u &&& (bit v ^^^ (-1))))))] H := hP
    have hD : va_D A [(a, .inr (0, [.ref w, .ref g, .ref yw, .ref f])), (w, .inr (1, [.ref hd, .int (ct - nI 1)])), (hd, .inl (cA, 16, .inl (upd h u (h u &&& (bit v ^^^ (-1))))))] := hD
    refine lv_iconst (v := nI 1) hx hb d_A_remove_28 (by decide) ?_
    have hP9 := hP.sub (ws' := [(a, .inr (0, [.ref w, .ref g, .ref yw, .ref f])), (w, .inr (1, [.ref hd, .int (ct - nI 1)])), (hd, .inl (cA, 16, .inl (upd h u (h u &&& (bit v ^^^ (-1))))))]) [0, 1, 2] rfl
    have hD9 := hD.sub (ws' := [(a, .inr (0, [.ref w, .ref g, .ref yw, .ref f])), (w, .inr (1, [.ref hd, .int (ct - nI 1)])), (hd, .inl (cA, 16, .inl (upd h u (h u &&& (bit v ^^^ (-1))))))]) [0, 1, 2] (by decide) rfl
    subst hAe
    refine xv_top (x' := b2i true) (rfl) ?_
    exact W.zret (v := b2i true) hx hb hr (b2i_nar _) (fun t ht hW => ⟨⟨_, (), rfl, rfl, by rw [ht]; exact hP9, va_K.moved hW.alike hK, hD9⟩, hS.F ht⟩) hS.2.2 d_A_remove_29
  · have hc14 := b2i_0.mp hc14
    exact absurd hb9 (by rw [hc14]; decide)
set_option maxHeartbeats 4000000 in
set_option maxRecDepth 100000 in
theorem k_A_clear (l : Launch) (D : va_G) (a w g yw f : Nat)  (hd : Nat) (cA : ClassId) (ct : Int32) (h : Nat → Int32)  (sz : Nat) : Met l y_A_clear (Cond.code y_A_clear c_A_clear 2 (some .int) :: BS) { frames := 2, cells := 0, slots := 0, locals := 43 } (va_Pc [.ref a] (xWp D [(a, .inr (0, [.ref w, .ref g, .ref yw, .ref f])), (w, .inr (1, [.ref hd, .int ct])), (hd, .inl (cA, 16, .inl h))] [(cA, .int)] sz)) (xQi D [(a, .inr (0, [.ref w, .ref g, .ref yw, .ref f])), (w, .inr (1, [.ref hd, .int ct])), (hd, .inl (cA, 16, .inl h))] [(a, .inr (0, [.ref w, .ref g, .ref yw, .ref f])), (w, .inr (1, [.ref hd, .int (nI 0)])), (hd, .inl (cA, 16, .inl (fun _ => nI 0)))] [(cA, .int)] sz (ct)) 0 0 (va_A [(a, .inr (0, [.ref w, .ref g, .ref yw, .ref f])), (w, .inr (1, [.ref hd, .int ct])), (hd, .inl (cA, 16, .inl h))] sz) := by
  refine Met.ofW (cc := c_A_clear) (maxL := 2) (ret := (some .int)) (by decide) rfl ?_
  intro p e s m args below meth c s₁ B hml hv
  obtain ⟨rfl, hsz, hP, hK, hD0, hN⟩ := hv
  have hx := B.exec
  have hb := B.bytes
  have hr := B.returns
  have hB := xB B.pre
  have hown : s.vm.findClass R_A = some m.cls := findClass_of_methodNamed B.named
  have hlocks := B.notSynchronized
  subst hsz
  have hD := hD0.self (sz := s.heap.size)
  obtain ⟨A, hAe⟩ : ∃ A, A = va_A [(a, .inr (0, [.ref w, .ref g, .ref yw, .ref f])), (w, .inr (1, [.ref hd, .int ct])), (hd, .inl (cA, 16, .inl h))] s.heap.size := ⟨_, rfl⟩
  rw [← hAe] at hD
  have hA : ∀ q : Nat, s.heap.size ≤ q → A q := fun q h => by rw [hAe]; exact Or.inr h
  have hS : va_S A s.heap s.heap [] := va_S.rf
  have hl := lv_entry ([.ref a]) (n := 2) (Nat.le_of_ble_eq_true rfl)
  rw [lg_entry_eq]
  generalize (lg_sl ([.ref a]) ++ List.replicate (2 - (lg_sl ([.ref a])).length) Slot.unset).toArray = ls at hl ⊢
  have hl : lv_has ls 2 [(0, .ref a)] := hl
  refine lv_aload_n hx hb d_A_clear_0 rfl (lv_at hl 0 rfl) ?_
  refine va_get (D := D) (ci := 0) (v := .ref w) (C := R_A) (T := F_A) (N := 4) hx hb hB in_A hown hK hP 0 rfl rfl 0 (by decide) (hB _ mf_A_10) (fun _ h9 => h9) rfl d_A_clear_1 ?_
  refine xr_cal (va_runV (As := []) (rest := []) ⟨hx, hb, hml, hown, hB⟩ (k_Web_count l D w hd cA ct h ) ⟨callB_of 0 hB (xg0 mc_Web_count) rfl rfl rfl (hB _ mz_Web) (hB _ ml_A_52) (by decide +kernel) ⟨Nat.le_of_ble_eq_true rfl, Nat.le_of_ble_eq_true rfl⟩, hB _ mi_Web_count, hB _ me_Web_count⟩ (xpV (ws := [(w, .inr (1, [.ref hd, .int ct])), (hd, .inl (cA, 16, .inl h))]) (tys := [(cA, .int)]) (hP.sub [1, 2] rfl) (hK.sub [0] rfl) hN (va_recv (ci := 1) (q0 := 1) (q := (R_Web, F_Web, 2)) hK hP rfl rfl)) rfl rfl hl.1 rfl (lv_room (Nat.le_of_ble_eq_true rfl)) d_A_clear_4 ⟨Nat.le_of_ble_eq_true rfl, Nat.le_of_ble_eq_true rfl⟩) ?_
  refine lv_istore_n hx hb d_A_clear_7 rfl hl (by decide) rfl (fun ls hl => ?_)
  have hl : lv_has ls 2 [(1, .int ct), (0, .ref a)] := hl
  refine lv_aload_n hx hb d_A_clear_8 rfl (lv_at hl 1 rfl) ?_
  refine va_get (D := D) (ci := 0) (v := .ref w) (C := R_A) (T := F_A) (N := 4) hx hb hB in_A hown hK hP 0 rfl rfl 0 (by decide) (hB _ mf_A_10) (fun _ h9 => h9) rfl d_A_clear_9 ?_
  refine xw_v (wc := [(w, .inr (1, [.ref hd, .int ct])), (hd, .inl (cA, 16, .inl h))]) (wr := [(a, .inr (0, [.ref w, .ref g, .ref yw, .ref f]))]) (w1 := [(w, .inr (1, [.ref hd, .int (nI 0)])), (hd, .inl (cA, 16, .inl (fun _ => nI 0)))]) (va_runV (As := []) (rest := []) ⟨hx, hb, hml, hown, hB⟩ (k_Web_takeAll l D w hd cA ct h  _) ⟨callB_of 0 hB (xg0 mc_Web_takeAll) rfl rfl rfl (hB _ mz_Web) (hB _ ml_A_67) (by decide +kernel) ⟨Nat.le_of_ble_eq_true rfl, Nat.le_of_ble_eq_true rfl⟩, hB _ mi_Web_takeAll, hB _ me_Web_takeAll⟩ (xqV (ws := [(w, .inr (1, [.ref hd, .int ct])), (hd, .inl (cA, 16, .inl h))]) (tys := [(cA, .int)]) (hP.sub [1, 2] rfl) (hD.sub [1, 2] (by decide) rfl) (hK.sub [0] rfl) hN (va_recv (ci := 1) (q0 := 1) (q := (R_Web, F_Web, 2)) hK hP rfl rfl)) rfl rfl hl.1 rfl (lv_room (Nat.le_of_ble_eq_true rfl)) d_A_clear_12 ⟨Nat.le_of_ble_eq_true rfl, Nat.le_of_ble_eq_true rfl⟩) hP hD hS hA [1, 2] [0] rfl rfl (by decide) (by decide) (fun H locs hP hD hS => ?_)
  have hP : va_P D cls [(a, .inr (0, [.ref w, .ref g, .ref yw, .ref f])), (w, .inr (1, [.ref hd, .int (nI 0)])), (hd, .inl (cA, 16, .inl (fun _ => nI 0)))] H := hP
  have hD : va_D A [(a, .inr (0, [.ref w, .ref g, .ref yw, .ref f])), (w, .inr (1, [.ref hd, .int (nI 0)])), (hd, .inl (cA, 16, .inl (fun _ => nI 0)))] := hD
  refine lv_iload_n hx hb d_A_clear_15 rfl (lv_at hl 0 rfl) ?_
  have hP9 := hP.sub (ws' := [(a, .inr (0, [.ref w, .ref g, .ref yw, .ref f])), (w, .inr (1, [.ref hd, .int (nI 0)])), (hd, .inl (cA, 16, .inl (fun _ => nI 0)))]) [0, 1, 2] rfl
  have hD9 := hD.sub (ws' := [(a, .inr (0, [.ref w, .ref g, .ref yw, .ref f])), (w, .inr (1, [.ref hd, .int (nI 0)])), (hd, .inl (cA, 16, .inl (fun _ => nI 0)))]) [0, 1, 2] (by decide) rfl
  subst hAe
  exact W.iret (v := ct) hx hb hr (fun t ht hW => ⟨⟨_, (), rfl, rfl, by rw [ht]; exact hP9, va_K.moved hW.alike hK, hD9⟩, hS.F ht⟩) hS.2.2 d_A_clear_16
set_option maxHeartbeats 4000000 in
set_option maxRecDepth 100000 in
theorem k_A_group (l : Launch) (D : va_G) (a w g yw f : Nat)  (hd : Nat) (cA : ClassId) (ct : Int32) (h : Nat → Int32) (g0 g1 g2 g3 g4 g5 : Nat) (k0 k1 k2 k3 k4 k5 : ClassId) (gc : Int32) (rE : Nat → Int32) (nM : Nat → Int32) (lD : Nat → Int32) (bF : Nat → Int32) (oR : Nat → Int32) (cH : Nat → Int32) (hg : gd h) (v : Nat) (hv : v < 16) (sz : Nat) : Met l y_A_group (Cond.code y_A_group c_A_group 2 (some .int) :: BS) { frames := 4, cells := 0, slots := 0, locals := 87 } (va_Pc [.ref a, .int (nI v)] (xWp D [(a, .inr (0, [.ref w, .ref g, .ref yw, .ref f])), (w, .inr (1, [.ref hd, .int ct])), (hd, .inl (cA, 16, .inl h)), (g, .inr (2, [.ref g0, .ref g1, .ref g2, .ref g3, .ref g4, .ref g5, .int gc])), (g0, .inl (k0, 16, .inl rE)), (g1, .inl (k1, 16, .inl nM)), (g2, .inl (k2, 16, .inl lD)), (g3, .inl (k3, 16, .inl bF)), (g4, .inl (k4, 16, .inl oR)), (g5, .inl (k5, 16, .inl cH))] [(cA, .int), (k0, .int), (k1, .int), (k2, .int), (k3, .int), (k4, .int), (k5, .int)] sz)) (xQi D [(a, .inr (0, [.ref w, .ref g, .ref yw, .ref f])), (w, .inr (1, [.ref hd, .int ct])), (hd, .inl (cA, 16, .inl h)), (g, .inr (2, [.ref g0, .ref g1, .ref g2, .ref g3, .ref g4, .ref g5, .int gc])), (g0, .inl (k0, 16, .inl rE)), (g1, .inl (k1, 16, .inl nM)), (g2, .inl (k2, 16, .inl lD)), (g3, .inl (k3, 16, .inl bF)), (g4, .inl (k4, 16, .inl oR)), (g5, .inl (k5, 16, .inl cH))] [(a, .inr (0, [.ref w, .ref g, .ref yw, .ref f])), (w, .inr (1, [.ref hd, .int ct])), (hd, .inl (cA, 16, .inl h)), (g, .inr (2, [.ref g0, .ref g1, .ref g2, .ref g3, .ref g4, .ref g5, .int (nI (cq (fun v9 => decide (lwN (RE h) v9 = v9)) 16))])), (g0, .inl (k0, 16, .inl (RE h))), (g1, .inl (k1, 16, .inl (fun k => nI (lwN (RE h) k)))), (g2, .inl (k2, 16, .inl (LTp h (lwN (RE h)) 16 0))), (g3, .inl (k3, 16, .inl (BFp h (lwN (RE h)) 16 0))), (g4, .inl (k4, 16, .inl (fun k => if k < (cq (fun v9 => decide (lwN (RE h) v9 = v9)) 16) then nI (nxF (fun k => nI (lwN (RE h) k)) (BFp h (lwN (RE h)) 16 0) (plF (fun k => nI (lwN (RE h) k)) (BFp h (lwN (RE h)) 16 0) k)) else oR k))), (g5, .inl (k5, 16, .inl cH))] [(cA, .int), (k0, .int), (k1, .int), (k2, .int), (k3, .int), (k4, .int), (k5, .int)] sz (nI (lwN (RE h) v))) 0 0 (va_A [(a, .inr (0, [.ref w, .ref g, .ref yw, .ref f])), (w, .inr (1, [.ref hd, .int ct])), (hd, .inl (cA, 16, .inl h)), (g, .inr (2, [.ref g0, .ref g1, .ref g2, .ref g3, .ref g4, .ref g5, .int gc])), (g0, .inl (k0, 16, .inl rE)), (g1, .inl (k1, 16, .inl nM)), (g2, .inl (k2, 16, .inl lD)), (g3, .inl (k3, 16, .inl bF)), (g4, .inl (k4, 16, .inl oR)), (g5, .inl (k5, 16, .inl cH))] sz) := by
  refine Met.ofW (cc := c_A_group) (maxL := 2) (ret := (some .int)) (by decide) rfl ?_
  intro p e s m args below meth c s₁ B hml hv
  obtain ⟨rfl, hsz, hP, hK, hD0, hN⟩ := hv
  have hx := B.exec
  have hb := B.bytes
  have hr := B.returns
  have hB := xB B.pre
  have hown : s.vm.findClass R_A = some m.cls := findClass_of_methodNamed B.named
  have hlocks := B.notSynchronized
  subst hsz
  have hD := hD0.self (sz := s.heap.size)
  obtain ⟨A, hAe⟩ : ∃ A, A = va_A [(a, .inr (0, [.ref w, .ref g, .ref yw, .ref f])), (w, .inr (1, [.ref hd, .int ct])), (hd, .inl (cA, 16, .inl h)), (g, .inr (2, [.ref g0, .ref g1, .ref g2, .ref g3, .ref g4, .ref g5, .int gc])), (g0, .inl (k0, 16, .inl rE)), (g1, .inl (k1, 16, .inl nM)), (g2, .inl (k2, 16, .inl lD)), (g3, .inl (k3, 16, .inl bF)), (g4, .inl (k4, 16, .inl oR)), (g5, .inl (k5, 16, .inl cH))] s.heap.size := ⟨_, rfl⟩
  rw [← hAe] at hD
  have hA : ∀ q : Nat, s.heap.size ≤ q → A q := fun q h => by rw [hAe]; exact Or.inr h
  have hS : va_S A s.heap s.heap [] := va_S.rf
  have hl := lv_entry ([.ref a, .int (nI v)]) (n := 2) (Nat.le_of_ble_eq_true rfl)
  rw [lg_entry_eq]
  generalize (lg_sl ([.ref a, .int (nI v)]) ++ List.replicate (2 - (lg_sl ([.ref a, .int (nI v)])).length) Slot.unset).toArray = ls at hl ⊢
  have hl : lv_has ls 2 [(0, .ref a), (1, .int (nI v))] := hl
  refine lv_iload_n hx hb d_A_group_0 rfl (lv_at hl 1 rfl) ?_
  refine xr_v (va_runS (As := [.int (nI v)]) (rest := []) ⟨hx, hb, hml, hown, hB⟩ (k_A_requirePlace l (nI v) (isP_nI (by omega))) ⟨callB_of 1 hB (xg0 mc_A_requirePlace) rfl rfl rfl (hB _ mz_A) (hB _ ml_A_70) (by decide +kernel) ⟨Nat.le_of_ble_eq_true rfl, Nat.le_of_ble_eq_true rfl⟩, hB _ ms_A_requirePlace⟩ xTT_pre rfl rfl hl.1 rfl (lv_room (Nat.le_of_ble_eq_true rfl)) d_A_group_1 ⟨Nat.le_of_ble_eq_true rfl, Nat.le_of_ble_eq_true rfl⟩) ?_
  refine lv_aload_n hx hb d_A_group_4 rfl (lv_at hl 0 rfl) ?_
  refine va_get (D := D) (ci := 0) (v := .ref g) (C := R_A) (T := F_A) (N := 4) hx hb hB in_A hown hK hP 0 rfl rfl 1 (by decide) (hB _ mf_A_19) (fun _ h9 => h9) rfl d_A_group_5 ?_
  refine lv_aload_n hx hb d_A_group_8 rfl (lv_at hl 0 rfl) ?_
  refine va_get (D := D) (ci := 0) (v := .ref w) (C := R_A) (T := F_A) (N := 4) hx hb hB in_A hown hK hP 0 rfl rfl 0 (by decide) (hB _ mf_A_10) (fun _ h9 => h9) rfl d_A_group_9 ?_
  refine xw_v (wc := [(g, .inr (2, [.ref g0, .ref g1, .ref g2, .ref g3, .ref g4, .ref g5, .int gc])), (g0, .inl (k0, 16, .inl rE)), (g1, .inl (k1, 16, .inl nM)), (g2, .inl (k2, 16, .inl lD)), (g3, .inl (k3, 16, .inl bF)), (g4, .inl (k4, 16, .inl oR)), (g5, .inl (k5, 16, .inl cH)), (w, .inr (1, [.ref hd, .int ct])), (hd, .inl (cA, 16, .inl h))]) (wr := [(a, .inr (0, [.ref w, .ref g, .ref yw, .ref f]))]) (w1 := [(g, .inr (2, [.ref g0, .ref g1, .ref g2, .ref g3, .ref g4, .ref g5, .int (nI (cq (fun v9 => decide (lwN (RE h) v9 = v9)) 16))])), (g0, .inl (k0, 16, .inl (RE h))), (g1, .inl (k1, 16, .inl (fun k => nI (lwN (RE h) k)))), (g2, .inl (k2, 16, .inl (LTp h (lwN (RE h)) 16 0))), (g3, .inl (k3, 16, .inl (BFp h (lwN (RE h)) 16 0))), (g4, .inl (k4, 16, .inl (fun k => if k < (cq (fun v9 => decide (lwN (RE h) v9 = v9)) 16) then nI (nxF (fun k => nI (lwN (RE h) k)) (BFp h (lwN (RE h)) 16 0) (plF (fun k => nI (lwN (RE h) k)) (BFp h (lwN (RE h)) 16 0) k)) else oR k))), (g5, .inl (k5, 16, .inl cH)), (w, .inr (1, [.ref hd, .int ct])), (hd, .inl (cA, 16, .inl h))]) (va_runV (As := [.ref w]) (rest := []) ⟨hx, hb, hml, hown, hB⟩ (k_Gr_read l D g g0 g1 g2 g3 g4 g5 k0 k1 k2 k3 k4 k5 gc rE nM lD bF oR cH w hd cA ct h hg _) ⟨callB_of 1 hB (xg0 mc_Gr_read) rfl rfl rfl (hB _ mz_Gr) (hB _ ml_A_74) (by decide +kernel) ⟨Nat.le_of_ble_eq_true rfl, Nat.le_of_ble_eq_true rfl⟩, hB _ mi_Gr_read, hB _ me_Gr_read⟩ (xqV (ws := [(g, .inr (2, [.ref g0, .ref g1, .ref g2, .ref g3, .ref g4, .ref g5, .int gc])), (g0, .inl (k0, 16, .inl rE)), (g1, .inl (k1, 16, .inl nM)), (g2, .inl (k2, 16, .inl lD)), (g3, .inl (k3, 16, .inl bF)), (g4, .inl (k4, 16, .inl oR)), (g5, .inl (k5, 16, .inl cH)), (w, .inr (1, [.ref hd, .int ct])), (hd, .inl (cA, 16, .inl h))]) (tys := [(k0, .int), (k1, .int), (k2, .int), (k3, .int), (k4, .int), (k5, .int), (cA, .int)]) (hP.sub [3, 4, 5, 6, 7, 8, 9, 1, 2] rfl) (hD.sub [3, 4, 5, 6, 7, 8, 9, 1, 2] (by decide) rfl) (hK.sub [1, 2, 3, 4, 5, 6, 0] rfl) hN (va_recv (ci := 2) (q0 := 3) (q := (R_Gr, F_Gr, 7)) hK hP rfl rfl)) rfl rfl hl.1 rfl (lv_room (Nat.le_of_ble_eq_true rfl)) d_A_group_12 ⟨Nat.le_of_ble_eq_true rfl, Nat.le_of_ble_eq_true rfl⟩) hP hD hS hA [3, 4, 5, 6, 7, 8, 9, 1, 2] [0] rfl rfl (by decide) (by decide) (fun H locs hP hD hS => ?_)
  have hP : va_P D cls [(a, .inr (0, [.ref w, .ref g, .ref yw, .ref f])), (g, .inr (2, [.ref g0, .ref g1, .ref g2, .ref g3, .ref g4, .ref g5, .int (nI (cq (fun v9 => decide (lwN (RE h) v9 = v9)) 16))])), (g0, .inl (k0, 16, .inl (RE h))), (g1, .inl (k1, 16, .inl (fun k => nI (lwN (RE h) k)))), (g2, .inl (k2, 16, .inl (LTp h (lwN (RE h)) 16 0))), (g3, .inl (k3, 16, .inl (BFp h (lwN (RE h)) 16 0))), (g4, .inl (k4, 16, .inl (fun k => if k < (cq (fun v9 => decide (lwN (RE h) v9 = v9)) 16) then nI (nxF (fun k => nI (lwN (RE h) k)) (BFp h (lwN (RE h)) 16 0) (plF (fun k => nI (lwN (RE h) k)) (BFp h (lwN (RE h)) 16 0) k)) else oR k))), (g5, .inl (k5, 16, .inl cH)), (w, .inr (1, [.ref hd, .int ct])), (hd, .inl (cA, 16, .inl h))] H := hP
  have hD : va_D A [(a, .inr (0, [.ref w, .ref g, .ref yw, .ref f])), (g, .inr (2, [.ref g0, .ref g1, .ref g2, .ref g3, .ref g4, .ref g5, .int (nI (cq (fun v9 => decide (lwN (RE h) v9 = v9)) 16))])), (g0, .inl (k0, 16, .inl (RE h))), (g1, .inl (k1, 16, .inl (fun k => nI (lwN (RE h) k)))), (g2, .inl (k2, 16, .inl (LTp h (lwN (RE h)) 16 0))), (g3, .inl (k3, 16, .inl (BFp h (lwN (RE h)) 16 0))), (g4, .inl (k4, 16, .inl (fun k => if k < (cq (fun v9 => decide (lwN (RE h) v9 = v9)) 16) then nI (nxF (fun k => nI (lwN (RE h) k)) (BFp h (lwN (RE h)) 16 0) (plF (fun k => nI (lwN (RE h) k)) (BFp h (lwN (RE h)) 16 0) k)) else oR k))), (g5, .inl (k5, 16, .inl cH)), (w, .inr (1, [.ref hd, .int ct])), (hd, .inl (cA, 16, .inl h))] := hD
  refine lv_aload_n hx hb d_A_group_15 rfl (lv_at hl 0 rfl) ?_
  refine va_get (D := D) (ci := 0) (v := .ref g) (C := R_A) (T := F_A) (N := 4) hx hb hB in_A hown hK hP 0 rfl rfl 1 (by decide) (hB _ mf_A_19) (fun _ h9 => h9) rfl d_A_group_16 ?_
  refine lv_iload_n hx hb d_A_group_19 rfl (lv_at hl 1 rfl) ?_
  refine xr_cal (va_runV (As := [.int (nI v)]) (rest := []) ⟨hx, hb, hml, hown, hB⟩ (k_Gr_nameOf l D g g0 g1 g2 g3 g4 g5 k0 k1 k2 k3 k4 k5 (nI (cq (fun v9 => decide (lwN (RE h) v9 = v9)) 16)) (RE h) (fun k => nI (lwN (RE h) k)) (LTp h (lwN (RE h)) 16 0) (BFp h (lwN (RE h)) 16 0) (fun k => if k < (cq (fun v9 => decide (lwN (RE h) v9 = v9)) 16) then nI (nxF (fun k => nI (lwN (RE h) k)) (BFp h (lwN (RE h)) 16 0) (plF (fun k => nI (lwN (RE h) k)) (BFp h (lwN (RE h)) 16 0) k)) else oR k) cH v (by omega)) ⟨callB_of 1 hB (xg0 mc_Gr_nameOf) rfl rfl rfl (hB _ mz_Gr) (hB _ ml_A_78) (by decide +kernel) ⟨Nat.le_of_ble_eq_true rfl, Nat.le_of_ble_eq_true rfl⟩, hB _ mi_Gr_nameOf, hB _ me_Gr_nameOf⟩ (xpV (ws := [(g, .inr (2, [.ref g0, .ref g1, .ref g2, .ref g3, .ref g4, .ref g5, .int (nI (cq (fun v9 => decide (lwN (RE h) v9 = v9)) 16))])), (g0, .inl (k0, 16, .inl (RE h))), (g1, .inl (k1, 16, .inl (fun k => nI (lwN (RE h) k)))), (g2, .inl (k2, 16, .inl (LTp h (lwN (RE h)) 16 0))), (g3, .inl (k3, 16, .inl (BFp h (lwN (RE h)) 16 0))), (g4, .inl (k4, 16, .inl (fun k => if k < (cq (fun v9 => decide (lwN (RE h) v9 = v9)) 16) then nI (nxF (fun k => nI (lwN (RE h) k)) (BFp h (lwN (RE h)) 16 0) (plF (fun k => nI (lwN (RE h) k)) (BFp h (lwN (RE h)) 16 0) k)) else oR k))), (g5, .inl (k5, 16, .inl cH))]) (tys := [(k0, .int), (k1, .int), (k2, .int), (k3, .int), (k4, .int), (k5, .int)]) (hP.sub [1, 2, 3, 4, 5, 6, 7] rfl) (hK.sub [1, 2, 3, 4, 5, 6] rfl) hN (va_recv (ci := 2) (q0 := 1) (q := (R_Gr, F_Gr, 7)) hK hP rfl rfl)) rfl rfl hl.1 rfl (lv_room (Nat.le_of_ble_eq_true rfl)) d_A_group_20 ⟨Nat.le_of_ble_eq_true rfl, Nat.le_of_ble_eq_true rfl⟩) ?_
  have hP9 := hP.sub (ws' := [(a, .inr (0, [.ref w, .ref g, .ref yw, .ref f])), (w, .inr (1, [.ref hd, .int ct])), (hd, .inl (cA, 16, .inl h)), (g, .inr (2, [.ref g0, .ref g1, .ref g2, .ref g3, .ref g4, .ref g5, .int (nI (cq (fun v9 => decide (lwN (RE h) v9 = v9)) 16))])), (g0, .inl (k0, 16, .inl (RE h))), (g1, .inl (k1, 16, .inl (fun k => nI (lwN (RE h) k)))), (g2, .inl (k2, 16, .inl (LTp h (lwN (RE h)) 16 0))), (g3, .inl (k3, 16, .inl (BFp h (lwN (RE h)) 16 0))), (g4, .inl (k4, 16, .inl (fun k => if k < (cq (fun v9 => decide (lwN (RE h) v9 = v9)) 16) then nI (nxF (fun k => nI (lwN (RE h) k)) (BFp h (lwN (RE h)) 16 0) (plF (fun k => nI (lwN (RE h) k)) (BFp h (lwN (RE h)) 16 0) k)) else oR k))), (g5, .inl (k5, 16, .inl cH))]) [0, 8, 9, 1, 2, 3, 4, 5, 6, 7] rfl
  have hD9 := hD.sub (ws' := [(a, .inr (0, [.ref w, .ref g, .ref yw, .ref f])), (w, .inr (1, [.ref hd, .int ct])), (hd, .inl (cA, 16, .inl h)), (g, .inr (2, [.ref g0, .ref g1, .ref g2, .ref g3, .ref g4, .ref g5, .int (nI (cq (fun v9 => decide (lwN (RE h) v9 = v9)) 16))])), (g0, .inl (k0, 16, .inl (RE h))), (g1, .inl (k1, 16, .inl (fun k => nI (lwN (RE h) k)))), (g2, .inl (k2, 16, .inl (LTp h (lwN (RE h)) 16 0))), (g3, .inl (k3, 16, .inl (BFp h (lwN (RE h)) 16 0))), (g4, .inl (k4, 16, .inl (fun k => if k < (cq (fun v9 => decide (lwN (RE h) v9 = v9)) 16) then nI (nxF (fun k => nI (lwN (RE h) k)) (BFp h (lwN (RE h)) 16 0) (plF (fun k => nI (lwN (RE h) k)) (BFp h (lwN (RE h)) 16 0) k)) else oR k))), (g5, .inl (k5, 16, .inl cH))]) [0, 8, 9, 1, 2, 3, 4, 5, 6, 7] (by decide) rfl
  subst hAe
  refine xv_top (x' := nI (lwN (RE h) v)) (rfl) ?_
  exact W.iret (v := nI (lwN (RE h) v)) hx hb hr (fun t ht hW => ⟨⟨_, (), rfl, rfl, by rw [ht]; exact hP9, va_K.moved hW.alike hK, hD9⟩, hS.F ht⟩) hS.2.2 d_A_group_23
set_option maxHeartbeats 4000000 in
set_option maxRecDepth 100000 in
theorem k_A_members (l : Launch) (D : va_G) (a w g yw f : Nat)  (hd : Nat) (cA : ClassId) (ct : Int32) (h : Nat → Int32) (g0 g1 g2 g3 g4 g5 : Nat) (k0 k1 k2 k3 k4 k5 : ClassId) (gc : Int32) (rE : Nat → Int32) (nM : Nat → Int32) (lD : Nat → Int32) (bF : Nat → Int32) (oR : Nat → Int32) (cH : Nat → Int32) (hg : gd h) (v : Nat) (hv : v < 16) (sz : Nat) : Met l y_A_members (Cond.code y_A_members c_A_members 2 (some .int) :: BS) { frames := 4, cells := 0, slots := 0, locals := 87 } (va_Pc [.ref a, .int (nI v)] (xWp D [(a, .inr (0, [.ref w, .ref g, .ref yw, .ref f])), (w, .inr (1, [.ref hd, .int ct])), (hd, .inl (cA, 16, .inl h)), (g, .inr (2, [.ref g0, .ref g1, .ref g2, .ref g3, .ref g4, .ref g5, .int gc])), (g0, .inl (k0, 16, .inl rE)), (g1, .inl (k1, 16, .inl nM)), (g2, .inl (k2, 16, .inl lD)), (g3, .inl (k3, 16, .inl bF)), (g4, .inl (k4, 16, .inl oR)), (g5, .inl (k5, 16, .inl cH))] [(cA, .int), (k0, .int), (k1, .int), (k2, .int), (k3, .int), (k4, .int), (k5, .int)] sz)) (xQi D [(a, .inr (0, [.ref w, .ref g, .ref yw, .ref f])), (w, .inr (1, [.ref hd, .int ct])), (hd, .inl (cA, 16, .inl h)), (g, .inr (2, [.ref g0, .ref g1, .ref g2, .ref g3, .ref g4, .ref g5, .int gc])), (g0, .inl (k0, 16, .inl rE)), (g1, .inl (k1, 16, .inl nM)), (g2, .inl (k2, 16, .inl lD)), (g3, .inl (k3, 16, .inl bF)), (g4, .inl (k4, 16, .inl oR)), (g5, .inl (k5, 16, .inl cH))] [(a, .inr (0, [.ref w, .ref g, .ref yw, .ref f])), (w, .inr (1, [.ref hd, .int ct])), (hd, .inl (cA, 16, .inl h)), (g, .inr (2, [.ref g0, .ref g1, .ref g2, .ref g3, .ref g4, .ref g5, .int (nI (cq (fun v9 => decide (lwN (RE h) v9 = v9)) 16))])), (g0, .inl (k0, 16, .inl (RE h))), (g1, .inl (k1, 16, .inl (fun k => nI (lwN (RE h) k)))), (g2, .inl (k2, 16, .inl (LTp h (lwN (RE h)) 16 0))), (g3, .inl (k3, 16, .inl (BFp h (lwN (RE h)) 16 0))), (g4, .inl (k4, 16, .inl (fun k => if k < (cq (fun v9 => decide (lwN (RE h) v9 = v9)) 16) then nI (nxF (fun k => nI (lwN (RE h) k)) (BFp h (lwN (RE h)) 16 0) (plF (fun k => nI (lwN (RE h) k)) (BFp h (lwN (RE h)) 16 0) k)) else oR k))), (g5, .inl (k5, 16, .inl cH))] [(cA, .int), (k0, .int), (k1, .int), (k2, .int), (k3, .int), (k4, .int), (k5, .int)] sz (nI (cq (fun u => decide ((fun k => nI (lwN (RE h) k)) u = (fun k => nI (lwN (RE h) k)) v)) 16))) 0 0 (va_A [(a, .inr (0, [.ref w, .ref g, .ref yw, .ref f])), (w, .inr (1, [.ref hd, .int ct])), (hd, .inl (cA, 16, .inl h)), (g, .inr (2, [.ref g0, .ref g1, .ref g2, .ref g3, .ref g4, .ref g5, .int gc])), (g0, .inl (k0, 16, .inl rE)), (g1, .inl (k1, 16, .inl nM)), (g2, .inl (k2, 16, .inl lD)), (g3, .inl (k3, 16, .inl bF)), (g4, .inl (k4, 16, .inl oR)), (g5, .inl (k5, 16, .inl cH))] sz) := by
  refine Met.ofW (cc := c_A_members) (maxL := 2) (ret := (some .int)) (by decide) rfl ?_
  intro p e s m args below meth c s₁ B hml hv
  obtain ⟨rfl, hsz, hP, hK, hD0, hN⟩ := hv
  have hx := B.exec
  have hb := B.bytes
  have hr := B.returns
  have hB := xB B.pre
  have hown : s.vm.findClass R_A = some m.cls := findClass_of_methodNamed B.named
  have hlocks := B.notSynchronized
  subst hsz
  have hD := hD0.self (sz := s.heap.size)
  obtain ⟨A, hAe⟩ : ∃ A, A = va_A [(a, .inr (0, [.ref w, .ref g, .ref yw, .ref f])), (w, .inr (1, [.ref hd, .int ct])), (hd, .inl (cA, 16, .inl h)), (g, .inr (2, [.ref g0, .ref g1, .ref g2, .ref g3, .ref g4, .ref g5, .int gc])), (g0, .inl (k0, 16, .inl rE)), (g1, .inl (k1, 16, .inl nM)), (g2, .inl (k2, 16, .inl lD)), (g3, .inl (k3, 16, .inl bF)), (g4, .inl (k4, 16, .inl oR)), (g5, .inl (k5, 16, .inl cH))] s.heap.size := ⟨_, rfl⟩
  rw [← hAe] at hD
  have hA : ∀ q : Nat, s.heap.size ≤ q → A q := fun q h => by rw [hAe]; exact Or.inr h
  have hS : va_S A s.heap s.heap [] := va_S.rf
  have hl := lv_entry ([.ref a, .int (nI v)]) (n := 2) (Nat.le_of_ble_eq_true rfl)
  rw [lg_entry_eq]
  generalize (lg_sl ([.ref a, .int (nI v)]) ++ List.replicate (2 - (lg_sl ([.ref a, .int (nI v)])).length) Slot.unset).toArray = ls at hl ⊢
  have hl : lv_has ls 2 [(0, .ref a), (1, .int (nI v))] := hl
  refine lv_iload_n hx hb d_A_members_0 rfl (lv_at hl 1 rfl) ?_
  refine xr_v (va_runS (As := [.int (nI v)]) (rest := []) ⟨hx, hb, hml, hown, hB⟩ (k_A_requirePlace l (nI v) (isP_nI (by omega))) ⟨callB_of 1 hB (xg0 mc_A_requirePlace) rfl rfl rfl (hB _ mz_A) (hB _ ml_A_70) (by decide +kernel) ⟨Nat.le_of_ble_eq_true rfl, Nat.le_of_ble_eq_true rfl⟩, hB _ ms_A_requirePlace⟩ xTT_pre rfl rfl hl.1 rfl (lv_room (Nat.le_of_ble_eq_true rfl)) d_A_members_1 ⟨Nat.le_of_ble_eq_true rfl, Nat.le_of_ble_eq_true rfl⟩) ?_
  refine lv_aload_n hx hb d_A_members_4 rfl (lv_at hl 0 rfl) ?_
  refine va_get (D := D) (ci := 0) (v := .ref g) (C := R_A) (T := F_A) (N := 4) hx hb hB in_A hown hK hP 0 rfl rfl 1 (by decide) (hB _ mf_A_19) (fun _ h9 => h9) rfl d_A_members_5 ?_
  refine lv_aload_n hx hb d_A_members_8 rfl (lv_at hl 0 rfl) ?_
  refine va_get (D := D) (ci := 0) (v := .ref w) (C := R_A) (T := F_A) (N := 4) hx hb hB in_A hown hK hP 0 rfl rfl 0 (by decide) (hB _ mf_A_10) (fun _ h9 => h9) rfl d_A_members_9 ?_
  refine xw_v (wc := [(g, .inr (2, [.ref g0, .ref g1, .ref g2, .ref g3, .ref g4, .ref g5, .int gc])), (g0, .inl (k0, 16, .inl rE)), (g1, .inl (k1, 16, .inl nM)), (g2, .inl (k2, 16, .inl lD)), (g3, .inl (k3, 16, .inl bF)), (g4, .inl (k4, 16, .inl oR)), (g5, .inl (k5, 16, .inl cH)), (w, .inr (1, [.ref hd, .int ct])), (hd, .inl (cA, 16, .inl h))]) (wr := [(a, .inr (0, [.ref w, .ref g, .ref yw, .ref f]))]) (w1 := [(g, .inr (2, [.ref g0, .ref g1, .ref g2, .ref g3, .ref g4, .ref g5, .int (nI (cq (fun v9 => decide (lwN (RE h) v9 = v9)) 16))])), (g0, .inl (k0, 16, .inl (RE h))), (g1, .inl (k1, 16, .inl (fun k => nI (lwN (RE h) k)))), (g2, .inl (k2, 16, .inl (LTp h (lwN (RE h)) 16 0))), (g3, .inl (k3, 16, .inl (BFp h (lwN (RE h)) 16 0))), (g4, .inl (k4, 16, .inl (fun k => if k < (cq (fun v9 => decide (lwN (RE h) v9 = v9)) 16) then nI (nxF (fun k => nI (lwN (RE h) k)) (BFp h (lwN (RE h)) 16 0) (plF (fun k => nI (lwN (RE h) k)) (BFp h (lwN (RE h)) 16 0) k)) else oR k))), (g5, .inl (k5, 16, .inl cH)), (w, .inr (1, [.ref hd, .int ct])), (hd, .inl (cA, 16, .inl h))]) (va_runV (As := [.ref w]) (rest := []) ⟨hx, hb, hml, hown, hB⟩ (k_Gr_read l D g g0 g1 g2 g3 g4 g5 k0 k1 k2 k3 k4 k5 gc rE nM lD bF oR cH w hd cA ct h hg _) ⟨callB_of 1 hB (xg0 mc_Gr_read) rfl rfl rfl (hB _ mz_Gr) (hB _ ml_A_74) (by decide +kernel) ⟨Nat.le_of_ble_eq_true rfl, Nat.le_of_ble_eq_true rfl⟩, hB _ mi_Gr_read, hB _ me_Gr_read⟩ (xqV (ws := [(g, .inr (2, [.ref g0, .ref g1, .ref g2, .ref g3, .ref g4, .ref g5, .int gc])), (g0, .inl (k0, 16, .inl rE)), (g1, .inl (k1, 16, .inl nM)), (g2, .inl (k2, 16, .inl lD)), (g3, .inl (k3, 16, .inl bF)), (g4, .inl (k4, 16, .inl oR)), (g5, .inl (k5, 16, .inl cH)), (w, .inr (1, [.ref hd, .int ct])), (hd, .inl (cA, 16, .inl h))]) (tys := [(k0, .int), (k1, .int), (k2, .int), (k3, .int), (k4, .int), (k5, .int), (cA, .int)]) (hP.sub [3, 4, 5, 6, 7, 8, 9, 1, 2] rfl) (hD.sub [3, 4, 5, 6, 7, 8, 9, 1, 2] (by decide) rfl) (hK.sub [1, 2, 3, 4, 5, 6, 0] rfl) hN (va_recv (ci := 2) (q0 := 3) (q := (R_Gr, F_Gr, 7)) hK hP rfl rfl)) rfl rfl hl.1 rfl (lv_room (Nat.le_of_ble_eq_true rfl)) d_A_members_12 ⟨Nat.le_of_ble_eq_true rfl, Nat.le_of_ble_eq_true rfl⟩) hP hD hS hA [3, 4, 5, 6, 7, 8, 9, 1, 2] [0] rfl rfl (by decide) (by decide) (fun H locs hP hD hS => ?_)
  have hP : va_P D cls [(a, .inr (0, [.ref w, .ref g, .ref yw, .ref f])), (g, .inr (2, [.ref g0, .ref g1, .ref g2, .ref g3, .ref g4, .ref g5, .int (nI (cq (fun v9 => decide (lwN (RE h) v9 = v9)) 16))])), (g0, .inl (k0, 16, .inl (RE h))), (g1, .inl (k1, 16, .inl (fun k => nI (lwN (RE h) k)))), (g2, .inl (k2, 16, .inl (LTp h (lwN (RE h)) 16 0))), (g3, .inl (k3, 16, .inl (BFp h (lwN (RE h)) 16 0))), (g4, .inl (k4, 16, .inl (fun k => if k < (cq (fun v9 => decide (lwN (RE h) v9 = v9)) 16) then nI (nxF (fun k => nI (lwN (RE h) k)) (BFp h (lwN (RE h)) 16 0) (plF (fun k => nI (lwN (RE h) k)) (BFp h (lwN (RE h)) 16 0) k)) else oR k))), (g5, .inl (k5, 16, .inl cH)), (w, .inr (1, [.ref hd, .int ct])), (hd, .inl (cA, 16, .inl h))] H := hP
  have hD : va_D A [(a, .inr (0, [.ref w, .ref g, .ref yw, .ref f])), (g, .inr (2, [.ref g0, .ref g1, .ref g2, .ref g3, .ref g4, .ref g5, .int (nI (cq (fun v9 => decide (lwN (RE h) v9 = v9)) 16))])), (g0, .inl (k0, 16, .inl (RE h))), (g1, .inl (k1, 16, .inl (fun k => nI (lwN (RE h) k)))), (g2, .inl (k2, 16, .inl (LTp h (lwN (RE h)) 16 0))), (g3, .inl (k3, 16, .inl (BFp h (lwN (RE h)) 16 0))), (g4, .inl (k4, 16, .inl (fun k => if k < (cq (fun v9 => decide (lwN (RE h) v9 = v9)) 16) then nI (nxF (fun k => nI (lwN (RE h) k)) (BFp h (lwN (RE h)) 16 0) (plF (fun k => nI (lwN (RE h) k)) (BFp h (lwN (RE h)) 16 0) k)) else oR k))), (g5, .inl (k5, 16, .inl cH)), (w, .inr (1, [.ref hd, .int ct])), (hd, .inl (cA, 16, .inl h))] := hD
  refine lv_aload_n hx hb d_A_members_15 rfl (lv_at hl 0 rfl) ?_
  refine va_get (D := D) (ci := 0) (v := .ref g) (C := R_A) (T := F_A) (N := 4) hx hb hB in_A hown hK hP 0 rfl rfl 1 (by decide) (hB _ mf_A_19) (fun _ h9 => h9) rfl d_A_members_16 ?_
  refine lv_iload_n hx hb d_A_members_19 rfl (lv_at hl 1 rfl) ?_
  refine xr_cal (va_runV (As := [.int (nI v)]) (rest := []) ⟨hx, hb, hml, hown, hB⟩ (k_Gr_sizeOf l D g g0 g1 g2 g3 g4 g5 k0 k1 k2 k3 k4 k5 (nI (cq (fun v9 => decide (lwN (RE h) v9 = v9)) 16)) (RE h) (fun k => nI (lwN (RE h) k)) (LTp h (lwN (RE h)) 16 0) (BFp h (lwN (RE h)) 16 0) (fun k => if k < (cq (fun v9 => decide (lwN (RE h) v9 = v9)) 16) then nI (nxF (fun k => nI (lwN (RE h) k)) (BFp h (lwN (RE h)) 16 0) (plF (fun k => nI (lwN (RE h) k)) (BFp h (lwN (RE h)) 16 0) k)) else oR k) cH v (by omega)) ⟨callB_of 1 hB (xg0 mc_Gr_sizeOf) rfl rfl rfl (hB _ mz_Gr) (hB _ ml_A_82) (by decide +kernel) ⟨Nat.le_of_ble_eq_true rfl, Nat.le_of_ble_eq_true rfl⟩, hB _ mi_Gr_sizeOf, hB _ me_Gr_sizeOf⟩ (xpV (ws := [(g, .inr (2, [.ref g0, .ref g1, .ref g2, .ref g3, .ref g4, .ref g5, .int (nI (cq (fun v9 => decide (lwN (RE h) v9 = v9)) 16))])), (g0, .inl (k0, 16, .inl (RE h))), (g1, .inl (k1, 16, .inl (fun k => nI (lwN (RE h) k)))), (g2, .inl (k2, 16, .inl (LTp h (lwN (RE h)) 16 0))), (g3, .inl (k3, 16, .inl (BFp h (lwN (RE h)) 16 0))), (g4, .inl (k4, 16, .inl (fun k => if k < (cq (fun v9 => decide (lwN (RE h) v9 = v9)) 16) then nI (nxF (fun k => nI (lwN (RE h) k)) (BFp h (lwN (RE h)) 16 0) (plF (fun k => nI (lwN (RE h) k)) (BFp h (lwN (RE h)) 16 0) k)) else oR k))), (g5, .inl (k5, 16, .inl cH))]) (tys := [(k0, .int), (k1, .int), (k2, .int), (k3, .int), (k4, .int), (k5, .int)]) (hP.sub [1, 2, 3, 4, 5, 6, 7] rfl) (hK.sub [1, 2, 3, 4, 5, 6] rfl) hN (va_recv (ci := 2) (q0 := 1) (q := (R_Gr, F_Gr, 7)) hK hP rfl rfl)) rfl rfl hl.1 rfl (lv_room (Nat.le_of_ble_eq_true rfl)) d_A_members_20 ⟨Nat.le_of_ble_eq_true rfl, Nat.le_of_ble_eq_true rfl⟩) ?_
  have hP9 := hP.sub (ws' := [(a, .inr (0, [.ref w, .ref g, .ref yw, .ref f])), (w, .inr (1, [.ref hd, .int ct])), (hd, .inl (cA, 16, .inl h)), (g, .inr (2, [.ref g0, .ref g1, .ref g2, .ref g3, .ref g4, .ref g5, .int (nI (cq (fun v9 => decide (lwN (RE h) v9 = v9)) 16))])), (g0, .inl (k0, 16, .inl (RE h))), (g1, .inl (k1, 16, .inl (fun k => nI (lwN (RE h) k)))), (g2, .inl (k2, 16, .inl (LTp h (lwN (RE h)) 16 0))), (g3, .inl (k3, 16, .inl (BFp h (lwN (RE h)) 16 0))), (g4, .inl (k4, 16, .inl (fun k => if k < (cq (fun v9 => decide (lwN (RE h) v9 = v9)) 16) then nI (nxF (fun k => nI (lwN (RE h) k)) (BFp h (lwN (RE h)) 16 0) (plF (fun k => nI (lwN (RE h) k)) (BFp h (lwN (RE h)) 16 0) k)) else oR k))), (g5, .inl (k5, 16, .inl cH))]) [0, 8, 9, 1, 2, 3, 4, 5, 6, 7] rfl
  have hD9 := hD.sub (ws' := [(a, .inr (0, [.ref w, .ref g, .ref yw, .ref f])), (w, .inr (1, [.ref hd, .int ct])), (hd, .inl (cA, 16, .inl h)), (g, .inr (2, [.ref g0, .ref g1, .ref g2, .ref g3, .ref g4, .ref g5, .int (nI (cq (fun v9 => decide (lwN (RE h) v9 = v9)) 16))])), (g0, .inl (k0, 16, .inl (RE h))), (g1, .inl (k1, 16, .inl (fun k => nI (lwN (RE h) k)))), (g2, .inl (k2, 16, .inl (LTp h (lwN (RE h)) 16 0))), (g3, .inl (k3, 16, .inl (BFp h (lwN (RE h)) 16 0))), (g4, .inl (k4, 16, .inl (fun k => if k < (cq (fun v9 => decide (lwN (RE h) v9 = v9)) 16) then nI (nxF (fun k => nI (lwN (RE h) k)) (BFp h (lwN (RE h)) 16 0) (plF (fun k => nI (lwN (RE h) k)) (BFp h (lwN (RE h)) 16 0) k)) else oR k))), (g5, .inl (k5, 16, .inl cH))]) [0, 8, 9, 1, 2, 3, 4, 5, 6, 7] (by decide) rfl
  subst hAe
  exact W.iret (v := nI (cq (fun u => decide ((fun k => nI (lwN (RE h) k)) u = (fun k => nI (lwN (RE h) k)) v)) 16)) hx hb hr (fun t ht hW => ⟨⟨_, (), rfl, rfl, by rw [ht]; exact hP9, va_K.moved hW.alike hK, hD9⟩, hS.F ht⟩) hS.2.2 d_A_members_23
set_option maxHeartbeats 4000000 in
set_option maxRecDepth 100000 in
theorem k_A_rank (l : Launch) (D : va_G) (a w g yw f : Nat)  (hd : Nat) (cA : ClassId) (ct : Int32) (h : Nat → Int32) (g0 g1 g2 g3 g4 g5 : Nat) (k0 k1 k2 k3 k4 k5 : ClassId) (gc : Int32) (rE : Nat → Int32) (nM : Nat → Int32) (lD : Nat → Int32) (bF : Nat → Int32) (oR : Nat → Int32) (cH : Nat → Int32) (hg : gd h) (v : Nat) (hv : v < 16) (sz : Nat) : Met l y_A_rank (Cond.code y_A_rank c_A_rank 2 (some .int) :: BS) { frames := 4, cells := 0, slots := 0, locals := 87 } (va_Pc [.ref a, .int (nI v)] (xWp D [(a, .inr (0, [.ref w, .ref g, .ref yw, .ref f])), (w, .inr (1, [.ref hd, .int ct])), (hd, .inl (cA, 16, .inl h)), (g, .inr (2, [.ref g0, .ref g1, .ref g2, .ref g3, .ref g4, .ref g5, .int gc])), (g0, .inl (k0, 16, .inl rE)), (g1, .inl (k1, 16, .inl nM)), (g2, .inl (k2, 16, .inl lD)), (g3, .inl (k3, 16, .inl bF)), (g4, .inl (k4, 16, .inl oR)), (g5, .inl (k5, 16, .inl cH))] [(cA, .int), (k0, .int), (k1, .int), (k2, .int), (k3, .int), (k4, .int), (k5, .int)] sz)) (xQi D [(a, .inr (0, [.ref w, .ref g, .ref yw, .ref f])), (w, .inr (1, [.ref hd, .int ct])), (hd, .inl (cA, 16, .inl h)), (g, .inr (2, [.ref g0, .ref g1, .ref g2, .ref g3, .ref g4, .ref g5, .int gc])), (g0, .inl (k0, 16, .inl rE)), (g1, .inl (k1, 16, .inl nM)), (g2, .inl (k2, 16, .inl lD)), (g3, .inl (k3, 16, .inl bF)), (g4, .inl (k4, 16, .inl oR)), (g5, .inl (k5, 16, .inl cH))] [(a, .inr (0, [.ref w, .ref g, .ref yw, .ref f])), (w, .inr (1, [.ref hd, .int ct])), (hd, .inl (cA, 16, .inl h)), (g, .inr (2, [.ref g0, .ref g1, .ref g2, .ref g3, .ref g4, .ref g5, .int (nI (cq (fun v9 => decide (lwN (RE h) v9 = v9)) 16))])), (g0, .inl (k0, 16, .inl (RE h))), (g1, .inl (k1, 16, .inl (fun k => nI (lwN (RE h) k)))), (g2, .inl (k2, 16, .inl (LTp h (lwN (RE h)) 16 0))), (g3, .inl (k3, 16, .inl (BFp h (lwN (RE h)) 16 0))), (g4, .inl (k4, 16, .inl (fun k => if k < (cq (fun v9 => decide (lwN (RE h) v9 = v9)) 16) then nI (nxF (fun k => nI (lwN (RE h) k)) (BFp h (lwN (RE h)) 16 0) (plF (fun k => nI (lwN (RE h) k)) (BFp h (lwN (RE h)) 16 0) k)) else oR k))), (g5, .inl (k5, 16, .inl cH))] [(cA, .int), (k0, .int), (k1, .int), (k2, .int), (k3, .int), (k4, .int), (k5, .int)] sz (nI (lastq (fun u => decide ((fun k => if k < (cq (fun v9 => decide (lwN (RE h) v9 = v9)) 16) then nI (nxF (fun k => nI (lwN (RE h) k)) (BFp h (lwN (RE h)) 16 0) (plF (fun k => nI (lwN (RE h) k)) (BFp h (lwN (RE h)) 16 0) k)) else oR k) u = (fun k => nI (lwN (RE h) k)) v)) (cq (fun v9 => decide (lwN (RE h) v9 = v9)) 16)))) 0 0 (va_A [(a, .inr (0, [.ref w, .ref g, .ref yw, .ref f])), (w, .inr (1, [.ref hd, .int ct])), (hd, .inl (cA, 16, .inl h)), (g, .inr (2, [.ref g0, .ref g1, .ref g2, .ref g3, .ref g4, .ref g5, .int gc])), (g0, .inl (k0, 16, .inl rE)), (g1, .inl (k1, 16, .inl nM)), (g2, .inl (k2, 16, .inl lD)), (g3, .inl (k3, 16, .inl bF)), (g4, .inl (k4, 16, .inl oR)), (g5, .inl (k5, 16, .inl cH))] sz) := by
  refine Met.ofW (cc := c_A_rank) (maxL := 2) (ret := (some .int)) (by decide) rfl ?_
  intro p e s m args below meth c s₁ B hml hv
  obtain ⟨rfl, hsz, hP, hK, hD0, hN⟩ := hv
  have hx := B.exec
  have hb := B.bytes
  have hr := B.returns
  have hB := xB B.pre
  have hown : s.vm.findClass R_A = some m.cls := findClass_of_methodNamed B.named
  have hlocks := B.notSynchronized
  subst hsz
  have hD := hD0.self (sz := s.heap.size)
  obtain ⟨A, hAe⟩ : ∃ A, A = va_A [(a, .inr (0, [.ref w, .ref g, .ref yw, .ref f])), (w, .inr (1, [.ref hd, .int ct])), (hd, .inl (cA, 16, .inl h)), (g, .inr (2, [.ref g0, .ref g1, .ref g2, .ref g3, .ref g4, .ref g5, .int gc])), (g0, .inl (k0, 16, .inl rE)), (g1, .inl (k1, 16, .inl nM)), (g2, .inl (k2, 16, .inl lD)), (g3, .inl (k3, 16, .inl bF)), (g4, .inl (k4, 16, .inl oR)), (g5, .inl (k5, 16, .inl cH))] s.heap.size := ⟨_, rfl⟩
  rw [← hAe] at hD
  have hA : ∀ q : Nat, s.heap.size ≤ q → A q := fun q h => by rw [hAe]; exact Or.inr h
  have hS : va_S A s.heap s.heap [] := va_S.rf
  have hl := lv_entry ([.ref a, .int (nI v)]) (n := 2) (Nat.le_of_ble_eq_true rfl)
  rw [lg_entry_eq]
  generalize (lg_sl ([.ref a, .int (nI v)]) ++ List.replicate (2 - (lg_sl ([.ref a, .int (nI v)])).length) Slot.unset).toArray = ls at hl ⊢
  have hl : lv_has ls 2 [(0, .ref a), (1, .int (nI v))] := hl
  refine lv_iload_n hx hb d_A_rank_0 rfl (lv_at hl 1 rfl) ?_
  refine xr_v (va_runS (As := [.int (nI v)]) (rest := []) ⟨hx, hb, hml, hown, hB⟩ (k_A_requirePlace l (nI v) (isP_nI (by omega))) ⟨callB_of 1 hB (xg0 mc_A_requirePlace) rfl rfl rfl (hB _ mz_A) (hB _ ml_A_70) (by decide +kernel) ⟨Nat.le_of_ble_eq_true rfl, Nat.le_of_ble_eq_true rfl⟩, hB _ ms_A_requirePlace⟩ xTT_pre rfl rfl hl.1 rfl (lv_room (Nat.le_of_ble_eq_true rfl)) d_A_rank_1 ⟨Nat.le_of_ble_eq_true rfl, Nat.le_of_ble_eq_true rfl⟩) ?_
  refine lv_aload_n hx hb d_A_rank_4 rfl (lv_at hl 0 rfl) ?_
  refine va_get (D := D) (ci := 0) (v := .ref g) (C := R_A) (T := F_A) (N := 4) hx hb hB in_A hown hK hP 0 rfl rfl 1 (by decide) (hB _ mf_A_19) (fun _ h9 => h9) rfl d_A_rank_5 ?_
  refine lv_aload_n hx hb d_A_rank_8 rfl (lv_at hl 0 rfl) ?_
  refine va_get (D := D) (ci := 0) (v := .ref w) (C := R_A) (T := F_A) (N := 4) hx hb hB in_A hown hK hP 0 rfl rfl 0 (by decide) (hB _ mf_A_10) (fun _ h9 => h9) rfl d_A_rank_9 ?_
  refine xw_v (wc := [(g, .inr (2, [.ref g0, .ref g1, .ref g2, .ref g3, .ref g4, .ref g5, .int gc])), (g0, .inl (k0, 16, .inl rE)), (g1, .inl (k1, 16, .inl nM)), (g2, .inl (k2, 16, .inl lD)), (g3, .inl (k3, 16, .inl bF)), (g4, .inl (k4, 16, .inl oR)), (g5, .inl (k5, 16, .inl cH)), (w, .inr (1, [.ref hd, .int ct])), (hd, .inl (cA, 16, .inl h))]) (wr := [(a, .inr (0, [.ref w, .ref g, .ref yw, .ref f]))]) (w1 := [(g, .inr (2, [.ref g0, .ref g1, .ref g2, .ref g3, .ref g4, .ref g5, .int (nI (cq (fun v9 => decide (lwN (RE h) v9 = v9)) 16))])), (g0, .inl (k0, 16, .inl (RE h))), (g1, .inl (k1, 16, .inl (fun k => nI (lwN (RE h) k)))), (g2, .inl (k2, 16, .inl (LTp h (lwN (RE h)) 16 0))), (g3, .inl (k3, 16, .inl (BFp h (lwN (RE h)) 16 0))), (g4, .inl (k4, 16, .inl (fun k => if k < (cq (fun v9 => decide (lwN (RE h) v9 = v9)) 16) then nI (nxF (fun k => nI (lwN (RE h) k)) (BFp h (lwN (RE h)) 16 0) (plF (fun k => nI (lwN (RE h) k)) (BFp h (lwN (RE h)) 16 0) k)) else oR k))), (g5, .inl (k5, 16, .inl cH)), (w, .inr (1, [.ref hd, .int ct])), (hd, .inl (cA, 16, .inl h))]) (va_runV (As := [.ref w]) (rest := []) ⟨hx, hb, hml, hown, hB⟩ (k_Gr_read l D g g0 g1 g2 g3 g4 g5 k0 k1 k2 k3 k4 k5 gc rE nM lD bF oR cH w hd cA ct h hg _) ⟨callB_of 1 hB (xg0 mc_Gr_read) rfl rfl rfl (hB _ mz_Gr) (hB _ ml_A_74) (by decide +kernel) ⟨Nat.le_of_ble_eq_true rfl, Nat.le_of_ble_eq_true rfl⟩, hB _ mi_Gr_read, hB _ me_Gr_read⟩ (xqV (ws := [(g, .inr (2, [.ref g0, .ref g1, .ref g2, .ref g3, .ref g4, .ref g5, .int gc])), (g0, .inl (k0, 16, .inl rE)), (g1, .inl (k1, 16, .inl nM)), (g2, .inl (k2, 16, .inl lD)), (g3, .inl (k3, 16, .inl bF)), (g4, .inl (k4, 16, .inl oR)), (g5, .inl (k5, 16, .inl cH)), (w, .inr (1, [.ref hd, .int ct])), (hd, .inl (cA, 16, .inl h))]) (tys := [(k0, .int), (k1, .int), (k2, .int), (k3, .int), (k4, .int), (k5, .int), (cA, .int)]) (hP.sub [3, 4, 5, 6, 7, 8, 9, 1, 2] rfl) (hD.sub [3, 4, 5, 6, 7, 8, 9, 1, 2] (by decide) rfl) (hK.sub [1, 2, 3, 4, 5, 6, 0] rfl) hN (va_recv (ci := 2) (q0 := 3) (q := (R_Gr, F_Gr, 7)) hK hP rfl rfl)) rfl rfl hl.1 rfl (lv_room (Nat.le_of_ble_eq_true rfl)) d_A_rank_12 ⟨Nat.le_of_ble_eq_true rfl, Nat.le_of_ble_eq_true rfl⟩) hP hD hS hA [3, 4, 5, 6, 7, 8, 9, 1, 2] [0] rfl rfl (by decide) (by decide) (fun H locs hP hD hS => ?_)
  have hP : va_P D cls [(a, .inr (0, [.ref w, .ref g, .ref yw, .ref f])), (g, .inr (2, [.ref g0, .ref g1, .ref g2, .ref g3, .ref g4, .ref g5, .int (nI (cq (fun v9 => decide (lwN (RE h) v9 = v9)) 16))])), (g0, .inl (k0, 16, .inl (RE h))), (g1, .inl (k1, 16, .inl (fun k => nI (lwN (RE h) k)))), (g2, .inl (k2, 16, .inl (LTp h (lwN (RE h)) 16 0))), (g3, .inl (k3, 16, .inl (BFp h (lwN (RE h)) 16 0))), (g4, .inl (k4, 16, .inl (fun k => if k < (cq (fun v9 => decide (lwN (RE h) v9 = v9)) 16) then nI (nxF (fun k => nI (lwN (RE h) k)) (BFp h (lwN (RE h)) 16 0) (plF (fun k => nI (lwN (RE h) k)) (BFp h (lwN (RE h)) 16 0) k)) else oR k))), (g5, .inl (k5, 16, .inl cH)), (w, .inr (1, [.ref hd, .int ct])), (hd, .inl (cA, 16, .inl h))] H := hP
  have hD : va_D A [(a, .inr (0, [.ref w, .ref g, .ref yw, .ref f])), (g, .inr (2, [.ref g0, .ref g1, .ref g2, .ref g3, .ref g4, .ref g5, .int (nI (cq (fun v9 => decide (lwN (RE h) v9 = v9)) 16))])), (g0, .inl (k0, 16, .inl (RE h))), (g1, .inl (k1, 16, .inl (fun k => nI (lwN (RE h) k)))), (g2, .inl (k2, 16, .inl (LTp h (lwN (RE h)) 16 0))), (g3, .inl (k3, 16, .inl (BFp h (lwN (RE h)) 16 0))), (g4, .inl (k4, 16, .inl (fun k => if k < (cq (fun v9 => decide (lwN (RE h) v9 = v9)) 16) then nI (nxF (fun k => nI (lwN (RE h) k)) (BFp h (lwN (RE h)) 16 0) (plF (fun k => nI (lwN (RE h) k)) (BFp h (lwN (RE h)) 16 0) k)) else oR k))), (g5, .inl (k5, 16, .inl cH)), (w, .inr (1, [.ref hd, .int ct])), (hd, .inl (cA, 16, .inl h))] := hD
  refine lv_aload_n hx hb d_A_rank_15 rfl (lv_at hl 0 rfl) ?_
  refine va_get (D := D) (ci := 0) (v := .ref g) (C := R_A) (T := F_A) (N := 4) hx hb hB in_A hown hK hP 0 rfl rfl 1 (by decide) (hB _ mf_A_19) (fun _ h9 => h9) rfl d_A_rank_16 ?_
  refine lv_iload_n hx hb d_A_rank_19 rfl (lv_at hl 1 rfl) ?_
  refine xr_cal (va_runV (As := [.int (nI v)]) (rest := []) ⟨hx, hb, hml, hown, hB⟩ (k_Gr_positionOf l D g g0 g1 g2 g3 g4 g5 k0 k1 k2 k3 k4 k5 (nI (cq (fun v9 => decide (lwN (RE h) v9 = v9)) 16)) (RE h) (fun k => nI (lwN (RE h) k)) (LTp h (lwN (RE h)) 16 0) (BFp h (lwN (RE h)) 16 0) (fun k => if k < (cq (fun v9 => decide (lwN (RE h) v9 = v9)) 16) then nI (nxF (fun k => nI (lwN (RE h) k)) (BFp h (lwN (RE h)) 16 0) (plF (fun k => nI (lwN (RE h) k)) (BFp h (lwN (RE h)) 16 0) k)) else oR k) cH v (by omega) (cq (fun v9 => decide (lwN (RE h) v9 = v9)) 16) (cq_le _ 16) rfl) ⟨callB_of 1 hB (xg0 mc_Gr_positionOf) rfl rfl rfl (hB _ mz_Gr) (hB _ ml_A_85) (by decide +kernel) ⟨Nat.le_of_ble_eq_true rfl, Nat.le_of_ble_eq_true rfl⟩, hB _ mi_Gr_positionOf, hB _ me_Gr_positionOf⟩ (xpV (ws := [(g, .inr (2, [.ref g0, .ref g1, .ref g2, .ref g3, .ref g4, .ref g5, .int (nI (cq (fun v9 => decide (lwN (RE h) v9 = v9)) 16))])), (g0, .inl (k0, 16, .inl (RE h))), (g1, .inl (k1, 16, .inl (fun k => nI (lwN (RE h) k)))), (g2, .inl (k2, 16, .inl (LTp h (lwN (RE h)) 16 0))), (g3, .inl (k3, 16, .inl (BFp h (lwN (RE h)) 16 0))), (g4, .inl (k4, 16, .inl (fun k => if k < (cq (fun v9 => decide (lwN (RE h) v9 = v9)) 16) then nI (nxF (fun k => nI (lwN (RE h) k)) (BFp h (lwN (RE h)) 16 0) (plF (fun k => nI (lwN (RE h) k)) (BFp h (lwN (RE h)) 16 0) k)) else oR k))), (g5, .inl (k5, 16, .inl cH))]) (tys := [(k0, .int), (k1, .int), (k2, .int), (k3, .int), (k4, .int), (k5, .int)]) (hP.sub [1, 2, 3, 4, 5, 6, 7] rfl) (hK.sub [1, 2, 3, 4, 5, 6] rfl) hN (va_recv (ci := 2) (q0 := 1) (q := (R_Gr, F_Gr, 7)) hK hP rfl rfl)) rfl rfl hl.1 rfl (lv_room (Nat.le_of_ble_eq_true rfl)) d_A_rank_20 ⟨Nat.le_of_ble_eq_true rfl, Nat.le_of_ble_eq_true rfl⟩) ?_
  have hP9 := hP.sub (ws' := [(a, .inr (0, [.ref w, .ref g, .ref yw, .ref f])), (w, .inr (1, [.ref hd, .int ct])), (hd, .inl (cA, 16, .inl h)), (g, .inr (2, [.ref g0, .ref g1, .ref g2, .ref g3, .ref g4, .ref g5, .int (nI (cq (fun v9 => decide (lwN (RE h) v9 = v9)) 16))])), (g0, .inl (k0, 16, .inl (RE h))), (g1, .inl (k1, 16, .inl (fun k => nI (lwN (RE h) k)))), (g2, .inl (k2, 16, .inl (LTp h (lwN (RE h)) 16 0))), (g3, .inl (k3, 16, .inl (BFp h (lwN (RE h)) 16 0))), (g4, .inl (k4, 16, .inl (fun k => if k < (cq (fun v9 => decide (lwN (RE h) v9 = v9)) 16) then nI (nxF (fun k => nI (lwN (RE h) k)) (BFp h (lwN (RE h)) 16 0) (plF (fun k => nI (lwN (RE h) k)) (BFp h (lwN (RE h)) 16 0) k)) else oR k))), (g5, .inl (k5, 16, .inl cH))]) [0, 8, 9, 1, 2, 3, 4, 5, 6, 7] rfl
  have hD9 := hD.sub (ws' := [(a, .inr (0, [.ref w, .ref g, .ref yw, .ref f])), (w, .inr (1, [.ref hd, .int ct])), (hd, .inl (cA, 16, .inl h)), (g, .inr (2, [.ref g0, .ref g1, .ref g2, .ref g3, .ref g4, .ref g5, .int (nI (cq (fun v9 => decide (lwN (RE h) v9 = v9)) 16))])), (g0, .inl (k0, 16, .inl (RE h))), (g1, .inl (k1, 16, .inl (fun k => nI (lwN (RE h) k)))), (g2, .inl (k2, 16, .inl (LTp h (lwN (RE h)) 16 0))), (g3, .inl (k3, 16, .inl (BFp h (lwN (RE h)) 16 0))), (g4, .inl (k4, 16, .inl (fun k => if k < (cq (fun v9 => decide (lwN (RE h) v9 = v9)) 16) then nI (nxF (fun k => nI (lwN (RE h) k)) (BFp h (lwN (RE h)) 16 0) (plF (fun k => nI (lwN (RE h) k)) (BFp h (lwN (RE h)) 16 0) k)) else oR k))), (g5, .inl (k5, 16, .inl cH))]) [0, 8, 9, 1, 2, 3, 4, 5, 6, 7] (by decide) rfl
  subst hAe
  exact W.iret (v := nI (lastq (fun u => decide ((fun k => if k < (cq (fun v9 => decide (lwN (RE h) v9 = v9)) 16) then nI (nxF (fun k => nI (lwN (RE h) k)) (BFp h (lwN (RE h)) 16 0) (plF (fun k => nI (lwN (RE h) k)) (BFp h (lwN (RE h)) 16 0) k)) else oR k) u = (fun k => nI (lwN (RE h) k)) v)) (cq (fun v9 => decide (lwN (RE h) v9 = v9)) 16))) hx hb hr (fun t ht hW => ⟨⟨_, (), rfl, rfl, by rw [ht]; exact hP9, va_K.moved hW.alike hK, hD9⟩, hS.F ht⟩) hS.2.2 d_A_rank_23
set_option maxHeartbeats 4000000 in
set_option maxRecDepth 100000 in
theorem k_A_ranked (l : Launch) (D : va_G) (a w g yw f : Nat)  (hd : Nat) (cA : ClassId) (ct : Int32) (h : Nat → Int32) (g0 g1 g2 g3 g4 g5 : Nat) (k0 k1 k2 k3 k4 k5 : ClassId) (gc : Int32) (rE : Nat → Int32) (nM : Nat → Int32) (lD : Nat → Int32) (bF : Nat → Int32) (oR : Nat → Int32) (cH : Nat → Int32) (hg : gd h) (k : Nat) (hk : k < cq (fun v9 => decide (lwN (RE h) v9 = v9)) 16) (sz : Nat) : Met l y_A_ranked (Cond.code y_A_ranked c_A_ranked 2 (some .int) :: BS) { frames := 4, cells := 0, slots := 0, locals := 87 } (va_Pc [.ref a, .int (nI k)] (xWp D [(a, .inr (0, [.ref w, .ref g, .ref yw, .ref f])), (w, .inr (1, [.ref hd, .int ct])), (hd, .inl (cA, 16, .inl h)), (g, .inr (2, [.ref g0, .ref g1, .ref g2, .ref g3, .ref g4, .ref g5, .int gc])), (g0, .inl (k0, 16, .inl rE)), (g1, .inl (k1, 16, .inl nM)), (g2, .inl (k2, 16, .inl lD)), (g3, .inl (k3, 16, .inl bF)), (g4, .inl (k4, 16, .inl oR)), (g5, .inl (k5, 16, .inl cH))] [(cA, .int), (k0, .int), (k1, .int), (k2, .int), (k3, .int), (k4, .int), (k5, .int)] sz)) (xQi D [(a, .inr (0, [.ref w, .ref g, .ref yw, .ref f])), (w, .inr (1, [.ref hd, .int ct])), (hd, .inl (cA, 16, .inl h)), (g, .inr (2, [.ref g0, .ref g1, .ref g2, .ref g3, .ref g4, .ref g5, .int gc])), (g0, .inl (k0, 16, .inl rE)), (g1, .inl (k1, 16, .inl nM)), (g2, .inl (k2, 16, .inl lD)), (g3, .inl (k3, 16, .inl bF)), (g4, .inl (k4, 16, .inl oR)), (g5, .inl (k5, 16, .inl cH))] [(a, .inr (0, [.ref w, .ref g, .ref yw, .ref f])), (w, .inr (1, [.ref hd, .int ct])), (hd, .inl (cA, 16, .inl h)), (g, .inr (2, [.ref g0, .ref g1, .ref g2, .ref g3, .ref g4, .ref g5, .int (nI (cq (fun v9 => decide (lwN (RE h) v9 = v9)) 16))])), (g0, .inl (k0, 16, .inl (RE h))), (g1, .inl (k1, 16, .inl (fun k => nI (lwN (RE h) k)))), (g2, .inl (k2, 16, .inl (LTp h (lwN (RE h)) 16 0))), (g3, .inl (k3, 16, .inl (BFp h (lwN (RE h)) 16 0))), (g4, .inl (k4, 16, .inl (fun k => if k < (cq (fun v9 => decide (lwN (RE h) v9 = v9)) 16) then nI (nxF (fun k => nI (lwN (RE h) k)) (BFp h (lwN (RE h)) 16 0) (plF (fun k => nI (lwN (RE h) k)) (BFp h (lwN (RE h)) 16 0) k)) else oR k))), (g5, .inl (k5, 16, .inl cH))] [(cA, .int), (k0, .int), (k1, .int), (k2, .int), (k3, .int), (k4, .int), (k5, .int)] sz (nI (nxF (fun k => nI (lwN (RE h) k)) (BFp h (lwN (RE h)) 16 0) (plF (fun k => nI (lwN (RE h) k)) (BFp h (lwN (RE h)) 16 0) k)))) 0 0 (va_A [(a, .inr (0, [.ref w, .ref g, .ref yw, .ref f])), (w, .inr (1, [.ref hd, .int ct])), (hd, .inl (cA, 16, .inl h)), (g, .inr (2, [.ref g0, .ref g1, .ref g2, .ref g3, .ref g4, .ref g5, .int gc])), (g0, .inl (k0, 16, .inl rE)), (g1, .inl (k1, 16, .inl nM)), (g2, .inl (k2, 16, .inl lD)), (g3, .inl (k3, 16, .inl bF)), (g4, .inl (k4, 16, .inl oR)), (g5, .inl (k5, 16, .inl cH))] sz) := by
  refine Met.ofW (cc := c_A_ranked) (maxL := 2) (ret := (some .int)) (by decide) rfl ?_
  intro p e s m args below meth c s₁ B hml hv
  obtain ⟨rfl, hsz, hP, hK, hD0, hN⟩ := hv
  have hx := B.exec
  have hb := B.bytes
  have hr := B.returns
  have hB := xB B.pre
  have hown : s.vm.findClass R_A = some m.cls := findClass_of_methodNamed B.named
  have hlocks := B.notSynchronized
  subst hsz
  have hD := hD0.self (sz := s.heap.size)
  obtain ⟨A, hAe⟩ : ∃ A, A = va_A [(a, .inr (0, [.ref w, .ref g, .ref yw, .ref f])), (w, .inr (1, [.ref hd, .int ct])), (hd, .inl (cA, 16, .inl h)), (g, .inr (2, [.ref g0, .ref g1, .ref g2, .ref g3, .ref g4, .ref g5, .int gc])), (g0, .inl (k0, 16, .inl rE)), (g1, .inl (k1, 16, .inl nM)), (g2, .inl (k2, 16, .inl lD)), (g3, .inl (k3, 16, .inl bF)), (g4, .inl (k4, 16, .inl oR)), (g5, .inl (k5, 16, .inl cH))] s.heap.size := ⟨_, rfl⟩
  rw [← hAe] at hD
  have hA : ∀ q : Nat, s.heap.size ≤ q → A q := fun q h => by rw [hAe]; exact Or.inr h
  have hS : va_S A s.heap s.heap [] := va_S.rf
  have hl := lv_entry ([.ref a, .int (nI k)]) (n := 2) (Nat.le_of_ble_eq_true rfl)
  rw [lg_entry_eq]
  generalize (lg_sl ([.ref a, .int (nI k)]) ++ List.replicate (2 - (lg_sl ([.ref a, .int (nI k)])).length) Slot.unset).toArray = ls at hl ⊢
  have hl : lv_has ls 2 [(0, .ref a), (1, .int (nI k))] := hl
  refine lv_aload_n hx hb d_A_ranked_0 rfl (lv_at hl 0 rfl) ?_
  refine va_get (D := D) (ci := 0) (v := .ref g) (C := R_A) (T := F_A) (N := 4) hx hb hB in_A hown hK hP 0 rfl rfl 1 (by decide) (hB _ mf_A_19) (fun _ h9 => h9) rfl d_A_ranked_1 ?_
  refine lv_aload_n hx hb d_A_ranked_4 rfl (lv_at hl 0 rfl) ?_
  refine va_get (D := D) (ci := 0) (v := .ref w) (C := R_A) (T := F_A) (N := 4) hx hb hB in_A hown hK hP 0 rfl rfl 0 (by decide) (hB _ mf_A_10) (fun _ h9 => h9) rfl d_A_ranked_5 ?_
  refine xw_v (wc := [(g, .inr (2, [.ref g0, .ref g1, .ref g2, .ref g3, .ref g4, .ref g5, .int gc])), (g0, .inl (k0, 16, .inl rE)), (g1, .inl (k1, 16, .inl nM)), (g2, .inl (k2, 16, .inl lD)), (g3, .inl (k3, 16, .inl bF)), (g4, .inl (k4, 16, .inl oR)), (g5, .inl (k5, 16, .inl cH)), (w, .inr (1, [.ref hd, .int ct])), (hd, .inl (cA, 16, .inl h))]) (wr := [(a, .inr (0, [.ref w, .ref g, .ref yw, .ref f]))]) (w1 := [(g, .inr (2, [.ref g0, .ref g1, .ref g2, .ref g3, .ref g4, .ref g5, .int (nI (cq (fun v9 => decide (lwN (RE h) v9 = v9)) 16))])), (g0, .inl (k0, 16, .inl (RE h))), (g1, .inl (k1, 16, .inl (fun k => nI (lwN (RE h) k)))), (g2, .inl (k2, 16, .inl (LTp h (lwN (RE h)) 16 0))), (g3, .inl (k3, 16, .inl (BFp h (lwN (RE h)) 16 0))), (g4, .inl (k4, 16, .inl (fun k => if k < (cq (fun v9 => decide (lwN (RE h) v9 = v9)) 16) then nI (nxF (fun k => nI (lwN (RE h) k)) (BFp h (lwN (RE h)) 16 0) (plF (fun k => nI (lwN (RE h) k)) (BFp h (lwN (RE h)) 16 0) k)) else oR k))), (g5, .inl (k5, 16, .inl cH)), (w, .inr (1, [.ref hd, .int ct])), (hd, .inl (cA, 16, .inl h))]) (va_runV (As := [.ref w]) (rest := []) ⟨hx, hb, hml, hown, hB⟩ (k_Gr_read l D g g0 g1 g2 g3 g4 g5 k0 k1 k2 k3 k4 k5 gc rE nM lD bF oR cH w hd cA ct h hg _) ⟨callB_of 1 hB (xg0 mc_Gr_read) rfl rfl rfl (hB _ mz_Gr) (hB _ ml_A_74) (by decide +kernel) ⟨Nat.le_of_ble_eq_true rfl, Nat.le_of_ble_eq_true rfl⟩, hB _ mi_Gr_read, hB _ me_Gr_read⟩ (xqV (ws := [(g, .inr (2, [.ref g0, .ref g1, .ref g2, .ref g3, .ref g4, .ref g5, .int gc])), (g0, .inl (k0, 16, .inl rE)), (g1, .inl (k1, 16, .inl nM)), (g2, .inl (k2, 16, .inl lD)), (g3, .inl (k3, 16, .inl bF)), (g4, .inl (k4, 16, .inl oR)), (g5, .inl (k5, 16, .inl cH)), (w, .inr (1, [.ref hd, .int ct])), (hd, .inl (cA, 16, .inl h))]) (tys := [(k0, .int), (k1, .int), (k2, .int), (k3, .int), (k4, .int), (k5, .int), (cA, .int)]) (hP.sub [3, 4, 5, 6, 7, 8, 9, 1, 2] rfl) (hD.sub [3, 4, 5, 6, 7, 8, 9, 1, 2] (by decide) rfl) (hK.sub [1, 2, 3, 4, 5, 6, 0] rfl) hN (va_recv (ci := 2) (q0 := 3) (q := (R_Gr, F_Gr, 7)) hK hP rfl rfl)) rfl rfl hl.1 rfl (lv_room (Nat.le_of_ble_eq_true rfl)) d_A_ranked_8 ⟨Nat.le_of_ble_eq_true rfl, Nat.le_of_ble_eq_true rfl⟩) hP hD hS hA [3, 4, 5, 6, 7, 8, 9, 1, 2] [0] rfl rfl (by decide) (by decide) (fun H locs hP hD hS => ?_)
  have hP : va_P D cls [(a, .inr (0, [.ref w, .ref g, .ref yw, .ref f])), (g, .inr (2, [.ref g0, .ref g1, .ref g2, .ref g3, .ref g4, .ref g5, .int (nI (cq (fun v9 => decide (lwN (RE h) v9 = v9)) 16))])), (g0, .inl (k0, 16, .inl (RE h))), (g1, .inl (k1, 16, .inl (fun k => nI (lwN (RE h) k)))), (g2, .inl (k2, 16, .inl (LTp h (lwN (RE h)) 16 0))), (g3, .inl (k3, 16, .inl (BFp h (lwN (RE h)) 16 0))), (g4, .inl (k4, 16, .inl (fun k => if k < (cq (fun v9 => decide (lwN (RE h) v9 = v9)) 16) then nI (nxF (fun k => nI (lwN (RE h) k)) (BFp h (lwN (RE h)) 16 0) (plF (fun k => nI (lwN (RE h) k)) (BFp h (lwN (RE h)) 16 0) k)) else oR k))), (g5, .inl (k5, 16, .inl cH)), (w, .inr (1, [.ref hd, .int ct])), (hd, .inl (cA, 16, .inl h))] H := hP
  have hD : va_D A [(a, .inr (0, [.ref w, .ref g, .ref yw, .ref f])), (g, .inr (2, [.ref g0, .ref g1, .ref g2, .ref g3, .ref g4, .ref g5, .int (nI (cq (fun v9 => decide (lwN (RE h) v9 = v9)) 16))])), (g0, .inl (k0, 16, .inl (RE h))), (g1, .inl (k1, 16, .inl (fun k => nI (lwN (RE h) k)))), (g2, .inl (k2, 16, .inl (LTp h (lwN (RE h)) 16 0))), (g3, .inl (k3, 16, .inl (BFp h (lwN (RE h)) 16 0))), (g4, .inl (k4, 16, .inl (fun k => if k < (cq (fun v9 => decide (lwN (RE h) v9 = v9)) 16) then nI (nxF (fun k => nI (lwN (RE h) k)) (BFp h (lwN (RE h)) 16 0) (plF (fun k => nI (lwN (RE h) k)) (BFp h (lwN (RE h)) 16 0) k)) else oR k))), (g5, .inl (k5, 16, .inl cH)), (w, .inr (1, [.ref hd, .int ct])), (hd, .inl (cA, 16, .inl h))] := hD
  have hcl := cq_le (fun v9 => decide (lwN (RE h) v9 = v9)) 16
  refine lv_iload_n hx hb d_A_ranked_11 rfl (lv_at hl 1 rfl) ?_
  refine lv_if_lt (tgt := 26) hx hb d_A_ranked_12 rfl (fun hc12 => ?_) (fun hc12 => ?_)
  · have hc12 : k < 0 := (nI_ltI (by omega) (by omega)).mp hc12
    exact absurd hc12 (by omega)
  · have hc12 : ¬ (k < 0) := fun q9 => hc12 ((nI_ltI (by omega) (by omega)).mpr q9)
    refine lv_iload_n hx hb d_A_ranked_15 rfl (lv_at hl 1 rfl) ?_
    refine lv_aload_n hx hb d_A_ranked_16 rfl (lv_at hl 0 rfl) ?_
    refine va_get (D := D) (ci := 0) (v := .ref g) (C := R_A) (T := F_A) (N := 4) hx hb hB in_A hown hK hP 0 rfl rfl 1 (by decide) (hB _ mf_A_19) (fun _ h9 => h9) rfl d_A_ranked_17 ?_
    refine xr_cal (va_runV (As := []) (rest := [.int (nI k)]) ⟨hx, hb, hml, hown, hB⟩ (k_Gr_count l D g g0 g1 g2 g3 g4 g5 k0 k1 k2 k3 k4 k5 (nI (cq (fun v9 => decide (lwN (RE h) v9 = v9)) 16)) (RE h) (fun k => nI (lwN (RE h) k)) (LTp h (lwN (RE h)) 16 0) (BFp h (lwN (RE h)) 16 0) (fun k => if k < (cq (fun v9 => decide (lwN (RE h) v9 = v9)) 16) then nI (nxF (fun k => nI (lwN (RE h) k)) (BFp h (lwN (RE h)) 16 0) (plF (fun k => nI (lwN (RE h) k)) (BFp h (lwN (RE h)) 16 0) k)) else oR k) cH ) ⟨callB_of 0 hB (xg0 mc_Gr_count) rfl rfl rfl (hB _ mz_Gr) (hB _ ml_A_88) (by decide +kernel) ⟨Nat.le_of_ble_eq_true rfl, Nat.le_of_ble_eq_true rfl⟩, hB _ mi_Gr_count, hB _ me_Gr_count⟩ (xpV (ws := [(g, .inr (2, [.ref g0, .ref g1, .ref g2, .ref g3, .ref g4, .ref g5, .int (nI (cq (fun v9 => decide (lwN (RE h) v9 = v9)) 16))])), (g0, .inl (k0, 16, .inl (RE h))), (g1, .inl (k1, 16, .inl (fun k => nI (lwN (RE h) k)))), (g2, .inl (k2, 16, .inl (LTp h (lwN (RE h)) 16 0))), (g3, .inl (k3, 16, .inl (BFp h (lwN (RE h)) 16 0))), (g4, .inl (k4, 16, .inl (fun k => if k < (cq (fun v9 => decide (lwN (RE h) v9 = v9)) 16) then nI (nxF (fun k => nI (lwN (RE h) k)) (BFp h (lwN (RE h)) 16 0) (plF (fun k => nI (lwN (RE h) k)) (BFp h (lwN (RE h)) 16 0) k)) else oR k))), (g5, .inl (k5, 16, .inl cH))]) (tys := [(k0, .int), (k1, .int), (k2, .int), (k3, .int), (k4, .int), (k5, .int)]) (hP.sub [1, 2, 3, 4, 5, 6, 7] rfl) (hK.sub [1, 2, 3, 4, 5, 6] rfl) hN (va_recv (ci := 2) (q0 := 1) (q := (R_Gr, F_Gr, 7)) hK hP rfl rfl)) rfl rfl hl.1 rfl (lv_room (Nat.le_of_ble_eq_true rfl)) d_A_ranked_20 ⟨Nat.le_of_ble_eq_true rfl, Nat.le_of_ble_eq_true rfl⟩) ?_
    refine lv_icmp_lt (tgt := 36) hx hb d_A_ranked_23 rfl (fun hc23 => ?_) (fun hc23 => ?_)
    · have hc23 : k < (cq (fun v9 => decide (lwN (RE h) v9 = v9)) 16) := (nI_ltI (by omega) (by omega)).mp hc23
      refine lv_aload_n hx hb d_A_ranked_36 rfl (lv_at hl 0 rfl) ?_
      refine va_get (D := D) (ci := 0) (v := .ref g) (C := R_A) (T := F_A) (N := 4) hx hb hB in_A hown hK hP 0 rfl rfl 1 (by decide) (hB _ mf_A_19) (fun _ h9 => h9) rfl d_A_ranked_37 ?_
      refine lv_iload_n hx hb d_A_ranked_40 rfl (lv_at hl 1 rfl) ?_
      refine xr_cal (va_runV (As := [.int (nI k)]) (rest := []) ⟨hx, hb, hml, hown, hB⟩ (k_Gr_nameAt l D g g0 g1 g2 g3 g4 g5 k0 k1 k2 k3 k4 k5 (nI (cq (fun v9 => decide (lwN (RE h) v9 = v9)) 16)) (RE h) (fun k => nI (lwN (RE h) k)) (LTp h (lwN (RE h)) 16 0) (BFp h (lwN (RE h)) 16 0) (fun k => if k < (cq (fun v9 => decide (lwN (RE h) v9 = v9)) 16) then nI (nxF (fun k => nI (lwN (RE h) k)) (BFp h (lwN (RE h)) 16 0) (plF (fun k => nI (lwN (RE h) k)) (BFp h (lwN (RE h)) 16 0) k)) else oR k) cH k (by omega)) ⟨callB_of 1 hB (xg0 mc_Gr_nameAt) rfl rfl rfl (hB _ mz_Gr) (hB _ ml_A_94) (by decide +kernel) ⟨Nat.le_of_ble_eq_true rfl, Nat.le_of_ble_eq_true rfl⟩, hB _ mi_Gr_nameAt, hB _ me_Gr_nameAt⟩ (xpV (ws := [(g, .inr (2, [.ref g0, .ref g1, .ref g2, .ref g3, .ref g4, .ref g5, .int (nI (cq (fun v9 => decide (lwN (RE h) v9 = v9)) 16))])), (g0, .inl (k0, 16, .inl (RE h))), (g1, .inl (k1, 16, .inl (fun k => nI (lwN (RE h) k)))), (g2, .inl (k2, 16, .inl (LTp h (lwN (RE h)) 16 0))), (g3, .inl (k3, 16, .inl (BFp h (lwN (RE h)) 16 0))), (g4, .inl (k4, 16, .inl (fun k => if k < (cq (fun v9 => decide (lwN (RE h) v9 = v9)) 16) then nI (nxF (fun k => nI (lwN (RE h) k)) (BFp h (lwN (RE h)) 16 0) (plF (fun k => nI (lwN (RE h) k)) (BFp h (lwN (RE h)) 16 0) k)) else oR k))), (g5, .inl (k5, 16, .inl cH))]) (tys := [(k0, .int), (k1, .int), (k2, .int), (k3, .int), (k4, .int), (k5, .int)]) (hP.sub [1, 2, 3, 4, 5, 6, 7] rfl) (hK.sub [1, 2, 3, 4, 5, 6] rfl) hN (va_recv (ci := 2) (q0 := 1) (q := (R_Gr, F_Gr, 7)) hK hP rfl rfl)) rfl rfl hl.1 rfl (lv_room (Nat.le_of_ble_eq_true rfl)) d_A_ranked_41 ⟨Nat.le_of_ble_eq_true rfl, Nat.le_of_ble_eq_true rfl⟩) ?_
      have hP9 := hP.sub (ws' := [(a, .inr (0, [.ref w, .ref g, .ref yw, .ref f])), (w, .inr (1, [.ref hd, .int ct])), (hd, .inl (cA, 16, .inl h)), (g, .inr (2, [.ref g0, .ref g1, .ref g2, .ref g3, .ref g4, .ref g5, .int (nI (cq (fun v9 => decide (lwN (RE h) v9 = v9)) 16))])), (g0, .inl (k0, 16, .inl (RE h))), (g1, .inl (k1, 16, .inl (fun k => nI (lwN (RE h) k)))), (g2, .inl (k2, 16, .inl (LTp h (lwN (RE h)) 16 0))), (g3, .inl (k3, 16, .inl (BFp h (lwN (RE h)) 16 0))), (g4, .inl (k4, 16, .inl (fun k => if k < (cq (fun v9 => decide (lwN (RE h) v9 = v9)) 16) then nI (nxF (fun k => nI (lwN (RE h) k)) (BFp h (lwN (RE h)) 16 0) (plF (fun k => nI (lwN (RE h) k)) (BFp h (lwN (RE h)) 16 0) k)) else oR k))), (g5, .inl (k5, 16, .inl cH))]) [0, 8, 9, 1, 2, 3, 4, 5, 6, 7] rfl
      have hD9 := hD.sub (ws' := [(a, .inr (0, [.ref w, .ref g, .ref yw, .ref f])), (w, .inr (1, [.ref hd, .int ct])), (hd, .inl (cA, 16, .inl h)), (g, .inr (2, [.ref g0, .ref g1, .ref g2, .ref g3, .ref g4, .ref g5, .int (nI (cq (fun v9 => decide (lwN (RE h) v9 = v9)) 16))])), (g0, .inl (k0, 16, .inl (RE h))), (g1, .inl (k1, 16, .inl (fun k => nI (lwN (RE h) k)))), (g2, .inl (k2, 16, .inl (LTp h (lwN (RE h)) 16 0))), (g3, .inl (k3, 16, .inl (BFp h (lwN (RE h)) 16 0))), (g4, .inl (k4, 16, .inl (fun k => if k < (cq (fun v9 => decide (lwN (RE h) v9 = v9)) 16) then nI (nxF (fun k => nI (lwN (RE h) k)) (BFp h (lwN (RE h)) 16 0) (plF (fun k => nI (lwN (RE h) k)) (BFp h (lwN (RE h)) 16 0) k)) else oR k))), (g5, .inl (k5, 16, .inl cH))]) [0, 8, 9, 1, 2, 3, 4, 5, 6, 7] (by decide) rfl
      subst hAe
      refine xv_top (x' := nI (nxF (fun k => nI (lwN (RE h) k)) (BFp h (lwN (RE h)) 16 0) (plF (fun k => nI (lwN (RE h) k)) (BFp h (lwN (RE h)) 16 0) k))) (if_pos hk) ?_
      exact W.iret (v := nI (nxF (fun k => nI (lwN (RE h) k)) (BFp h (lwN (RE h)) 16 0) (plF (fun k => nI (lwN (RE h) k)) (BFp h (lwN (RE h)) 16 0) k))) hx hb hr (fun t ht hW => ⟨⟨_, (), rfl, rfl, by rw [ht]; exact hP9, va_K.moved hW.alike hK, hD9⟩, hS.F ht⟩) hS.2.2 d_A_ranked_44
    · have hc23 : ¬ (k < (cq (fun v9 => decide (lwN (RE h) v9 = v9)) 16)) := fun q9 => hc23 ((nI_ltI (by omega) (by omega)).mpr q9)
      exact absurd hk hc23
set_option maxHeartbeats 4000000 in
set_option maxRecDepth 100000 in
theorem k_A_reaches (l : Launch) (D : va_G) (a w g yw f : Nat)  (hd : Nat) (cA : ClassId) (ct : Int32) (h : Nat → Int32) (hg : gd h) (u v : Nat) (hu : u < 16) (hv : v < 16)  (sz : Nat) : Met l y_A_reaches (Cond.code y_A_reaches c_A_reaches 3 (some .boolean) :: BS) { frames := 3, cells := 0, slots := 0, locals := 69 } (va_Pc [.ref a, .int (nI u), .int (nI v)] (xWp D [(a, .inr (0, [.ref w, .ref g, .ref yw, .ref f])), (w, .inr (1, [.ref hd, .int ct])), (hd, .inl (cA, 16, .inl h))] [(cA, .int)] sz)) (xQi D [(a, .inr (0, [.ref w, .ref g, .ref yw, .ref f])), (w, .inr (1, [.ref hd, .int ct])), (hd, .inl (cA, 16, .inl h))] [(a, .inr (0, [.ref w, .ref g, .ref yw, .ref f])), (w, .inr (1, [.ref hd, .int ct])), (hd, .inl (cA, 16, .inl h))] [(cA, .int)] sz (b2i (bt (RE h u) v))) 0 0 (va_A [(a, .inr (0, [.ref w, .ref g, .ref yw, .ref f])), (w, .inr (1, [.ref hd, .int ct])), (hd, .inl (cA, 16, .inl h))] sz) := by
  refine Met.ofW (cc := c_A_reaches) (maxL := 3) (ret := (some .boolean)) (by decide) rfl ?_
  intro p e s m args below meth c s₁ B hml hv
  obtain ⟨rfl, hsz, hP, hK, hD0, hN⟩ := hv
  have hx := B.exec
  have hb := B.bytes
  have hr := B.returns
  have hB := xB B.pre
  have hown : s.vm.findClass R_A = some m.cls := findClass_of_methodNamed B.named
  have hlocks := B.notSynchronized
  subst hsz
  have hD := hD0.self (sz := s.heap.size)
  obtain ⟨A, hAe⟩ : ∃ A, A = va_A [(a, .inr (0, [.ref w, .ref g, .ref yw, .ref f])), (w, .inr (1, [.ref hd, .int ct])), (hd, .inl (cA, 16, .inl h))] s.heap.size := ⟨_, rfl⟩
  rw [← hAe] at hD
  have hA : ∀ q : Nat, s.heap.size ≤ q → A q := fun q h => by rw [hAe]; exact Or.inr h
  have hS : va_S A s.heap s.heap [] := va_S.rf
  have hl := lv_entry ([.ref a, .int (nI u), .int (nI v)]) (n := 3) (Nat.le_of_ble_eq_true rfl)
  rw [lg_entry_eq]
  generalize (lg_sl ([.ref a, .int (nI u), .int (nI v)]) ++ List.replicate (3 - (lg_sl ([.ref a, .int (nI u), .int (nI v)])).length) Slot.unset).toArray = ls at hl ⊢
  have hl : lv_has ls 3 [(0, .ref a), (1, .int (nI u)), (2, .int (nI v))] := hl
  refine lv_iload_n hx hb d_A_reaches_0 rfl (lv_at hl 1 rfl) ?_
  refine lv_iload_n hx hb d_A_reaches_1 rfl (lv_at hl 2 rfl) ?_
  refine xr_v (va_runS (As := [.int (nI u), .int (nI v)]) (rest := []) ⟨hx, hb, hml, hown, hB⟩ (k_A_requirePlaces l (nI u) (nI v) (isP2 (by omega) (by omega))) ⟨callB_of 2 hB (xg0 mc_A_requirePlaces) rfl rfl rfl (hB _ mz_A) (hB _ ml_A_37) (by decide +kernel) ⟨Nat.le_of_ble_eq_true rfl, Nat.le_of_ble_eq_true rfl⟩, hB _ ms_A_requirePlaces⟩ xTT_pre rfl rfl hl.1 rfl (lv_room (Nat.le_of_ble_eq_true rfl)) d_A_reaches_2 ⟨Nat.le_of_ble_eq_true rfl, Nat.le_of_ble_eq_true rfl⟩) ?_
  refine lv_aload_n hx hb d_A_reaches_5 rfl (lv_at hl 0 rfl) ?_
  refine va_get (D := D) (ci := 0) (v := .ref w) (C := R_A) (T := F_A) (N := 4) hx hb hB in_A hown hK hP 0 rfl rfl 0 (by decide) (hB _ mf_A_10) (fun _ h9 => h9) rfl d_A_reaches_6 ?_
  refine lv_iload_n hx hb d_A_reaches_9 rfl (lv_at hl 1 rfl) ?_
  refine xr_cal (va_runS (As := [.int (nI u)]) (rest := [.ref w]) ⟨hx, hb, hml, hown, hB⟩ (k_A_only l D u) ⟨callB_of 1 hB (xg0 mc_A_only) rfl rfl rfl (hB _ mz_A) (hB _ ml_A_97) (by decide +kernel) ⟨Nat.le_of_ble_eq_true rfl, Nat.le_of_ble_eq_true rfl⟩, hB _ ms_A_only⟩ (xpS (ws := []) (tys := []) (hP.sub [] rfl) (hK.sub [] rfl) hN) rfl rfl hl.1 rfl (lv_room (Nat.le_of_ble_eq_true rfl)) d_A_reaches_10 ⟨Nat.le_of_ble_eq_true rfl, Nat.le_of_ble_eq_true rfl⟩) ?_
  refine lv_iconst (v := nI 0) hx hb d_A_reaches_13 (by decide) ?_
  refine xr_cal (va_runV (As := [.int (bit u), .int (nI 0)]) (rest := []) ⟨hx, hb, hml, hown, hB⟩ (k_Web_spread l D w hd cA ct h hg (bit u) (nI 0) (m16_bit hu)) ⟨callB_of 2 hB (xg0 mc_Web_spread) rfl rfl rfl (hB _ mz_Web) (hB _ ml_A_100) (by decide +kernel) ⟨Nat.le_of_ble_eq_true rfl, Nat.le_of_ble_eq_true rfl⟩, hB _ mi_Web_spread, hB _ me_Web_spread⟩ (xpV (ws := [(w, .inr (1, [.ref hd, .int ct])), (hd, .inl (cA, 16, .inl h))]) (tys := [(cA, .int)]) (hP.sub [1, 2] rfl) (hK.sub [0] rfl) hN (va_recv (ci := 1) (q0 := 1) (q := (R_Web, F_Web, 2)) hK hP rfl rfl)) rfl rfl hl.1 rfl (lv_room (Nat.le_of_ble_eq_true rfl)) d_A_reaches_14 ⟨Nat.le_of_ble_eq_true rfl, Nat.le_of_ble_eq_true rfl⟩) ?_
  refine lv_iload_n hx hb d_A_reaches_17 rfl (lv_at hl 2 rfl) ?_
  refine xr_cal (va_runS (As := [.int (SP h (bit u) (nI 0)), .int (nI v)]) (rest := []) ⟨hx, hb, hml, hown, hB⟩ (k_A_has l D (SP h (bit u) (nI 0)) v (by omega)) ⟨callB_of 2 hB (xg0 mc_A_has) rfl rfl rfl (hB _ mz_A) (hB _ ml_A_104) (by decide +kernel) ⟨Nat.le_of_ble_eq_true rfl, Nat.le_of_ble_eq_true rfl⟩, hB _ ms_A_has⟩ (xpS (ws := []) (tys := []) (hP.sub [] rfl) (hK.sub [] rfl) hN) rfl rfl hl.1 rfl (lv_room (Nat.le_of_ble_eq_true rfl)) d_A_reaches_18 ⟨Nat.le_of_ble_eq_true rfl, Nat.le_of_ble_eq_true rfl⟩) ?_
  have hP9 := hP.sub (ws' := [(a, .inr (0, [.ref w, .ref g, .ref yw, .ref f])), (w, .inr (1, [.ref hd, .int ct])), (hd, .inl (cA, 16, .inl h))]) [0, 1, 2] rfl
  have hD9 := hD.sub (ws' := [(a, .inr (0, [.ref w, .ref g, .ref yw, .ref f])), (w, .inr (1, [.ref hd, .int ct])), (hd, .inl (cA, 16, .inl h))]) [0, 1, 2] (by decide) rfl
  subst hAe
  refine xv_top (x' := b2i (bt (RE h u) v)) (rfl) ?_
  exact W.zret (v := b2i (bt (RE h u) v)) hx hb hr (b2i_nar _) (fun t ht hW => ⟨⟨_, (), rfl, rfl, by rw [ht]; exact hP9, va_K.moved hW.alike hK, hD9⟩, hS.F ht⟩) hS.2.2 d_A_reaches_21
set_option maxHeartbeats 4000000 in
set_option maxRecDepth 100000 in
theorem k_A_distance (l : Launch) (D : va_G) (a w g yw f : Nat)  (hd : Nat) (cA : ClassId) (ct : Int32) (h : Nat → Int32) (la : Nat) (cL : ClassId) (lf : Nat → Int32) (u v : Nat) (hu : u < 16) (hv : v < 16)  (sz : Nat) : Met l y_A_distance (Cond.code y_A_distance c_A_distance 3 (some .int) :: BS) { frames := 3, cells := 0, slots := 0, locals := 67 } (va_Pc [.ref a, .int (nI u), .int (nI v)] (xWp D [(a, .inr (0, [.ref w, .ref g, .ref yw, .ref f])), (w, .inr (1, [.ref hd, .int ct])), (hd, .inl (cA, 16, .inl h)), (yw, .inr (3, [.ref la])), (la, .inl (cL, 16, .inl lf))] [(cA, .int), (cL, .int)] sz)) (xQi D [(a, .inr (0, [.ref w, .ref g, .ref yw, .ref f])), (w, .inr (1, [.ref hd, .int ct])), (hd, .inl (cA, 16, .inl h)), (yw, .inr (3, [.ref la])), (la, .inl (cL, 16, .inl lf))] [(a, .inr (0, [.ref w, .ref g, .ref yw, .ref f])), (w, .inr (1, [.ref hd, .int ct])), (hd, .inl (cA, 16, .inl h)), (yw, .inr (3, [.ref la])), (la, .inl (cL, 16, .inl (ly h v)))] [(cA, .int), (cL, .int)] sz (DS h u v)) 0 0 (va_A [(a, .inr (0, [.ref w, .ref g, .ref yw, .ref f])), (w, .inr (1, [.ref hd, .int ct])), (hd, .inl (cA, 16, .inl h)), (yw, .inr (3, [.ref la])), (la, .inl (cL, 16, .inl lf))] sz) := by
  refine Met.ofW (cc := c_A_distance) (maxL := 3) (ret := (some .int)) (by decide) rfl ?_
  intro p e s m args below meth c s₁ B hml hv
  obtain ⟨rfl, hsz, hP, hK, hD0, hN⟩ := hv
  have hx := B.exec
  have hb := B.bytes
  have hr := B.returns
  have hB := xB B.pre
  have hown : s.vm.findClass R_A = some m.cls := findClass_of_methodNamed B.named
  have hlocks := B.notSynchronized
  subst hsz
  have hD := hD0.self (sz := s.heap.size)
  obtain ⟨A, hAe⟩ : ∃ A, A = va_A [(a, .inr (0, [.ref w, .ref g, .ref yw, .ref f])), (w, .inr (1, [.ref hd, .int ct])), (hd, .inl (cA, 16, .inl h)), (yw, .inr (3, [.ref la])), (la, .inl (cL, 16, .inl lf))] s.heap.size := ⟨_, rfl⟩
  rw [← hAe] at hD
  have hA : ∀ q : Nat, s.heap.size ≤ q → A q := fun q h => by rw [hAe]; exact Or.inr h
  have hS : va_S A s.heap s.heap [] := va_S.rf
  have hl := lv_entry ([.ref a, .int (nI u), .int (nI v)]) (n := 3) (Nat.le_of_ble_eq_true rfl)
  rw [lg_entry_eq]
  generalize (lg_sl ([.ref a, .int (nI u), .int (nI v)]) ++ List.replicate (3 - (lg_sl ([.ref a, .int (nI u), .int (nI v)])).length) Slot.unset).toArray = ls at hl ⊢
  have hl : lv_has ls 3 [(0, .ref a), (1, .int (nI u)), (2, .int (nI v))] := hl
  refine lv_iload_n hx hb d_A_distance_0 rfl (lv_at hl 1 rfl) ?_
  refine lv_iload_n hx hb d_A_distance_1 rfl (lv_at hl 2 rfl) ?_
  refine xr_v (va_runS (As := [.int (nI u), .int (nI v)]) (rest := []) ⟨hx, hb, hml, hown, hB⟩ (k_A_requirePlaces l (nI u) (nI v) (isP2 (by omega) (by omega))) ⟨callB_of 2 hB (xg0 mc_A_requirePlaces) rfl rfl rfl (hB _ mz_A) (hB _ ml_A_37) (by decide +kernel) ⟨Nat.le_of_ble_eq_true rfl, Nat.le_of_ble_eq_true rfl⟩, hB _ ms_A_requirePlaces⟩ xTT_pre rfl rfl hl.1 rfl (lv_room (Nat.le_of_ble_eq_true rfl)) d_A_distance_2 ⟨Nat.le_of_ble_eq_true rfl, Nat.le_of_ble_eq_true rfl⟩) ?_
  refine lv_aload_n hx hb d_A_distance_5 rfl (lv_at hl 0 rfl) ?_
  refine va_get (D := D) (ci := 0) (v := .ref yw) (C := R_A) (T := F_A) (N := 4) hx hb hB in_A hown hK hP 0 rfl rfl 2 (by decide) (hB _ mf_A_26) (fun _ h9 => h9) rfl d_A_distance_6 ?_
  refine lv_iload_n hx hb d_A_distance_9 rfl (lv_at hl 2 rfl) ?_
  refine lv_aload_n hx hb d_A_distance_10 rfl (lv_at hl 0 rfl) ?_
  refine va_get (D := D) (ci := 0) (v := .ref w) (C := R_A) (T := F_A) (N := 4) hx hb hB in_A hown hK hP 0 rfl rfl 0 (by decide) (hB _ mf_A_10) (fun _ h9 => h9) rfl d_A_distance_11 ?_
  refine xw_v (wc := [(yw, .inr (3, [.ref la])), (la, .inl (cL, 16, .inl lf)), (w, .inr (1, [.ref hd, .int ct])), (hd, .inl (cA, 16, .inl h))]) (wr := [(a, .inr (0, [.ref w, .ref g, .ref yw, .ref f]))]) (w1 := [(yw, .inr (3, [.ref la])), (la, .inl (cL, 16, .inl (ly h v))), (w, .inr (1, [.ref hd, .int ct])), (hd, .inl (cA, 16, .inl h))]) (va_runV (As := [.int (nI v), .ref w]) (rest := []) ⟨hx, hb, hml, hown, hB⟩ (k_Wy_readTo l D yw la cL lf w hd cA ct h v (by omega) _) ⟨callB_of 2 hB (xg0 mc_Wy_readTo) rfl rfl rfl (hB _ mz_Wy) (hB _ ml_A_107) (by decide +kernel) ⟨Nat.le_of_ble_eq_true rfl, Nat.le_of_ble_eq_true rfl⟩, hB _ mi_Wy_readTo, hB _ me_Wy_readTo⟩ (xqV (ws := [(yw, .inr (3, [.ref la])), (la, .inl (cL, 16, .inl lf)), (w, .inr (1, [.ref hd, .int ct])), (hd, .inl (cA, 16, .inl h))]) (tys := [(cL, .int), (cA, .int)]) (hP.sub [3, 4, 1, 2] rfl) (hD.sub [3, 4, 1, 2] (by decide) rfl) (hK.sub [1, 0] rfl) hN (va_recv (ci := 3) (q0 := 3) (q := (R_Wy, F_Wy, 1)) hK hP rfl rfl)) rfl rfl hl.1 rfl (lv_room (Nat.le_of_ble_eq_true rfl)) d_A_distance_14 ⟨Nat.le_of_ble_eq_true rfl, Nat.le_of_ble_eq_true rfl⟩) hP hD hS hA [3, 4, 1, 2] [0] rfl rfl (by decide) (by decide) (fun H locs hP hD hS => ?_)
  have hP : va_P D cls [(a, .inr (0, [.ref w, .ref g, .ref yw, .ref f])), (yw, .inr (3, [.ref la])), (la, .inl (cL, 16, .inl (ly h v))), (w, .inr (1, [.ref hd, .int ct])), (hd, .inl (cA, 16, .inl h))] H := hP
  have hD : va_D A [(a, .inr (0, [.ref w, .ref g, .ref yw, .ref f])), (yw, .inr (3, [.ref la])), (la, .inl (cL, 16, .inl (ly h v))), (w, .inr (1, [.ref hd, .int ct])), (hd, .inl (cA, 16, .inl h))] := hD
  refine lv_aload_n hx hb d_A_distance_17 rfl (lv_at hl 0 rfl) ?_
  refine va_get (D := D) (ci := 0) (v := .ref yw) (C := R_A) (T := F_A) (N := 4) hx hb hB in_A hown hK hP 0 rfl rfl 2 (by decide) (hB _ mf_A_26) (fun _ h9 => h9) rfl d_A_distance_18 ?_
  refine lv_iload_n hx hb d_A_distance_21 rfl (lv_at hl 1 rfl) ?_
  refine xr_cal (va_runV (As := [.int (nI u)]) (rest := []) ⟨hx, hb, hml, hown, hB⟩ (k_Wy_lengthFrom l D yw la cL (ly h v) u (by omega)) ⟨callB_of 1 hB (xg0 mc_Wy_lengthFrom) rfl rfl rfl (hB _ mz_Wy) (hB _ ml_A_111) (by decide +kernel) ⟨Nat.le_of_ble_eq_true rfl, Nat.le_of_ble_eq_true rfl⟩, hB _ mi_Wy_lengthFrom, hB _ me_Wy_lengthFrom⟩ (xpV (ws := [(yw, .inr (3, [.ref la])), (la, .inl (cL, 16, .inl (ly h v)))]) (tys := [(cL, .int)]) (hP.sub [1, 2] rfl) (hK.sub [1] rfl) hN (va_recv (ci := 3) (q0 := 1) (q := (R_Wy, F_Wy, 1)) hK hP rfl rfl)) rfl rfl hl.1 rfl (lv_room (Nat.le_of_ble_eq_true rfl)) d_A_distance_22 ⟨Nat.le_of_ble_eq_true rfl, Nat.le_of_ble_eq_true rfl⟩) ?_
  have hP9 := hP.sub (ws' := [(a, .inr (0, [.ref w, .ref g, .ref yw, .ref f])), (w, .inr (1, [.ref hd, .int ct])), (hd, .inl (cA, 16, .inl h)), (yw, .inr (3, [.ref la])), (la, .inl (cL, 16, .inl (ly h v)))]) [0, 3, 4, 1, 2] rfl
  have hD9 := hD.sub (ws' := [(a, .inr (0, [.ref w, .ref g, .ref yw, .ref f])), (w, .inr (1, [.ref hd, .int ct])), (hd, .inl (cA, 16, .inl h)), (yw, .inr (3, [.ref la])), (la, .inl (cL, 16, .inl (ly h v)))]) [0, 3, 4, 1, 2] (by decide) rfl
  subst hAe
  refine xv_top (x' := DS h u v) (rfl) ?_
  exact W.iret (v := DS h u v) hx hb hr (fun t ht hW => ⟨⟨_, (), rfl, rfl, by rw [ht]; exact hP9, va_K.moved hW.alike hK, hD9⟩, hS.F ht⟩) hS.2.2 d_A_distance_25
set_option maxHeartbeats 4000000 in
set_option maxRecDepth 100000 in
theorem k_A_gate_same (l : Launch) (D : va_G) (a w g yw f : Nat)  (hd : Nat) (cA : ClassId) (ct : Int32) (h : Nat → Int32) (u v : Nat) (hu : u < 16) (hv : v < 16) (huv : u = v) (sz : Nat) : Met l y_A_gate (Cond.code y_A_gate c_A_gate 3 (some .int) :: BS) { frames := 2, cells := 0, slots := 0, locals := 41 } (va_Pc [.ref a, .int (nI u), .int (nI v)] (xWp D [(a, .inr (0, [.ref w, .ref g, .ref yw, .ref f])), (w, .inr (1, [.ref hd, .int ct])), (hd, .inl (cA, 16, .inl h))] [(cA, .int)] sz)) (xQi D [(a, .inr (0, [.ref w, .ref g, .ref yw, .ref f])), (w, .inr (1, [.ref hd, .int ct])), (hd, .inl (cA, 16, .inl h))] [(a, .inr (0, [.ref w, .ref g, .ref yw, .ref f])), (w, .inr (1, [.ref hd, .int ct])), (hd, .inl (cA, 16, .inl h))] [(cA, .int)] sz (-1)) 0 0 (va_A [(a, .inr (0, [.ref w, .ref g, .ref yw, .ref f])), (w, .inr (1, [.ref hd, .int ct])), (hd, .inl (cA, 16, .inl h))] sz) := by
  refine Met.ofW (cc := c_A_gate) (maxL := 3) (ret := (some .int)) (by decide) rfl ?_
  intro p e s m args below meth c s₁ B hml hv
  obtain ⟨rfl, hsz, hP, hK, hD0, hN⟩ := hv
  have hx := B.exec
  have hb := B.bytes
  have hr := B.returns
  have hB := xB B.pre
  have hown : s.vm.findClass R_A = some m.cls := findClass_of_methodNamed B.named
  have hlocks := B.notSynchronized
  subst hsz
  have hD := hD0.self (sz := s.heap.size)
  obtain ⟨A, hAe⟩ : ∃ A, A = va_A [(a, .inr (0, [.ref w, .ref g, .ref yw, .ref f])), (w, .inr (1, [.ref hd, .int ct])), (hd, .inl (cA, 16, .inl h))] s.heap.size := ⟨_, rfl⟩
  rw [← hAe] at hD
  have hA : ∀ q : Nat, s.heap.size ≤ q → A q := fun q h => by rw [hAe]; exact Or.inr h
  have hS : va_S A s.heap s.heap [] := va_S.rf
  have hl := lv_entry ([.ref a, .int (nI u), .int (nI v)]) (n := 3) (Nat.le_of_ble_eq_true rfl)
  rw [lg_entry_eq]
  generalize (lg_sl ([.ref a, .int (nI u), .int (nI v)]) ++ List.replicate (3 - (lg_sl ([.ref a, .int (nI u), .int (nI v)])).length) Slot.unset).toArray = ls at hl ⊢
  have hl : lv_has ls 3 [(0, .ref a), (1, .int (nI u)), (2, .int (nI v))] := hl
  refine lv_iload_n hx hb d_A_gate_0 rfl (lv_at hl 1 rfl) ?_
  refine lv_iload_n hx hb d_A_gate_1 rfl (lv_at hl 2 rfl) ?_
  refine xr_v (va_runS (As := [.int (nI u), .int (nI v)]) (rest := []) ⟨hx, hb, hml, hown, hB⟩ (k_A_requirePlaces l (nI u) (nI v) (isP2 (by omega) (by omega))) ⟨callB_of 2 hB (xg0 mc_A_requirePlaces) rfl rfl rfl (hB _ mz_A) (hB _ ml_A_37) (by decide +kernel) ⟨Nat.le_of_ble_eq_true rfl, Nat.le_of_ble_eq_true rfl⟩, hB _ ms_A_requirePlaces⟩ xTT_pre rfl rfl hl.1 rfl (lv_room (Nat.le_of_ble_eq_true rfl)) d_A_gate_2 ⟨Nat.le_of_ble_eq_true rfl, Nat.le_of_ble_eq_true rfl⟩) ?_
  refine lv_iload_n hx hb d_A_gate_5 rfl (lv_at hl 1 rfl) ?_
  refine lv_iload_n hx hb d_A_gate_6 rfl (lv_at hl 2 rfl) ?_
  refine lv_icmp_ne (tgt := 12) hx hb d_A_gate_7 rfl (fun hc7 => ?_) (fun hc7 => ?_)
  · have hc7 : ¬ (u = v) := fun q9 => hc7 ((nI_eq (by omega) (by omega)).mpr q9)
    exact absurd huv hc7
  · have hc7 : u = v := (nI_eq (by omega) (by omega)).mp hc7
    refine lv_iconst (v := -1) hx hb d_A_gate_10 (by decide) ?_
    have hP9 := hP.sub (ws' := [(a, .inr (0, [.ref w, .ref g, .ref yw, .ref f])), (w, .inr (1, [.ref hd, .int ct])), (hd, .inl (cA, 16, .inl h))]) [0, 1, 2] rfl
    have hD9 := hD.sub (ws' := [(a, .inr (0, [.ref w, .ref g, .ref yw, .ref f])), (w, .inr (1, [.ref hd, .int ct])), (hd, .inl (cA, 16, .inl h))]) [0, 1, 2] (by decide) rfl
    subst hAe
    exact W.iret (v := -1) hx hb hr (fun t ht hW => ⟨⟨_, (), rfl, rfl, by rw [ht]; exact hP9, va_K.moved hW.alike hK, hD9⟩, hS.F ht⟩) hS.2.2 d_A_gate_11
set_option maxHeartbeats 4000000 in
set_option maxRecDepth 100000 in
theorem k_A_gate_ok (l : Launch) (D : va_G) (a w g yw f : Nat)  (hd : Nat) (cA : ClassId) (ct : Int32) (h : Nat → Int32) (hg : gd h) (u v : Nat) (hu : u < 16) (hv : v < 16) (huv : ¬ u = v) (hrv : bt (RE h u) v = true) (sz : Nat) : Met l y_A_gate (Cond.code y_A_gate c_A_gate 3 (some .int) :: BS) { frames := 5, cells := 0, slots := 0, locals := 117 } (va_Pc [.ref a, .int (nI u), .int (nI v)] (xWp D [(a, .inr (0, [.ref w, .ref g, .ref yw, .ref f])), (w, .inr (1, [.ref hd, .int ct])), (hd, .inl (cA, 16, .inl h))] [(cA, .int)] sz)) (xQi D [(a, .inr (0, [.ref w, .ref g, .ref yw, .ref f])), (w, .inr (1, [.ref hd, .int ct])), (hd, .inl (cA, 16, .inl h))] [(a, .inr (0, [.ref w, .ref g, .ref yw, .ref f])), (w, .inr (1, [.ref hd, .int ct])), (hd, .inl (cA, 16, .inl h))] [(cA, .int)] sz (nI (first (fun d9 => bt (mk (fun d9 => decide (¬ d9 = v) && !(bt (SP h (bit u) (bit d9)) v)) 16) d9 && !(anyq (fun e9 => bt ((mk (fun d9 => decide (¬ d9 = v) && !(bt (SP h (bit u) (bit d9)) v)) 16) &&& (bit d9 ^^^ (-1))) e9 && bt (SP h (bit u) (bit e9)) d9) 16)) u 16))) 0 0 (va_A [(a, .inr (0, [.ref w, .ref g, .ref yw, .ref f])), (w, .inr (1, [.ref hd, .int ct])), (hd, .inl (cA, 16, .inl h))] sz) := by
  refine Met.ofW (cc := c_A_gate) (maxL := 3) (ret := (some .int)) (by decide) rfl ?_
  intro p e s m args below meth c s₁ B hml hv
  obtain ⟨rfl, hsz, hP, hK, hD0, hN⟩ := hv
  have hx := B.exec
  have hb := B.bytes
  have hr := B.returns
  have hB := xB B.pre
  have hown : s.vm.findClass R_A = some m.cls := findClass_of_methodNamed B.named
  have hlocks := B.notSynchronized
  subst hsz
  have hD := hD0.self (sz := s.heap.size)
  obtain ⟨A, hAe⟩ : ∃ A, A = va_A [(a, .inr (0, [.ref w, .ref g, .ref yw, .ref f])), (w, .inr (1, [.ref hd, .int ct])), (hd, .inl (cA, 16, .inl h))] s.heap.size := ⟨_, rfl⟩
  rw [← hAe] at hD
  have hA : ∀ q : Nat, s.heap.size ≤ q → A q := fun q h => by rw [hAe]; exact Or.inr h
  have hS : va_S A s.heap s.heap [] := va_S.rf
  have hl := lv_entry ([.ref a, .int (nI u), .int (nI v)]) (n := 3) (Nat.le_of_ble_eq_true rfl)
  rw [lg_entry_eq]
  generalize (lg_sl ([.ref a, .int (nI u), .int (nI v)]) ++ List.replicate (3 - (lg_sl ([.ref a, .int (nI u), .int (nI v)])).length) Slot.unset).toArray = ls at hl ⊢
  have hl : lv_has ls 3 [(0, .ref a), (1, .int (nI u)), (2, .int (nI v))] := hl
  refine lv_iload_n hx hb d_A_gate_0 rfl (lv_at hl 1 rfl) ?_
  refine lv_iload_n hx hb d_A_gate_1 rfl (lv_at hl 2 rfl) ?_
  refine xr_v (va_runS (As := [.int (nI u), .int (nI v)]) (rest := []) ⟨hx, hb, hml, hown, hB⟩ (k_A_requirePlaces l (nI u) (nI v) (isP2 (by omega) (by omega))) ⟨callB_of 2 hB (xg0 mc_A_requirePlaces) rfl rfl rfl (hB _ mz_A) (hB _ ml_A_37) (by decide +kernel) ⟨Nat.le_of_ble_eq_true rfl, Nat.le_of_ble_eq_true rfl⟩, hB _ ms_A_requirePlaces⟩ xTT_pre rfl rfl hl.1 rfl (lv_room (Nat.le_of_ble_eq_true rfl)) d_A_gate_2 ⟨Nat.le_of_ble_eq_true rfl, Nat.le_of_ble_eq_true rfl⟩) ?_
  refine lv_iload_n hx hb d_A_gate_5 rfl (lv_at hl 1 rfl) ?_
  refine lv_iload_n hx hb d_A_gate_6 rfl (lv_at hl 2 rfl) ?_
  refine lv_icmp_ne (tgt := 12) hx hb d_A_gate_7 rfl (fun hc7 => ?_) (fun hc7 => ?_)
  · have hc7 : ¬ (u = v) := fun q9 => hc7 ((nI_eq (by omega) (by omega)).mpr q9)
    refine lv_aload_n hx hb d_A_gate_12 rfl (lv_at hl 0 rfl) ?_
    refine va_get (D := D) (ci := 0) (v := .ref w) (C := R_A) (T := F_A) (N := 4) hx hb hB in_A hown hK hP 0 rfl rfl 0 (by decide) (hB _ mf_A_10) (fun _ h9 => h9) rfl d_A_gate_13 ?_
    refine lv_iload_n hx hb d_A_gate_16 rfl (lv_at hl 1 rfl) ?_
    refine xr_cal (va_runS (As := [.int (nI u)]) (rest := [.ref w]) ⟨hx, hb, hml, hown, hB⟩ (k_A_only l D u) ⟨callB_of 1 hB (xg0 mc_A_only) rfl rfl rfl (hB _ mz_A) (hB _ ml_A_97) (by decide +kernel) ⟨Nat.le_of_ble_eq_true rfl, Nat.le_of_ble_eq_true rfl⟩, hB _ ms_A_only⟩ (xpS (ws := []) (tys := []) (hP.sub [] rfl) (hK.sub [] rfl) hN) rfl rfl hl.1 rfl (lv_room (Nat.le_of_ble_eq_true rfl)) d_A_gate_17 ⟨Nat.le_of_ble_eq_true rfl, Nat.le_of_ble_eq_true rfl⟩) ?_
    refine lv_iconst (v := nI 0) hx hb d_A_gate_20 (by decide) ?_
    refine xr_cal (va_runV (As := [.int (bit u), .int (nI 0)]) (rest := []) ⟨hx, hb, hml, hown, hB⟩ (k_Web_spread l D w hd cA ct h hg (bit u) (nI 0) (m16_bit hu)) ⟨callB_of 2 hB (xg0 mc_Web_spread) rfl rfl rfl (hB _ mz_Web) (hB _ ml_A_100) (by decide +kernel) ⟨Nat.le_of_ble_eq_true rfl, Nat.le_of_ble_eq_true rfl⟩, hB _ mi_Web_spread, hB _ me_Web_spread⟩ (xpV (ws := [(w, .inr (1, [.ref hd, .int ct])), (hd, .inl (cA, 16, .inl h))]) (tys := [(cA, .int)]) (hP.sub [1, 2] rfl) (hK.sub [0] rfl) hN (va_recv (ci := 1) (q0 := 1) (q := (R_Web, F_Web, 2)) hK hP rfl rfl)) rfl rfl hl.1 rfl (lv_room (Nat.le_of_ble_eq_true rfl)) d_A_gate_21 ⟨Nat.le_of_ble_eq_true rfl, Nat.le_of_ble_eq_true rfl⟩) ?_
    refine lv_iload_n hx hb d_A_gate_24 rfl (lv_at hl 2 rfl) ?_
    refine xr_cal (va_runS (As := [.int (SP h (bit u) (nI 0)), .int (nI v)]) (rest := []) ⟨hx, hb, hml, hown, hB⟩ (k_A_has l D (SP h (bit u) (nI 0)) v (by omega)) ⟨callB_of 2 hB (xg0 mc_A_has) rfl rfl rfl (hB _ mz_A) (hB _ ml_A_104) (by decide +kernel) ⟨Nat.le_of_ble_eq_true rfl, Nat.le_of_ble_eq_true rfl⟩, hB _ ms_A_has⟩ (xpS (ws := []) (tys := []) (hP.sub [] rfl) (hK.sub [] rfl) hN) rfl rfl hl.1 rfl (lv_room (Nat.le_of_ble_eq_true rfl)) d_A_gate_25 ⟨Nat.le_of_ble_eq_true rfl, Nat.le_of_ble_eq_true rfl⟩) ?_
    refine lv_if_ne (tgt := 41) hx hb d_A_gate_28 rfl (fun hc28 => ?_) (fun hc28 => ?_)
    · have hc28 := b2i_n.mp hc28
      refine lv_aload_n hx hb d_A_gate_41 rfl (lv_at hl 0 rfl) ?_
      refine lv_iload_n hx hb d_A_gate_42 rfl (lv_at hl 1 rfl) ?_
      refine lv_iload_n hx hb d_A_gate_43 rfl (lv_at hl 2 rfl) ?_
      refine xr_cal (va_runV (As := [.int (nI u), .int (nI v)]) (rest := []) ⟨hx, hb, hml, hown, hB⟩ (k_A_lastBefore l D a w g yw f hd cA ct h hg u v (by omega) (by omega)) ⟨callB_of 2 hB (xg0 mc_A_lastBefore) rfl rfl rfl (hB _ mz_A) (hB _ ml_A_125) (by decide +kernel) ⟨Nat.le_of_ble_eq_true rfl, Nat.le_of_ble_eq_true rfl⟩, hB _ mi_A_lastBefore, hB _ me_A_lastBefore⟩ (xpV (ws := [(a, .inr (0, [.ref w, .ref g, .ref yw, .ref f])), (w, .inr (1, [.ref hd, .int ct])), (hd, .inl (cA, 16, .inl h))]) (tys := [(cA, .int)]) (hP.sub [0, 1, 2] rfl) (hK.sub [0] rfl) hN (va_recv (ci := 0) (q0 := 0) (q := (R_A, F_A, 4)) hK hP rfl rfl)) rfl rfl hl.1 rfl (lv_room (Nat.le_of_ble_eq_true rfl)) d_A_gate_44 ⟨Nat.le_of_ble_eq_true rfl, Nat.le_of_ble_eq_true rfl⟩) ?_
      have hP9 := hP.sub (ws' := [(a, .inr (0, [.ref w, .ref g, .ref yw, .ref f])), (w, .inr (1, [.ref hd, .int ct])), (hd, .inl (cA, 16, .inl h))]) [0, 1, 2] rfl
      have hD9 := hD.sub (ws' := [(a, .inr (0, [.ref w, .ref g, .ref yw, .ref f])), (w, .inr (1, [.ref hd, .int ct])), (hd, .inl (cA, 16, .inl h))]) [0, 1, 2] (by decide) rfl
      subst hAe
      exact W.iret (v := nI (first (fun d9 => bt (mk (fun d9 => decide (¬ d9 = v) && !(bt (SP h (bit u) (bit d9)) v)) 16) d9 && !(anyq (fun e9 => bt ((mk (fun d9 => decide (¬ d9 = v) && !(bt (SP h (bit u) (bit d9)) v)) 16) &&& (bit d9 ^^^ (-1))) e9 && bt (SP h (bit u) (bit e9)) d9) 16)) u 16)) hx hb hr (fun t ht hW => ⟨⟨_, (), rfl, rfl, by rw [ht]; exact hP9, va_K.moved hW.alike hK, hD9⟩, hS.F ht⟩) hS.2.2 d_A_gate_47
    · have hc28 := b2i_0.mp hc28
      exact absurd (show bt (RE h u) v = false from hc28) (by rw [hrv]; decide)
  · have hc7 : u = v := (nI_eq (by omega) (by omega)).mp hc7
    exact absurd hc7 huv
set_option maxHeartbeats 4000000 in
set_option maxRecDepth 100000 in
theorem k_A_places_none (l : Launch) (D : va_G) (a w g yw f : Nat)  (hd : Nat) (cA : ClassId) (ct : Int32) (h : Nat → Int32) (u v : Nat) (hu : u < 16) (hv : v < 16) (huv : u = v ∨ bt (h u) v = true) (sz : Nat) : Met l y_A_places (Cond.code y_A_places c_A_places 3 (some .int) :: BS) { frames := 2, cells := 0, slots := 0, locals := 43 } (va_Pc [.ref a, .int (nI u), .int (nI v)] (xWp D [(a, .inr (0, [.ref w, .ref g, .ref yw, .ref f])), (w, .inr (1, [.ref hd, .int ct])), (hd, .inl (cA, 16, .inl h))] [(cA, .int)] sz)) (xQi D [(a, .inr (0, [.ref w, .ref g, .ref yw, .ref f])), (w, .inr (1, [.ref hd, .int ct])), (hd, .inl (cA, 16, .inl h))] [(a, .inr (0, [.ref w, .ref g, .ref yw, .ref f])), (w, .inr (1, [.ref hd, .int ct])), (hd, .inl (cA, 16, .inl h))] [(cA, .int)] sz (-1)) 0 0 (va_A [(a, .inr (0, [.ref w, .ref g, .ref yw, .ref f])), (w, .inr (1, [.ref hd, .int ct])), (hd, .inl (cA, 16, .inl h))] sz) := by
  refine Met.ofW (cc := c_A_places) (maxL := 3) (ret := (some .int)) (by decide) rfl ?_
  intro p e s m args below meth c s₁ B hml hv
  obtain ⟨rfl, hsz, hP, hK, hD0, hN⟩ := hv
  have hx := B.exec
  have hb := B.bytes
  have hr := B.returns
  have hB := xB B.pre
  have hown : s.vm.findClass R_A = some m.cls := findClass_of_methodNamed B.named
  have hlocks := B.notSynchronized
  subst hsz
  have hD := hD0.self (sz := s.heap.size)
  obtain ⟨A, hAe⟩ : ∃ A, A = va_A [(a, .inr (0, [.ref w, .ref g, .ref yw, .ref f])), (w, .inr (1, [.ref hd, .int ct])), (hd, .inl (cA, 16, .inl h))] s.heap.size := ⟨_, rfl⟩
  rw [← hAe] at hD
  have hA : ∀ q : Nat, s.heap.size ≤ q → A q := fun q h => by rw [hAe]; exact Or.inr h
  have hS : va_S A s.heap s.heap [] := va_S.rf
  have hl := lv_entry ([.ref a, .int (nI u), .int (nI v)]) (n := 3) (Nat.le_of_ble_eq_true rfl)
  rw [lg_entry_eq]
  generalize (lg_sl ([.ref a, .int (nI u), .int (nI v)]) ++ List.replicate (3 - (lg_sl ([.ref a, .int (nI u), .int (nI v)])).length) Slot.unset).toArray = ls at hl ⊢
  have hl : lv_has ls 3 [(0, .ref a), (1, .int (nI u)), (2, .int (nI v))] := hl
  refine lv_iload_n hx hb d_A_places_0 rfl (lv_at hl 1 rfl) ?_
  refine lv_iload_n hx hb d_A_places_1 rfl (lv_at hl 2 rfl) ?_
  refine xr_v (va_runS (As := [.int (nI u), .int (nI v)]) (rest := []) ⟨hx, hb, hml, hown, hB⟩ (k_A_requirePlaces l (nI u) (nI v) (isP2 (by omega) (by omega))) ⟨callB_of 2 hB (xg0 mc_A_requirePlaces) rfl rfl rfl (hB _ mz_A) (hB _ ml_A_37) (by decide +kernel) ⟨Nat.le_of_ble_eq_true rfl, Nat.le_of_ble_eq_true rfl⟩, hB _ ms_A_requirePlaces⟩ xTT_pre rfl rfl hl.1 rfl (lv_room (Nat.le_of_ble_eq_true rfl)) d_A_places_2 ⟨Nat.le_of_ble_eq_true rfl, Nat.le_of_ble_eq_true rfl⟩) ?_
  refine lv_iload_n hx hb d_A_places_5 rfl (lv_at hl 1 rfl) ?_
  refine lv_iload_n hx hb d_A_places_6 rfl (lv_at hl 2 rfl) ?_
  refine lv_icmp_eq (tgt := 22) hx hb d_A_places_7 rfl (fun hc7 => ?_) (fun hc7 => ?_)
  · have hc7 : u = v := (nI_eq (by omega) (by omega)).mp hc7
    refine lv_iconst (v := -1) hx hb d_A_places_22 (by decide) ?_
    have hP9 := hP.sub (ws' := [(a, .inr (0, [.ref w, .ref g, .ref yw, .ref f])), (w, .inr (1, [.ref hd, .int ct])), (hd, .inl (cA, 16, .inl h))]) [0, 1, 2] rfl
    have hD9 := hD.sub (ws' := [(a, .inr (0, [.ref w, .ref g, .ref yw, .ref f])), (w, .inr (1, [.ref hd, .int ct])), (hd, .inl (cA, 16, .inl h))]) [0, 1, 2] (by decide) rfl
    subst hAe
    exact W.iret (v := -1) hx hb hr (fun t ht hW => ⟨⟨_, (), rfl, rfl, by rw [ht]; exact hP9, va_K.moved hW.alike hK, hD9⟩, hS.F ht⟩) hS.2.2 d_A_places_23
  · have hc7 : ¬ (u = v) := fun q9 => hc7 ((nI_eq (by omega) (by omega)).mpr q9)
    refine lv_aload_n hx hb d_A_places_10 rfl (lv_at hl 0 rfl) ?_
    refine va_get (D := D) (ci := 0) (v := .ref w) (C := R_A) (T := F_A) (N := 4) hx hb hB in_A hown hK hP 0 rfl rfl 0 (by decide) (hB _ mf_A_10) (fun _ h9 => h9) rfl d_A_places_11 ?_
    refine lv_iload_n hx hb d_A_places_14 rfl (lv_at hl 1 rfl) ?_
    refine lv_iload_n hx hb d_A_places_15 rfl (lv_at hl 2 rfl) ?_
    refine xr_cal (va_runV (As := [.int (nI u), .int (nI v)]) (rest := []) ⟨hx, hb, hml, hown, hB⟩ (k_Web_holds l D w hd cA ct h u v (by omega) (by omega)) ⟨callB_of 2 hB (xg0 mc_Web_holds) rfl rfl rfl (hB _ mz_Web) (hB _ ml_A_48) (by decide +kernel) ⟨Nat.le_of_ble_eq_true rfl, Nat.le_of_ble_eq_true rfl⟩, hB _ mi_Web_holds, hB _ me_Web_holds⟩ (xpV (ws := [(w, .inr (1, [.ref hd, .int ct])), (hd, .inl (cA, 16, .inl h))]) (tys := [(cA, .int)]) (hP.sub [1, 2] rfl) (hK.sub [0] rfl) hN (va_recv (ci := 1) (q0 := 1) (q := (R_Web, F_Web, 2)) hK hP rfl rfl)) rfl rfl hl.1 rfl (lv_room (Nat.le_of_ble_eq_true rfl)) d_A_places_16 ⟨Nat.le_of_ble_eq_true rfl, Nat.le_of_ble_eq_true rfl⟩) ?_
    refine lv_if_eq (tgt := 24) hx hb d_A_places_19 rfl (fun hc19 => ?_) (fun hc19 => ?_)
    · have hc19 := b2i_0.mp hc19
      exact (huv.elim (fun q9 => absurd q9 hc7) (fun q9 => absurd q9 (by rw [hc19]; decide)))
    · have hc19 := b2i_n.mp hc19
      refine lv_iconst (v := -1) hx hb d_A_places_22 (by decide) ?_
      have hP9 := hP.sub (ws' := [(a, .inr (0, [.ref w, .ref g, .ref yw, .ref f])), (w, .inr (1, [.ref hd, .int ct])), (hd, .inl (cA, 16, .inl h))]) [0, 1, 2] rfl
      have hD9 := hD.sub (ws' := [(a, .inr (0, [.ref w, .ref g, .ref yw, .ref f])), (w, .inr (1, [.ref hd, .int ct])), (hd, .inl (cA, 16, .inl h))]) [0, 1, 2] (by decide) rfl
      subst hAe
      exact W.iret (v := -1) hx hb hr (fun t ht hW => ⟨⟨_, (), rfl, rfl, by rw [ht]; exact hP9, va_K.moved hW.alike hK, hD9⟩, hS.F ht⟩) hS.2.2 d_A_places_23
set_option maxHeartbeats 4000000 in
set_option maxRecDepth 100000 in
theorem k_A_places_ok (l : Launch) (D : va_G) (a w g yw f : Nat)  (hd : Nat) (cA : ClassId) (ct : Int32) (h : Nat → Int32) (f0 f1 f2 f3 : Nat) (j0 j1 j2 j3 : ClassId) (li : Nat → Int32) (us : Nat → Int32) (fe : Nat → Int32) (cf : Nat → Nat) (hcf : ∀ k, k < 32 → cf k < 32) (u v : Nat) (hu : u < 16) (hv : v < 16) (huv : ¬ u = v) (hb9 : bt (h u) v = false) (sz : Nat) : Met l y_A_places (Cond.code y_A_places c_A_places 3 (some .int) :: BS) { frames := 4, cells := 0, slots := 0, locals := 96 } (va_Pc [.ref a, .int (nI u), .int (nI v)] (xWp D [(a, .inr (0, [.ref w, .ref g, .ref yw, .ref f])), (w, .inr (1, [.ref hd, .int ct])), (hd, .inl (cA, 16, .inl h)), (f, .inr (4, [.ref f0, .ref f1, .ref f2, .ref f3])), (f0, .inl (j0, 32, .inl li)), (f1, .inl (j1, 32, .inl us)), (f2, .inl (j2, 32, .inl fe)), (f3, .inl (j3, 32, .inl (fun k => nI (cf k))))] [(cA, .int), (j0, .int), (j1, .int), (j2, .int), (j3, .int)] sz)) (xQi D [(a, .inr (0, [.ref w, .ref g, .ref yw, .ref f])), (w, .inr (1, [.ref hd, .int ct])), (hd, .inl (cA, 16, .inl h)), (f, .inr (4, [.ref f0, .ref f1, .ref f2, .ref f3])), (f0, .inl (j0, 32, .inl li)), (f1, .inl (j1, 32, .inl us)), (f2, .inl (j2, 32, .inl fe)), (f3, .inl (j3, 32, .inl (fun k => nI (cf k))))] [(a, .inr (0, [.ref w, .ref g, .ref yw, .ref f])), (w, .inr (1, [.ref hd, .int ct])), (hd, .inl (cA, 16, .inl h)), (f, .inr (4, [.ref f0, .ref f1, .ref f2, .ref f3])), (f0, .inl (j0, 32, .inl (plc h li 16))), (f1, .inl (j1, 32, .inl (moS (plc h li 16) (u + 16) v cf 16).1)), (f2, .inl (j2, 32, .inl (moS (plc h li 16) (u + 16) v cf 16).2.1)), (f3, .inl (j3, 32, .inl (fun k => nI ((moS (plc h li 16) (u + 16) v cf 16).2.2.1 k))))] [(cA, .int), (j0, .int), (j1, .int), (j2, .int), (j3, .int)] sz (nI (moS (plc h li 16) (u + 16) v cf 16).2.2.2.1)) 0 0 (va_A [(a, .inr (0, [.ref w, .ref g, .ref yw, .ref f])), (w, .inr (1, [.ref hd, .int ct])), (hd, .inl (cA, 16, .inl h)), (f, .inr (4, [.ref f0, .ref f1, .ref f2, .ref f3])), (f0, .inl (j0, 32, .inl li)), (f1, .inl (j1, 32, .inl us)), (f2, .inl (j2, 32, .inl fe)), (f3, .inl (j3, 32, .inl (fun k => nI (cf k))))] sz) := by
  refine Met.ofW (cc := c_A_places) (maxL := 3) (ret := (some .int)) (by decide) rfl ?_
  intro p e s m args below meth c s₁ B hml hv
  obtain ⟨rfl, hsz, hP, hK, hD0, hN⟩ := hv
  have hx := B.exec
  have hb := B.bytes
  have hr := B.returns
  have hB := xB B.pre
  have hown : s.vm.findClass R_A = some m.cls := findClass_of_methodNamed B.named
  have hlocks := B.notSynchronized
  subst hsz
  have hD := hD0.self (sz := s.heap.size)
  obtain ⟨A, hAe⟩ : ∃ A, A = va_A [(a, .inr (0, [.ref w, .ref g, .ref yw, .ref f])), (w, .inr (1, [.ref hd, .int ct])), (hd, .inl (cA, 16, .inl h)), (f, .inr (4, [.ref f0, .ref f1, .ref f2, .ref f3])), (f0, .inl (j0, 32, .inl li)), (f1, .inl (j1, 32, .inl us)), (f2, .inl (j2, 32, .inl fe)), (f3, .inl (j3, 32, .inl (fun k => nI (cf k))))] s.heap.size := ⟨_, rfl⟩
  rw [← hAe] at hD
  have hA : ∀ q : Nat, s.heap.size ≤ q → A q := fun q h => by rw [hAe]; exact Or.inr h
  have hS : va_S A s.heap s.heap [] := va_S.rf
  have hl := lv_entry ([.ref a, .int (nI u), .int (nI v)]) (n := 3) (Nat.le_of_ble_eq_true rfl)
  rw [lg_entry_eq]
  generalize (lg_sl ([.ref a, .int (nI u), .int (nI v)]) ++ List.replicate (3 - (lg_sl ([.ref a, .int (nI u), .int (nI v)])).length) Slot.unset).toArray = ls at hl ⊢
  have hl : lv_has ls 3 [(0, .ref a), (1, .int (nI u)), (2, .int (nI v))] := hl
  refine lv_iload_n hx hb d_A_places_0 rfl (lv_at hl 1 rfl) ?_
  refine lv_iload_n hx hb d_A_places_1 rfl (lv_at hl 2 rfl) ?_
  refine xr_v (va_runS (As := [.int (nI u), .int (nI v)]) (rest := []) ⟨hx, hb, hml, hown, hB⟩ (k_A_requirePlaces l (nI u) (nI v) (isP2 (by omega) (by omega))) ⟨callB_of 2 hB (xg0 mc_A_requirePlaces) rfl rfl rfl (hB _ mz_A) (hB _ ml_A_37) (by decide +kernel) ⟨Nat.le_of_ble_eq_true rfl, Nat.le_of_ble_eq_true rfl⟩, hB _ ms_A_requirePlaces⟩ xTT_pre rfl rfl hl.1 rfl (lv_room (Nat.le_of_ble_eq_true rfl)) d_A_places_2 ⟨Nat.le_of_ble_eq_true rfl, Nat.le_of_ble_eq_true rfl⟩) ?_
  refine lv_iload_n hx hb d_A_places_5 rfl (lv_at hl 1 rfl) ?_
  refine lv_iload_n hx hb d_A_places_6 rfl (lv_at hl 2 rfl) ?_
  refine lv_icmp_eq (tgt := 22) hx hb d_A_places_7 rfl (fun hc7 => ?_) (fun hc7 => ?_)
  · have hc7 : u = v := (nI_eq (by omega) (by omega)).mp hc7
    exact absurd hc7 huv
  · have hc7 : ¬ (u = v) := fun q9 => hc7 ((nI_eq (by omega) (by omega)).mpr q9)
    refine lv_aload_n hx hb d_A_places_10 rfl (lv_at hl 0 rfl) ?_
    refine va_get (D := D) (ci := 0) (v := .ref w) (C := R_A) (T := F_A) (N := 4) hx hb hB in_A hown hK hP 0 rfl rfl 0 (by decide) (hB _ mf_A_10) (fun _ h9 => h9) rfl d_A_places_11 ?_
    refine lv_iload_n hx hb d_A_places_14 rfl (lv_at hl 1 rfl) ?_
    refine lv_iload_n hx hb d_A_places_15 rfl (lv_at hl 2 rfl) ?_
    refine xr_cal (va_runV (As := [.int (nI u), .int (nI v)]) (rest := []) ⟨hx, hb, hml, hown, hB⟩ (k_Web_holds l D w hd cA ct h u v (by omega) (by omega)) ⟨callB_of 2 hB (xg0 mc_Web_holds) rfl rfl rfl (hB _ mz_Web) (hB _ ml_A_48) (by decide +kernel) ⟨Nat.le_of_ble_eq_true rfl, Nat.le_of_ble_eq_true rfl⟩, hB _ mi_Web_holds, hB _ me_Web_holds⟩ (xpV (ws := [(w, .inr (1, [.ref hd, .int ct])), (hd, .inl (cA, 16, .inl h))]) (tys := [(cA, .int)]) (hP.sub [1, 2] rfl) (hK.sub [0] rfl) hN (va_recv (ci := 1) (q0 := 1) (q := (R_Web, F_Web, 2)) hK hP rfl rfl)) rfl rfl hl.1 rfl (lv_room (Nat.le_of_ble_eq_true rfl)) d_A_places_16 ⟨Nat.le_of_ble_eq_true rfl, Nat.le_of_ble_eq_true rfl⟩) ?_
    refine lv_if_eq (tgt := 24) hx hb d_A_places_19 rfl (fun hc19 => ?_) (fun hc19 => ?_)
    · have hc19 := b2i_0.mp hc19
      refine lv_aload_n hx hb d_A_places_24 rfl (lv_at hl 0 rfl) ?_
      refine va_get (D := D) (ci := 0) (v := .ref f) (C := R_A) (T := F_A) (N := 4) hx hb hB in_A hown hK hP 0 rfl rfl 3 (by decide) (hB _ mf_A_33) (fun _ h9 => h9) rfl d_A_places_25 ?_
      refine lv_aload_n hx hb d_A_places_28 rfl (lv_at hl 0 rfl) ?_
      refine va_get (D := D) (ci := 0) (v := .ref w) (C := R_A) (T := F_A) (N := 4) hx hb hB in_A hown hK hP 0 rfl rfl 0 (by decide) (hB _ mf_A_10) (fun _ h9 => h9) rfl d_A_places_29 ?_
      refine xw_v (wc := [(f, .inr (4, [.ref f0, .ref f1, .ref f2, .ref f3])), (f0, .inl (j0, 32, .inl li)), (f1, .inl (j1, 32, .inl us)), (f2, .inl (j2, 32, .inl fe)), (f3, .inl (j3, 32, .inl (fun k => nI (cf k)))), (w, .inr (1, [.ref hd, .int ct])), (hd, .inl (cA, 16, .inl h))]) (wr := [(a, .inr (0, [.ref w, .ref g, .ref yw, .ref f]))]) (w1 := [(f, .inr (4, [.ref f0, .ref f1, .ref f2, .ref f3])), (f0, .inl (j0, 32, .inl (plc h li 16))), (f1, .inl (j1, 32, .inl us)), (f2, .inl (j2, 32, .inl fe)), (f3, .inl (j3, 32, .inl (fun k => nI (cf k)))), (w, .inr (1, [.ref hd, .int ct])), (hd, .inl (cA, 16, .inl h))]) (va_runV (As := [.ref w]) (rest := []) ⟨hx, hb, hml, hown, hB⟩ (k_Fl_readPlaces l D f f0 f1 f2 f3 j0 j1 j2 j3 li us fe (fun k => nI (cf k)) w hd cA ct h  _) ⟨callB_of 1 hB (xg0 mc_Fl_readPlaces) rfl rfl rfl (hB _ mz_Fl) (hB _ ml_A_133) (by decide +kernel) ⟨Nat.le_of_ble_eq_true rfl, Nat.le_of_ble_eq_true rfl⟩, hB _ mi_Fl_readPlaces, hB _ me_Fl_readPlaces⟩ (xqV (ws := [(f, .inr (4, [.ref f0, .ref f1, .ref f2, .ref f3])), (f0, .inl (j0, 32, .inl li)), (f1, .inl (j1, 32, .inl us)), (f2, .inl (j2, 32, .inl fe)), (f3, .inl (j3, 32, .inl (fun k => nI (cf k)))), (w, .inr (1, [.ref hd, .int ct])), (hd, .inl (cA, 16, .inl h))]) (tys := [(j0, .int), (j1, .int), (j2, .int), (j3, .int), (cA, .int)]) (hP.sub [3, 4, 5, 6, 7, 1, 2] rfl) (hD.sub [3, 4, 5, 6, 7, 1, 2] (by decide) rfl) (hK.sub [1, 2, 3, 4, 0] rfl) hN (va_recv (ci := 4) (q0 := 3) (q := (R_Fl, F_Fl, 4)) hK hP rfl rfl)) rfl rfl hl.1 rfl (lv_room (Nat.le_of_ble_eq_true rfl)) d_A_places_32 ⟨Nat.le_of_ble_eq_true rfl, Nat.le_of_ble_eq_true rfl⟩) hP hD hS hA [3, 4, 5, 6, 7, 1, 2] [0] rfl rfl (by decide) (by decide) (fun H locs hP hD hS => ?_)
      have hP : va_P D cls [(a, .inr (0, [.ref w, .ref g, .ref yw, .ref f])), (f, .inr (4, [.ref f0, .ref f1, .ref f2, .ref f3])), (f0, .inl (j0, 32, .inl (plc h li 16))), (f1, .inl (j1, 32, .inl us)), (f2, .inl (j2, 32, .inl fe)), (f3, .inl (j3, 32, .inl (fun k => nI (cf k)))), (w, .inr (1, [.ref hd, .int ct])), (hd, .inl (cA, 16, .inl h))] H := hP
      have hD : va_D A [(a, .inr (0, [.ref w, .ref g, .ref yw, .ref f])), (f, .inr (4, [.ref f0, .ref f1, .ref f2, .ref f3])), (f0, .inl (j0, 32, .inl (plc h li 16))), (f1, .inl (j1, 32, .inl us)), (f2, .inl (j2, 32, .inl fe)), (f3, .inl (j3, 32, .inl (fun k => nI (cf k)))), (w, .inr (1, [.ref hd, .int ct])), (hd, .inl (cA, 16, .inl h))] := hD
      refine lv_aload_n hx hb d_A_places_35 rfl (lv_at hl 0 rfl) ?_
      refine va_get (D := D) (ci := 0) (v := .ref f) (C := R_A) (T := F_A) (N := 4) hx hb hB in_A hown hK hP 0 rfl rfl 3 (by decide) (hB _ mf_A_33) (fun _ h9 => h9) rfl d_A_places_36 ?_
      refine lv_iload_n hx hb d_A_places_39 rfl (lv_at hl 1 rfl) ?_
      refine xr_cal (va_runS (As := [.int (nI u)]) (rest := [.ref f]) ⟨hx, hb, hml, hown, hB⟩ (k_Fl_exitOf l D u) ⟨callB_of 1 hB (xg0 mc_Fl_exitOf) rfl rfl rfl (hB _ mz_Fl) (hB _ ml_A_136) (by decide +kernel) ⟨Nat.le_of_ble_eq_true rfl, Nat.le_of_ble_eq_true rfl⟩, hB _ ms_Fl_exitOf⟩ (xpS (ws := []) (tys := []) (hP.sub [] rfl) (hK.sub [] rfl) hN) rfl rfl hl.1 rfl (lv_room (Nat.le_of_ble_eq_true rfl)) d_A_places_40 ⟨Nat.le_of_ble_eq_true rfl, Nat.le_of_ble_eq_true rfl⟩) ?_
      refine lv_iload_n hx hb d_A_places_43 rfl (lv_at hl 2 rfl) ?_
      refine xw_i (wc := [(f, .inr (4, [.ref f0, .ref f1, .ref f2, .ref f3])), (f0, .inl (j0, 32, .inl (plc h li 16))), (f1, .inl (j1, 32, .inl us)), (f2, .inl (j2, 32, .inl fe)), (f3, .inl (j3, 32, .inl (fun k => nI (cf k))))]) (wr := [(a, .inr (0, [.ref w, .ref g, .ref yw, .ref f])), (w, .inr (1, [.ref hd, .int ct])), (hd, .inl (cA, 16, .inl h))]) (w1 := [(f, .inr (4, [.ref f0, .ref f1, .ref f2, .ref f3])), (f0, .inl (j0, 32, .inl (plc h li 16))), (f1, .inl (j1, 32, .inl (moS (plc h li 16) (u + 16) v cf 16).1)), (f2, .inl (j2, 32, .inl (moS (plc h li 16) (u + 16) v cf 16).2.1)), (f3, .inl (j3, 32, .inl (fun k => nI ((moS (plc h li 16) (u + 16) v cf 16).2.2.1 k))))]) (va_runV (As := [.int (nI (u + 16)), .int (nI v)]) (rest := []) ⟨hx, hb, hml, hown, hB⟩ (k_Fl_most l D f f0 f1 f2 f3 j0 j1 j2 j3 (plc h li 16) us fe cf hcf (u + 16) v (by omega) (by omega) _) ⟨callB_of 2 hB (xg0 mc_Fl_most) rfl rfl rfl (hB _ mz_Fl) (hB _ ml_A_139) (by decide +kernel) ⟨Nat.le_of_ble_eq_true rfl, Nat.le_of_ble_eq_true rfl⟩, hB _ mi_Fl_most, hB _ me_Fl_most⟩ (xqV (ws := [(f, .inr (4, [.ref f0, .ref f1, .ref f2, .ref f3])), (f0, .inl (j0, 32, .inl (plc h li 16))), (f1, .inl (j1, 32, .inl us)), (f2, .inl (j2, 32, .inl fe)), (f3, .inl (j3, 32, .inl (fun k => nI (cf k))))]) (tys := [(j0, .int), (j1, .int), (j2, .int), (j3, .int)]) (hP.sub [1, 2, 3, 4, 5] rfl) (hD.sub [1, 2, 3, 4, 5] (by decide) rfl) (hK.sub [1, 2, 3, 4] rfl) hN (va_recv (ci := 4) (q0 := 1) (q := (R_Fl, F_Fl, 4)) hK hP rfl rfl)) rfl rfl hl.1 rfl (lv_room (Nat.le_of_ble_eq_true rfl)) d_A_places_44 ⟨Nat.le_of_ble_eq_true rfl, Nat.le_of_ble_eq_true rfl⟩) hP hD hS hA [1, 2, 3, 4, 5] [0, 6, 7] rfl rfl (by decide) (by decide) (fun H locs hP hD hS => ?_)
      have hP : va_P D cls [(a, .inr (0, [.ref w, .ref g, .ref yw, .ref f])), (w, .inr (1, [.ref hd, .int ct])), (hd, .inl (cA, 16, .inl h)), (f, .inr (4, [.ref f0, .ref f1, .ref f2, .ref f3])), (f0, .inl (j0, 32, .inl (plc h li 16))), (f1, .inl (j1, 32, .inl (moS (plc h li 16) (u + 16) v cf 16).1)), (f2, .inl (j2, 32, .inl (moS (plc h li 16) (u + 16) v cf 16).2.1)), (f3, .inl (j3, 32, .inl (fun k => nI ((moS (plc h li 16) (u + 16) v cf 16).2.2.1 k))))] H := hP
      have hD : va_D A [(a, .inr (0, [.ref w, .ref g, .ref yw, .ref f])), (w, .inr (1, [.ref hd, .int ct])), (hd, .inl (cA, 16, .inl h)), (f, .inr (4, [.ref f0, .ref f1, .ref f2, .ref f3])), (f0, .inl (j0, 32, .inl (plc h li 16))), (f1, .inl (j1, 32, .inl (moS (plc h li 16) (u + 16) v cf 16).1)), (f2, .inl (j2, 32, .inl (moS (plc h li 16) (u + 16) v cf 16).2.1)), (f3, .inl (j3, 32, .inl (fun k => nI ((moS (plc h li 16) (u + 16) v cf 16).2.2.1 k))))] := hD
      have hP9 := hP.sub (ws' := [(a, .inr (0, [.ref w, .ref g, .ref yw, .ref f])), (w, .inr (1, [.ref hd, .int ct])), (hd, .inl (cA, 16, .inl h)), (f, .inr (4, [.ref f0, .ref f1, .ref f2, .ref f3])), (f0, .inl (j0, 32, .inl (plc h li 16))), (f1, .inl (j1, 32, .inl (moS (plc h li 16) (u + 16) v cf 16).1)), (f2, .inl (j2, 32, .inl (moS (plc h li 16) (u + 16) v cf 16).2.1)), (f3, .inl (j3, 32, .inl (fun k => nI ((moS (plc h li 16) (u + 16) v cf 16).2.2.1 k))))]) [0, 1, 2, 3, 4, 5, 6, 7] rfl
      have hD9 := hD.sub (ws' := [(a, .inr (0, [.ref w, .ref g, .ref yw, .ref f])), (w, .inr (1, [.ref hd, .int ct])), (hd, .inl (cA, 16, .inl h)), (f, .inr (4, [.ref f0, .ref f1, .ref f2, .ref f3])), (f0, .inl (j0, 32, .inl (plc h li 16))), (f1, .inl (j1, 32, .inl (moS (plc h li 16) (u + 16) v cf 16).1)), (f2, .inl (j2, 32, .inl (moS (plc h li 16) (u + 16) v cf 16).2.1)), (f3, .inl (j3, 32, .inl (fun k => nI ((moS (plc h li 16) (u + 16) v cf 16).2.2.1 k))))]) [0, 1, 2, 3, 4, 5, 6, 7] (by decide) rfl
      subst hAe
      exact W.iret (v := nI (moS (plc h li 16) (u + 16) v cf 16).2.2.2.1) hx hb hr (fun t ht hW => ⟨⟨_, (), rfl, rfl, by rw [ht]; exact hP9, va_K.moved hW.alike hK, hD9⟩, hS.F ht⟩) hS.2.2 d_A_places_47
    · have hc19 := b2i_n.mp hc19
      exact absurd hc19 (by rw [hb9]; decide)
set_option maxHeartbeats 4000000 in
set_option maxRecDepth 100000 in
theorem k_A_arrows_none (l : Launch) (D : va_G) (a w g yw f : Nat)  (hd : Nat) (cA : ClassId) (ct : Int32) (h : Nat → Int32) (u v : Nat) (hu : u < 16) (hv : v < 16) (huv : u = v) (sz : Nat) : Met l y_A_arrows (Cond.code y_A_arrows c_A_arrows 3 (some .int) :: BS) { frames := 2, cells := 0, slots := 0, locals := 41 } (va_Pc [.ref a, .int (nI u), .int (nI v)] (xWp D [(a, .inr (0, [.ref w, .ref g, .ref yw, .ref f])), (w, .inr (1, [.ref hd, .int ct])), (hd, .inl (cA, 16, .inl h))] [(cA, .int)] sz)) (xQi D [(a, .inr (0, [.ref w, .ref g, .ref yw, .ref f])), (w, .inr (1, [.ref hd, .int ct])), (hd, .inl (cA, 16, .inl h))] [(a, .inr (0, [.ref w, .ref g, .ref yw, .ref f])), (w, .inr (1, [.ref hd, .int ct])), (hd, .inl (cA, 16, .inl h))] [(cA, .int)] sz (-1)) 0 0 (va_A [(a, .inr (0, [.ref w, .ref g, .ref yw, .ref f])), (w, .inr (1, [.ref hd, .int ct])), (hd, .inl (cA, 16, .inl h))] sz) := by
  refine Met.ofW (cc := c_A_arrows) (maxL := 3) (ret := (some .int)) (by decide) rfl ?_
  intro p e s m args below meth c s₁ B hml hv
  obtain ⟨rfl, hsz, hP, hK, hD0, hN⟩ := hv
  have hx := B.exec
  have hb := B.bytes
  have hr := B.returns
  have hB := xB B.pre
  have hown : s.vm.findClass R_A = some m.cls := findClass_of_methodNamed B.named
  have hlocks := B.notSynchronized
  subst hsz
  have hD := hD0.self (sz := s.heap.size)
  obtain ⟨A, hAe⟩ : ∃ A, A = va_A [(a, .inr (0, [.ref w, .ref g, .ref yw, .ref f])), (w, .inr (1, [.ref hd, .int ct])), (hd, .inl (cA, 16, .inl h))] s.heap.size := ⟨_, rfl⟩
  rw [← hAe] at hD
  have hA : ∀ q : Nat, s.heap.size ≤ q → A q := fun q h => by rw [hAe]; exact Or.inr h
  have hS : va_S A s.heap s.heap [] := va_S.rf
  have hl := lv_entry ([.ref a, .int (nI u), .int (nI v)]) (n := 3) (Nat.le_of_ble_eq_true rfl)
  rw [lg_entry_eq]
  generalize (lg_sl ([.ref a, .int (nI u), .int (nI v)]) ++ List.replicate (3 - (lg_sl ([.ref a, .int (nI u), .int (nI v)])).length) Slot.unset).toArray = ls at hl ⊢
  have hl : lv_has ls 3 [(0, .ref a), (1, .int (nI u)), (2, .int (nI v))] := hl
  refine lv_iload_n hx hb d_A_arrows_0 rfl (lv_at hl 1 rfl) ?_
  refine lv_iload_n hx hb d_A_arrows_1 rfl (lv_at hl 2 rfl) ?_
  refine xr_v (va_runS (As := [.int (nI u), .int (nI v)]) (rest := []) ⟨hx, hb, hml, hown, hB⟩ (k_A_requirePlaces l (nI u) (nI v) (isP2 (by omega) (by omega))) ⟨callB_of 2 hB (xg0 mc_A_requirePlaces) rfl rfl rfl (hB _ mz_A) (hB _ ml_A_37) (by decide +kernel) ⟨Nat.le_of_ble_eq_true rfl, Nat.le_of_ble_eq_true rfl⟩, hB _ ms_A_requirePlaces⟩ xTT_pre rfl rfl hl.1 rfl (lv_room (Nat.le_of_ble_eq_true rfl)) d_A_arrows_2 ⟨Nat.le_of_ble_eq_true rfl, Nat.le_of_ble_eq_true rfl⟩) ?_
  refine lv_iload_n hx hb d_A_arrows_5 rfl (lv_at hl 1 rfl) ?_
  refine lv_iload_n hx hb d_A_arrows_6 rfl (lv_at hl 2 rfl) ?_
  refine lv_icmp_ne (tgt := 12) hx hb d_A_arrows_7 rfl (fun hc7 => ?_) (fun hc7 => ?_)
  · have hc7 : ¬ (u = v) := fun q9 => hc7 ((nI_eq (by omega) (by omega)).mpr q9)
    exact absurd huv hc7
  · have hc7 : u = v := (nI_eq (by omega) (by omega)).mp hc7
    refine lv_iconst (v := -1) hx hb d_A_arrows_10 (by decide) ?_
    have hP9 := hP.sub (ws' := [(a, .inr (0, [.ref w, .ref g, .ref yw, .ref f])), (w, .inr (1, [.ref hd, .int ct])), (hd, .inl (cA, 16, .inl h))]) [0, 1, 2] rfl
    have hD9 := hD.sub (ws' := [(a, .inr (0, [.ref w, .ref g, .ref yw, .ref f])), (w, .inr (1, [.ref hd, .int ct])), (hd, .inl (cA, 16, .inl h))]) [0, 1, 2] (by decide) rfl
    subst hAe
    exact W.iret (v := -1) hx hb hr (fun t ht hW => ⟨⟨_, (), rfl, rfl, by rw [ht]; exact hP9, va_K.moved hW.alike hK, hD9⟩, hS.F ht⟩) hS.2.2 d_A_arrows_11
set_option maxHeartbeats 4000000 in
set_option maxRecDepth 100000 in
theorem k_A_arrows_ok (l : Launch) (D : va_G) (a w g yw f : Nat)  (hd : Nat) (cA : ClassId) (ct : Int32) (h : Nat → Int32) (f0 f1 f2 f3 : Nat) (j0 j1 j2 j3 : ClassId) (li : Nat → Int32) (us : Nat → Int32) (fe : Nat → Int32) (cf : Nat → Nat) (hcf : ∀ k, k < 32 → cf k < 32) (u v : Nat) (hu : u < 16) (hv : v < 16) (huv : ¬ u = v) (sz : Nat) : Met l y_A_arrows (Cond.code y_A_arrows c_A_arrows 3 (some .int) :: BS) { frames := 4, cells := 0, slots := 0, locals := 96 } (va_Pc [.ref a, .int (nI u), .int (nI v)] (xWp D [(a, .inr (0, [.ref w, .ref g, .ref yw, .ref f])), (w, .inr (1, [.ref hd, .int ct])), (hd, .inl (cA, 16, .inl h)), (f, .inr (4, [.ref f0, .ref f1, .ref f2, .ref f3])), (f0, .inl (j0, 32, .inl li)), (f1, .inl (j1, 32, .inl us)), (f2, .inl (j2, 32, .inl fe)), (f3, .inl (j3, 32, .inl (fun k => nI (cf k))))] [(cA, .int), (j0, .int), (j1, .int), (j2, .int), (j3, .int)] sz)) (xQi D [(a, .inr (0, [.ref w, .ref g, .ref yw, .ref f])), (w, .inr (1, [.ref hd, .int ct])), (hd, .inl (cA, 16, .inl h)), (f, .inr (4, [.ref f0, .ref f1, .ref f2, .ref f3])), (f0, .inl (j0, 32, .inl li)), (f1, .inl (j1, 32, .inl us)), (f2, .inl (j2, 32, .inl fe)), (f3, .inl (j3, 32, .inl (fun k => nI (cf k))))] [(a, .inr (0, [.ref w, .ref g, .ref yw, .ref f])), (w, .inr (1, [.ref hd, .int ct])), (hd, .inl (cA, 16, .inl h)), (f, .inr (4, [.ref f0, .ref f1, .ref f2, .ref f3])), (f0, .inl (j0, 32, .inl (fun k => if k < 16 then h k else li k))), (f1, .inl (j1, 32, .inl (moS (fun k => if k < 16 then h k else li k) u v cf 16).1)), (f2, .inl (j2, 32, .inl (moS (fun k => if k < 16 then h k else li k) u v cf 16).2.1)), (f3, .inl (j3, 32, .inl (fun k => nI ((moS (fun k => if k < 16 then h k else li k) u v cf 16).2.2.1 k))))] [(cA, .int), (j0, .int), (j1, .int), (j2, .int), (j3, .int)] sz (nI (moS (fun k => if k < 16 then h k else li k) u v cf 16).2.2.2.1)) 0 0 (va_A [(a, .inr (0, [.ref w, .ref g, .ref yw, .ref f])), (w, .inr (1, [.ref hd, .int ct])), (hd, .inl (cA, 16, .inl h)), (f, .inr (4, [.ref f0, .ref f1, .ref f2, .ref f3])), (f0, .inl (j0, 32, .inl li)), (f1, .inl (j1, 32, .inl us)), (f2, .inl (j2, 32, .inl fe)), (f3, .inl (j3, 32, .inl (fun k => nI (cf k))))] sz) := by
  refine Met.ofW (cc := c_A_arrows) (maxL := 3) (ret := (some .int)) (by decide) rfl ?_
  intro p e s m args below meth c s₁ B hml hv
  obtain ⟨rfl, hsz, hP, hK, hD0, hN⟩ := hv
  have hx := B.exec
  have hb := B.bytes
  have hr := B.returns
  have hB := xB B.pre
  have hown : s.vm.findClass R_A = some m.cls := findClass_of_methodNamed B.named
  have hlocks := B.notSynchronized
  subst hsz
  have hD := hD0.self (sz := s.heap.size)
  obtain ⟨A, hAe⟩ : ∃ A, A = va_A [(a, .inr (0, [.ref w, .ref g, .ref yw, .ref f])), (w, .inr (1, [.ref hd, .int ct])), (hd, .inl (cA, 16, .inl h)), (f, .inr (4, [.ref f0, .ref f1, .ref f2, .ref f3])), (f0, .inl (j0, 32, .inl li)), (f1, .inl (j1, 32, .inl us)), (f2, .inl (j2, 32, .inl fe)), (f3, .inl (j3, 32, .inl (fun k => nI (cf k))))] s.heap.size := ⟨_, rfl⟩
  rw [← hAe] at hD
  have hA : ∀ q : Nat, s.heap.size ≤ q → A q := fun q h => by rw [hAe]; exact Or.inr h
  have hS : va_S A s.heap s.heap [] := va_S.rf
  have hl := lv_entry ([.ref a, .int (nI u), .int (nI v)]) (n := 3) (Nat.le_of_ble_eq_true rfl)
  rw [lg_entry_eq]
  generalize (lg_sl ([.ref a, .int (nI u), .int (nI v)]) ++ List.replicate (3 - (lg_sl ([.ref a, .int (nI u), .int (nI v)])).length) Slot.unset).toArray = ls at hl ⊢
  have hl : lv_has ls 3 [(0, .ref a), (1, .int (nI u)), (2, .int (nI v))] := hl
  refine lv_iload_n hx hb d_A_arrows_0 rfl (lv_at hl 1 rfl) ?_
  refine lv_iload_n hx hb d_A_arrows_1 rfl (lv_at hl 2 rfl) ?_
  refine xr_v (va_runS (As := [.int (nI u), .int (nI v)]) (rest := []) ⟨hx, hb, hml, hown, hB⟩ (k_A_requirePlaces l (nI u) (nI v) (isP2 (by omega) (by omega))) ⟨callB_of 2 hB (xg0 mc_A_requirePlaces) rfl rfl rfl (hB _ mz_A) (hB _ ml_A_37) (by decide +kernel) ⟨Nat.le_of_ble_eq_true rfl, Nat.le_of_ble_eq_true rfl⟩, hB _ ms_A_requirePlaces⟩ xTT_pre rfl rfl hl.1 rfl (lv_room (Nat.le_of_ble_eq_true rfl)) d_A_arrows_2 ⟨Nat.le_of_ble_eq_true rfl, Nat.le_of_ble_eq_true rfl⟩) ?_
  refine lv_iload_n hx hb d_A_arrows_5 rfl (lv_at hl 1 rfl) ?_
  refine lv_iload_n hx hb d_A_arrows_6 rfl (lv_at hl 2 rfl) ?_
  refine lv_icmp_ne (tgt := 12) hx hb d_A_arrows_7 rfl (fun hc7 => ?_) (fun hc7 => ?_)
  · have hc7 : ¬ (u = v) := fun q9 => hc7 ((nI_eq (by omega) (by omega)).mpr q9)
    refine lv_aload_n hx hb d_A_arrows_12 rfl (lv_at hl 0 rfl) ?_
    refine va_get (D := D) (ci := 0) (v := .ref f) (C := R_A) (T := F_A) (N := 4) hx hb hB in_A hown hK hP 0 rfl rfl 3 (by decide) (hB _ mf_A_33) (fun _ h9 => h9) rfl d_A_arrows_13 ?_
    refine lv_aload_n hx hb d_A_arrows_16 rfl (lv_at hl 0 rfl) ?_
    refine va_get (D := D) (ci := 0) (v := .ref w) (C := R_A) (T := F_A) (N := 4) hx hb hB in_A hown hK hP 0 rfl rfl 0 (by decide) (hB _ mf_A_10) (fun _ h9 => h9) rfl d_A_arrows_17 ?_
    refine xw_v (wc := [(f, .inr (4, [.ref f0, .ref f1, .ref f2, .ref f3])), (f0, .inl (j0, 32, .inl li)), (f1, .inl (j1, 32, .inl us)), (f2, .inl (j2, 32, .inl fe)), (f3, .inl (j3, 32, .inl (fun k => nI (cf k)))), (w, .inr (1, [.ref hd, .int ct])), (hd, .inl (cA, 16, .inl h))]) (wr := [(a, .inr (0, [.ref w, .ref g, .ref yw, .ref f]))]) (w1 := [(f, .inr (4, [.ref f0, .ref f1, .ref f2, .ref f3])), (f0, .inl (j0, 32, .inl (fun k => if k < 16 then h k else li k))), (f1, .inl (j1, 32, .inl us)), (f2, .inl (j2, 32, .inl fe)), (f3, .inl (j3, 32, .inl (fun k => nI (cf k)))), (w, .inr (1, [.ref hd, .int ct])), (hd, .inl (cA, 16, .inl h))]) (va_runV (As := [.ref w]) (rest := []) ⟨hx, hb, hml, hown, hB⟩ (k_Fl_readArrows l D f f0 f1 f2 f3 j0 j1 j2 j3 li us fe (fun k => nI (cf k)) w hd cA ct h  _) ⟨callB_of 1 hB (xg0 mc_Fl_readArrows) rfl rfl rfl (hB _ mz_Fl) (hB _ ml_A_142) (by decide +kernel) ⟨Nat.le_of_ble_eq_true rfl, Nat.le_of_ble_eq_true rfl⟩, hB _ mi_Fl_readArrows, hB _ me_Fl_readArrows⟩ (xqV (ws := [(f, .inr (4, [.ref f0, .ref f1, .ref f2, .ref f3])), (f0, .inl (j0, 32, .inl li)), (f1, .inl (j1, 32, .inl us)), (f2, .inl (j2, 32, .inl fe)), (f3, .inl (j3, 32, .inl (fun k => nI (cf k)))), (w, .inr (1, [.ref hd, .int ct])), (hd, .inl (cA, 16, .inl h))]) (tys := [(j0, .int), (j1, .int), (j2, .int), (j3, .int), (cA, .int)]) (hP.sub [3, 4, 5, 6, 7, 1, 2] rfl) (hD.sub [3, 4, 5, 6, 7, 1, 2] (by decide) rfl) (hK.sub [1, 2, 3, 4, 0] rfl) hN (va_recv (ci := 4) (q0 := 3) (q := (R_Fl, F_Fl, 4)) hK hP rfl rfl)) rfl rfl hl.1 rfl (lv_room (Nat.le_of_ble_eq_true rfl)) d_A_arrows_20 ⟨Nat.le_of_ble_eq_true rfl, Nat.le_of_ble_eq_true rfl⟩) hP hD hS hA [3, 4, 5, 6, 7, 1, 2] [0] rfl rfl (by decide) (by decide) (fun H locs hP hD hS => ?_)
    have hP : va_P D cls [(a, .inr (0, [.ref w, .ref g, .ref yw, .ref f])), (f, .inr (4, [.ref f0, .ref f1, .ref f2, .ref f3])), (f0, .inl (j0, 32, .inl (fun k => if k < 16 then h k else li k))), (f1, .inl (j1, 32, .inl us)), (f2, .inl (j2, 32, .inl fe)), (f3, .inl (j3, 32, .inl (fun k => nI (cf k)))), (w, .inr (1, [.ref hd, .int ct])), (hd, .inl (cA, 16, .inl h))] H := hP
    have hD : va_D A [(a, .inr (0, [.ref w, .ref g, .ref yw, .ref f])), (f, .inr (4, [.ref f0, .ref f1, .ref f2, .ref f3])), (f0, .inl (j0, 32, .inl (fun k => if k < 16 then h k else li k))), (f1, .inl (j1, 32, .inl us)), (f2, .inl (j2, 32, .inl fe)), (f3, .inl (j3, 32, .inl (fun k => nI (cf k)))), (w, .inr (1, [.ref hd, .int ct])), (hd, .inl (cA, 16, .inl h))] := hD
    refine lv_aload_n hx hb d_A_arrows_23 rfl (lv_at hl 0 rfl) ?_
    refine va_get (D := D) (ci := 0) (v := .ref f) (C := R_A) (T := F_A) (N := 4) hx hb hB in_A hown hK hP 0 rfl rfl 3 (by decide) (hB _ mf_A_33) (fun _ h9 => h9) rfl d_A_arrows_24 ?_
    refine lv_iload_n hx hb d_A_arrows_27 rfl (lv_at hl 1 rfl) ?_
    refine lv_iload_n hx hb d_A_arrows_28 rfl (lv_at hl 2 rfl) ?_
    refine xw_i (wc := [(f, .inr (4, [.ref f0, .ref f1, .ref f2, .ref f3])), (f0, .inl (j0, 32, .inl (fun k => if k < 16 then h k else li k))), (f1, .inl (j1, 32, .inl us)), (f2, .inl (j2, 32, .inl fe)), (f3, .inl (j3, 32, .inl (fun k => nI (cf k))))]) (wr := [(a, .inr (0, [.ref w, .ref g, .ref yw, .ref f])), (w, .inr (1, [.ref hd, .int ct])), (hd, .inl (cA, 16, .inl h))]) (w1 := [(f, .inr (4, [.ref f0, .ref f1, .ref f2, .ref f3])), (f0, .inl (j0, 32, .inl (fun k => if k < 16 then h k else li k))), (f1, .inl (j1, 32, .inl (moS (fun k => if k < 16 then h k else li k) u v cf 16).1)), (f2, .inl (j2, 32, .inl (moS (fun k => if k < 16 then h k else li k) u v cf 16).2.1)), (f3, .inl (j3, 32, .inl (fun k => nI ((moS (fun k => if k < 16 then h k else li k) u v cf 16).2.2.1 k))))]) (va_runV (As := [.int (nI u), .int (nI v)]) (rest := []) ⟨hx, hb, hml, hown, hB⟩ (k_Fl_most l D f f0 f1 f2 f3 j0 j1 j2 j3 (fun k => if k < 16 then h k else li k) us fe cf hcf u v (by omega) (by omega) _) ⟨callB_of 2 hB (xg0 mc_Fl_most) rfl rfl rfl (hB _ mz_Fl) (hB _ ml_A_139) (by decide +kernel) ⟨Nat.le_of_ble_eq_true rfl, Nat.le_of_ble_eq_true rfl⟩, hB _ mi_Fl_most, hB _ me_Fl_most⟩ (xqV (ws := [(f, .inr (4, [.ref f0, .ref f1, .ref f2, .ref f3])), (f0, .inl (j0, 32, .inl (fun k => if k < 16 then h k else li k))), (f1, .inl (j1, 32, .inl us)), (f2, .inl (j2, 32, .inl fe)), (f3, .inl (j3, 32, .inl (fun k => nI (cf k))))]) (tys := [(j0, .int), (j1, .int), (j2, .int), (j3, .int)]) (hP.sub [1, 2, 3, 4, 5] rfl) (hD.sub [1, 2, 3, 4, 5] (by decide) rfl) (hK.sub [1, 2, 3, 4] rfl) hN (va_recv (ci := 4) (q0 := 1) (q := (R_Fl, F_Fl, 4)) hK hP rfl rfl)) rfl rfl hl.1 rfl (lv_room (Nat.le_of_ble_eq_true rfl)) d_A_arrows_29 ⟨Nat.le_of_ble_eq_true rfl, Nat.le_of_ble_eq_true rfl⟩) hP hD hS hA [1, 2, 3, 4, 5] [0, 6, 7] rfl rfl (by decide) (by decide) (fun H locs hP hD hS => ?_)
    have hP : va_P D cls [(a, .inr (0, [.ref w, .ref g, .ref yw, .ref f])), (w, .inr (1, [.ref hd, .int ct])), (hd, .inl (cA, 16, .inl h)), (f, .inr (4, [.ref f0, .ref f1, .ref f2, .ref f3])), (f0, .inl (j0, 32, .inl (fun k => if k < 16 then h k else li k))), (f1, .inl (j1, 32, .inl (moS (fun k => if k < 16 then h k else li k) u v cf 16).1)), (f2, .inl (j2, 32, .inl (moS (fun k => if k < 16 then h k else li k) u v cf 16).2.1)), (f3, .inl (j3, 32, .inl (fun k => nI ((moS (fun k => if k < 16 then h k else li k) u v cf 16).2.2.1 k))))] H := hP
    have hD : va_D A [(a, .inr (0, [.ref w, .ref g, .ref yw, .ref f])), (w, .inr (1, [.ref hd, .int ct])), (hd, .inl (cA, 16, .inl h)), (f, .inr (4, [.ref f0, .ref f1, .ref f2, .ref f3])), (f0, .inl (j0, 32, .inl (fun k => if k < 16 then h k else li k))), (f1, .inl (j1, 32, .inl (moS (fun k => if k < 16 then h k else li k) u v cf 16).1)), (f2, .inl (j2, 32, .inl (moS (fun k => if k < 16 then h k else li k) u v cf 16).2.1)), (f3, .inl (j3, 32, .inl (fun k => nI ((moS (fun k => if k < 16 then h k else li k) u v cf 16).2.2.1 k))))] := hD
    have hP9 := hP.sub (ws' := [(a, .inr (0, [.ref w, .ref g, .ref yw, .ref f])), (w, .inr (1, [.ref hd, .int ct])), (hd, .inl (cA, 16, .inl h)), (f, .inr (4, [.ref f0, .ref f1, .ref f2, .ref f3])), (f0, .inl (j0, 32, .inl (fun k => if k < 16 then h k else li k))), (f1, .inl (j1, 32, .inl (moS (fun k => if k < 16 then h k else li k) u v cf 16).1)), (f2, .inl (j2, 32, .inl (moS (fun k => if k < 16 then h k else li k) u v cf 16).2.1)), (f3, .inl (j3, 32, .inl (fun k => nI ((moS (fun k => if k < 16 then h k else li k) u v cf 16).2.2.1 k))))]) [0, 1, 2, 3, 4, 5, 6, 7] rfl
    have hD9 := hD.sub (ws' := [(a, .inr (0, [.ref w, .ref g, .ref yw, .ref f])), (w, .inr (1, [.ref hd, .int ct])), (hd, .inl (cA, 16, .inl h)), (f, .inr (4, [.ref f0, .ref f1, .ref f2, .ref f3])), (f0, .inl (j0, 32, .inl (fun k => if k < 16 then h k else li k))), (f1, .inl (j1, 32, .inl (moS (fun k => if k < 16 then h k else li k) u v cf 16).1)), (f2, .inl (j2, 32, .inl (moS (fun k => if k < 16 then h k else li k) u v cf 16).2.1)), (f3, .inl (j3, 32, .inl (fun k => nI ((moS (fun k => if k < 16 then h k else li k) u v cf 16).2.2.1 k))))]) [0, 1, 2, 3, 4, 5, 6, 7] (by decide) rfl
    subst hAe
    exact W.iret (v := nI (moS (fun k => if k < 16 then h k else li k) u v cf 16).2.2.2.1) hx hb hr (fun t ht hW => ⟨⟨_, (), rfl, rfl, by rw [ht]; exact hP9, va_K.moved hW.alike hK, hD9⟩, hS.F ht⟩) hS.2.2 d_A_arrows_32
  · have hc7 : u = v := (nI_eq (by omega) (by omega)).mp hc7
    exact absurd hc7 huv
set_option maxHeartbeats 4000000 in
set_option maxRecDepth 100000 in
theorem k_A_figure_0 (l : Launch) (D : va_G) (a w g yw f : Nat)  (hd : Nat) (cA : ClassId) (ct : Int32) (h : Nat → Int32)  (sz : Nat) : Met l y_A_figure (Cond.code y_A_figure c_A_figure 2 (some .int) :: BS) { frames := 1, cells := 0, slots := 0, locals := 20 } (va_Pc [.ref a, .int (nI 0)] (xWp D [(a, .inr (0, [.ref w, .ref g, .ref yw, .ref f])), (w, .inr (1, [.ref hd, .int ct])), (hd, .inl (cA, 16, .inl h))] [(cA, .int)] sz)) (xQi D [(a, .inr (0, [.ref w, .ref g, .ref yw, .ref f])), (w, .inr (1, [.ref hd, .int ct])), (hd, .inl (cA, 16, .inl h))] [(a, .inr (0, [.ref w, .ref g, .ref yw, .ref f])), (w, .inr (1, [.ref hd, .int ct])), (hd, .inl (cA, 16, .inl h))] [(cA, .int)] sz (ct)) 0 0 (va_A [(a, .inr (0, [.ref w, .ref g, .ref yw, .ref f])), (w, .inr (1, [.ref hd, .int ct])), (hd, .inl (cA, 16, .inl h))] sz) := by
  refine Met.ofW (cc := c_A_figure) (maxL := 2) (ret := (some .int)) (by decide) rfl ?_
  intro p e s m args below meth c s₁ B hml hv
  obtain ⟨rfl, hsz, hP, hK, hD0, hN⟩ := hv
  have hx := B.exec
  have hb := B.bytes
  have hr := B.returns
  have hB := xB B.pre
  have hown : s.vm.findClass R_A = some m.cls := findClass_of_methodNamed B.named
  have hlocks := B.notSynchronized
  subst hsz
  have hD := hD0.self (sz := s.heap.size)
  obtain ⟨A, hAe⟩ : ∃ A, A = va_A [(a, .inr (0, [.ref w, .ref g, .ref yw, .ref f])), (w, .inr (1, [.ref hd, .int ct])), (hd, .inl (cA, 16, .inl h))] s.heap.size := ⟨_, rfl⟩
  rw [← hAe] at hD
  have hA : ∀ q : Nat, s.heap.size ≤ q → A q := fun q h => by rw [hAe]; exact Or.inr h
  have hS : va_S A s.heap s.heap [] := va_S.rf
  have hl := lv_entry ([.ref a, .int (nI 0)]) (n := 2) (Nat.le_of_ble_eq_true rfl)
  rw [lg_entry_eq]
  generalize (lg_sl ([.ref a, .int (nI 0)]) ++ List.replicate (2 - (lg_sl ([.ref a, .int (nI 0)])).length) Slot.unset).toArray = ls at hl ⊢
  have hl : lv_has ls 2 [(0, .ref a), (1, .int (nI 0))] := hl
  refine lv_iload_n hx hb d_A_figure_0 rfl (lv_at hl 1 rfl) ?_
  refine lv_if_lt (tgt := 9) hx hb d_A_figure_1 rfl (fun hc1 => absurd hc1 (by decide)) (fun _ => ?_)
  refine lv_iload_n hx hb d_A_figure_4 rfl (lv_at hl 1 rfl) ?_
  refine lv_iconst (v := nI 5) hx hb d_A_figure_5 (by decide) ?_
  refine lv_icmp_le (tgt := 19) hx hb d_A_figure_6 rfl (fun _ => ?_) (fun hc6 => absurd hc6 (by decide))
  refine lv_iload_n hx hb d_A_figure_19 rfl (lv_at hl 1 rfl) ?_
  refine lv_if_ne (tgt := 31) hx hb d_A_figure_20 rfl (fun hc20 => absurd hc20 (by decide)) (fun _ => ?_)
  refine lv_aload_n hx hb d_A_figure_23 rfl (lv_at hl 0 rfl) ?_
  refine va_get (D := D) (ci := 0) (v := .ref w) (C := R_A) (T := F_A) (N := 4) hx hb hB in_A hown hK hP 0 rfl rfl 0 (by decide) (hB _ mf_A_10) (fun _ h9 => h9) rfl d_A_figure_24 ?_
  refine xr_cal (va_runV (As := []) (rest := []) ⟨hx, hb, hml, hown, hB⟩ (k_Web_count l D w hd cA ct h ) ⟨callB_of 0 hB (xg0 mc_Web_count) rfl rfl rfl (hB _ mz_Web) (hB _ ml_A_52) (by decide +kernel) ⟨Nat.le_of_ble_eq_true rfl, Nat.le_of_ble_eq_true rfl⟩, hB _ mi_Web_count, hB _ me_Web_count⟩ (xpV (ws := [(w, .inr (1, [.ref hd, .int ct])), (hd, .inl (cA, 16, .inl h))]) (tys := [(cA, .int)]) (hP.sub [1, 2] rfl) (hK.sub [0] rfl) hN (va_recv (ci := 1) (q0 := 1) (q := (R_Web, F_Web, 2)) hK hP rfl rfl)) rfl rfl hl.1 rfl (lv_room (Nat.le_of_ble_eq_true rfl)) d_A_figure_27 ⟨Nat.le_of_ble_eq_true rfl, Nat.le_of_ble_eq_true rfl⟩) ?_
  have hP9 := hP.sub (ws' := [(a, .inr (0, [.ref w, .ref g, .ref yw, .ref f])), (w, .inr (1, [.ref hd, .int ct])), (hd, .inl (cA, 16, .inl h))]) [0, 1, 2] rfl
  have hD9 := hD.sub (ws' := [(a, .inr (0, [.ref w, .ref g, .ref yw, .ref f])), (w, .inr (1, [.ref hd, .int ct])), (hd, .inl (cA, 16, .inl h))]) [0, 1, 2] (by decide) rfl
  subst hAe
  exact W.iret (v := ct) hx hb hr (fun t ht hW => ⟨⟨_, (), rfl, rfl, by rw [ht]; exact hP9, va_K.moved hW.alike hK, hD9⟩, hS.F ht⟩) hS.2.2 d_A_figure_30
set_option maxHeartbeats 4000000 in
set_option maxRecDepth 100000 in
theorem k_A_figure_5 (l : Launch) (D : va_G) (a w g yw f : Nat)  (hd : Nat) (cA : ClassId) (ct : Int32) (h : Nat → Int32) (hg : gd h) (sz : Nat) : Met l y_A_figure (Cond.code y_A_figure c_A_figure 2 (some .int) :: BS) { frames := 5, cells := 0, slots := 0, locals := 114 } (va_Pc [.ref a, .int (nI 5)] (xWp D [(a, .inr (0, [.ref w, .ref g, .ref yw, .ref f])), (w, .inr (1, [.ref hd, .int ct])), (hd, .inl (cA, 16, .inl h))] [(cA, .int)] sz)) (xQi D [(a, .inr (0, [.ref w, .ref g, .ref yw, .ref f])), (w, .inr (1, [.ref hd, .int ct])), (hd, .inl (cA, 16, .inl h))] [(a, .inr (0, [.ref w, .ref g, .ref yw, .ref f])), (w, .inr (1, [.ref hd, .int ct])), (hd, .inl (cA, 16, .inl h))] [(cA, .int)] sz (nI (sq (fun a9 => cq ((fun u v => bt (h u) v && !(bt (SP h (h u &&& (bit v ^^^ (-1))) (bit u)) v)) a9) 16) 16))) 0 0 (va_A [(a, .inr (0, [.ref w, .ref g, .ref yw, .ref f])), (w, .inr (1, [.ref hd, .int ct])), (hd, .inl (cA, 16, .inl h))] sz) := by
  refine Met.ofW (cc := c_A_figure) (maxL := 2) (ret := (some .int)) (by decide) rfl ?_
  intro p e s m args below meth c s₁ B hml hv
  obtain ⟨rfl, hsz, hP, hK, hD0, hN⟩ := hv
  have hx := B.exec
  have hb := B.bytes
  have hr := B.returns
  have hB := xB B.pre
  have hown : s.vm.findClass R_A = some m.cls := findClass_of_methodNamed B.named
  have hlocks := B.notSynchronized
  subst hsz
  have hD := hD0.self (sz := s.heap.size)
  obtain ⟨A, hAe⟩ : ∃ A, A = va_A [(a, .inr (0, [.ref w, .ref g, .ref yw, .ref f])), (w, .inr (1, [.ref hd, .int ct])), (hd, .inl (cA, 16, .inl h))] s.heap.size := ⟨_, rfl⟩
  rw [← hAe] at hD
  have hA : ∀ q : Nat, s.heap.size ≤ q → A q := fun q h => by rw [hAe]; exact Or.inr h
  have hS : va_S A s.heap s.heap [] := va_S.rf
  have hl := lv_entry ([.ref a, .int (nI 5)]) (n := 2) (Nat.le_of_ble_eq_true rfl)
  rw [lg_entry_eq]
  generalize (lg_sl ([.ref a, .int (nI 5)]) ++ List.replicate (2 - (lg_sl ([.ref a, .int (nI 5)])).length) Slot.unset).toArray = ls at hl ⊢
  have hl : lv_has ls 2 [(0, .ref a), (1, .int (nI 5))] := hl
  refine lv_iload_n hx hb d_A_figure_0 rfl (lv_at hl 1 rfl) ?_
  refine lv_if_lt (tgt := 9) hx hb d_A_figure_1 rfl (fun hc1 => absurd hc1 (by decide)) (fun _ => ?_)
  refine lv_iload_n hx hb d_A_figure_4 rfl (lv_at hl 1 rfl) ?_
  refine lv_iconst (v := nI 5) hx hb d_A_figure_5 (by decide) ?_
  refine lv_icmp_le (tgt := 19) hx hb d_A_figure_6 rfl (fun _ => ?_) (fun hc6 => absurd hc6 (by decide))
  refine lv_iload_n hx hb d_A_figure_19 rfl (lv_at hl 1 rfl) ?_
  refine lv_if_ne (tgt := 31) hx hb d_A_figure_20 rfl (fun _ => ?_) (fun hc20 => absurd hc20 (by decide))
  refine lv_iload_n hx hb d_A_figure_31 rfl (lv_at hl 1 rfl) ?_
  refine lv_iconst (v := nI 5) hx hb d_A_figure_32 (by decide) ?_
  refine lv_icmp_ne (tgt := 41) hx hb d_A_figure_33 rfl (fun hc33 => absurd hc33 (by decide)) (fun _ => ?_)
  refine lv_aload_n hx hb d_A_figure_36 rfl (lv_at hl 0 rfl) ?_
  refine xr_cal (va_runV (As := []) (rest := []) ⟨hx, hb, hml, hown, hB⟩ (k_A_neededArrows l D a w g yw f hd cA ct h hg) ⟨callB_of 0 hB (xg0 mc_A_neededArrows) rfl rfl rfl (hB _ mz_A) (hB _ ml_A_147) (by decide +kernel) ⟨Nat.le_of_ble_eq_true rfl, Nat.le_of_ble_eq_true rfl⟩, hB _ mi_A_neededArrows, hB _ me_A_neededArrows⟩ (xpV (ws := [(a, .inr (0, [.ref w, .ref g, .ref yw, .ref f])), (w, .inr (1, [.ref hd, .int ct])), (hd, .inl (cA, 16, .inl h))]) (tys := [(cA, .int)]) (hP.sub [0, 1, 2] rfl) (hK.sub [0] rfl) hN (va_recv (ci := 0) (q0 := 0) (q := (R_A, F_A, 4)) hK hP rfl rfl)) rfl rfl hl.1 rfl (lv_room (Nat.le_of_ble_eq_true rfl)) d_A_figure_37 ⟨Nat.le_of_ble_eq_true rfl, Nat.le_of_ble_eq_true rfl⟩) ?_
  have hP9 := hP.sub (ws' := [(a, .inr (0, [.ref w, .ref g, .ref yw, .ref f])), (w, .inr (1, [.ref hd, .int ct])), (hd, .inl (cA, 16, .inl h))]) [0, 1, 2] rfl
  have hD9 := hD.sub (ws' := [(a, .inr (0, [.ref w, .ref g, .ref yw, .ref f])), (w, .inr (1, [.ref hd, .int ct])), (hd, .inl (cA, 16, .inl h))]) [0, 1, 2] (by decide) rfl
  subst hAe
  exact W.iret (v := nI (sq (fun a9 => cq ((fun u v => bt (h u) v && !(bt (SP h (h u &&& (bit v ^^^ (-1))) (bit u)) v)) a9) 16) 16)) hx hb hr (fun t ht hW => ⟨⟨_, (), rfl, rfl, by rw [ht]; exact hP9, va_K.moved hW.alike hK, hD9⟩, hS.F ht⟩) hS.2.2 d_A_figure_40
