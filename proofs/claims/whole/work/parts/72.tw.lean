set_option maxHeartbeats 4000000 in
set_option maxRecDepth 100000 in
theorem t_A_add_same (l : Launch) (hlt : l.stackTraces = false) (D : va_G) (a u v : Nat) (hu : u < 16) (hv : v < 16) (huv : u = v) (sz : Nat) : vx_Met l y_A_add (Cond.code y_A_add c_A_add 3 (some .boolean) :: BS) { frames := 6, cells := 1, slots := 6, locals := 82 } (va_Pc [.ref a, .int (nI u), .int (nI v)] (xWt D [] [] sz)) (fun _ _ _ _ => False) (xXw eIA D [] (va_A [] sz)) 1 6 (va_A [] sz) := by
  refine vx_ofW (cc := c_A_add) (maxL := 3) (ret := (some .boolean)) (by decide) rfl ?_
  intro p e s m args below meth c s₁ B hml hnt hv
  obtain ⟨rfl, ⟨hsz, hP, hK, hD0, hN⟩, -, hz0, hsr, hat⟩ := hv
  obtain ⟨⟨q1, hs1⟩, ⟨q2, hs2⟩, ⟨q3, hs3⟩, ⟨q4, hs4⟩, ⟨q5, hs5⟩, ⟨q6, hs6⟩, ⟨q7, hs7⟩⟩ := hsr
  have hx := B.exec
  have hb := B.bytes
  have hB := xB B.pre
  have hown : s.vm.findClass R_A = some m.cls := findClass_of_methodNamed B.named
  have hlocks := B.notSynchronized
  subst hsz
  have hD := hD0.self (sz := s.heap.size)
  have hz := xz_up hP hz0
  obtain ⟨A, hAe⟩ : ∃ A, A = va_A [] s.heap.size := ⟨_, rfl⟩
  rw [← hAe] at hD hz
  have hA : ∀ q : Nat, s.heap.size ≤ q → A q := fun q h => by rw [hAe]; exact Or.inr h
  have hS : va_S A s.heap s.heap [] := va_S.rf
  have hl := lv_entry ([.ref a, .int (nI u), .int (nI v)]) (n := 3) (Nat.le_of_ble_eq_true rfl)
  rw [lg_entry_eq]
  generalize (lg_sl ([.ref a, .int (nI u), .int (nI v)]) ++ List.replicate (3 - (lg_sl ([.ref a, .int (nI u), .int (nI v)])).length) Slot.unset).toArray = ls at hl ⊢
  have hl : lv_has ls 3 [(0, .ref a), (1, .int (nI u)), (2, .int (nI v))] := hl
  refine lv_iload_n hx hb d_A_add_0 rfl (lv_at hl 1 rfl) ?_
  refine lv_iload_n hx hb d_A_add_1 rfl (lv_at hl 2 rfl) ?_
  refine xr_v (va_runS (As := [.int (nI u), .int (nI v)]) (rest := []) ⟨hx, hb, hml, hown, hB⟩ (k_A_requirePlaces l (nI u) (nI v) (isP2 (by omega) (by omega))) ⟨callB_of 2 hB (xg0 mc_A_requirePlaces) rfl rfl rfl (hB _ mz_A) (hB _ ml_A_37) (by decide +kernel) ⟨Nat.le_of_ble_eq_true rfl, Nat.le_of_ble_eq_true rfl⟩, hB _ ms_A_requirePlaces⟩ xTT_pre rfl rfl hl.1 rfl (lv_room (Nat.le_of_ble_eq_true rfl)) d_A_add_2 ⟨Nat.le_of_ble_eq_true rfl, Nat.le_of_ble_eq_true rfl⟩) ?_
  refine lv_iload_n hx hb d_A_add_5 rfl (lv_at hl 1 rfl) ?_
  refine lv_iload_n hx hb d_A_add_6 rfl (lv_at hl 2 rfl) ?_
  refine lv_icmp_ne (tgt := 20) hx hb d_A_add_7 rfl (fun hc7 => ?_) (fun hc7 => ?_)
  · have hc7 : ¬ (u = v) := fun q9 => hc7 ((nI_eq (by omega) (by omega)).mpr q9)
    exact absurd huv hc7
  · have hc7 : u = v := (nI_eq (by omega) (by omega)).mp hc7
    have hP9 := hP.sub (ws' := []) [] rfl
    subst hAe
    exact vx_throwS hx hb hlt (cls := eIA) (names := eUp) (ik := 41) (is := 43) (ic := 45) hown eIA_fit eUp_fit (xat_use hat (ATS_k (k := 0) rfl)) (xat_use hat (ATS_k (k := 1) rfl)) hs2 (fun w hw => xat_use hat (ATS_1 w hw)) ATS_g1 hz.1 hz.2 hS (hl.1.trans hml.symm) d_A_add_10 d_A_add_13 d_A_add_14 d_A_add_16 d_A_add_19 (fun x hx => (hnt x hx).elim) (by decide) (by decide) (by decide) (by decide) hlocks (fun t _ ht2 ht3 => xX_mk hS hP9 ht2 ht3) hS.2.2 (Nat.le_refl _) (Nat.le_refl _)
set_option maxHeartbeats 4000000 in
set_option maxRecDepth 100000 in
theorem t_A_figure_bad (l : Launch) (hlt : l.stackTraces = false) (D : va_G) (a : Nat) (x : Int32) (hb9 : x < 0 ∨ ¬ x ≤ nI 5) (sz : Nat) : vx_Met l y_A_figure (Cond.code y_A_figure c_A_figure 2 (some .int) :: BS) { frames := 6, cells := 1, slots := 6, locals := 82 } (va_Pc [.ref a, .int x] (xWt D [] [] sz)) (fun _ _ _ _ => False) (xXw eIA D [] (va_A [] sz)) 1 6 (va_A [] sz) := by
  refine vx_ofW (cc := c_A_figure) (maxL := 2) (ret := (some .int)) (by decide) rfl ?_
  intro p e s m args below meth c s₁ B hml hnt hv
  obtain ⟨rfl, ⟨hsz, hP, hK, hD0, hN⟩, -, hz0, hsr, hat⟩ := hv
  obtain ⟨⟨q1, hs1⟩, ⟨q2, hs2⟩, ⟨q3, hs3⟩, ⟨q4, hs4⟩, ⟨q5, hs5⟩, ⟨q6, hs6⟩, ⟨q7, hs7⟩⟩ := hsr
  have hx := B.exec
  have hb := B.bytes
  have hB := xB B.pre
  have hown : s.vm.findClass R_A = some m.cls := findClass_of_methodNamed B.named
  have hlocks := B.notSynchronized
  subst hsz
  have hD := hD0.self (sz := s.heap.size)
  have hz := xz_up hP hz0
  obtain ⟨A, hAe⟩ : ∃ A, A = va_A [] s.heap.size := ⟨_, rfl⟩
  rw [← hAe] at hD hz
  have hA : ∀ q : Nat, s.heap.size ≤ q → A q := fun q h => by rw [hAe]; exact Or.inr h
  have hS : va_S A s.heap s.heap [] := va_S.rf
  have hl := lv_entry ([.ref a, .int x]) (n := 2) (Nat.le_of_ble_eq_true rfl)
  rw [lg_entry_eq]
  generalize (lg_sl ([.ref a, .int x]) ++ List.replicate (2 - (lg_sl ([.ref a, .int x])).length) Slot.unset).toArray = ls at hl ⊢
  have hl : lv_has ls 2 [(0, .ref a), (1, .int x)] := hl
  refine lv_iload_n hx hb d_A_figure_0 rfl (lv_at hl 1 rfl) ?_
  refine lv_if_lt (tgt := 9) hx hb d_A_figure_1 rfl (fun hc1 => ?_) (fun hc1 => ?_)
  · have hP9 := hP.sub (ws' := []) [] rfl
    subst hAe
    exact vx_throwS hx hb hlt (cls := eIA) (names := eUp) (ik := 41) (is := 145) (ic := 45) hown eIA_fit eUp_fit (xat_use hat (ATS_k (k := 0) rfl)) (xat_use hat (ATS_k (k := 1) rfl)) hs7 (fun w hw => xat_use hat (ATS_1 w hw)) ATS_g1 hz.1 hz.2 hS (hl.1.trans hml.symm) d_A_figure_9 d_A_figure_12 d_A_figure_13 d_A_figure_15 d_A_figure_18 (fun x hx => (hnt x hx).elim) (by decide) (by decide) (by decide) (by decide) hlocks (fun t _ ht2 ht3 => xX_mk hS hP9 ht2 ht3) hS.2.2 (Nat.le_refl _) (Nat.le_refl _)
  · refine lv_iload_n hx hb d_A_figure_4 rfl (lv_at hl 1 rfl) ?_
    refine lv_iconst (v := nI 5) hx hb d_A_figure_5 (by decide) ?_
    refine lv_icmp_le (tgt := 19) hx hb d_A_figure_6 rfl (fun hc6 => ?_) (fun hc6 => ?_)
    · exact (hb9.elim (fun q9 => absurd q9 hc1) (fun q9 => absurd hc6 q9))
    · have hP9 := hP.sub (ws' := []) [] rfl
      subst hAe
      exact vx_throwS hx hb hlt (cls := eIA) (names := eUp) (ik := 41) (is := 145) (ic := 45) hown eIA_fit eUp_fit (xat_use hat (ATS_k (k := 0) rfl)) (xat_use hat (ATS_k (k := 1) rfl)) hs7 (fun w hw => xat_use hat (ATS_1 w hw)) ATS_g1 hz.1 hz.2 hS (hl.1.trans hml.symm) d_A_figure_9 d_A_figure_12 d_A_figure_13 d_A_figure_15 d_A_figure_18 (fun x hx => (hnt x hx).elim) (by decide) (by decide) (by decide) (by decide) hlocks (fun t _ ht2 ht3 => xX_mk hS hP9 ht2 ht3) hS.2.2 (Nat.le_refl _) (Nat.le_refl _)
set_option maxHeartbeats 4000000 in
set_option maxRecDepth 100000 in
theorem t_A_add_full (l : Launch) (hlt : l.stackTraces = false) (D : va_G) (a w g yw f : Nat)  (hd : Nat) (cA : ClassId) (ct : Int32) (h : Nat → Int32) (u v : Nat) (hu : u < 16) (hv : v < 16) (huv : ¬ u = v) (hb9 : bt (h u) v = false) (hf9 : ct = nI 80) (sz : Nat) : vx_Met l y_A_add (Cond.code y_A_add c_A_add 3 (some .boolean) :: BS) { frames := 6, cells := 1, slots := 6, locals := 82 } (va_Pc [.ref a, .int (nI u), .int (nI v)] (xWt D [(a, .inr (0, [.ref w, .ref g, .ref yw, .ref f])), (w, .inr (1, [.ref hd, .int ct])), (hd, .inl (cA, 16, .inl h))] [(cA, .int)] sz)) (fun _ _ _ _ => False) (xXw eIS D [(a, .inr (0, [.ref w, .ref g, .ref yw, .ref f])), (w, .inr (1, [.ref hd, .int ct])), (hd, .inl (cA, 16, .inl h))] (va_A [(a, .inr (0, [.ref w, .ref g, .ref yw, .ref f])), (w, .inr (1, [.ref hd, .int ct])), (hd, .inl (cA, 16, .inl h))] sz)) 1 6 (va_A [(a, .inr (0, [.ref w, .ref g, .ref yw, .ref f])), (w, .inr (1, [.ref hd, .int ct])), (hd, .inl (cA, 16, .inl h))] sz) := by
  refine vx_ofW (cc := c_A_add) (maxL := 3) (ret := (some .boolean)) (by decide) rfl ?_
  intro p e s m args below meth c s₁ B hml hnt hv
  obtain ⟨rfl, ⟨hsz, hP, hK, hD0, hN⟩, -, hz0, hsr, hat⟩ := hv
  obtain ⟨⟨q1, hs1⟩, ⟨q2, hs2⟩, ⟨q3, hs3⟩, ⟨q4, hs4⟩, ⟨q5, hs5⟩, ⟨q6, hs6⟩, ⟨q7, hs7⟩⟩ := hsr
  have hx := B.exec
  have hb := B.bytes
  have hB := xB B.pre
  have hown : s.vm.findClass R_A = some m.cls := findClass_of_methodNamed B.named
  have hlocks := B.notSynchronized
  subst hsz
  have hD := hD0.self (sz := s.heap.size)
  have hz := xz_up hP hz0
  obtain ⟨A, hAe⟩ : ∃ A, A = va_A [(a, .inr (0, [.ref w, .ref g, .ref yw, .ref f])), (w, .inr (1, [.ref hd, .int ct])), (hd, .inl (cA, 16, .inl h))] s.heap.size := ⟨_, rfl⟩
  rw [← hAe] at hD hz
  have hA : ∀ q : Nat, s.heap.size ≤ q → A q := fun q h => by rw [hAe]; exact Or.inr h
  have hS : va_S A s.heap s.heap [] := va_S.rf
  have hl := lv_entry ([.ref a, .int (nI u), .int (nI v)]) (n := 3) (Nat.le_of_ble_eq_true rfl)
  rw [lg_entry_eq]
  generalize (lg_sl ([.ref a, .int (nI u), .int (nI v)]) ++ List.replicate (3 - (lg_sl ([.ref a, .int (nI u), .int (nI v)])).length) Slot.unset).toArray = ls at hl ⊢
  have hl : lv_has ls 3 [(0, .ref a), (1, .int (nI u)), (2, .int (nI v))] := hl
  refine lv_iload_n hx hb d_A_add_0 rfl (lv_at hl 1 rfl) ?_
  refine lv_iload_n hx hb d_A_add_1 rfl (lv_at hl 2 rfl) ?_
  refine xr_v (va_runS (As := [.int (nI u), .int (nI v)]) (rest := []) ⟨hx, hb, hml, hown, hB⟩ (k_A_requirePlaces l (nI u) (nI v) (isP2 (by omega) (by omega))) ⟨callB_of 2 hB (xg0 mc_A_requirePlaces) rfl rfl rfl (hB _ mz_A) (hB _ ml_A_37) (by decide +kernel) ⟨Nat.le_of_ble_eq_true rfl, Nat.le_of_ble_eq_true rfl⟩, hB _ ms_A_requirePlaces⟩ xTT_pre rfl rfl hl.1 rfl (lv_room (Nat.le_of_ble_eq_true rfl)) d_A_add_2 ⟨Nat.le_of_ble_eq_true rfl, Nat.le_of_ble_eq_true rfl⟩) ?_
  refine lv_iload_n hx hb d_A_add_5 rfl (lv_at hl 1 rfl) ?_
  refine lv_iload_n hx hb d_A_add_6 rfl (lv_at hl 2 rfl) ?_
  refine lv_icmp_ne (tgt := 20) hx hb d_A_add_7 rfl (fun hc7 => ?_) (fun hc7 => ?_)
  · have hc7 : ¬ (u = v) := fun q9 => hc7 ((nI_eq (by omega) (by omega)).mpr q9)
    refine lv_aload_n hx hb d_A_add_20 rfl (lv_at hl 0 rfl) ?_
    refine va_get (D := D) (ci := 0) (v := .ref w) (C := R_A) (T := F_A) (N := 4) hx hb hB in_A hown hK hP 0 rfl rfl 0 (by decide) (hB _ mf_A_10) (fun _ h9 => h9) rfl d_A_add_21 ?_
    refine lv_iload_n hx hb d_A_add_24 rfl (lv_at hl 1 rfl) ?_
    refine lv_iload_n hx hb d_A_add_25 rfl (lv_at hl 2 rfl) ?_
    refine xr_cal (va_runV (As := [.int (nI u), .int (nI v)]) (rest := []) ⟨hx, hb, hml, hown, hB⟩ (k_Web_holds l D w hd cA ct h u v (by omega) (by omega)) ⟨callB_of 2 hB (xg0 mc_Web_holds) rfl rfl rfl (hB _ mz_Web) (hB _ ml_A_48) (by decide +kernel) ⟨Nat.le_of_ble_eq_true rfl, Nat.le_of_ble_eq_true rfl⟩, hB _ mi_Web_holds, hB _ me_Web_holds⟩ (xpV (ws := [(w, .inr (1, [.ref hd, .int ct])), (hd, .inl (cA, 16, .inl h))]) (tys := [(cA, .int)]) (hP.sub [1, 2] rfl) (hK.sub [0] rfl) hN (va_recv (ci := 1) (q0 := 1) (q := (R_Web, F_Web, 2)) hK hP rfl rfl)) rfl rfl hl.1 rfl (lv_room (Nat.le_of_ble_eq_true rfl)) d_A_add_26 ⟨Nat.le_of_ble_eq_true rfl, Nat.le_of_ble_eq_true rfl⟩) ?_
    refine lv_if_eq (tgt := 34) hx hb d_A_add_29 rfl (fun hc29 => ?_) (fun hc29 => ?_)
    · have hc29 := b2i_0.mp hc29
      refine lv_aload_n hx hb d_A_add_34 rfl (lv_at hl 0 rfl) ?_
      refine va_get (D := D) (ci := 0) (v := .ref w) (C := R_A) (T := F_A) (N := 4) hx hb hB in_A hown hK hP 0 rfl rfl 0 (by decide) (hB _ mf_A_10) (fun _ h9 => h9) rfl d_A_add_35 ?_
      refine xr_cal (va_runV (As := []) (rest := []) ⟨hx, hb, hml, hown, hB⟩ (k_Web_count l D w hd cA ct h ) ⟨callB_of 0 hB (xg0 mc_Web_count) rfl rfl rfl (hB _ mz_Web) (hB _ ml_A_52) (by decide +kernel) ⟨Nat.le_of_ble_eq_true rfl, Nat.le_of_ble_eq_true rfl⟩, hB _ mi_Web_count, hB _ me_Web_count⟩ (xpV (ws := [(w, .inr (1, [.ref hd, .int ct])), (hd, .inl (cA, 16, .inl h))]) (tys := [(cA, .int)]) (hP.sub [1, 2] rfl) (hK.sub [0] rfl) hN (va_recv (ci := 1) (q0 := 1) (q := (R_Web, F_Web, 2)) hK hP rfl rfl)) rfl rfl hl.1 rfl (lv_room (Nat.le_of_ble_eq_true rfl)) d_A_add_38 ⟨Nat.le_of_ble_eq_true rfl, Nat.le_of_ble_eq_true rfl⟩) ?_
      refine lv_bipush (v := nI 80) hx hb d_A_add_41 (by decide) ?_
      refine lv_icmp_lt (tgt := 56) hx hb d_A_add_43 rfl (fun hc43 => ?_) (fun hc43 => ?_)
      · exact absurd hc43 (by rw [hf9]; decide)
      · have hP9 := hP.sub (ws' := [(a, .inr (0, [.ref w, .ref g, .ref yw, .ref f])), (w, .inr (1, [.ref hd, .int ct])), (hd, .inl (cA, 16, .inl h))]) [0, 1, 2] rfl
        subst hAe
        exact vx_throwS hx hb hlt (cls := eIS) (names := eUp) (ik := 56) (is := 58) (ic := 60) hown eIS_fit eUp_fit (xat_use hat (ATS_k (k := 2) rfl)) (xat_use hat (ATS_k (k := 3) rfl)) hs3 (fun w hw => xat_use hat (ATS_2 w hw)) ATS_g2 hz.1 hz.2 hS (hl.1.trans hml.symm) d_A_add_46 d_A_add_49 d_A_add_50 d_A_add_52 d_A_add_55 (fun x hx => (hnt x hx).elim) (by decide) (by decide) (by decide) (by decide) hlocks (fun t _ ht2 ht3 => xX_mk hS hP9 ht2 ht3) hS.2.2 (Nat.le_refl _) (Nat.le_refl _)
    · have hc29 := b2i_n.mp hc29
      exact absurd hc29 (by rw [hb9]; decide)
  · have hc7 : u = v := (nI_eq (by omega) (by omega)).mp hc7
    exact absurd hc7 huv
