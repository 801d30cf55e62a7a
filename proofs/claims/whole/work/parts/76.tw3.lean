set_option maxHeartbeats 4000000 in
set_option maxRecDepth 100000 in
theorem t_A_way_none (l : Launch) (hlt : l.stackTraces = false) (D : va_G) (a w g yw f : Nat)  (hd : Nat) (cA : ClassId) (ct : Int32) (h : Nat → Int32) (la : Nat) (cL : ClassId) (lf : Nat → Int32) (u v : Nat) (hu : u < 16) (hv : v < 16) (z : Int32) (hd9 : DS h u v = -1) (sz : Nat) : vx_Met l y_A_way (Cond.code y_A_way c_A_way 5 (some .int) :: BS) { frames := 6, cells := 1, slots := 6, locals := 82 } (va_Pc [.ref a, .int (nI u), .int (nI v), .int z] (xWn D [(a, .inr (0, [.ref w, .ref g, .ref yw, .ref f])), (w, .inr (1, [.ref hd, .int ct])), (hd, .inl (cA, 16, .inl h)), (yw, .inr (3, [.ref la])), (la, .inl (cL, 16, .inl lf))] [(cA, .int), (cL, .int)] sz)) (fun _ _ _ _ => False) (xXw eNS D [(a, .inr (0, [.ref w, .ref g, .ref yw, .ref f])), (w, .inr (1, [.ref hd, .int ct])), (hd, .inl (cA, 16, .inl h)), (yw, .inr (3, [.ref la])), (la, .inl (cL, 16, .inl (ly h v)))] (va_A [(a, .inr (0, [.ref w, .ref g, .ref yw, .ref f])), (w, .inr (1, [.ref hd, .int ct])), (hd, .inl (cA, 16, .inl h)), (yw, .inr (3, [.ref la])), (la, .inl (cL, 16, .inl lf))] sz)) 1 6 (va_A [(a, .inr (0, [.ref w, .ref g, .ref yw, .ref f])), (w, .inr (1, [.ref hd, .int ct])), (hd, .inl (cA, 16, .inl h)), (yw, .inr (3, [.ref la])), (la, .inl (cL, 16, .inl lf))] sz) := by
  refine vx_ofW (cc := c_A_way) (maxL := 5) (ret := (some .int)) (by decide) rfl ?_
  intro p e s m args below meth c s₁ B hml hnt hv
  obtain ⟨rfl, ⟨⟨hsz, hP, hK, hD0, hN⟩, -, hz0, hsr, hat⟩, han⟩ := hv
  obtain ⟨⟨q1, hs1⟩, ⟨q2, hs2⟩, ⟨q3, hs3⟩, ⟨q4, hs4⟩, ⟨q5, hs5⟩, ⟨q6, hs6⟩, ⟨q7, hs7⟩⟩ := hsr
  have hx := B.exec
  have hb := B.bytes
  have hB := xB B.pre
  have hown : s.vm.findClass R_A = some m.cls := findClass_of_methodNamed B.named
  have hlocks := B.notSynchronized
  subst hsz
  have hD := hD0.self (sz := s.heap.size)
  have hz := xz_up hP hz0
  obtain ⟨A, hAe⟩ : ∃ A, A = va_A [(a, .inr (0, [.ref w, .ref g, .ref yw, .ref f])), (w, .inr (1, [.ref hd, .int ct])), (hd, .inl (cA, 16, .inl h)), (yw, .inr (3, [.ref la])), (la, .inl (cL, 16, .inl lf))] s.heap.size := ⟨_, rfl⟩
  rw [← hAe] at hD hz
  have hA : ∀ q : Nat, s.heap.size ≤ q → A q := fun q h => by rw [hAe]; exact Or.inr h
  have hS : va_S A s.heap s.heap [] := va_S.rf
  have hl := lv_entry ([.ref a, .int (nI u), .int (nI v), .int z]) (n := 5) (Nat.le_of_ble_eq_true rfl)
  rw [lg_entry_eq]
  generalize (lg_sl ([.ref a, .int (nI u), .int (nI v), .int z]) ++ List.replicate (5 - (lg_sl ([.ref a, .int (nI u), .int (nI v), .int z])).length) Slot.unset).toArray = ls at hl ⊢
  have hl : lv_has ls 5 [(0, .ref a), (1, .int (nI u)), (2, .int (nI v)), (3, .int z)] := hl
  refine lv_iload_n hx hb d_A_way_0 rfl (lv_at hl 1 rfl) ?_
  refine lv_iload_n hx hb d_A_way_1 rfl (lv_at hl 2 rfl) ?_
  refine xr_v (va_runS (As := [.int (nI u), .int (nI v)]) (rest := []) ⟨hx, hb, hml, hown, hB⟩ (k_A_requirePlaces l (nI u) (nI v) (isP2 (by omega) (by omega))) ⟨callB_of 2 hB (xg0 mc_A_requirePlaces) rfl rfl rfl (hB _ mz_A) (hB _ ml_A_37) (by decide +kernel) ⟨Nat.le_of_ble_eq_true rfl, Nat.le_of_ble_eq_true rfl⟩, hB _ ms_A_requirePlaces⟩ xTT_pre rfl rfl hl.1 rfl (lv_room (Nat.le_of_ble_eq_true rfl)) d_A_way_2 ⟨Nat.le_of_ble_eq_true rfl, Nat.le_of_ble_eq_true rfl⟩) ?_
  refine lv_aload_n hx hb d_A_way_5 rfl (lv_at hl 0 rfl) ?_
  refine va_get (D := D) (ci := 0) (v := .ref yw) (C := R_A) (T := F_A) (N := 4) hx hb hB in_A hown hK hP 0 rfl rfl 2 (by decide) (hB _ mf_A_26) (fun _ h9 => h9) rfl d_A_way_6 ?_
  refine lv_iload_n hx hb d_A_way_9 rfl (lv_at hl 2 rfl) ?_
  refine lv_aload_n hx hb d_A_way_10 rfl (lv_at hl 0 rfl) ?_
  refine va_get (D := D) (ci := 0) (v := .ref w) (C := R_A) (T := F_A) (N := 4) hx hb hB in_A hown hK hP 0 rfl rfl 0 (by decide) (hB _ mf_A_10) (fun _ h9 => h9) rfl d_A_way_11 ?_
  refine xw_v (wc := [(yw, .inr (3, [.ref la])), (la, .inl (cL, 16, .inl lf)), (w, .inr (1, [.ref hd, .int ct])), (hd, .inl (cA, 16, .inl h))]) (wr := [(a, .inr (0, [.ref w, .ref g, .ref yw, .ref f]))]) (w1 := [(yw, .inr (3, [.ref la])), (la, .inl (cL, 16, .inl (ly h v))), (w, .inr (1, [.ref hd, .int ct])), (hd, .inl (cA, 16, .inl h))]) (va_runV (As := [.int (nI v), .ref w]) (rest := []) ⟨hx, hb, hml, hown, hB⟩ (k_Wy_readTo l D yw la cL lf w hd cA ct h v (by omega) _) ⟨callB_of 2 hB (xg0 mc_Wy_readTo) rfl rfl rfl (hB _ mz_Wy) (hB _ ml_A_107) (by decide +kernel) ⟨Nat.le_of_ble_eq_true rfl, Nat.le_of_ble_eq_true rfl⟩, hB _ mi_Wy_readTo, hB _ me_Wy_readTo⟩ (xqV (ws := [(yw, .inr (3, [.ref la])), (la, .inl (cL, 16, .inl lf)), (w, .inr (1, [.ref hd, .int ct])), (hd, .inl (cA, 16, .inl h))]) (tys := [(cL, .int), (cA, .int)]) (hP.sub [3, 4, 1, 2] rfl) (hD.sub [3, 4, 1, 2] (by decide) rfl) (hK.sub [1, 0] rfl) hN (va_recv (ci := 3) (q0 := 3) (q := (R_Wy, F_Wy, 1)) hK hP rfl rfl)) rfl rfl hl.1 rfl (lv_room (Nat.le_of_ble_eq_true rfl)) d_A_way_14 ⟨Nat.le_of_ble_eq_true rfl, Nat.le_of_ble_eq_true rfl⟩) hP hD hS hA [3, 4, 1, 2] [0] rfl rfl (by decide) (by decide) (fun H locs hP hD hS => ?_)
  have hP : va_P D cls [(a, .inr (0, [.ref w, .ref g, .ref yw, .ref f])), (yw, .inr (3, [.ref la])), (la, .inl (cL, 16, .inl (ly h v))), (w, .inr (1, [.ref hd, .int ct])), (hd, .inl (cA, 16, .inl h))] H := hP
  have hD : va_D A [(a, .inr (0, [.ref w, .ref g, .ref yw, .ref f])), (yw, .inr (3, [.ref la])), (la, .inl (cL, 16, .inl (ly h v))), (w, .inr (1, [.ref hd, .int ct])), (hd, .inl (cA, 16, .inl h))] := hD
  refine lv_aload_n hx hb d_A_way_17 rfl (lv_at hl 0 rfl) ?_
  refine va_get (D := D) (ci := 0) (v := .ref yw) (C := R_A) (T := F_A) (N := 4) hx hb hB in_A hown hK hP 0 rfl rfl 2 (by decide) (hB _ mf_A_26) (fun _ h9 => h9) rfl d_A_way_18 ?_
  refine lv_iload_n hx hb d_A_way_21 rfl (lv_at hl 1 rfl) ?_
  refine xr_cal (va_runV (As := [.int (nI u)]) (rest := []) ⟨hx, hb, hml, hown, hB⟩ (k_Wy_lengthFrom l D yw la cL (ly h v) u (by omega)) ⟨callB_of 1 hB (xg0 mc_Wy_lengthFrom) rfl rfl rfl (hB _ mz_Wy) (hB _ ml_A_111) (by decide +kernel) ⟨Nat.le_of_ble_eq_true rfl, Nat.le_of_ble_eq_true rfl⟩, hB _ mi_Wy_lengthFrom, hB _ me_Wy_lengthFrom⟩ (xpV (ws := [(yw, .inr (3, [.ref la])), (la, .inl (cL, 16, .inl (ly h v)))]) (tys := [(cL, .int)]) (hP.sub [1, 2] rfl) (hK.sub [1] rfl) hN (va_recv (ci := 3) (q0 := 1) (q := (R_Wy, F_Wy, 1)) hK hP rfl rfl)) rfl rfl hl.1 rfl (lv_room (Nat.le_of_ble_eq_true rfl)) d_A_way_22 ⟨Nat.le_of_ble_eq_true rfl, Nat.le_of_ble_eq_true rfl⟩) ?_
  refine xv_top (x' := -1) (hd9) ?_
  refine lv_istore hx hb d_A_way_25 hl (by decide) rfl (fun ls hl => ?_)
  have hl : lv_has ls 5 [(4, .int (-1)), (0, .ref a), (1, .int (nI u)), (2, .int (nI v)), (3, .int z)] := hl
  refine lv_iload hx hb d_A_way_27 (lv_at hl 0 rfl) ?_
  refine lv_iconst (v := -1) hx hb d_A_way_29 (by decide) ?_
  refine lv_icmp_ne (tgt := 43) hx hb d_A_way_30 rfl (fun hc30 => ?_) (fun hc30 => ?_)
  · exact absurd rfl hc30
  · have hP9 := hP.sub (ws' := [(a, .inr (0, [.ref w, .ref g, .ref yw, .ref f])), (w, .inr (1, [.ref hd, .int ct])), (hd, .inl (cA, 16, .inl h)), (yw, .inr (3, [.ref la])), (la, .inl (cL, 16, .inl (ly h v)))]) [0, 3, 4, 1, 2] rfl
    subst hAe
    exact xt_throwX hx hb hlt (cls := eNS) (names := eUp) (ik := 114) (is := 116) (ic := 118) (ix := 13) (rx := eNb) eNb_0 eNb_1 eNb_2 eNb_5 hown eNS_fit eUp_fit (xat_use hat (ATS_k (k := 6) rfl)) (xat_use hat (ATS_k (k := 7) rfl)) hs5 (fun w hw => xaN_use han hw) ATN_g hz.1 hz.2 hS (hl.1.trans hml.symm) d_A_way_33 d_A_way_36 d_A_way_37 d_A_way_39 d_A_way_42 (fun x hx => (hnt x hx).elim) (by decide) (by decide) (by decide) (by decide) hlocks (fun t _ ht2 ht3 => xX_mk hS hP9 ht2 ht3) hS.2.2 (Nat.le_refl _) (Nat.le_refl _)
set_option maxHeartbeats 4000000 in
set_option maxRecDepth 100000 in
theorem t_A_gate_none (l : Launch) (hlt : l.stackTraces = false) (D : va_G) (a w g yw f : Nat)  (hd : Nat) (cA : ClassId) (ct : Int32) (h : Nat → Int32) (hg : gd h) (u v : Nat) (hu : u < 16) (hv : v < 16) (huv : ¬ u = v) (hrv : bt (RE h u) v = false) (sz : Nat) : vx_Met l y_A_gate (Cond.code y_A_gate c_A_gate 3 (some .int) :: BS) { frames := 6, cells := 1, slots := 6, locals := 82 } (va_Pc [.ref a, .int (nI u), .int (nI v)] (xWn D [(a, .inr (0, [.ref w, .ref g, .ref yw, .ref f])), (w, .inr (1, [.ref hd, .int ct])), (hd, .inl (cA, 16, .inl h))] [(cA, .int)] sz)) (fun _ _ _ _ => False) (xXw eNS D [(a, .inr (0, [.ref w, .ref g, .ref yw, .ref f])), (w, .inr (1, [.ref hd, .int ct])), (hd, .inl (cA, 16, .inl h))] (va_A [(a, .inr (0, [.ref w, .ref g, .ref yw, .ref f])), (w, .inr (1, [.ref hd, .int ct])), (hd, .inl (cA, 16, .inl h))] sz)) 1 6 (va_A [(a, .inr (0, [.ref w, .ref g, .ref yw, .ref f])), (w, .inr (1, [.ref hd, .int ct])), (hd, .inl (cA, 16, .inl h))] sz) := by
  refine vx_ofW (cc := c_A_gate) (maxL := 3) (ret := (some .int)) (by decide) rfl ?_
  intro p e s m args below meth c s₁ B hml hnt hv
  obtain ⟨rfl, ⟨⟨hsz, hP, hK, hD0, hN⟩, -, hz0, hsr, hat⟩, han⟩ := hv
  obtain ⟨⟨q1, hs1⟩, ⟨q2, hs2⟩, ⟨q3, hs3⟩, ⟨q4, hs4⟩, ⟨q5, hs5⟩, ⟨q6, hs6⟩, ⟨q7, hs7⟩⟩ := hsr
  have hx := B.exec
  have hb := B.bytes
  have hB := xB B.pre
  have hown : s.vm.findClass R_A = some m.cls := findClass_of_methodNamed B.named
  have hlocks := B.notSynchronized
  subst hsz
  have hD := hD0.self (sz := s.heap.size)
  have hz := xz_up hP hz0
  obtain ⟨A, hAe⟩ : ∃ A, A = va_A [(a, .inr (0, [.ref w, .ref g, .ref yw, .ref f])), (w, .inr (1, [.ref hd, .int ct])), (hd, .inl (cA, 16, .inl h))] s.heap.size := ⟨_, rfl⟩
  rw [← hAe] at hD hz
  have hA : ∀ q : Nat, s.heap.size ≤ q → A q := fun q h => by rw [hAe]; exact Or.inr h
  have hS : va_S A s.heap s.heap [] := va_S.rf
  have hl := lv_entry ([.ref a, .int (nI u), .int (nI v)]) (n := 3) (Nat.le_of_ble_eq_true rfl)
  rw [lg_entry_eq]
  generalize (lg_sl ([.ref a, .int (nI u), .int (nI v)]) ++ List.replicate (3 - (lg_sl ([.ref a, .int (nI u), .int (nI v)])).length) Slot.unset).toArray = ls at hl ⊢
  have hl : lv_has ls 3 [(0, .ref a), (1, .int (nI u)), (2, .int (nI v))] := hl
  refine lv_iload_n hx hb d_A_gate_0 rfl (lv_at hl 1 rfl) ?_
  refine lv_iload_n hx hb d_A_gate_1 rfl (lv_at hl 2 rfl) ?_
  refine xr_v (va_runS (As := [.int (nI u), .int (nI v)]) (rest := []) ⟨hx, hb, hml, hown, hB⟩ (k_A_requirePlaces l (nI u) (nI v) (isP2 (by omega) (by omega))) ⟨callB_of 2 hB (xg0 mc_A_requirePlaces) rfl rfl rfl (hB _ mz_A) (hB _ ml_A_37) (by decide +kernel) ⟨Nat.le_of_ble_eq_true rfl, Nat.le_of_ble_eq_true rfl⟩, hB _ ms_A_requirePlaces⟩ xTT_pre rfl rfl hl.1 rfl (lv_room (Nat.le_of_ble_eq_true rfl)) d_A_gate_2 ⟨Nat.le_of_ble_eq_true rfl, Nat.le_of_ble_eq_true rfl⟩) ?_
  refine lv_iload_n hx hb d_A_gate_5 rfl (lv_at hl 1 rfl) ?_
  refine lv_iload_n hx hb d_A_gate_6 rfl (lv_at hl 2 rfl) ?_
  refine lv_icmp_ne (tgt := 12) hx hb d_A_gate_7 rfl (fun hc7 => ?_) (fun hc7 => ?_)
  · have hc7 : ¬ (u = v) := fun q9 => hc7 ((nI_eq (by omega) (by omega)).mpr q9)
    refine lv_aload_n hx hb d_A_gate_12 rfl (lv_at hl 0 rfl) ?_
    refine va_get (D := D) (ci := 0) (v := .ref w) (C := R_A) (T := F_A) (N := 4) hx hb hB in_A hown hK hP 0 rfl rfl 0 (by decide) (hB _ mf_A_10) (fun _ h9 => h9) rfl d_A_gate_13 ?_
    refine lv_iload_n hx hb d_A_gate_16 rfl (lv_at hl 1 rfl) ?_
    refine xr_cal (va_runS (As := [.int (nI u)]) (rest := [.ref w]) ⟨hx, hb, hml, hown, hB⟩ (k_A_only l D u) ⟨callB_of 1 hB (xg0 mc_A_only) rfl rfl rfl (hB _ mz_A) (hB _ ml_A_97) (by decide +kernel) ⟨Nat.le_of_ble_eq_true rfl, Nat.le_of_ble_eq_true rfl⟩, hB _ ms_A_only⟩ (xpS (ws := []) (tys := []) (hP.sub [] rfl) (hK.sub [] rfl) hN) rfl rfl hl.1 rfl (lv_room (Nat.le_of_ble_eq_true rfl)) d_A_gate_17 ⟨Nat.le_of_ble_eq_true rfl, Nat.le_of_ble_eq_true rfl⟩) ?_
    refine lv_iconst (v := nI 0) hx hb d_A_gate_20 (by decide) ?_
    refine xr_cal (va_runV (As := [.int (bit u), .int (nI 0)]) (rest := []) ⟨hx, hb, hml, hown, hB⟩ (k_Web_spread l D w hd cA ct h hg (bit u) (nI 0) (m16_bit hu)) ⟨callB_of 2 hB (xg0 mc_Web_spread) rfl rfl rfl (hB _ mz_Web) (hB _ ml_A_100) (by decide +kernel) ⟨Nat.le_of_ble_eq_true rfl, Nat.le_of_ble_eq_true rfl⟩, hB _ mi_Web_spread, hB _ me_Web_spread⟩ (xpV (ws := [(w, .inr (1, [.ref hd, .int ct])), (hd, .inl (cA, 16, .inl h))]) (tys := [(cA, .int)]) (hP.sub [1, 2] rfl) (hK.sub [0] rfl) hN (va_recv (ci := 1) (q0 := 1) (q := (R_Web, F_Web, 2)) hK hP rfl rfl)) rfl rfl hl.1 rfl (lv_room (Nat.le_of_ble_eq_true rfl)) d_A_gate_21 ⟨Nat.le_of_ble_eq_true rfl, Nat.le_of_ble_eq_true rfl⟩) ?_
    refine lv_iload_n hx hb d_A_gate_24 rfl (lv_at hl 2 rfl) ?_
    refine xr_cal (va_runS (As := [.int (SP h (bit u) (nI 0)), .int (nI v)]) (rest := []) ⟨hx, hb, hml, hown, hB⟩ (k_A_has l D (SP h (bit u) (nI 0)) v (by omega)) ⟨callB_of 2 hB (xg0 mc_A_has) rfl rfl rfl (hB _ mz_A) (hB _ ml_A_104) (by decide +kernel) ⟨Nat.le_of_ble_eq_true rfl, Nat.le_of_ble_eq_true rfl⟩, hB _ ms_A_has⟩ (xpS (ws := []) (tys := []) (hP.sub [] rfl) (hK.sub [] rfl) hN) rfl rfl hl.1 rfl (lv_room (Nat.le_of_ble_eq_true rfl)) d_A_gate_25 ⟨Nat.le_of_ble_eq_true rfl, Nat.le_of_ble_eq_true rfl⟩) ?_
    refine lv_if_ne (tgt := 41) hx hb d_A_gate_28 rfl (fun hc28 => ?_) (fun hc28 => ?_)
    · have hc28 := b2i_n.mp hc28
      exact absurd (show bt (RE h u) v = true from hc28) (by rw [hrv]; decide)
    · have hc28 := b2i_0.mp hc28
      have hP9 := hP.sub (ws' := [(a, .inr (0, [.ref w, .ref g, .ref yw, .ref f])), (w, .inr (1, [.ref hd, .int ct])), (hd, .inl (cA, 16, .inl h))]) [0, 1, 2] rfl
      subst hAe
      exact xt_throwX hx hb hlt (cls := eNS) (names := eUp) (ik := 114) (is := 116) (ic := 118) (ix := 13) (rx := eNb) eNb_0 eNb_1 eNb_2 eNb_5 hown eNS_fit eUp_fit (xat_use hat (ATS_k (k := 6) rfl)) (xat_use hat (ATS_k (k := 7) rfl)) hs5 (fun w hw => xaN_use han hw) ATN_g hz.1 hz.2 hS (hl.1.trans hml.symm) d_A_gate_31 d_A_gate_34 d_A_gate_35 d_A_gate_37 d_A_gate_40 (fun x hx => (hnt x hx).elim) (by decide) (by decide) (by decide) (by decide) hlocks (fun t _ ht2 ht3 => xX_mk hS hP9 ht2 ht3) hS.2.2 (Nat.le_refl _) (Nat.le_refl _)
  · have hc7 : u = v := (nI_eq (by omega) (by omega)).mp hc7
    exact absurd hc7 huv
