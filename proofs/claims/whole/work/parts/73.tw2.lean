set_option maxHeartbeats 4000000 in
set_option maxRecDepth 100000 in
theorem t_A_ranked_bad (l : Launch) (hlt : l.stackTraces = false) (D : va_G) (a w g yw f : Nat)  (hd : Nat) (cA : ClassId) (ct : Int32) (h : Nat → Int32) (g0 g1 g2 g3 g4 g5 : Nat) (k0 k1 k2 k3 k4 k5 : ClassId) (gc : Int32) (rE : Nat → Int32) (nM : Nat → Int32) (lD : Nat → Int32) (bF : Nat → Int32) (oR : Nat → Int32) (cH : Nat → Int32) (hg : gd h) (x : Int32) (hb9 : x < 0 ∨ ¬ x < nI (cq (fun v9 => decide (lwN (RE h) v9 = v9)) 16)) (sz : Nat) : vx_Met l y_A_ranked (Cond.code y_A_ranked c_A_ranked 2 (some .int) :: BS) { frames := 6, cells := 1, slots := 6, locals := 87 } (va_Pc [.ref a, .int x] (xWt D [(a, .inr (0, [.ref w, .ref g, .ref yw, .ref f])), (w, .inr (1, [.ref hd, .int ct])), (hd, .inl (cA, 16, .inl h)), (g, .inr (2, [.ref g0, .ref g1, .ref g2, .ref g3, .ref g4, .ref g5, .int gc])), (g0, .inl (k0, 16, .inl rE)), (g1, .inl (k1, 16, .inl nM)), (g2, .inl (k2, 16, .inl lD)), (g3, .inl (k3, 16, .inl bF)), (g4, .inl (k4, 16, .inl oR)), (g5, .inl (k5, 16, .inl cH))] [(cA, .int), (k0, .int), (k1, .int), (k2, .int), (k3, .int), (k4, .int), (k5, .int)] sz)) (fun _ _ _ _ => False) (xXw eIO D [(a, .inr (0, [.ref w, .ref g, .ref yw, .ref f])), (w, .inr (1, [.ref hd, .int ct])), (hd, .inl (cA, 16, .inl h)), (g, .inr (2, [.ref g0, .ref g1, .ref g2, .ref g3, .ref g4, .ref g5, .int (nI (cq (fun v9 => decide (lwN (RE h) v9 = v9)) 16))])), (g0, .inl (k0, 16, .inl (RE h))), (g1, .inl (k1, 16, .inl (fun k => nI (lwN (RE h) k)))), (g2, .inl (k2, 16, .inl (LTp h (lwN (RE h)) 16 0))), (g3, .inl (k3, 16, .inl (BFp h (lwN (RE h)) 16 0))), (g4, .inl (k4, 16, .inl (fun k => if k < (cq (fun v9 => decide (lwN (RE h) v9 = v9)) 16) then nI (nxF (fun k => nI (lwN (RE h) k)) (BFp h (lwN (RE h)) 16 0) (plF (fun k => nI (lwN (RE h) k)) (BFp h (lwN (RE h)) 16 0) k)) else oR k))), (g5, .inl (k5, 16, .inl cH))] (va_A [(a, .inr (0, [.ref w, .ref g, .ref yw, .ref f])), (w, .inr (1, [.ref hd, .int ct])), (hd, .inl (cA, 16, .inl h)), (g, .inr (2, [.ref g0, .ref g1, .ref g2, .ref g3, .ref g4, .ref g5, .int gc])), (g0, .inl (k0, 16, .inl rE)), (g1, .inl (k1, 16, .inl nM)), (g2, .inl (k2, 16, .inl lD)), (g3, .inl (k3, 16, .inl bF)), (g4, .inl (k4, 16, .inl oR)), (g5, .inl (k5, 16, .inl cH))] sz)) 1 6 (va_A [(a, .inr (0, [.ref w, .ref g, .ref yw, .ref f])), (w, .inr (1, [.ref hd, .int ct])), (hd, .inl (cA, 16, .inl h)), (g, .inr (2, [.ref g0, .ref g1, .ref g2, .ref g3, .ref g4, .ref g5, .int gc])), (g0, .inl (k0, 16, .inl rE)), (g1, .inl (k1, 16, .inl nM)), (g2, .inl (k2, 16, .inl lD)), (g3, .inl (k3, 16, .inl bF)), (g4, .inl (k4, 16, .inl oR)), (g5, .inl (k5, 16, .inl cH))] sz) := by
  refine vx_ofW (cc := c_A_ranked) (maxL := 2) (ret := (some .int)) (by decide) rfl ?_
  intro p e s m args below meth c s₁ B hml hnt hv
  obtain ⟨rfl, ⟨hsz, hP, hK, hD0, hN⟩, -, hz0, hsr, hat⟩ := hv
  obtain ⟨⟨q1, hs1⟩, ⟨q2, hs2⟩, ⟨q3, hs3⟩, ⟨q4, hs4⟩, ⟨q5, hs5⟩, ⟨q6, hs6⟩, ⟨q7, hs7⟩⟩ := hsr
  have hx := B.exec
  have hb := B.bytes
  have hB := xB B.pre
  have hown : s.vm.findClass R_A = some m.cls := findClass_of_methodNamed B.named
  have hlocks := B.notSynchronized
  subst hsz
  have hD := hD0.self (sz := s.heap.size)
  have hz := xz_up hP hz0
  obtain ⟨A, hAe⟩ : ∃ A, A = va_A [(a, .inr (0, [.ref w, .ref g, .ref yw, .ref f])), (w, .inr (1, [.ref hd, .int ct])), (hd, .inl (cA, 16, .inl h)), (g, .inr (2, [.ref g0, .ref g1, .ref g2, .ref g3, .ref g4, .ref g5, .int gc])), (g0, .inl (k0, 16, .inl rE)), (g1, .inl (k1, 16, .inl nM)), (g2, .inl (k2, 16, .inl lD)), (g3, .inl (k3, 16, .inl bF)), (g4, .inl (k4, 16, .inl oR)), (g5, .inl (k5, 16, .inl cH))] s.heap.size := ⟨_, rfl⟩
  rw [← hAe] at hD hz
  have hA : ∀ q : Nat, s.heap.size ≤ q → A q := fun q h => by rw [hAe]; exact Or.inr h
  have hS : va_S A s.heap s.heap [] := va_S.rf
  have hl := lv_entry ([.ref a, .int x]) (n := 2) (Nat.le_of_ble_eq_true rfl)
  rw [lg_entry_eq]
  generalize (lg_sl ([.ref a, .int x]) ++ List.replicate (2 - (lg_sl ([.ref a, .int x])).length) Slot.unset).toArray = ls at hl ⊢
  have hl : lv_has ls 2 [(0, .ref a), (1, .int x)] := hl
  refine lv_aload_n hx hb d_A_ranked_0 rfl (lv_at hl 0 rfl) ?_
  refine va_get (D := D) (ci := 0) (v := .ref g) (C := R_A) (T := F_A) (N := 4) hx hb hB in_A hown hK hP 0 rfl rfl 1 (by decide) (hB _ mf_A_19) (fun _ h9 => h9) rfl d_A_ranked_1 ?_
  refine lv_aload_n hx hb d_A_ranked_4 rfl (lv_at hl 0 rfl) ?_
  refine va_get (D := D) (ci := 0) (v := .ref w) (C := R_A) (T := F_A) (N := 4) hx hb hB in_A hown hK hP 0 rfl rfl 0 (by decide) (hB _ mf_A_10) (fun _ h9 => h9) rfl d_A_ranked_5 ?_
  refine xw_v (wc := [(g, .inr (2, [.ref g0, .ref g1, .ref g2, .ref g3, .ref g4, .ref g5, .int gc])), (g0, .inl (k0, 16, .inl rE)), (g1, .inl (k1, 16, .inl nM)), (g2, .inl (k2, 16, .inl lD)), (g3, .inl (k3, 16, .inl bF)), (g4, .inl (k4, 16, .inl oR)), (g5, .inl (k5, 16, .inl cH)), (w, .inr (1, [.ref hd, .int ct])), (hd, .inl (cA, 16, .inl h))]) (wr := [(a, .inr (0, [.ref w, .ref g, .ref yw, .ref f]))]) (w1 := [(g, .inr (2, [.ref g0, .ref g1, .ref g2, .ref g3, .ref g4, .ref g5, .int (nI (cq (fun v9 => decide (lwN (RE h) v9 = v9)) 16))])), (g0, .inl (k0, 16, .inl (RE h))), (g1, .inl (k1, 16, .inl (fun k => nI (lwN (RE h) k)))), (g2, .inl (k2, 16, .inl (LTp h (lwN (RE h)) 16 0))), (g3, .inl (k3, 16, .inl (BFp h (lwN (RE h)) 16 0))), (g4, .inl (k4, 16, .inl (fun k => if k < (cq (fun v9 => decide (lwN (RE h) v9 = v9)) 16) then nI (nxF (fun k => nI (lwN (RE h) k)) (BFp h (lwN (RE h)) 16 0) (plF (fun k => nI (lwN (RE h) k)) (BFp h (lwN (RE h)) 16 0) k)) else oR k))), (g5, .inl (k5, 16, .inl cH)), (w, .inr (1, [.ref hd, .int ct])), (hd, .inl (cA, 16, .inl h))]) (va_runV (As := [.ref w]) (rest := []) ⟨hx, hb, hml, hown, hB⟩ (k_Gr_read l D g g0 g1 g2 g3 g4 g5 k0 k1 k2 k3 k4 k5 gc rE nM lD bF oR cH w hd cA ct h hg _) ⟨callB_of 1 hB (xg0 mc_Gr_read) rfl rfl rfl (hB _ mz_Gr) (hB _ ml_A_74) (by decide +kernel) ⟨Nat.le_of_ble_eq_true rfl, Nat.le_of_ble_eq_true rfl⟩, hB _ mi_Gr_read, hB _ me_Gr_read⟩ (xqV (ws := [(g, .inr (2, [.ref g0, .ref g1, .ref g2, .ref g3, .ref g4, .ref g5, .int gc])), (g0, .inl (k0, 16, .inl rE)), (g1, .inl (k1, 16, .inl nM)), (g2, .inl (k2, 16, .inl lD)), (g3, .inl (k3, 16, .inl bF)), (g4, .inl (k4, 16, .inl oR)), (g5, .inl (k5, 16, .inl cH)), (w, .inr (1, [.ref hd, .int ct])), (hd, .inl (cA, 16, .inl h))]) (tys := [(k0, .int), (k1, .int), (k2, .int), (k3, .int), (k4, .int), (k5, .int), (cA, .int)]) (hP.sub [3, 4, 5, 6, 7, 8, 9, 1, 2] rfl) (hD.sub [3, 4, 5, 6, 7, 8, 9, 1, 2] (by decide) rfl) (hK.sub [1, 2, 3, 4, 5, 6, 0] rfl) hN (va_recv (ci := 2) (q0 := 3) (q := (R_Gr, F_Gr, 7)) hK hP rfl rfl)) rfl rfl hl.1 rfl (lv_room (Nat.le_of_ble_eq_true rfl)) d_A_ranked_8 ⟨Nat.le_of_ble_eq_true rfl, Nat.le_of_ble_eq_true rfl⟩) hP hD hS hA [3, 4, 5, 6, 7, 8, 9, 1, 2] [0] rfl rfl (by decide) (by decide) (fun H locs hP hD hS => ?_)
  have hP : va_P D cls [(a, .inr (0, [.ref w, .ref g, .ref yw, .ref f])), (g, .inr (2, [.ref g0, .ref g1, .ref g2, .ref g3, .ref g4, .ref g5, .int (nI (cq (fun v9 => decide (lwN (RE h) v9 = v9)) 16))])), (g0, .inl (k0, 16, .inl (RE h))), (g1, .inl (k1, 16, .inl (fun k => nI (lwN (RE h) k)))), (g2, .inl (k2, 16, .inl (LTp h (lwN (RE h)) 16 0))), (g3, .inl (k3, 16, .inl (BFp h (lwN (RE h)) 16 0))), (g4, .inl (k4, 16, .inl (fun k => if k < (cq (fun v9 => decide (lwN (RE h) v9 = v9)) 16) then nI (nxF (fun k => nI (lwN (RE h) k)) (BFp h (lwN (RE h)) 16 0) (plF (fun k => nI (lwN (RE h) k)) (BFp h (lwN (RE h)) 16 0) k)) else oR k))), (g5, .inl (k5, 16, .inl cH)), (w, .inr (1, [.ref hd, .int ct])), (hd, .inl (cA, 16, .inl h))] H := hP
  have hD : va_D A [(a, .inr (0, [.ref w, .ref g, .ref yw, .ref f])), (g, .inr (2, [.ref g0, .ref g1, .ref g2, .ref g3, .ref g4, .ref g5, .int (nI (cq (fun v9 => decide (lwN (RE h) v9 = v9)) 16))])), (g0, .inl (k0, 16, .inl (RE h))), (g1, .inl (k1, 16, .inl (fun k => nI (lwN (RE h) k)))), (g2, .inl (k2, 16, .inl (LTp h (lwN (RE h)) 16 0))), (g3, .inl (k3, 16, .inl (BFp h (lwN (RE h)) 16 0))), (g4, .inl (k4, 16, .inl (fun k => if k < (cq (fun v9 => decide (lwN (RE h) v9 = v9)) 16) then nI (nxF (fun k => nI (lwN (RE h) k)) (BFp h (lwN (RE h)) 16 0) (plF (fun k => nI (lwN (RE h) k)) (BFp h (lwN (RE h)) 16 0) k)) else oR k))), (g5, .inl (k5, 16, .inl cH)), (w, .inr (1, [.ref hd, .int ct])), (hd, .inl (cA, 16, .inl h))] := hD
  refine lv_iload_n hx hb d_A_ranked_11 rfl (lv_at hl 1 rfl) ?_
  refine lv_if_lt (tgt := 26) hx hb d_A_ranked_12 rfl (fun hc12 => ?_) (fun hc12 => ?_)
  · have hP9 := hP.sub (ws' := [(a, .inr (0, [.ref w, .ref g, .ref yw, .ref f])), (w, .inr (1, [.ref hd, .int ct])), (hd, .inl (cA, 16, .inl h)), (g, .inr (2, [.ref g0, .ref g1, .ref g2, .ref g3, .ref g4, .ref g5, .int (nI (cq (fun v9 => decide (lwN (RE h) v9 = v9)) 16))])), (g0, .inl (k0, 16, .inl (RE h))), (g1, .inl (k1, 16, .inl (fun k => nI (lwN (RE h) k)))), (g2, .inl (k2, 16, .inl (LTp h (lwN (RE h)) 16 0))), (g3, .inl (k3, 16, .inl (BFp h (lwN (RE h)) 16 0))), (g4, .inl (k4, 16, .inl (fun k => if k < (cq (fun v9 => decide (lwN (RE h) v9 = v9)) 16) then nI (nxF (fun k => nI (lwN (RE h) k)) (BFp h (lwN (RE h)) 16 0) (plF (fun k => nI (lwN (RE h) k)) (BFp h (lwN (RE h)) 16 0) k)) else oR k))), (g5, .inl (k5, 16, .inl cH))]) [0, 8, 9, 1, 2, 3, 4, 5, 6, 7] rfl
    subst hAe
    exact vx_throwS hx hb hlt (cls := eIO) (names := eUp) (ik := 89) (is := 91) (ic := 93) hown eIO_fit eUp_fit (xat_use hat (ATS_k (k := 4) rfl)) (xat_use hat (ATS_k (k := 5) rfl)) hs4 (fun w hw => xat_use hat (ATS_3 w hw)) ATS_g3 hz.1 hz.2 hS (hl.1.trans hml.symm) d_A_ranked_26 d_A_ranked_29 d_A_ranked_30 d_A_ranked_32 d_A_ranked_35 (fun x hx => (hnt x hx).elim) (by decide) (by decide) (by decide) (by decide) hlocks (fun t _ ht2 ht3 => xX_mk hS hP9 ht2 ht3) hS.2.2 (Nat.le_refl _) (Nat.le_refl _)
  · refine lv_iload_n hx hb d_A_ranked_15 rfl (lv_at hl 1 rfl) ?_
    refine lv_aload_n hx hb d_A_ranked_16 rfl (lv_at hl 0 rfl) ?_
    refine va_get (D := D) (ci := 0) (v := .ref g) (C := R_A) (T := F_A) (N := 4) hx hb hB in_A hown hK hP 0 rfl rfl 1 (by decide) (hB _ mf_A_19) (fun _ h9 => h9) rfl d_A_ranked_17 ?_
    refine xr_cal (va_runV (As := []) (rest := [.int x]) ⟨hx, hb, hml, hown, hB⟩ (k_Gr_count l D g g0 g1 g2 g3 g4 g5 k0 k1 k2 k3 k4 k5 (nI (cq (fun v9 => decide (lwN (RE h) v9 = v9)) 16)) (RE h) (fun k => nI (lwN (RE h) k)) (LTp h (lwN (RE h)) 16 0) (BFp h (lwN (RE h)) 16 0) (fun k => if k < (cq (fun v9 => decide (lwN (RE h) v9 = v9)) 16) then nI (nxF (fun k => nI (lwN (RE h) k)) (BFp h (lwN (RE h)) 16 0) (plF (fun k => nI (lwN (RE h) k)) (BFp h (lwN (RE h)) 16 0) k)) else oR k) cH ) ⟨callB_of 0 hB (xg0 mc_Gr_count) rfl rfl rfl (hB _ mz_Gr) (hB _ ml_A_88) (by decide +kernel) ⟨Nat.le_of_ble_eq_true rfl, Nat.le_of_ble_eq_true rfl⟩, hB _ mi_Gr_count, hB _ me_Gr_count⟩ (xpV (ws := [(g, .inr (2, [.ref g0, .ref g1, .ref g2, .ref g3, .ref g4, .ref g5, .int (nI (cq (fun v9 => decide (lwN (RE h) v9 = v9)) 16))])), (g0, .inl (k0, 16, .inl (RE h))), (g1, .inl (k1, 16, .inl (fun k => nI (lwN (RE h) k)))), (g2, .inl (k2, 16, .inl (LTp h (lwN (RE h)) 16 0))), (g3, .inl (k3, 16, .inl (BFp h (lwN (RE h)) 16 0))), (g4, .inl (k4, 16, .inl (fun k => if k < (cq (fun v9 => decide (lwN (RE h) v9 = v9)) 16) then nI (nxF (fun k => nI (lwN (RE h) k)) (BFp h (lwN (RE h)) 16 0) (plF (fun k => nI (lwN (RE h) k)) (BFp h (lwN (RE h)) 16 0) k)) else oR k))), (g5, .inl (k5, 16, .inl cH))]) (tys := [(k0, .int), (k1, .int), (k2, .int), (k3, .int), (k4, .int), (k5, .int)]) (hP.sub [1, 2, 3, 4, 5, 6, 7] rfl) (hK.sub [1, 2, 3, 4, 5, 6] rfl) hN (va_recv (ci := 2) (q0 := 1) (q := (R_Gr, F_Gr, 7)) hK hP rfl rfl)) rfl rfl hl.1 rfl (lv_room (Nat.le_of_ble_eq_true rfl)) d_A_ranked_20 ⟨Nat.le_of_ble_eq_true rfl, Nat.le_of_ble_eq_true rfl⟩) ?_
    refine lv_icmp_lt (tgt := 36) hx hb d_A_ranked_23 rfl (fun hc23 => ?_) (fun hc23 => ?_)
    · exact (hb9.elim (fun q9 => absurd q9 hc12) (fun q9 => absurd hc23 q9))
    · have hP9 := hP.sub (ws' := [(a, .inr (0, [.ref w, .ref g, .ref yw, .ref f])), (w, .inr (1, [.ref hd, .int ct])), (hd, .inl (cA, 16, .inl h)), (g, .inr (2, [.ref g0, .ref g1, .ref g2, .ref g3, .ref g4, .ref g5, .int (nI (cq (fun v9 => decide (lwN (RE h) v9 = v9)) 16))])), (g0, .inl (k0, 16, .inl (RE h))), (g1, .inl (k1, 16, .inl (fun k => nI (lwN (RE h) k)))), (g2, .inl (k2, 16, .inl (LTp h (lwN (RE h)) 16 0))), (g3, .inl (k3, 16, .inl (BFp h (lwN (RE h)) 16 0))), (g4, .inl (k4, 16, .inl (fun k => if k < (cq (fun v9 => decide (lwN (RE h) v9 = v9)) 16) then nI (nxF (fun k => nI (lwN (RE h) k)) (BFp h (lwN (RE h)) 16 0) (plF (fun k => nI (lwN (RE h) k)) (BFp h (lwN (RE h)) 16 0) k)) else oR k))), (g5, .inl (k5, 16, .inl cH))]) [0, 8, 9, 1, 2, 3, 4, 5, 6, 7] rfl
      subst hAe
      exact vx_throwS hx hb hlt (cls := eIO) (names := eUp) (ik := 89) (is := 91) (ic := 93) hown eIO_fit eUp_fit (xat_use hat (ATS_k (k := 4) rfl)) (xat_use hat (ATS_k (k := 5) rfl)) hs4 (fun w hw => xat_use hat (ATS_3 w hw)) ATS_g3 hz.1 hz.2 hS (hl.1.trans hml.symm) d_A_ranked_26 d_A_ranked_29 d_A_ranked_30 d_A_ranked_32 d_A_ranked_35 (fun x hx => (hnt x hx).elim) (by decide) (by decide) (by decide) (by decide) hlocks (fun t _ ht2 ht3 => xX_mk hS hP9 ht2 ht3) hS.2.2 (Nat.le_refl _) (Nat.le_refl _)
set_option maxHeartbeats 4000000 in
set_option maxRecDepth 100000 in
theorem t_A_way_out (l : Launch) (hlt : l.stackTraces = false) (D : va_G) (a w g yw f : Nat)  (hd : Nat) (cA : ClassId) (ct : Int32) (h : Nat → Int32) (la : Nat) (cL : ClassId) (lf : Nat → Int32) (u v : Nat) (hu : u < 16) (hv : v < 16) (z : Int32) (n : Nat) (hn : n < 16) (hd9 : DS h u v = nI n) (hz9 : z < 0 ∨ ¬ z ≤ nI n) (sz : Nat) : vx_Met l y_A_way (Cond.code y_A_way c_A_way 5 (some .int) :: BS) { frames := 6, cells := 1, slots := 6, locals := 82 } (va_Pc [.ref a, .int (nI u), .int (nI v), .int z] (xWt D [(a, .inr (0, [.ref w, .ref g, .ref yw, .ref f])), (w, .inr (1, [.ref hd, .int ct])), (hd, .inl (cA, 16, .inl h)), (yw, .inr (3, [.ref la])), (la, .inl (cL, 16, .inl lf))] [(cA, .int), (cL, .int)] sz)) (fun _ _ _ _ => False) (xXw eIO D [(a, .inr (0, [.ref w, .ref g, .ref yw, .ref f])), (w, .inr (1, [.ref hd, .int ct])), (hd, .inl (cA, 16, .inl h)), (yw, .inr (3, [.ref la])), (la, .inl (cL, 16, .inl (ly h v)))] (va_A [(a, .inr (0, [.ref w, .ref g, .ref yw, .ref f])), (w, .inr (1, [.ref hd, .int ct])), (hd, .inl (cA, 16, .inl h)), (yw, .inr (3, [.ref la])), (la, .inl (cL, 16, .inl lf))] sz)) 1 6 (va_A [(a, .inr (0, [.ref w, .ref g, .ref yw, .ref f])), (w, .inr (1, [.ref hd, .int ct])), (hd, .inl (cA, 16, .inl h)), (yw, .inr (3, [.ref la])), (la, .inl (cL, 16, .inl lf))] sz) := by
  refine vx_ofW (cc := c_A_way) (maxL := 5) (ret := (some .int)) (by decide) rfl ?_
  intro p e s m args below meth c s₁ B hml hnt hv
  obtain ⟨rfl, ⟨hsz, hP, hK, hD0, hN⟩, -, hz0, hsr, hat⟩ := hv
  obtain ⟨⟨q1, hs1⟩, ⟨q2, hs2⟩, ⟨q3, hs3⟩, ⟨q4, hs4⟩, ⟨q5, hs5⟩, ⟨q6, hs6⟩, ⟨q7, hs7⟩⟩ := hsr
  have hx := B.exec
  have hb := B.bytes
  have hB := xB B.pre
  have hown : s.vm.findClass R_A = some m.cls := findClass_of_methodNamed B.named
  have hlocks := B.notSynchronized
  subst hsz
  have hD := hD0.self (sz := s.heap.size)
  have hz := xz_up hP hz0
  obtain ⟨A, hAe⟩ : ∃ A, A = va_A [(a, .inr (0, [.ref w, .ref g, .ref yw, .ref f])), (w, .inr (1, [.ref hd, .int ct])), (hd, .inl (cA, 16, .inl h)), (yw, .inr (3, [.ref la])), (la, .inl (cL, 16, .inl lf))] s.heap.size := ⟨_, rfl⟩
  rw [← hAe] at hD hz
  have hA : ∀ q : Nat, s.heap.size ≤ q → A q := fun q h => by rw [hAe]; exact Or.inr h
  have hS : va_S A s.heap s.heap [] := va_S.rf
  have hl := lv_entry ([.ref a, .int (nI u), .int (nI v), .int z]) (n := 5) (Nat.le_of_ble_eq_true rfl)
  rw [lg_entry_eq]
  generalize (lg_sl ([.ref a, .int (nI u), .int (nI v), .int z]) ++ List.replicate (5 - (lg_sl ([.ref a, .int (nI u), .int (nI v), .int z])).length) Slot.unset).toArray = ls at hl ⊢
  have hl : lv_has ls 5 [(0, .ref a), (1, .int (nI u)), (2, .int (nI v)), (3, .int z)] := hl
  refine lv_iload_n hx hb d_A_way_0 rfl (lv_at hl 1 rfl) ?_
  refine lv_iload_n hx hb d_A_way_1 rfl (lv_at hl 2 rfl) ?_
  refine xr_v (va_runS (As := [.int (nI u), .int (nI v)]) (rest := []) ⟨hx, hb, hml, hown, hB⟩ (k_A_requirePlaces l (nI u) (nI v) (isP2 (by omega) (by omega))) ⟨callB_of 2 hB (xg0 mc_A_requirePlaces) rfl rfl rfl (hB _ mz_A) (hB _ ml_A_37) (by decide +kernel) ⟨Nat.le_of_ble_eq_true rfl, Nat.le_of_ble_eq_true rfl⟩, hB _ ms_A_requirePlaces⟩ xTT_pre rfl rfl hl.1 rfl (lv_room (Nat.le_of_ble_eq_true rfl)) d_A_way_2 ⟨Nat.le_of_ble_eq_true rfl, Nat.le_of_ble_eq_true rfl⟩) ?_
  refine lv_aload_n hx hb d_A_way_5 rfl (lv_at hl 0 rfl) ?_
  refine va_get (D := D) (ci := 0) (v := .ref yw) (C := R_A) (T := F_A) (N := 4) hx hb hB in_A hown hK hP 0 rfl rfl 2 (by decide) (hB _ mf_A_26) (fun _ h9 => h9) rfl d_A_way_6 ?_
  refine lv_iload_n hx hb d_A_way_9 rfl (lv_at hl 2 rfl) ?_
  refine lv_aload_n hx hb d_A_way_10 rfl (lv_at hl 0 rfl) ?_
  refine va_get (D := D) (ci := 0) (v := .ref w) (C := R_A) (T := F_A) (N := 4) hx hb hB in_A hown hK hP 0 rfl rfl 0 (by decide) (hB _ mf_A_10) (fun _ h9 => h9) rfl d_A_way_11 ?_
  refine xw_v (wc := [(yw, .inr (3, [.ref la])), (la, .inl (cL, 16, .inl lf)), (w, .inr (1, [.ref hd, .int ct])), (hd, .inl (cA, 16, .inl h))]) (wr := [(a, .inr (0, [.ref w, .ref g, .ref yw, .ref f]))]) (w1 := [(yw, .inr (3, [.ref la])), (la, .inl (cL, 16, .inl (ly h v))), (w, .inr (1, [.ref hd, .int ct])), (hd, .inl (cA, 16, .inl h))]) (va_runV (As := [.int (nI v), .ref w]) (rest := []) ⟨hx, hb, hml, hown, hB⟩ (k_Wy_readTo l D yw la cL lf w hd cA ct h v (by omega) _) ⟨callB_of 2 hB (xg0 mc_Wy_readTo) rfl rfl rfl (hB _ mz_Wy) (hB _ ml_A_107) (by decide +kernel) ⟨Nat.le_of_ble_eq_true rfl, Nat.le_of_ble_eq_true rfl⟩, hB _ mi_Wy_readTo, hB _ me_Wy_readTo⟩ (xqV (ws := [(yw, .inr (3, [.ref la])), (la, .inl (cL, 16, .inl lf)), (w, .inr (1, [.ref hd, .int ct])), (hd, .inl (cA, 16, .inl h))]) (tys := [(cL, .int), (cA, .int)]) (hP.sub [3, 4, 1, 2] rfl) (hD.sub [3, 4, 1, 2] (by decide) rfl) (hK.sub [1, 0] rfl) hN (va_recv (ci := 3) (q0 := 3) (q := (R_Wy, F_Wy, 1)) hK hP rfl rfl)) rfl rfl hl.1 rfl (lv_room (Nat.le_of_ble_eq_true rfl)) d_A_way_14 ⟨Nat.le_of_ble_eq_true rfl, Nat.le_of_ble_eq_true rfl⟩) hP hD hS hA [3, 4, 1, 2] [0] rfl rfl (by decide) (by decide) (fun H locs hP hD hS => ?_)
  have hP : va_P D cls [(a, .inr (0, [.ref w, .ref g, .ref yw, .ref f])), (yw, .inr (3, [.ref la])), (la, .inl (cL, 16, .inl (ly h v))), (w, .inr (1, [.ref hd, .int ct])), (hd, .inl (cA, 16, .inl h))] H := hP
  have hD : va_D A [(a, .inr (0, [.ref w, .ref g, .ref yw, .ref f])), (yw, .inr (3, [.ref la])), (la, .inl (cL, 16, .inl (ly h v))), (w, .inr (1, [.ref hd, .int ct])), (hd, .inl (cA, 16, .inl h))] := hD
  refine lv_aload_n hx hb d_A_way_17 rfl (lv_at hl 0 rfl) ?_
  refine va_get (D := D) (ci := 0) (v := .ref yw) (C := R_A) (T := F_A) (N := 4) hx hb hB in_A hown hK hP 0 rfl rfl 2 (by decide) (hB _ mf_A_26) (fun _ h9 => h9) rfl d_A_way_18 ?_
  refine lv_iload_n hx hb d_A_way_21 rfl (lv_at hl 1 rfl) ?_
  refine xr_cal (va_runV (As := [.int (nI u)]) (rest := []) ⟨hx, hb, hml, hown, hB⟩ (k_Wy_lengthFrom l D yw la cL (ly h v) u (by omega)) ⟨callB_of 1 hB (xg0 mc_Wy_lengthFrom) rfl rfl rfl (hB _ mz_Wy) (hB _ ml_A_111) (by decide +kernel) ⟨Nat.le_of_ble_eq_true rfl, Nat.le_of_ble_eq_true rfl⟩, hB _ mi_Wy_lengthFrom, hB _ me_Wy_lengthFrom⟩ (xpV (ws := [(yw, .inr (3, [.ref la])), (la, .inl (cL, 16, .inl (ly h v)))]) (tys := [(cL, .int)]) (hP.sub [1, 2] rfl) (hK.sub [1] rfl) hN (va_recv (ci := 3) (q0 := 1) (q := (R_Wy, F_Wy, 1)) hK hP rfl rfl)) rfl rfl hl.1 rfl (lv_room (Nat.le_of_ble_eq_true rfl)) d_A_way_22 ⟨Nat.le_of_ble_eq_true rfl, Nat.le_of_ble_eq_true rfl⟩) ?_
  refine xv_top (x' := nI n) (hd9) ?_
  refine lv_istore hx hb d_A_way_25 hl (by decide) rfl (fun ls hl => ?_)
  have hl : lv_has ls 5 [(4, .int (nI n)), (0, .ref a), (1, .int (nI u)), (2, .int (nI v)), (3, .int z)] := hl
  refine lv_iload hx hb d_A_way_27 (lv_at hl 0 rfl) ?_
  refine lv_iconst (v := -1) hx hb d_A_way_29 (by decide) ?_
  refine lv_icmp_ne (tgt := 43) hx hb d_A_way_30 rfl (fun hc30 => ?_) (fun hc30 => ?_)
  · refine lv_iload_n hx hb d_A_way_43 rfl (lv_at hl 4 rfl) ?_
    refine lv_if_lt (tgt := 53) hx hb d_A_way_44 rfl (fun hc44 => ?_) (fun hc44 => ?_)
    · have hP9 := hP.sub (ws' := [(a, .inr (0, [.ref w, .ref g, .ref yw, .ref f])), (w, .inr (1, [.ref hd, .int ct])), (hd, .inl (cA, 16, .inl h)), (yw, .inr (3, [.ref la])), (la, .inl (cL, 16, .inl (ly h v)))]) [0, 3, 4, 1, 2] rfl
      subst hAe
      exact vx_throwS hx hb hlt (cls := eIO) (names := eUp) (ik := 89) (is := 119) (ic := 93) hown eIO_fit eUp_fit (xat_use hat (ATS_k (k := 4) rfl)) (xat_use hat (ATS_k (k := 5) rfl)) hs6 (fun w hw => xat_use hat (ATS_3 w hw)) ATS_g3 hz.1 hz.2 hS (hl.1.trans hml.symm) d_A_way_53 d_A_way_56 d_A_way_57 d_A_way_59 d_A_way_62 (fun x hx => (hnt x hx).elim) (by decide) (by decide) (by decide) (by decide) hlocks (fun t _ ht2 ht3 => xX_mk hS hP9 ht2 ht3) hS.2.2 (Nat.le_refl _) (Nat.le_refl _)
    · refine lv_iload_n hx hb d_A_way_47 rfl (lv_at hl 4 rfl) ?_
      refine lv_iload hx hb d_A_way_48 (lv_at hl 0 rfl) ?_
      refine lv_icmp_le (tgt := 63) hx hb d_A_way_50 rfl (fun hc50 => ?_) (fun hc50 => ?_)
      · exact (hz9.elim (fun q9 => absurd q9 hc44) (fun q9 => absurd hc50 q9))
      · have hP9 := hP.sub (ws' := [(a, .inr (0, [.ref w, .ref g, .ref yw, .ref f])), (w, .inr (1, [.ref hd, .int ct])), (hd, .inl (cA, 16, .inl h)), (yw, .inr (3, [.ref la])), (la, .inl (cL, 16, .inl (ly h v)))]) [0, 3, 4, 1, 2] rfl
        subst hAe
        exact vx_throwS hx hb hlt (cls := eIO) (names := eUp) (ik := 89) (is := 119) (ic := 93) hown eIO_fit eUp_fit (xat_use hat (ATS_k (k := 4) rfl)) (xat_use hat (ATS_k (k := 5) rfl)) hs6 (fun w hw => xat_use hat (ATS_3 w hw)) ATS_g3 hz.1 hz.2 hS (hl.1.trans hml.symm) d_A_way_53 d_A_way_56 d_A_way_57 d_A_way_59 d_A_way_62 (fun x hx => (hnt x hx).elim) (by decide) (by decide) (by decide) (by decide) hlocks (fun t _ ht2 ht3 => xX_mk hS hP9 ht2 ht3) hS.2.2 (Nat.le_refl _) (Nat.le_refl _)
  · exact absurd hc30 (by intro q9; exact (oI_32 n (by omega)).1 (by rw [q9]; decide))
set_option maxHeartbeats 4000000 in
set_option maxRecDepth 100000 in
theorem k_A_way_ok (l : Launch) (D : va_G) (a w g yw f : Nat)  (hd : Nat) (cA : ClassId) (ct : Int32) (h : Nat → Int32) (la : Nat) (cL : ClassId) (lf : Nat → Int32) (u v : Nat) (hu : u < 16) (hv : v < 16) (n i9 : Nat) (hn : n < 16) (hi9 : i9 ≤ n) (hd9 : DS h u v = nI n) (sz : Nat) : Met l y_A_way (Cond.code y_A_way c_A_way 5 (some .int) :: BS) { frames := 3, cells := 0, slots := 0, locals := 68 } (va_Pc [.ref a, .int (nI u), .int (nI v), .int (nI i9)] (xWp D [(a, .inr (0, [.ref w, .ref g, .ref yw, .ref f])), (w, .inr (1, [.ref hd, .int ct])), (hd, .inl (cA, 16, .inl h)), (yw, .inr (3, [.ref la])), (la, .inl (cL, 16, .inl lf))] [(cA, .int), (cL, .int)] sz)) (xQi D [(a, .inr (0, [.ref w, .ref g, .ref yw, .ref f])), (w, .inr (1, [.ref hd, .int ct])), (hd, .inl (cA, 16, .inl h)), (yw, .inr (3, [.ref la])), (la, .inl (cL, 16, .inl lf))] [(a, .inr (0, [.ref w, .ref g, .ref yw, .ref f])), (w, .inr (1, [.ref hd, .int ct])), (hd, .inl (cA, 16, .inl h)), (yw, .inr (3, [.ref la])), (la, .inl (cL, 16, .inl (ly h v)))] [(cA, .int), (cL, .int)] sz (nI (pw h (ly h v) n u i9))) 0 0 (va_A [(a, .inr (0, [.ref w, .ref g, .ref yw, .ref f])), (w, .inr (1, [.ref hd, .int ct])), (hd, .inl (cA, 16, .inl h)), (yw, .inr (3, [.ref la])), (la, .inl (cL, 16, .inl lf))] sz) := by
  refine Met.ofW (cc := c_A_way) (maxL := 5) (ret := (some .int)) (by decide) rfl ?_
  intro p e s m args below meth c s₁ B hml hv
  obtain ⟨rfl, hsz, hP, hK, hD0, hN⟩ := hv
  have hx := B.exec
  have hb := B.bytes
  have hr := B.returns
  have hB := xB B.pre
  have hown : s.vm.findClass R_A = some m.cls := findClass_of_methodNamed B.named
  have hlocks := B.notSynchronized
  subst hsz
  have hD := hD0.self (sz := s.heap.size)
  obtain ⟨A, hAe⟩ : ∃ A, A = va_A [(a, .inr (0, [.ref w, .ref g, .ref yw, .ref f])), (w, .inr (1, [.ref hd, .int ct])), (hd, .inl (cA, 16, .inl h)), (yw, .inr (3, [.ref la])), (la, .inl (cL, 16, .inl lf))] s.heap.size := ⟨_, rfl⟩
  rw [← hAe] at hD
  have hA : ∀ q : Nat, s.heap.size ≤ q → A q := fun q h => by rw [hAe]; exact Or.inr h
  have hS : va_S A s.heap s.heap [] := va_S.rf
  have hl := lv_entry ([.ref a, .int (nI u), .int (nI v), .int (nI i9)]) (n := 5) (Nat.le_of_ble_eq_true rfl)
  rw [lg_entry_eq]
  generalize (lg_sl ([.ref a, .int (nI u), .int (nI v), .int (nI i9)]) ++ List.replicate (5 - (lg_sl ([.ref a, .int (nI u), .int (nI v), .int (nI i9)])).length) Slot.unset).toArray = ls at hl ⊢
  have hl : lv_has ls 5 [(0, .ref a), (1, .int (nI u)), (2, .int (nI v)), (3, .int (nI i9))] := hl
  refine lv_iload_n hx hb d_A_way_0 rfl (lv_at hl 1 rfl) ?_
  refine lv_iload_n hx hb d_A_way_1 rfl (lv_at hl 2 rfl) ?_
  refine xr_v (va_runS (As := [.int (nI u), .int (nI v)]) (rest := []) ⟨hx, hb, hml, hown, hB⟩ (k_A_requirePlaces l (nI u) (nI v) (isP2 (by omega) (by omega))) ⟨callB_of 2 hB (xg0 mc_A_requirePlaces) rfl rfl rfl (hB _ mz_A) (hB _ ml_A_37) (by decide +kernel) ⟨Nat.le_of_ble_eq_true rfl, Nat.le_of_ble_eq_true rfl⟩, hB _ ms_A_requirePlaces⟩ xTT_pre rfl rfl hl.1 rfl (lv_room (Nat.le_of_ble_eq_true rfl)) d_A_way_2 ⟨Nat.le_of_ble_eq_true rfl, Nat.le_of_ble_eq_true rfl⟩) ?_
  refine lv_aload_n hx hb d_A_way_5 rfl (lv_at hl 0 rfl) ?_
  refine va_get (D := D) (ci := 0) (v := .ref yw) (C := R_A) (T := F_A) (N := 4) hx hb hB in_A hown hK hP 0 rfl rfl 2 (by decide) (hB _ mf_A_26) (fun _ h9 => h9) rfl d_A_way_6 ?_
  refine lv_iload_n hx hb d_A_way_9 rfl (lv_at hl 2 rfl) ?_
  refine lv_aload_n hx hb d_A_way_10 rfl (lv_at hl 0 rfl) ?_
  refine va_get (D := D) (ci := 0) (v := .ref w) (C := R_A) (T := F_A) (N := 4) hx hb hB in_A hown hK hP 0 rfl rfl 0 (by decide) (hB _ mf_A_10) (fun _ h9 => h9) rfl d_A_way_11 ?_
  refine xw_v (wc := [(yw, .inr (3, [.ref la])), (la, .inl (cL, 16, .inl lf)), (w, .inr (1, [.ref hd, .int ct])), (hd, .inl (cA, 16, .inl h))]) (wr := [(a, .inr (0, [.ref w, .ref g, .ref yw, .ref f]))]) (w1 := [(yw, .inr (3, [.ref la])), (la, .inl (cL, 16, .inl (ly h v))), (w, .inr (1, [.ref hd, .int ct])), (hd, .inl (cA, 16, .inl h))]) (va_runV (As := [.int (nI v), .ref w]) (rest := []) ⟨hx, hb, hml, hown, hB⟩ (k_Wy_readTo l D yw la cL lf w hd cA ct h v (by omega) _) ⟨callB_of 2 hB (xg0 mc_Wy_readTo) rfl rfl rfl (hB _ mz_Wy) (hB _ ml_A_107) (by decide +kernel) ⟨Nat.le_of_ble_eq_true rfl, Nat.le_of_ble_eq_true rfl⟩, hB _ mi_Wy_readTo, hB _ me_Wy_readTo⟩ (xqV (ws := [(yw, .inr (3, [.ref la])), (la, .inl (cL, 16, .inl lf)), (w, .inr (1, [.ref hd, .int ct])), (hd, .inl (cA, 16, .inl h))]) (tys := [(cL, .int), (cA, .int)]) (hP.sub [3, 4, 1, 2] rfl) (hD.sub [3, 4, 1, 2] (by decide) rfl) (hK.sub [1, 0] rfl) hN (va_recv (ci := 3) (q0 := 3) (q := (R_Wy, F_Wy, 1)) hK hP rfl rfl)) rfl rfl hl.1 rfl (lv_room (Nat.le_of_ble_eq_true rfl)) d_A_way_14 ⟨Nat.le_of_ble_eq_true rfl, Nat.le_of_ble_eq_true rfl⟩) hP hD hS hA [3, 4, 1, 2] [0] rfl rfl (by decide) (by decide) (fun H locs hP hD hS => ?_)
  have hP : va_P D cls [(a, .inr (0, [.ref w, .ref g, .ref yw, .ref f])), (yw, .inr (3, [.ref la])), (la, .inl (cL, 16, .inl (ly h v))), (w, .inr (1, [.ref hd, .int ct])), (hd, .inl (cA, 16, .inl h))] H := hP
  have hD : va_D A [(a, .inr (0, [.ref w, .ref g, .ref yw, .ref f])), (yw, .inr (3, [.ref la])), (la, .inl (cL, 16, .inl (ly h v))), (w, .inr (1, [.ref hd, .int ct])), (hd, .inl (cA, 16, .inl h))] := hD
  refine lv_aload_n hx hb d_A_way_17 rfl (lv_at hl 0 rfl) ?_
  refine va_get (D := D) (ci := 0) (v := .ref yw) (C := R_A) (T := F_A) (N := 4) hx hb hB in_A hown hK hP 0 rfl rfl 2 (by decide) (hB _ mf_A_26) (fun _ h9 => h9) rfl d_A_way_18 ?_
  refine lv_iload_n hx hb d_A_way_21 rfl (lv_at hl 1 rfl) ?_
  refine xr_cal (va_runV (As := [.int (nI u)]) (rest := []) ⟨hx, hb, hml, hown, hB⟩ (k_Wy_lengthFrom l D yw la cL (ly h v) u (by omega)) ⟨callB_of 1 hB (xg0 mc_Wy_lengthFrom) rfl rfl rfl (hB _ mz_Wy) (hB _ ml_A_111) (by decide +kernel) ⟨Nat.le_of_ble_eq_true rfl, Nat.le_of_ble_eq_true rfl⟩, hB _ mi_Wy_lengthFrom, hB _ me_Wy_lengthFrom⟩ (xpV (ws := [(yw, .inr (3, [.ref la])), (la, .inl (cL, 16, .inl (ly h v)))]) (tys := [(cL, .int)]) (hP.sub [1, 2] rfl) (hK.sub [1] rfl) hN (va_recv (ci := 3) (q0 := 1) (q := (R_Wy, F_Wy, 1)) hK hP rfl rfl)) rfl rfl hl.1 rfl (lv_room (Nat.le_of_ble_eq_true rfl)) d_A_way_22 ⟨Nat.le_of_ble_eq_true rfl, Nat.le_of_ble_eq_true rfl⟩) ?_
  refine xv_top (x' := nI n) (hd9) ?_
  refine lv_istore hx hb d_A_way_25 hl (by decide) rfl (fun ls hl => ?_)
  have hl : lv_has ls 5 [(4, .int (nI n)), (0, .ref a), (1, .int (nI u)), (2, .int (nI v)), (3, .int (nI i9))] := hl
  refine lv_iload hx hb d_A_way_27 (lv_at hl 0 rfl) ?_
  refine lv_iconst (v := -1) hx hb d_A_way_29 (by decide) ?_
  refine lv_icmp_ne (tgt := 43) hx hb d_A_way_30 rfl (fun hc30 => ?_) (fun hc30 => ?_)
  · refine lv_iload_n hx hb d_A_way_43 rfl (lv_at hl 4 rfl) ?_
    refine lv_if_lt (tgt := 53) hx hb d_A_way_44 rfl (fun hc44 => ?_) (fun hc44 => ?_)
    · have hc44 : i9 < 0 := (nI_ltI (a := i9) (b := 0) (by omega) (by omega)).mp hc44
      exact absurd hc44 (by omega)
    · have hc44 : ¬ (i9 < 0) := fun q9 => hc44 ((nI_ltI (a := i9) (b := 0) (by omega) (by omega)).mpr q9)
      refine lv_iload_n hx hb d_A_way_47 rfl (lv_at hl 4 rfl) ?_
      refine lv_iload hx hb d_A_way_48 (lv_at hl 0 rfl) ?_
      refine lv_icmp_le (tgt := 63) hx hb d_A_way_50 rfl (fun hc50 => ?_) (fun hc50 => ?_)
      · have hc50 : i9 ≤ n := (nI_leI (by omega) (by omega)).mp hc50
        refine lv_aload_n hx hb d_A_way_63 rfl (lv_at hl 1 rfl) ?_
        refine va_get (D := D) (ci := 0) (v := .ref yw) (C := R_A) (T := F_A) (N := 4) hx hb hB in_A hown hK hP 0 rfl rfl 2 (by decide) (hB _ mf_A_26) (fun _ h9 => h9) rfl d_A_way_64 ?_
        refine lv_iload_n hx hb d_A_way_67 rfl (lv_at hl 2 rfl) ?_
        refine lv_iload hx hb d_A_way_68 (lv_at hl 0 rfl) ?_
        refine lv_iload_n hx hb d_A_way_70 rfl (lv_at hl 4 rfl) ?_
        refine lv_aload_n hx hb d_A_way_71 rfl (lv_at hl 1 rfl) ?_
        refine va_get (D := D) (ci := 0) (v := .ref w) (C := R_A) (T := F_A) (N := 4) hx hb hB in_A hown hK hP 0 rfl rfl 0 (by decide) (hB _ mf_A_10) (fun _ h9 => h9) rfl d_A_way_72 ?_
        refine xr_cal (va_runV (As := [.int (nI u), .int (nI n), .int (nI i9), .ref w]) (rest := []) ⟨hx, hb, hml, hown, hB⟩ (k_Wy_placeOnFirst l D yw la cL (ly h v) w hd cA ct h u n i9 (by omega) (by omega) (by omega)) ⟨callB_of 4 hB (xg0 mc_Wy_placeOnFirst) rfl rfl rfl (hB _ mz_Wy) (hB _ ml_A_121) (by decide +kernel) ⟨Nat.le_of_ble_eq_true rfl, Nat.le_of_ble_eq_true rfl⟩, hB _ mi_Wy_placeOnFirst, hB _ me_Wy_placeOnFirst⟩ (xpV (ws := [(yw, .inr (3, [.ref la])), (la, .inl (cL, 16, .inl (ly h v))), (w, .inr (1, [.ref hd, .int ct])), (hd, .inl (cA, 16, .inl h))]) (tys := [(cL, .int), (cA, .int)]) (hP.sub [1, 2, 3, 4] rfl) (hK.sub [1, 0] rfl) hN (va_recv (ci := 3) (q0 := 1) (q := (R_Wy, F_Wy, 1)) hK hP rfl rfl)) rfl rfl hl.1 rfl (lv_room (Nat.le_of_ble_eq_true rfl)) d_A_way_75 ⟨Nat.le_of_ble_eq_true rfl, Nat.le_of_ble_eq_true rfl⟩) ?_
        have hP9 := hP.sub (ws' := [(a, .inr (0, [.ref w, .ref g, .ref yw, .ref f])), (w, .inr (1, [.ref hd, .int ct])), (hd, .inl (cA, 16, .inl h)), (yw, .inr (3, [.ref la])), (la, .inl (cL, 16, .inl (ly h v)))]) [0, 3, 4, 1, 2] rfl
        have hD9 := hD.sub (ws' := [(a, .inr (0, [.ref w, .ref g, .ref yw, .ref f])), (w, .inr (1, [.ref hd, .int ct])), (hd, .inl (cA, 16, .inl h)), (yw, .inr (3, [.ref la])), (la, .inl (cL, 16, .inl (ly h v)))]) [0, 3, 4, 1, 2] (by decide) rfl
        subst hAe
        exact W.iret (v := nI (pw h (ly h v) n u i9)) hx hb hr (fun t ht hW => ⟨⟨_, (), rfl, rfl, by rw [ht]; exact hP9, va_K.moved hW.alike hK, hD9⟩, hS.F ht⟩) hS.2.2 d_A_way_78
      · have hc50 : ¬ (i9 ≤ n) := fun q9 => hc50 ((nI_leI (by omega) (by omega)).mpr q9)
        exact absurd hi9 hc50
  · exact absurd hc30 (by intro q9; exact (oI_32 n (by omega)).1 (by rw [q9]; decide))
