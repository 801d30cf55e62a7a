set_option maxHeartbeats 4000000 in
set_option maxRecDepth 100000 in
theorem k_Gr_readLeads (l : Launch) (D : va_G) (g g0 g1 g2 g3 g4 g5 : Nat) (k0 k1 k2 k3 k4 k5 : ClassId) (gc : Int32) (rE : Nat → Int32) (nm : Nat → Nat) (lD : Nat → Int32) (bF : Nat → Int32) (oR : Nat → Int32) (cH : Nat → Int32) (w hd : Nat) (cA : ClassId) (ct : Int32) (h : Nat → Int32) (hnm : ∀ k, k < 16 → nm k < 16) (sz : Nat) : Met l y_Gr_readLeads (Cond.code y_Gr_readLeads c_Gr_readLeads 4 none :: BS) { frames := 2, cells := 0, slots := 0, locals := 43 } (va_Pc [.ref g, .ref w] (xWp D [(g, .inr (2, [.ref g0, .ref g1, .ref g2, .ref g3, .ref g4, .ref g5, .int gc])), (g0, .inl (k0, 16, .inl rE)), (g1, .inl (k1, 16, .inl (fun k => nI (nm k)))), (g2, .inl (k2, 16, .inl lD)), (g3, .inl (k3, 16, .inl bF)), (g4, .inl (k4, 16, .inl oR)), (g5, .inl (k5, 16, .inl cH)), (w, .inr (1, [.ref hd, .int ct])), (hd, .inl (cA, 16, .inl h))] [(k0, .int), (k1, .int), (k2, .int), (k3, .int), (k4, .int), (k5, .int), (cA, .int)] sz)) (xQv D [(g, .inr (2, [.ref g0, .ref g1, .ref g2, .ref g3, .ref g4, .ref g5, .int gc])), (g0, .inl (k0, 16, .inl rE)), (g1, .inl (k1, 16, .inl (fun k => nI (nm k)))), (g2, .inl (k2, 16, .inl lD)), (g3, .inl (k3, 16, .inl bF)), (g4, .inl (k4, 16, .inl oR)), (g5, .inl (k5, 16, .inl cH)), (w, .inr (1, [.ref hd, .int ct])), (hd, .inl (cA, 16, .inl h))] [(g, .inr (2, [.ref g0, .ref g1, .ref g2, .ref g3, .ref g4, .ref g5, .int gc])), (g0, .inl (k0, 16, .inl rE)), (g1, .inl (k1, 16, .inl (fun k => nI (nm k)))), (g2, .inl (k2, 16, .inl (LTp h nm 16 0))), (g3, .inl (k3, 16, .inl (BFp h nm 16 0))), (g4, .inl (k4, 16, .inl oR)), (g5, .inl (k5, 16, .inl cH)), (w, .inr (1, [.ref hd, .int ct])), (hd, .inl (cA, 16, .inl h))] [(k0, .int), (k1, .int), (k2, .int), (k3, .int), (k4, .int), (k5, .int), (cA, .int)] sz) 0 0 (va_A [(g, .inr (2, [.ref g0, .ref g1, .ref g2, .ref g3, .ref g4, .ref g5, .int gc])), (g0, .inl (k0, 16, .inl rE)), (g1, .inl (k1, 16, .inl (fun k => nI (nm k)))), (g2, .inl (k2, 16, .inl lD)), (g3, .inl (k3, 16, .inl bF)), (g4, .inl (k4, 16, .inl oR)), (g5, .inl (k5, 16, .inl cH)), (w, .inr (1, [.ref hd, .int ct])), (hd, .inl (cA, 16, .inl h))] sz) := by
  refine Met.ofW (cc := c_Gr_readLeads) (maxL := 4) (ret := none) (by decide) rfl ?_
  intro p e s m args below meth c s₁ B hml hv
  obtain ⟨rfl, hsz, hP, hK, hD0, hN⟩ := hv
  have hx := B.exec
  have hb := B.bytes
  have hr := B.returns
  have hB := xB B.pre
  have hown : s.vm.findClass R_Gr = some m.cls := findClass_of_methodNamed B.named
  have hlocks := B.notSynchronized
  subst hsz
  have hD := hD0.self (sz := s.heap.size)
  obtain ⟨A, hAe⟩ : ∃ A, A = va_A [(g, .inr (2, [.ref g0, .ref g1, .ref g2, .ref g3, .ref g4, .ref g5, .int gc])), (g0, .inl (k0, 16, .inl rE)), (g1, .inl (k1, 16, .inl (fun k => nI (nm k)))), (g2, .inl (k2, 16, .inl lD)), (g3, .inl (k3, 16, .inl bF)), (g4, .inl (k4, 16, .inl oR)), (g5, .inl (k5, 16, .inl cH)), (w, .inr (1, [.ref hd, .int ct])), (hd, .inl (cA, 16, .inl h))] s.heap.size := ⟨_, rfl⟩
  rw [← hAe] at hD
  have hA : ∀ q : Nat, s.heap.size ≤ q → A q := fun q h => by rw [hAe]; exact Or.inr h
  have hS : va_S A s.heap s.heap [] := va_S.rf
  have hl := lv_entry ([.ref g, .ref w]) (n := 4) (Nat.le_of_ble_eq_true rfl)
  rw [lg_entry_eq]
  generalize (lg_sl ([.ref g, .ref w]) ++ List.replicate (4 - (lg_sl ([.ref g, .ref w])).length) Slot.unset).toArray = ls at hl ⊢
  have hl : lv_has ls 4 [(0, .ref g), (1, .ref w)] := hl
  refine lv_aload_n hx hb d_Gr_readLeads_0 rfl (lv_at hl 0 rfl) ?_
  refine va_get (D := D) (ci := 2) (v := .ref g2) (C := R_Gr) (T := F_Gr) (N := 7) hx hb hB in_Gr hown hK hP 0 rfl rfl 2 (by decide) (hB _ mf_Gr_18) (fun _ h9 => h9) rfl d_Gr_readLeads_1 ?_
  refine lv_iconst (v := nI 0) hx hb d_Gr_readLeads_4 (by decide) ?_
  refine xw_v (wc := [(g2, .inl (k2, 16, .inl lD))]) (wr := [(g, .inr (2, [.ref g0, .ref g1, .ref g2, .ref g3, .ref g4, .ref g5, .int gc])), (g0, .inl (k0, 16, .inl rE)), (g1, .inl (k1, 16, .inl (fun k => nI (nm k)))), (g3, .inl (k3, 16, .inl bF)), (g4, .inl (k4, 16, .inl oR)), (g5, .inl (k5, 16, .inl cH)), (w, .inr (1, [.ref hd, .int ct])), (hd, .inl (cA, 16, .inl h))]) (w1 := [(g2, .inl (k2, 16, .inl (fun _ => (nI 0))))]) (va_runS (As := [.ref g2, .int (nI 0)]) (rest := []) ⟨hx, hb, hml, hown, hB⟩ (k_Ar_fill l D g2 k2 16 lD (nI 0) (by decide) _) ⟨callB_of 2 hB (xg0 mc_Ar_fill) rfl rfl rfl (hB _ mz_Ar) (hB _ ml_Gr_80) (by decide +kernel) ⟨Nat.le_of_ble_eq_true rfl, Nat.le_of_ble_eq_true rfl⟩, hB _ ms_Ar_fill⟩ (xqS (ws := [(g2, .inl (k2, 16, .inl lD))]) (tys := [(k2, .int)]) (hP.sub [3] rfl) (hD.sub [3] (by decide) rfl) (hK.sub [2] rfl) hN) rfl rfl hl.1 rfl (lv_room (Nat.le_of_ble_eq_true rfl)) d_Gr_readLeads_5 ⟨Nat.le_of_ble_eq_true rfl, Nat.le_of_ble_eq_true rfl⟩) hP hD hS hA [3] [0, 1, 2, 4, 5, 6, 7, 8] rfl rfl (by decide) (by decide) (fun H locs hP hD hS => ?_)
  have hP : va_P D cls [(g, .inr (2, [.ref g0, .ref g1, .ref g2, .ref g3, .ref g4, .ref g5, .int gc])), (g0, .inl (k0, 16, .inl rE)), (g1, .inl (k1, 16, .inl (fun k => nI (nm k)))), (g3, .inl (k3, 16, .inl bF)), (g4, .inl (k4, 16, .inl oR)), (g5, .inl (k5, 16, .inl cH)), (w, .inr (1, [.ref hd, .int ct])), (hd, .inl (cA, 16, .inl h)), (g2, .inl (k2, 16, .inl (fun _ => (nI 0))))] H := hP
  have hD : va_D A [(g, .inr (2, [.ref g0, .ref g1, .ref g2, .ref g3, .ref g4, .ref g5, .int gc])), (g0, .inl (k0, 16, .inl rE)), (g1, .inl (k1, 16, .inl (fun k => nI (nm k)))), (g3, .inl (k3, 16, .inl bF)), (g4, .inl (k4, 16, .inl oR)), (g5, .inl (k5, 16, .inl cH)), (w, .inr (1, [.ref hd, .int ct])), (hd, .inl (cA, 16, .inl h)), (g2, .inl (k2, 16, .inl (fun _ => (nI 0))))] := hD
  refine lv_aload_n hx hb d_Gr_readLeads_8 rfl (lv_at hl 0 rfl) ?_
  refine va_get (D := D) (ci := 2) (v := .ref g3) (C := R_Gr) (T := F_Gr) (N := 7) hx hb hB in_Gr hown hK hP 0 rfl rfl 3 (by decide) (hB _ mf_Gr_21) (fun _ h9 => h9) rfl d_Gr_readLeads_9 ?_
  refine lv_iconst (v := nI 0) hx hb d_Gr_readLeads_12 (by decide) ?_
  refine xw_v (wc := [(g3, .inl (k3, 16, .inl bF))]) (wr := [(g, .inr (2, [.ref g0, .ref g1, .ref g2, .ref g3, .ref g4, .ref g5, .int gc])), (g0, .inl (k0, 16, .inl rE)), (g1, .inl (k1, 16, .inl (fun k => nI (nm k)))), (g4, .inl (k4, 16, .inl oR)), (g5, .inl (k5, 16, .inl cH)), (w, .inr (1, [.ref hd, .int ct])), (hd, .inl (cA, 16, .inl h)), (g2, .inl (k2, 16, .inl (fun _ => (nI 0))))]) (w1 := [(g3, .inl (k3, 16, .inl (fun _ => (nI 0))))]) (va_runS (As := [.ref g3, .int (nI 0)]) (rest := []) ⟨hx, hb, hml, hown, hB⟩ (k_Ar_fill l D g3 k3 16 bF (nI 0) (by decide) _) ⟨callB_of 2 hB (xg0 mc_Ar_fill) rfl rfl rfl (hB _ mz_Ar) (hB _ ml_Gr_80) (by decide +kernel) ⟨Nat.le_of_ble_eq_true rfl, Nat.le_of_ble_eq_true rfl⟩, hB _ ms_Ar_fill⟩ (xqS (ws := [(g3, .inl (k3, 16, .inl bF))]) (tys := [(k3, .int)]) (hP.sub [3] rfl) (hD.sub [3] (by decide) rfl) (hK.sub [3] rfl) hN) rfl rfl hl.1 rfl (lv_room (Nat.le_of_ble_eq_true rfl)) d_Gr_readLeads_13 ⟨Nat.le_of_ble_eq_true rfl, Nat.le_of_ble_eq_true rfl⟩) hP hD hS hA [3] [0, 1, 2, 4, 5, 6, 7, 8] rfl rfl (by decide) (by decide) (fun H locs hP hD hS => ?_)
  have hP : va_P D cls [(g, .inr (2, [.ref g0, .ref g1, .ref g2, .ref g3, .ref g4, .ref g5, .int gc])), (g0, .inl (k0, 16, .inl rE)), (g1, .inl (k1, 16, .inl (fun k => nI (nm k)))), (g4, .inl (k4, 16, .inl oR)), (g5, .inl (k5, 16, .inl cH)), (w, .inr (1, [.ref hd, .int ct])), (hd, .inl (cA, 16, .inl h)), (g2, .inl (k2, 16, .inl (fun _ => (nI 0)))), (g3, .inl (k3, 16, .inl (fun _ => (nI 0))))] H := hP
  have hD : va_D A [(g, .inr (2, [.ref g0, .ref g1, .ref g2, .ref g3, .ref g4, .ref g5, .int gc])), (g0, .inl (k0, 16, .inl rE)), (g1, .inl (k1, 16, .inl (fun k => nI (nm k)))), (g4, .inl (k4, 16, .inl oR)), (g5, .inl (k5, 16, .inl cH)), (w, .inr (1, [.ref hd, .int ct])), (hd, .inl (cA, 16, .inl h)), (g2, .inl (k2, 16, .inl (fun _ => (nI 0)))), (g3, .inl (k3, 16, .inl (fun _ => (nI 0))))] := hD
  refine lv_iconst (v := nI 0) hx hb d_Gr_readLeads_16 (by decide) ?_
  refine lv_istore_n hx hb d_Gr_readLeads_17 rfl hl (by decide) rfl (fun ls hl => ?_)
  have hl : lv_has ls 4 [(2, .int (nI 0)), (0, .ref g), (1, .ref w)] := hl
  have hP := xP_ext hP 7 (LTp h nm 0 0) rfl (fun j9 hj9 => congrFun LTp_00 j9)
  have hD := xD_ext hD 7 (y := .inl (k2, 16, .inl (LTp h nm 0 0))) rfl
  have hP : va_P D cls [(g, .inr (2, [.ref g0, .ref g1, .ref g2, .ref g3, .ref g4, .ref g5, .int gc])), (g0, .inl (k0, 16, .inl rE)), (g1, .inl (k1, 16, .inl (fun k => nI (nm k)))), (g4, .inl (k4, 16, .inl oR)), (g5, .inl (k5, 16, .inl cH)), (w, .inr (1, [.ref hd, .int ct])), (hd, .inl (cA, 16, .inl h)), (g2, .inl (k2, 16, .inl (LTp h nm 0 0))), (g3, .inl (k3, 16, .inl (fun _ => (nI 0))))] _ := hP
  have hD : va_D A [(g, .inr (2, [.ref g0, .ref g1, .ref g2, .ref g3, .ref g4, .ref g5, .int gc])), (g0, .inl (k0, 16, .inl rE)), (g1, .inl (k1, 16, .inl (fun k => nI (nm k)))), (g4, .inl (k4, 16, .inl oR)), (g5, .inl (k5, 16, .inl cH)), (w, .inr (1, [.ref hd, .int ct])), (hd, .inl (cA, 16, .inl h)), (g2, .inl (k2, 16, .inl (LTp h nm 0 0))), (g3, .inl (k3, 16, .inl (fun _ => (nI 0))))] := hD
  have hP := xP_ext hP 8 (BFp h nm 0 0) rfl (fun j9 hj9 => congrFun BFp_00 j9)
  have hD := xD_ext hD 8 (y := .inl (k3, 16, .inl (BFp h nm 0 0))) rfl
  have hP : va_P D cls [(g, .inr (2, [.ref g0, .ref g1, .ref g2, .ref g3, .ref g4, .ref g5, .int gc])), (g0, .inl (k0, 16, .inl rE)), (g1, .inl (k1, 16, .inl (fun k => nI (nm k)))), (g4, .inl (k4, 16, .inl oR)), (g5, .inl (k5, 16, .inl cH)), (w, .inr (1, [.ref hd, .int ct])), (hd, .inl (cA, 16, .inl h)), (g2, .inl (k2, 16, .inl (LTp h nm 0 0))), (g3, .inl (k3, 16, .inl (BFp h nm 0 0)))] _ := hP
  have hD : va_D A [(g, .inr (2, [.ref g0, .ref g1, .ref g2, .ref g3, .ref g4, .ref g5, .int gc])), (g0, .inl (k0, 16, .inl rE)), (g1, .inl (k1, 16, .inl (fun k => nI (nm k)))), (g4, .inl (k4, 16, .inl oR)), (g5, .inl (k5, 16, .inl cH)), (w, .inr (1, [.ref hd, .int ct])), (hd, .inl (cA, 16, .inl h)), (g2, .inl (k2, 16, .inl (LTp h nm 0 0))), (g3, .inl (k3, 16, .inl (BFp h nm 0 0)))] := hD
  refine xl_w (fun (u : Nat) ls H locs => ((u ≤ 16)) ∧ lv_has ls 4 [(2, .int (nI u)), (0, .ref g), (1, .ref w)] ∧ va_P D cls [(g, .inr (2, [.ref g0, .ref g1, .ref g2, .ref g3, .ref g4, .ref g5, .int gc])), (g0, .inl (k0, 16, .inl rE)), (g1, .inl (k1, 16, .inl (fun k => nI (nm k)))), (g4, .inl (k4, 16, .inl oR)), (g5, .inl (k5, 16, .inl cH)), (w, .inr (1, [.ref hd, .int ct])), (hd, .inl (cA, 16, .inl h)), (g2, .inl (k2, 16, .inl (LTp h nm u 0))), (g3, .inl (k3, 16, .inl (BFp h nm u 0)))] H ∧ va_D A [(g, .inr (2, [.ref g0, .ref g1, .ref g2, .ref g3, .ref g4, .ref g5, .int gc])), (g0, .inl (k0, 16, .inl rE)), (g1, .inl (k1, 16, .inl (fun k => nI (nm k)))), (g4, .inl (k4, 16, .inl oR)), (g5, .inl (k5, 16, .inl cH)), (w, .inr (1, [.ref hd, .int ct])), (hd, .inl (cA, 16, .inl h)), (g2, .inl (k2, 16, .inl (LTp h nm u 0))), (g3, .inl (k3, 16, .inl (BFp h nm u 0)))] ∧ va_S A s.heap H locs) (fun u => 16 - u) (fun u ls H locs hI ih18 => ?_) 0 _ ⟨Nat.zero_le _, hl, hP, hD, hS⟩
  obtain ⟨hI, hl, hP, hD, hS⟩ := hI
  have hu := hI
  refine lv_iload_n hx hb d_Gr_readLeads_18 rfl (lv_at hl 0 rfl) ?_
  refine lv_bipush (v := nI 16) hx hb d_Gr_readLeads_19 (by decide) ?_
  refine lv_icmp_ge (tgt := 114) hx hb d_Gr_readLeads_21 rfl (fun hc21 => ?_) (fun hc21 => ?_)
  · have hc21 : 16 ≤ u := (nI_leI (by omega) (by omega)).mp hc21
    have hz : (LTp h nm u 0) = (LTp h nm 16 0) := by rw [show u = 16 by omega]
    rw [hz] at hP hD
    have hz : (BFp h nm u 0) = (BFp h nm 16 0) := by rw [show u = 16 by omega]
    rw [hz] at hP hD
    have hP9 := hP.sub (ws' := [(g, .inr (2, [.ref g0, .ref g1, .ref g2, .ref g3, .ref g4, .ref g5, .int gc])), (g0, .inl (k0, 16, .inl rE)), (g1, .inl (k1, 16, .inl (fun k => nI (nm k)))), (g2, .inl (k2, 16, .inl (LTp h nm 16 0))), (g3, .inl (k3, 16, .inl (BFp h nm 16 0))), (g4, .inl (k4, 16, .inl oR)), (g5, .inl (k5, 16, .inl cH)), (w, .inr (1, [.ref hd, .int ct])), (hd, .inl (cA, 16, .inl h))]) [0, 1, 2, 7, 8, 3, 4, 5, 6] rfl
    have hD9 := hD.sub (ws' := [(g, .inr (2, [.ref g0, .ref g1, .ref g2, .ref g3, .ref g4, .ref g5, .int gc])), (g0, .inl (k0, 16, .inl rE)), (g1, .inl (k1, 16, .inl (fun k => nI (nm k)))), (g2, .inl (k2, 16, .inl (LTp h nm 16 0))), (g3, .inl (k3, 16, .inl (BFp h nm 16 0))), (g4, .inl (k4, 16, .inl oR)), (g5, .inl (k5, 16, .inl cH)), (w, .inr (1, [.ref hd, .int ct])), (hd, .inl (cA, 16, .inl h))]) [0, 1, 2, 7, 8, 3, 4, 5, 6] (by decide) rfl
    subst hAe
    exact W.vret hx hb hr (fun t ht hW => ⟨⟨(), rfl, trivial, by rw [ht]; exact hP9, va_K.moved hW.alike hK, hD9⟩, hS.F ht⟩) hS.2.2 d_Gr_readLeads_114
  · have hc21 : ¬ (16 ≤ u) := fun q9 => hc21 ((nI_leI (by omega) (by omega)).mpr q9)
    refine lv_iconst (v := nI 0) hx hb d_Gr_readLeads_24 (by decide) ?_
    refine lv_istore_n hx hb d_Gr_readLeads_25 rfl hl (by decide) rfl (fun ls hl => ?_)
    have hl : lv_has ls 4 [(3, .int (nI 0)), (2, .int (nI u)), (0, .ref g), (1, .ref w)] := hl
    refine xl_w (fun (v : Nat) ls H locs => ((v ≤ 16)) ∧ lv_has ls 4 [(3, .int (nI v)), (2, .int (nI u)), (0, .ref g), (1, .ref w)] ∧ va_P D cls [(g, .inr (2, [.ref g0, .ref g1, .ref g2, .ref g3, .ref g4, .ref g5, .int gc])), (g0, .inl (k0, 16, .inl rE)), (g1, .inl (k1, 16, .inl (fun k => nI (nm k)))), (g4, .inl (k4, 16, .inl oR)), (g5, .inl (k5, 16, .inl cH)), (w, .inr (1, [.ref hd, .int ct])), (hd, .inl (cA, 16, .inl h)), (g2, .inl (k2, 16, .inl (LTp h nm u v))), (g3, .inl (k3, 16, .inl (BFp h nm u v)))] H ∧ va_D A [(g, .inr (2, [.ref g0, .ref g1, .ref g2, .ref g3, .ref g4, .ref g5, .int gc])), (g0, .inl (k0, 16, .inl rE)), (g1, .inl (k1, 16, .inl (fun k => nI (nm k)))), (g4, .inl (k4, 16, .inl oR)), (g5, .inl (k5, 16, .inl cH)), (w, .inr (1, [.ref hd, .int ct])), (hd, .inl (cA, 16, .inl h)), (g2, .inl (k2, 16, .inl (LTp h nm u v))), (g3, .inl (k3, 16, .inl (BFp h nm u v)))] ∧ va_S A s.heap H locs) (fun v => 16 - v) (fun v ls H locs hI ih26 => ?_) 0 _ ⟨Nat.zero_le _, hl, hP, hD, hS⟩
    obtain ⟨hI, hl, hP, hD, hS⟩ := hI
    have hv := hI
    refine lv_iload_n hx hb d_Gr_readLeads_26 rfl (lv_at hl 0 rfl) ?_
    refine lv_bipush (v := nI 16) hx hb d_Gr_readLeads_27 (by decide) ?_
    refine lv_icmp_ge (tgt := 108) hx hb d_Gr_readLeads_29 rfl (fun hc29 => ?_) (fun hc29 => ?_)
    · have hc29 : 16 ≤ v := (nI_leI (by omega) (by omega)).mp hc29
      have hz : (LTp h nm u v) = (LTp h nm (u + 1) 0) := by rw [show v = 16 by omega]; exact LTp_row
      rw [hz] at hP hD
      have hz : (BFp h nm u v) = (BFp h nm (u + 1) 0) := by rw [show v = 16 by omega]; exact BFp_row
      rw [hz] at hP hD
      refine lv_iinc hx hb d_Gr_readLeads_108 hl (k := 1) rfl (v := nI (u + 1)) (nI_1 u) (by decide) rfl (fun ls hl => ?_)
      have hl : lv_has ls 4 [(2, .int (nI (u + 1))), (3, .int (nI v)), (0, .ref g), (1, .ref w)] := hl
      refine lv_goto (tgt := 18) hx hb d_Gr_readLeads_111 rfl ?_
      exact ih18 (u + 1) _ H locs ⟨by omega, lv_sub hl [0, 2, 3] rfl, hP, hD, hS⟩ (by omega)
    · have hc29 : ¬ (16 ≤ v) := fun q9 => hc29 ((nI_leI (by omega) (by omega)).mpr q9)
      refine lv_aload_n hx hb d_Gr_readLeads_32 rfl (lv_at hl 3 rfl) ?_
      refine lv_iload_n hx hb d_Gr_readLeads_33 rfl (lv_at hl 1 rfl) ?_
      refine lv_iload_n hx hb d_Gr_readLeads_34 rfl (lv_at hl 0 rfl) ?_
      refine xr_cal (va_runV (As := [.int (nI u), .int (nI v)]) (rest := []) ⟨hx, hb, hml, hown, hB⟩ (k_Web_holds l D w hd cA ct h u v (by omega) (by omega)) ⟨callB_of 2 hB (xg0 mc_Web_holds) rfl rfl rfl (hB _ mz_Web) (hB _ ml_Gr_86) (by decide +kernel) ⟨Nat.le_of_ble_eq_true rfl, Nat.le_of_ble_eq_true rfl⟩, hB _ mi_Web_holds, hB _ me_Web_holds⟩ (xpV (ws := [(w, .inr (1, [.ref hd, .int ct])), (hd, .inl (cA, 16, .inl h))]) (tys := [(cA, .int)]) (hP.sub [5, 6] rfl) (hK.sub [6] rfl) hN (va_recv (ci := 1) (q0 := 5) (q := (R_Web, F_Web, 2)) hK hP rfl rfl)) rfl rfl hl.1 rfl (lv_room (Nat.le_of_ble_eq_true rfl)) d_Gr_readLeads_35 ⟨Nat.le_of_ble_eq_true rfl, Nat.le_of_ble_eq_true rfl⟩) ?_
      refine lv_if_eq (tgt := 102) hx hb d_Gr_readLeads_38 rfl (fun hc38 => ?_) (fun hc38 => ?_)
      · have hc38 := b2i_0.mp hc38
        have hz : (LTp h nm u v) = (LTp h nm u (v + 1)) := LTp_skip (by first | (intro q9; rw [hc38] at q9; exact absurd q9.1 (by decide)) | exact fun q9 => q9.2 hc53)
        rw [hz] at hP hD
        have hz : (BFp h nm u v) = (BFp h nm u (v + 1)) := BFp_skip (by first | (intro q9; rw [hc38] at q9; exact absurd q9.1 (by decide)) | exact fun q9 => q9.2 hc53)
        rw [hz] at hP hD
        refine lv_iinc hx hb d_Gr_readLeads_102 hl (k := 0) rfl (v := nI (v + 1)) (nI_1 v) (by decide) rfl (fun ls hl => ?_)
        have hl : lv_has ls 4 [(3, .int (nI (v + 1))), (2, .int (nI u)), (0, .ref g), (1, .ref w)] := hl
        refine lv_goto (tgt := 26) hx hb d_Gr_readLeads_105 rfl ?_
        exact ih26 (v + 1) _ H locs ⟨by omega, lv_sub hl [0, 1, 2, 3] rfl, hP, hD, hS⟩ (by omega)
      · have hc38 := b2i_n.mp hc38
        have hnu := hnm u (by omega)
        have hnv := hnm v (by omega)
        refine lv_aload_n hx hb d_Gr_readLeads_41 rfl (lv_at hl 2 rfl) ?_
        refine va_get (D := D) (ci := 2) (v := .ref g1) (C := R_Gr) (T := F_Gr) (N := 7) hx hb hB in_Gr hown hK hP 0 rfl rfl 1 (by decide) (hB _ mf_Gr_15) (fun _ h9 => h9) rfl d_Gr_readLeads_42 ?_
        refine lv_iload_n hx hb d_Gr_readLeads_45 rfl (lv_at hl 1 rfl) ?_
        refine xa_ld (u := u) hx hb hK hP 2 1 rfl rfl (by omega) (by decide) d_Gr_readLeads_46 ?_
        refine xv_top (x' := nI (nm u)) (rfl) ?_
        refine lv_aload_n hx hb d_Gr_readLeads_47 rfl (lv_at hl 2 rfl) ?_
        refine va_get (D := D) (ci := 2) (v := .ref g1) (C := R_Gr) (T := F_Gr) (N := 7) hx hb hB in_Gr hown hK hP 0 rfl rfl 1 (by decide) (hB _ mf_Gr_15) (fun _ h9 => h9) rfl d_Gr_readLeads_48 ?_
        refine lv_iload_n hx hb d_Gr_readLeads_51 rfl (lv_at hl 0 rfl) ?_
        refine xa_ld (u := v) hx hb hK hP 2 1 rfl rfl (by omega) (by decide) d_Gr_readLeads_52 ?_
        refine xv_top (x' := nI (nm v)) (rfl) ?_
        refine lv_icmp_eq (tgt := 102) hx hb d_Gr_readLeads_53 rfl (fun hc53 => ?_) (fun hc53 => ?_)
        · have hc53 : (nm u) = (nm v) := (nI_eq (by omega) (by omega)).mp hc53
          have hz : (LTp h nm u v) = (LTp h nm u (v + 1)) := LTp_skip (by first | (intro q9; rw [hc38] at q9; exact absurd q9.1 (by decide)) | exact fun q9 => q9.2 hc53)
          rw [hz] at hP hD
          have hz : (BFp h nm u v) = (BFp h nm u (v + 1)) := BFp_skip (by first | (intro q9; rw [hc38] at q9; exact absurd q9.1 (by decide)) | exact fun q9 => q9.2 hc53)
          rw [hz] at hP hD
          refine lv_iinc hx hb d_Gr_readLeads_102 hl (k := 0) rfl (v := nI (v + 1)) (nI_1 v) (by decide) rfl (fun ls hl => ?_)
          have hl : lv_has ls 4 [(3, .int (nI (v + 1))), (2, .int (nI u)), (0, .ref g), (1, .ref w)] := hl
          refine lv_goto (tgt := 26) hx hb d_Gr_readLeads_105 rfl ?_
          exact ih26 (v + 1) _ H locs ⟨by omega, lv_sub hl [0, 1, 2, 3] rfl, hP, hD, hS⟩ (by omega)
        · have hc53 : ¬ ((nm u) = (nm v)) := fun q9 => hc53 ((nI_eq (by omega) (by omega)).mpr q9)
          refine lv_aload_n hx hb d_Gr_readLeads_56 rfl (lv_at hl 2 rfl) ?_
          refine va_get (D := D) (ci := 2) (v := .ref g2) (C := R_Gr) (T := F_Gr) (N := 7) hx hb hB in_Gr hown hK hP 0 rfl rfl 2 (by decide) (hB _ mf_Gr_18) (fun _ h9 => h9) rfl d_Gr_readLeads_57 ?_
          refine lv_aload_n hx hb d_Gr_readLeads_60 rfl (lv_at hl 2 rfl) ?_
          refine va_get (D := D) (ci := 2) (v := .ref g1) (C := R_Gr) (T := F_Gr) (N := 7) hx hb hB in_Gr hown hK hP 0 rfl rfl 1 (by decide) (hB _ mf_Gr_15) (fun _ h9 => h9) rfl d_Gr_readLeads_61 ?_
          refine lv_iload_n hx hb d_Gr_readLeads_64 rfl (lv_at hl 1 rfl) ?_
          refine xa_ld (u := u) hx hb hK hP 2 1 rfl rfl (by omega) (by decide) d_Gr_readLeads_65 ?_
          refine xv_top (x' := nI (nm u)) (rfl) ?_
          refine lv_dup2_11 hx hb d_Gr_readLeads_66 rfl rfl ?_
          refine xa_ld (u := (nm u)) hx hb hK hP 7 2 rfl rfl (by omega) (by decide) d_Gr_readLeads_67 ?_
          refine lv_aload_n hx hb d_Gr_readLeads_68 rfl (lv_at hl 2 rfl) ?_
          refine va_get (D := D) (ci := 2) (v := .ref g1) (C := R_Gr) (T := F_Gr) (N := 7) hx hb hB in_Gr hown hK hP 0 rfl rfl 1 (by decide) (hB _ mf_Gr_15) (fun _ h9 => h9) rfl d_Gr_readLeads_69 ?_
          refine lv_iload_n hx hb d_Gr_readLeads_72 rfl (lv_at hl 0 rfl) ?_
          refine xa_ld (u := v) hx hb hK hP 2 1 rfl rfl (by omega) (by decide) d_Gr_readLeads_73 ?_
          refine xv_top (x' := nI (nm v)) (rfl) ?_
          refine xr_cal (va_runSN (As := [.int (nI (nm v))]) (rest := [.int ((LTp h nm u v) (nm u)), .int (nI (nm u)), .ref g2]) ⟨hx, hb, hml, hown, hB⟩ (k_A_only l D (nm v)) ⟨va_cnB 1 hB (xg0 mc_A_only) rfl rfl rfl (xn_Gr_57 hN) (hB _ mz_A) (by decide +kernel) ⟨Nat.le_of_ble_eq_true rfl, Nat.le_of_ble_eq_true rfl⟩, hB _ ms_A_only, trivial⟩ (xpS (ws := []) (tys := []) (hP.sub [] rfl) (hK.sub [] rfl) hN) rfl rfl hl.1 rfl (lv_room (Nat.le_of_ble_eq_true rfl)) d_Gr_readLeads_74 ⟨Nat.le_of_ble_eq_true rfl, Nat.le_of_ble_eq_true rfl⟩) ?_
          refine lv_ior hx hb d_Gr_readLeads_77 ?_
          refine xa_st (u := (nm u)) hx hb hK hP hD hS 7 2 rfl rfl (by omega) (by decide) d_Gr_readLeads_78 (fun H locs hP hD hS => ?_)
          have hP : va_P D cls [(g, .inr (2, [.ref g0, .ref g1, .ref g2, .ref g3, .ref g4, .ref g5, .int gc])), (g0, .inl (k0, 16, .inl rE)), (g1, .inl (k1, 16, .inl (fun k => nI (nm k)))), (g4, .inl (k4, 16, .inl oR)), (g5, .inl (k5, 16, .inl cH)), (w, .inr (1, [.ref hd, .int ct])), (hd, .inl (cA, 16, .inl h)), (g2, .inl (k2, 16, .inl (upd (LTp h nm u v) (nm u) (((LTp h nm u v) (nm u)) ||| (bit (nm v)))))), (g3, .inl (k3, 16, .inl (BFp h nm u v)))] H := hP
          have hD : va_D A [(g, .inr (2, [.ref g0, .ref g1, .ref g2, .ref g3, .ref g4, .ref g5, .int gc])), (g0, .inl (k0, 16, .inl rE)), (g1, .inl (k1, 16, .inl (fun k => nI (nm k)))), (g4, .inl (k4, 16, .inl oR)), (g5, .inl (k5, 16, .inl cH)), (w, .inr (1, [.ref hd, .int ct])), (hd, .inl (cA, 16, .inl h)), (g2, .inl (k2, 16, .inl (upd (LTp h nm u v) (nm u) (((LTp h nm u v) (nm u)) ||| (bit (nm v)))))), (g3, .inl (k3, 16, .inl (BFp h nm u v)))] := hD
          refine lv_aload_n hx hb d_Gr_readLeads_79 rfl (lv_at hl 2 rfl) ?_
          refine va_get (D := D) (ci := 2) (v := .ref g3) (C := R_Gr) (T := F_Gr) (N := 7) hx hb hB in_Gr hown hK hP 0 rfl rfl 3 (by decide) (hB _ mf_Gr_21) (fun _ h9 => h9) rfl d_Gr_readLeads_80 ?_
          refine lv_aload_n hx hb d_Gr_readLeads_83 rfl (lv_at hl 2 rfl) ?_
          refine va_get (D := D) (ci := 2) (v := .ref g1) (C := R_Gr) (T := F_Gr) (N := 7) hx hb hB in_Gr hown hK hP 0 rfl rfl 1 (by decide) (hB _ mf_Gr_15) (fun _ h9 => h9) rfl d_Gr_readLeads_84 ?_
          refine lv_iload_n hx hb d_Gr_readLeads_87 rfl (lv_at hl 0 rfl) ?_
          refine xa_ld (u := v) hx hb hK hP 2 1 rfl rfl (by omega) (by decide) d_Gr_readLeads_88 ?_
          refine xv_top (x' := nI (nm v)) (rfl) ?_
          refine lv_dup2_11 hx hb d_Gr_readLeads_89 rfl rfl ?_
          refine xa_ld (u := (nm v)) hx hb hK hP 8 3 rfl rfl (by omega) (by decide) d_Gr_readLeads_90 ?_
          refine lv_aload_n hx hb d_Gr_readLeads_91 rfl (lv_at hl 2 rfl) ?_
          refine va_get (D := D) (ci := 2) (v := .ref g1) (C := R_Gr) (T := F_Gr) (N := 7) hx hb hB in_Gr hown hK hP 0 rfl rfl 1 (by decide) (hB _ mf_Gr_15) (fun _ h9 => h9) rfl d_Gr_readLeads_92 ?_
          refine lv_iload_n hx hb d_Gr_readLeads_95 rfl (lv_at hl 1 rfl) ?_
          refine xa_ld (u := u) hx hb hK hP 2 1 rfl rfl (by omega) (by decide) d_Gr_readLeads_96 ?_
          refine xv_top (x' := nI (nm u)) (rfl) ?_
          refine xr_cal (va_runSN (As := [.int (nI (nm u))]) (rest := [.int ((BFp h nm u v) (nm v)), .int (nI (nm v)), .ref g3]) ⟨hx, hb, hml, hown, hB⟩ (k_A_only l D (nm u)) ⟨va_cnB 1 hB (xg0 mc_A_only) rfl rfl rfl (xn_Gr_57 hN) (hB _ mz_A) (by decide +kernel) ⟨Nat.le_of_ble_eq_true rfl, Nat.le_of_ble_eq_true rfl⟩, hB _ ms_A_only, trivial⟩ (xpS (ws := []) (tys := []) (hP.sub [] rfl) (hK.sub [] rfl) hN) rfl rfl hl.1 rfl (lv_room (Nat.le_of_ble_eq_true rfl)) d_Gr_readLeads_97 ⟨Nat.le_of_ble_eq_true rfl, Nat.le_of_ble_eq_true rfl⟩) ?_
          refine lv_ior hx hb d_Gr_readLeads_100 ?_
          refine xa_st (u := (nm v)) hx hb hK hP hD hS 8 3 rfl rfl (by omega) (by decide) d_Gr_readLeads_101 (fun H locs hP hD hS => ?_)
          have hP : va_P D cls [(g, .inr (2, [.ref g0, .ref g1, .ref g2, .ref g3, .ref g4, .ref g5, .int gc])), (g0, .inl (k0, 16, .inl rE)), (g1, .inl (k1, 16, .inl (fun k => nI (nm k)))), (g4, .inl (k4, 16, .inl oR)), (g5, .inl (k5, 16, .inl cH)), (w, .inr (1, [.ref hd, .int ct])), (hd, .inl (cA, 16, .inl h)), (g2, .inl (k2, 16, .inl (upd (LTp h nm u v) (nm u) (((LTp h nm u v) (nm u)) ||| (bit (nm v)))))), (g3, .inl (k3, 16, .inl (upd (BFp h nm u v) (nm v) (((BFp h nm u v) (nm v)) ||| (bit (nm u))))))] H := hP
          have hD : va_D A [(g, .inr (2, [.ref g0, .ref g1, .ref g2, .ref g3, .ref g4, .ref g5, .int gc])), (g0, .inl (k0, 16, .inl rE)), (g1, .inl (k1, 16, .inl (fun k => nI (nm k)))), (g4, .inl (k4, 16, .inl oR)), (g5, .inl (k5, 16, .inl cH)), (w, .inr (1, [.ref hd, .int ct])), (hd, .inl (cA, 16, .inl h)), (g2, .inl (k2, 16, .inl (upd (LTp h nm u v) (nm u) (((LTp h nm u v) (nm u)) ||| (bit (nm v)))))), (g3, .inl (k3, 16, .inl (upd (BFp h nm u v) (nm v) (((BFp h nm u v) (nm v)) ||| (bit (nm u))))))] := hD
          have hz : (upd (LTp h nm u v) (nm u) (((LTp h nm u v) (nm u)) ||| (bit (nm v)))) = (LTp h nm u (v + 1)) := LTp_add (by omega) (by omega) hc38 hc53 hnv
          rw [hz] at hP hD
          have hz : (upd (BFp h nm u v) (nm v) (((BFp h nm u v) (nm v)) ||| (bit (nm u)))) = (BFp h nm u (v + 1)) := BFp_add (by omega) (by omega) hc38 hc53 hnu
          rw [hz] at hP hD
          refine lv_iinc hx hb d_Gr_readLeads_102 hl (k := 0) rfl (v := nI (v + 1)) (nI_1 v) (by decide) rfl (fun ls hl => ?_)
          have hl : lv_has ls 4 [(3, .int (nI (v + 1))), (2, .int (nI u)), (0, .ref g), (1, .ref w)] := hl
          refine lv_goto (tgt := 26) hx hb d_Gr_readLeads_105 rfl ?_
          exact ih26 (v + 1) _ H locs ⟨by omega, lv_sub hl [0, 1, 2, 3] rfl, hP, hD, hS⟩ (by omega)
set_option maxHeartbeats 4000000 in
set_option maxRecDepth 100000 in
theorem k_Gr_readOrder (l : Launch) (D : va_G) (g g0 g1 g2 g3 g4 g5 : Nat) (k0 k1 k2 k3 k4 k5 : ClassId) (cn9 : Nat) (rE : Nat → Int32) (nM : Nat → Int32) (lD : Nat → Int32) (bF : Nat → Int32) (oR : Nat → Int32) (cH : Nat → Int32) (hcn : cn9 ≤ 16) (sz : Nat) : Met l y_Gr_readOrder (Cond.code y_Gr_readOrder c_Gr_readOrder 3 none :: BS) { frames := 2, cells := 0, slots := 0, locals := 43 } (va_Pc [.ref g] (xWp D [(g, .inr (2, [.ref g0, .ref g1, .ref g2, .ref g3, .ref g4, .ref g5, .int (nI cn9)])), (g0, .inl (k0, 16, .inl rE)), (g1, .inl (k1, 16, .inl nM)), (g2, .inl (k2, 16, .inl lD)), (g3, .inl (k3, 16, .inl bF)), (g4, .inl (k4, 16, .inl oR)), (g5, .inl (k5, 16, .inl cH))] [(k0, .int), (k1, .int), (k2, .int), (k3, .int), (k4, .int), (k5, .int)] sz)) (xQv D [(g, .inr (2, [.ref g0, .ref g1, .ref g2, .ref g3, .ref g4, .ref g5, .int (nI cn9)])), (g0, .inl (k0, 16, .inl rE)), (g1, .inl (k1, 16, .inl nM)), (g2, .inl (k2, 16, .inl lD)), (g3, .inl (k3, 16, .inl bF)), (g4, .inl (k4, 16, .inl oR)), (g5, .inl (k5, 16, .inl cH))] [(g, .inr (2, [.ref g0, .ref g1, .ref g2, .ref g3, .ref g4, .ref g5, .int (nI cn9)])), (g0, .inl (k0, 16, .inl rE)), (g1, .inl (k1, 16, .inl nM)), (g2, .inl (k2, 16, .inl lD)), (g3, .inl (k3, 16, .inl bF)), (g4, .inl (k4, 16, .inl (fun k => if k < cn9 then nI (nxF nM bF (plF nM bF k)) else oR k))), (g5, .inl (k5, 16, .inl cH))] [(k0, .int), (k1, .int), (k2, .int), (k3, .int), (k4, .int), (k5, .int)] sz) 0 0 (va_A [(g, .inr (2, [.ref g0, .ref g1, .ref g2, .ref g3, .ref g4, .ref g5, .int (nI cn9)])), (g0, .inl (k0, 16, .inl rE)), (g1, .inl (k1, 16, .inl nM)), (g2, .inl (k2, 16, .inl lD)), (g3, .inl (k3, 16, .inl bF)), (g4, .inl (k4, 16, .inl oR)), (g5, .inl (k5, 16, .inl cH))] sz) := by
  refine Met.ofW (cc := c_Gr_readOrder) (maxL := 3) (ret := none) (by decide) rfl ?_
  intro p e s m args below meth c s₁ B hml hv
  obtain ⟨rfl, hsz, hP, hK, hD0, hN⟩ := hv
  have hx := B.exec
  have hb := B.bytes
  have hr := B.returns
  have hB := xB B.pre
  have hown : s.vm.findClass R_Gr = some m.cls := findClass_of_methodNamed B.named
  have hlocks := B.notSynchronized
  subst hsz
  have hD := hD0.self (sz := s.heap.size)
  obtain ⟨A, hAe⟩ : ∃ A, A = va_A [(g, .inr (2, [.ref g0, .ref g1, .ref g2, .ref g3, .ref g4, .ref g5, .int (nI cn9)])), (g0, .inl (k0, 16, .inl rE)), (g1, .inl (k1, 16, .inl nM)), (g2, .inl (k2, 16, .inl lD)), (g3, .inl (k3, 16, .inl bF)), (g4, .inl (k4, 16, .inl oR)), (g5, .inl (k5, 16, .inl cH))] s.heap.size := ⟨_, rfl⟩
  rw [← hAe] at hD
  have hA : ∀ q : Nat, s.heap.size ≤ q → A q := fun q h => by rw [hAe]; exact Or.inr h
  have hS : va_S A s.heap s.heap [] := va_S.rf
  have hl := lv_entry ([.ref g]) (n := 3) (Nat.le_of_ble_eq_true rfl)
  rw [lg_entry_eq]
  generalize (lg_sl ([.ref g]) ++ List.replicate (3 - (lg_sl ([.ref g])).length) Slot.unset).toArray = ls at hl ⊢
  have hl : lv_has ls 3 [(0, .ref g)] := hl
  refine lv_iconst (v := nI 0) hx hb d_Gr_readOrder_0 (by decide) ?_
  refine lv_istore_n hx hb d_Gr_readOrder_1 rfl hl (by decide) rfl (fun ls hl => ?_)
  have hl : lv_has ls 3 [(1, .int (nI 0)), (0, .ref g)] := hl
  refine lv_iconst (v := nI 0) hx hb d_Gr_readOrder_2 (by decide) ?_
  refine lv_istore_n hx hb d_Gr_readOrder_3 rfl hl (by decide) rfl (fun ls hl => ?_)
  have hl : lv_has ls 3 [(2, .int (nI 0)), (1, .int (nI 0)), (0, .ref g)] := hl
  have hz : oR = (fun k => if k < 0 then nI (nxF nM bF (plF nM bF k)) else oR k) := lt0_f
  rw [hz] at hP hD
  refine xl_w (fun (u : Nat) ls H locs => ((u ≤ cn9)) ∧ lv_has ls 3 [(2, .int (nI u)), (1, .int (plF nM bF u)), (0, .ref g)] ∧ va_P D cls [(g, .inr (2, [.ref g0, .ref g1, .ref g2, .ref g3, .ref g4, .ref g5, .int (nI cn9)])), (g0, .inl (k0, 16, .inl rE)), (g1, .inl (k1, 16, .inl nM)), (g2, .inl (k2, 16, .inl lD)), (g3, .inl (k3, 16, .inl bF)), (g4, .inl (k4, 16, .inl (fun k => if k < u then nI (nxF nM bF (plF nM bF k)) else oR k))), (g5, .inl (k5, 16, .inl cH))] H ∧ va_D A [(g, .inr (2, [.ref g0, .ref g1, .ref g2, .ref g3, .ref g4, .ref g5, .int (nI cn9)])), (g0, .inl (k0, 16, .inl rE)), (g1, .inl (k1, 16, .inl nM)), (g2, .inl (k2, 16, .inl lD)), (g3, .inl (k3, 16, .inl bF)), (g4, .inl (k4, 16, .inl (fun k => if k < u then nI (nxF nM bF (plF nM bF k)) else oR k))), (g5, .inl (k5, 16, .inl cH))] ∧ va_S A s.heap H locs) (fun u => cn9 - u) (fun u ls H locs hI ih4 => ?_) 0 _ ⟨Nat.zero_le _, hl, hP, hD, hS⟩
  obtain ⟨hI, hl, hP, hD, hS⟩ := hI
  have hu := hI
  refine lv_iload_n hx hb d_Gr_readOrder_4 rfl (lv_at hl 0 rfl) ?_
  refine lv_aload_n hx hb d_Gr_readOrder_5 rfl (lv_at hl 2 rfl) ?_
  refine va_get (D := D) (ci := 2) (v := .int (nI cn9)) (C := R_Gr) (T := F_Gr) (N := 7) hx hb hB in_Gr hown hK hP 0 rfl rfl 6 (by decide) (hB _ mf_Gr_30) (fun _ h9 => h9) rfl d_Gr_readOrder_6 ?_
  refine lv_icmp_ge (tgt := 41) hx hb d_Gr_readOrder_9 rfl (fun hc9 => ?_) (fun hc9 => ?_)
  · have hc9 : cn9 ≤ u := (nI_leI (by omega) (by omega)).mp hc9
    have hz : (fun k => if k < u then nI (nxF nM bF (plF nM bF k)) else oR k) = (fun k => if k < cn9 then nI (nxF nM bF (plF nM bF k)) else oR k) := by rw [show u = cn9 by omega]
    rw [hz] at hP hD
    have hP9 := hP.sub (ws' := [(g, .inr (2, [.ref g0, .ref g1, .ref g2, .ref g3, .ref g4, .ref g5, .int (nI cn9)])), (g0, .inl (k0, 16, .inl rE)), (g1, .inl (k1, 16, .inl nM)), (g2, .inl (k2, 16, .inl lD)), (g3, .inl (k3, 16, .inl bF)), (g4, .inl (k4, 16, .inl (fun k => if k < cn9 then nI (nxF nM bF (plF nM bF k)) else oR k))), (g5, .inl (k5, 16, .inl cH))]) [0, 1, 2, 3, 4, 5, 6] rfl
    have hD9 := hD.sub (ws' := [(g, .inr (2, [.ref g0, .ref g1, .ref g2, .ref g3, .ref g4, .ref g5, .int (nI cn9)])), (g0, .inl (k0, 16, .inl rE)), (g1, .inl (k1, 16, .inl nM)), (g2, .inl (k2, 16, .inl lD)), (g3, .inl (k3, 16, .inl bF)), (g4, .inl (k4, 16, .inl (fun k => if k < cn9 then nI (nxF nM bF (plF nM bF k)) else oR k))), (g5, .inl (k5, 16, .inl cH))]) [0, 1, 2, 3, 4, 5, 6] (by decide) rfl
    subst hAe
    exact W.vret hx hb hr (fun t ht hW => ⟨⟨(), rfl, trivial, by rw [ht]; exact hP9, va_K.moved hW.alike hK, hD9⟩, hS.F ht⟩) hS.2.2 d_Gr_readOrder_41
  · have hc9 : ¬ (cn9 ≤ u) := fun q9 => hc9 ((nI_leI (by omega) (by omega)).mpr q9)
    refine lv_aload_n hx hb d_Gr_readOrder_12 rfl (lv_at hl 2 rfl) ?_
    refine va_get (D := D) (ci := 2) (v := .ref g4) (C := R_Gr) (T := F_Gr) (N := 7) hx hb hB in_Gr hown hK hP 0 rfl rfl 4 (by decide) (hB _ mf_Gr_24) (fun _ h9 => h9) rfl d_Gr_readOrder_13 ?_
    refine lv_iload_n hx hb d_Gr_readOrder_16 rfl (lv_at hl 0 rfl) ?_
    refine lv_aload_n hx hb d_Gr_readOrder_17 rfl (lv_at hl 2 rfl) ?_
    refine lv_iload_n hx hb d_Gr_readOrder_18 rfl (lv_at hl 1 rfl) ?_
    refine xr_cal (va_runV (As := [.int (plF nM bF u)]) (rest := [.int (nI u), .ref g4]) ⟨hx, hb, hml, hown, hB⟩ (k_Gr_leastFree l D g g0 g1 g2 g3 g4 g5 k0 k1 k2 k3 k4 k5 (nI cn9) rE nM lD bF (fun k => if k < u then nI (nxF nM bF (plF nM bF k)) else oR k) cH (plF nM bF u)) ⟨callB_of 1 hB (xg0 mc_Gr_leastFree) rfl rfl rfl (hB _ mz_Gr) (hB _ ml_Gr_89) (by decide +kernel) ⟨Nat.le_of_ble_eq_true rfl, Nat.le_of_ble_eq_true rfl⟩, hB _ mi_Gr_leastFree, hB _ me_Gr_leastFree⟩ (xpV (ws := [(g, .inr (2, [.ref g0, .ref g1, .ref g2, .ref g3, .ref g4, .ref g5, .int (nI cn9)])), (g0, .inl (k0, 16, .inl rE)), (g1, .inl (k1, 16, .inl nM)), (g2, .inl (k2, 16, .inl lD)), (g3, .inl (k3, 16, .inl bF)), (g4, .inl (k4, 16, .inl (fun k => if k < u then nI (nxF nM bF (plF nM bF k)) else oR k))), (g5, .inl (k5, 16, .inl cH))]) (tys := [(k0, .int), (k1, .int), (k2, .int), (k3, .int), (k4, .int), (k5, .int)]) (hP.sub [0, 1, 2, 3, 4, 5, 6] rfl) (hK.sub [0, 1, 2, 3, 4, 5] rfl) hN (va_recv (ci := 2) (q0 := 0) (q := (R_Gr, F_Gr, 7)) hK hP rfl rfl)) rfl rfl hl.1 rfl (lv_room (Nat.le_of_ble_eq_true rfl)) d_Gr_readOrder_19 ⟨Nat.le_of_ble_eq_true rfl, Nat.le_of_ble_eq_true rfl⟩) ?_
    refine xv_top (x' := nI (nxF nM bF (plF nM bF u))) (rfl) ?_
    refine xa_st (u := u) hx hb hK hP hD hS 5 4 rfl rfl (by omega) (by decide) d_Gr_readOrder_22 (fun H locs hP hD hS => ?_)
    have hP : va_P D cls [(g, .inr (2, [.ref g0, .ref g1, .ref g2, .ref g3, .ref g4, .ref g5, .int (nI cn9)])), (g0, .inl (k0, 16, .inl rE)), (g1, .inl (k1, 16, .inl nM)), (g2, .inl (k2, 16, .inl lD)), (g3, .inl (k3, 16, .inl bF)), (g4, .inl (k4, 16, .inl (upd (fun k => if k < u then nI (nxF nM bF (plF nM bF k)) else oR k) u (nI (nxF nM bF (plF nM bF u)))))), (g5, .inl (k5, 16, .inl cH))] H := hP
    have hD : va_D A [(g, .inr (2, [.ref g0, .ref g1, .ref g2, .ref g3, .ref g4, .ref g5, .int (nI cn9)])), (g0, .inl (k0, 16, .inl rE)), (g1, .inl (k1, 16, .inl nM)), (g2, .inl (k2, 16, .inl lD)), (g3, .inl (k3, 16, .inl bF)), (g4, .inl (k4, 16, .inl (upd (fun k => if k < u then nI (nxF nM bF (plF nM bF k)) else oR k) u (nI (nxF nM bF (plF nM bF u)))))), (g5, .inl (k5, 16, .inl cH))] := hD
    have hz : (upd (fun k => if k < u then nI (nxF nM bF (plF nM bF k)) else oR k) u (nI (nxF nM bF (plF nM bF u)))) = (fun k => if k < u + 1 then nI (nxF nM bF (plF nM bF k)) else oR k) := upd_ltf rfl
    rw [hz] at hP hD
    refine lv_iload_n hx hb d_Gr_readOrder_23 rfl (lv_at hl 1 rfl) ?_
    refine lv_aload_n hx hb d_Gr_readOrder_24 rfl (lv_at hl 2 rfl) ?_
    refine va_get (D := D) (ci := 2) (v := .ref g4) (C := R_Gr) (T := F_Gr) (N := 7) hx hb hB in_Gr hown hK hP 0 rfl rfl 4 (by decide) (hB _ mf_Gr_24) (fun _ h9 => h9) rfl d_Gr_readOrder_25 ?_
    refine lv_iload_n hx hb d_Gr_readOrder_28 rfl (lv_at hl 0 rfl) ?_
    refine xa_ld (u := u) hx hb hK hP 5 4 rfl rfl (by omega) (by decide) d_Gr_readOrder_29 ?_
    refine xv_top (x' := nI (nxF nM bF (plF nM bF u))) (if_pos (by omega)) ?_
    refine xr_cal (va_runSN (As := [.int (nI (nxF nM bF (plF nM bF u)))]) (rest := [.int (plF nM bF u)]) ⟨hx, hb, hml, hown, hB⟩ (k_A_only l D (nxF nM bF (plF nM bF u))) ⟨va_cnB 1 hB (xg0 mc_A_only) rfl rfl rfl (xn_Gr_57 hN) (hB _ mz_A) (by decide +kernel) ⟨Nat.le_of_ble_eq_true rfl, Nat.le_of_ble_eq_true rfl⟩, hB _ ms_A_only, trivial⟩ (xpS (ws := []) (tys := []) (hP.sub [] rfl) (hK.sub [] rfl) hN) rfl rfl hl.1 rfl (lv_room (Nat.le_of_ble_eq_true rfl)) d_Gr_readOrder_30 ⟨Nat.le_of_ble_eq_true rfl, Nat.le_of_ble_eq_true rfl⟩) ?_
    refine lv_ior hx hb d_Gr_readOrder_33 ?_
    refine lv_istore_n hx hb d_Gr_readOrder_34 rfl hl (by decide) rfl (fun ls hl => ?_)
    have hl : lv_has ls 3 [(1, .int ((plF nM bF u) ||| (bit (nxF nM bF (plF nM bF u))))), (2, .int (nI u)), (0, .ref g)] := hl
    have hl : lv_has ls 3 [(1, .int (plF nM bF (u + 1))), (2, .int (nI u)), (0, .ref g)] := by
      have hz : ((plF nM bF u) ||| (bit (nxF nM bF (plF nM bF u)))) = plF nM bF (u + 1) := rfl
      rw [← hz]; exact hl
    refine lv_iinc hx hb d_Gr_readOrder_35 hl (k := 1) rfl (v := nI (u + 1)) (nI_1 u) (by decide) rfl (fun ls hl => ?_)
    have hl : lv_has ls 3 [(2, .int (nI (u + 1))), (1, .int (plF nM bF (u + 1))), (0, .ref g)] := hl
    refine lv_goto (tgt := 4) hx hb d_Gr_readOrder_38 rfl ?_
    exact ih4 (u + 1) _ H locs ⟨by omega, lv_sub hl [0, 1, 2] rfl, hP, hD, hS⟩ (by omega)
set_option maxHeartbeats 4000000 in
set_option maxRecDepth 100000 in
theorem k_Gr_read (l : Launch) (D : va_G) (g g0 g1 g2 g3 g4 g5 : Nat) (k0 k1 k2 k3 k4 k5 : ClassId) (gc : Int32) (rE : Nat → Int32) (nM : Nat → Int32) (lD : Nat → Int32) (bF : Nat → Int32) (oR : Nat → Int32) (cH : Nat → Int32) (w hd : Nat) (cA : ClassId) (ct : Int32) (h : Nat → Int32) (hg : gd h) (sz : Nat) : Met l y_Gr_read (Cond.code y_Gr_read c_Gr_read 2 none :: BS) { frames := 3, cells := 0, slots := 0, locals := 66 } (va_Pc [.ref g, .ref w] (xWp D [(g, .inr (2, [.ref g0, .ref g1, .ref g2, .ref g3, .ref g4, .ref g5, .int gc])), (g0, .inl (k0, 16, .inl rE)), (g1, .inl (k1, 16, .inl nM)), (g2, .inl (k2, 16, .inl lD)), (g3, .inl (k3, 16, .inl bF)), (g4, .inl (k4, 16, .inl oR)), (g5, .inl (k5, 16, .inl cH)), (w, .inr (1, [.ref hd, .int ct])), (hd, .inl (cA, 16, .inl h))] [(k0, .int), (k1, .int), (k2, .int), (k3, .int), (k4, .int), (k5, .int), (cA, .int)] sz)) (xQv D [(g, .inr (2, [.ref g0, .ref g1, .ref g2, .ref g3, .ref g4, .ref g5, .int gc])), (g0, .inl (k0, 16, .inl rE)), (g1, .inl (k1, 16, .inl nM)), (g2, .inl (k2, 16, .inl lD)), (g3, .inl (k3, 16, .inl bF)), (g4, .inl (k4, 16, .inl oR)), (g5, .inl (k5, 16, .inl cH)), (w, .inr (1, [.ref hd, .int ct])), (hd, .inl (cA, 16, .inl h))] [(g, .inr (2, [.ref g0, .ref g1, .ref g2, .ref g3, .ref g4, .ref g5, .int (nI (cq (fun v9 => decide (lwN (RE h) v9 = v9)) 16))])), (g0, .inl (k0, 16, .inl (RE h))), (g1, .inl (k1, 16, .inl (fun k => nI (lwN (RE h) k)))), (g2, .inl (k2, 16, .inl (LTp h (lwN (RE h)) 16 0))), (g3, .inl (k3, 16, .inl (BFp h (lwN (RE h)) 16 0))), (g4, .inl (k4, 16, .inl (fun k => if k < (cq (fun v9 => decide (lwN (RE h) v9 = v9)) 16) then nI (nxF (fun k => nI (lwN (RE h) k)) (BFp h (lwN (RE h)) 16 0) (plF (fun k => nI (lwN (RE h) k)) (BFp h (lwN (RE h)) 16 0) k)) else oR k))), (g5, .inl (k5, 16, .inl cH)), (w, .inr (1, [.ref hd, .int ct])), (hd, .inl (cA, 16, .inl h))] [(k0, .int), (k1, .int), (k2, .int), (k3, .int), (k4, .int), (k5, .int), (cA, .int)] sz) 0 0 (va_A [(g, .inr (2, [.ref g0, .ref g1, .ref g2, .ref g3, .ref g4, .ref g5, .int gc])), (g0, .inl (k0, 16, .inl rE)), (g1, .inl (k1, 16, .inl nM)), (g2, .inl (k2, 16, .inl lD)), (g3, .inl (k3, 16, .inl bF)), (g4, .inl (k4, 16, .inl oR)), (g5, .inl (k5, 16, .inl cH)), (w, .inr (1, [.ref hd, .int ct])), (hd, .inl (cA, 16, .inl h))] sz) := by
  refine Met.ofW (cc := c_Gr_read) (maxL := 2) (ret := none) (by decide) rfl ?_
  intro p e s m args below meth c s₁ B hml hv
  obtain ⟨rfl, hsz, hP, hK, hD0, hN⟩ := hv
  have hx := B.exec
  have hb := B.bytes
  have hr := B.returns
  have hB := xB B.pre
  have hown : s.vm.findClass R_Gr = some m.cls := findClass_of_methodNamed B.named
  have hlocks := B.notSynchronized
  subst hsz
  have hD := hD0.self (sz := s.heap.size)
  obtain ⟨A, hAe⟩ : ∃ A, A = va_A [(g, .inr (2, [.ref g0, .ref g1, .ref g2, .ref g3, .ref g4, .ref g5, .int gc])), (g0, .inl (k0, 16, .inl rE)), (g1, .inl (k1, 16, .inl nM)), (g2, .inl (k2, 16, .inl lD)), (g3, .inl (k3, 16, .inl bF)), (g4, .inl (k4, 16, .inl oR)), (g5, .inl (k5, 16, .inl cH)), (w, .inr (1, [.ref hd, .int ct])), (hd, .inl (cA, 16, .inl h))] s.heap.size := ⟨_, rfl⟩
  rw [← hAe] at hD
  have hA : ∀ q : Nat, s.heap.size ≤ q → A q := fun q h => by rw [hAe]; exact Or.inr h
  have hS : va_S A s.heap s.heap [] := va_S.rf
  have hl := lv_entry ([.ref g, .ref w]) (n := 2) (Nat.le_of_ble_eq_true rfl)
  rw [lg_entry_eq]
  generalize (lg_sl ([.ref g, .ref w]) ++ List.replicate (2 - (lg_sl ([.ref g, .ref w])).length) Slot.unset).toArray = ls at hl ⊢
  have hl : lv_has ls 2 [(0, .ref g), (1, .ref w)] := hl
  refine lv_aload_n hx hb d_Gr_read_0 rfl (lv_at hl 0 rfl) ?_
  refine lv_aload_n hx hb d_Gr_read_1 rfl (lv_at hl 1 rfl) ?_
  refine xw_v (wc := [(g, .inr (2, [.ref g0, .ref g1, .ref g2, .ref g3, .ref g4, .ref g5, .int gc])), (g0, .inl (k0, 16, .inl rE)), (g1, .inl (k1, 16, .inl nM)), (g2, .inl (k2, 16, .inl lD)), (g3, .inl (k3, 16, .inl bF)), (g4, .inl (k4, 16, .inl oR)), (g5, .inl (k5, 16, .inl cH)), (w, .inr (1, [.ref hd, .int ct])), (hd, .inl (cA, 16, .inl h))]) (wr := []) (w1 := [(g, .inr (2, [.ref g0, .ref g1, .ref g2, .ref g3, .ref g4, .ref g5, .int gc])), (g0, .inl (k0, 16, .inl (RE h))), (g1, .inl (k1, 16, .inl nM)), (g2, .inl (k2, 16, .inl lD)), (g3, .inl (k3, 16, .inl bF)), (g4, .inl (k4, 16, .inl oR)), (g5, .inl (k5, 16, .inl cH)), (w, .inr (1, [.ref hd, .int ct])), (hd, .inl (cA, 16, .inl h))]) (va_runV (As := [.ref w]) (rest := []) ⟨hx, hb, hml, hown, hB⟩ (k_Gr_readReached l D g g0 g1 g2 g3 g4 g5 k0 k1 k2 k3 k4 k5 gc rE nM lD bF oR cH w hd cA ct h hg _) ⟨callB_of 1 hB (xg0 mc_Gr_readReached) rfl rfl rfl (hB _ mz_Gr) (hB _ ml_Gr_34) (by decide +kernel) ⟨Nat.le_of_ble_eq_true rfl, Nat.le_of_ble_eq_true rfl⟩, hB _ mi_Gr_readReached, hB _ me_Gr_readReached⟩ (xqV (ws := [(g, .inr (2, [.ref g0, .ref g1, .ref g2, .ref g3, .ref g4, .ref g5, .int gc])), (g0, .inl (k0, 16, .inl rE)), (g1, .inl (k1, 16, .inl nM)), (g2, .inl (k2, 16, .inl lD)), (g3, .inl (k3, 16, .inl bF)), (g4, .inl (k4, 16, .inl oR)), (g5, .inl (k5, 16, .inl cH)), (w, .inr (1, [.ref hd, .int ct])), (hd, .inl (cA, 16, .inl h))]) (tys := [(k0, .int), (k1, .int), (k2, .int), (k3, .int), (k4, .int), (k5, .int), (cA, .int)]) (hP.sub [0, 1, 2, 3, 4, 5, 6, 7, 8] rfl) (hD.sub [0, 1, 2, 3, 4, 5, 6, 7, 8] (by decide) rfl) (hK.sub [0, 1, 2, 3, 4, 5, 6] rfl) hN (va_recv (ci := 2) (q0 := 0) (q := (R_Gr, F_Gr, 7)) hK hP rfl rfl)) rfl rfl hl.1 rfl (lv_room (Nat.le_of_ble_eq_true rfl)) d_Gr_read_2 ⟨Nat.le_of_ble_eq_true rfl, Nat.le_of_ble_eq_true rfl⟩) hP hD hS hA [0, 1, 2, 3, 4, 5, 6, 7, 8] [] rfl rfl (by decide) (by decide) (fun H locs hP hD hS => ?_)
  have hP : va_P D cls [(g, .inr (2, [.ref g0, .ref g1, .ref g2, .ref g3, .ref g4, .ref g5, .int gc])), (g0, .inl (k0, 16, .inl (RE h))), (g1, .inl (k1, 16, .inl nM)), (g2, .inl (k2, 16, .inl lD)), (g3, .inl (k3, 16, .inl bF)), (g4, .inl (k4, 16, .inl oR)), (g5, .inl (k5, 16, .inl cH)), (w, .inr (1, [.ref hd, .int ct])), (hd, .inl (cA, 16, .inl h))] H := hP
  have hD : va_D A [(g, .inr (2, [.ref g0, .ref g1, .ref g2, .ref g3, .ref g4, .ref g5, .int gc])), (g0, .inl (k0, 16, .inl (RE h))), (g1, .inl (k1, 16, .inl nM)), (g2, .inl (k2, 16, .inl lD)), (g3, .inl (k3, 16, .inl bF)), (g4, .inl (k4, 16, .inl oR)), (g5, .inl (k5, 16, .inl cH)), (w, .inr (1, [.ref hd, .int ct])), (hd, .inl (cA, 16, .inl h))] := hD
  refine lv_aload_n hx hb d_Gr_read_5 rfl (lv_at hl 0 rfl) ?_
  refine xw_v (wc := [(g, .inr (2, [.ref g0, .ref g1, .ref g2, .ref g3, .ref g4, .ref g5, .int gc])), (g0, .inl (k0, 16, .inl (RE h))), (g1, .inl (k1, 16, .inl nM)), (g2, .inl (k2, 16, .inl lD)), (g3, .inl (k3, 16, .inl bF)), (g4, .inl (k4, 16, .inl oR)), (g5, .inl (k5, 16, .inl cH))]) (wr := [(w, .inr (1, [.ref hd, .int ct])), (hd, .inl (cA, 16, .inl h))]) (w1 := [(g, .inr (2, [.ref g0, .ref g1, .ref g2, .ref g3, .ref g4, .ref g5, .int (nI (cq (fun v9 => decide (lwN (RE h) v9 = v9)) 16))])), (g0, .inl (k0, 16, .inl (RE h))), (g1, .inl (k1, 16, .inl (fun k => nI (lwN (RE h) k)))), (g2, .inl (k2, 16, .inl lD)), (g3, .inl (k3, 16, .inl bF)), (g4, .inl (k4, 16, .inl oR)), (g5, .inl (k5, 16, .inl cH))]) (va_runV (As := []) (rest := []) ⟨hx, hb, hml, hown, hB⟩ (k_Gr_readNames l D g g0 g1 g2 g3 g4 g5 k0 k1 k2 k3 k4 k5 gc (RE h) nM lD bF oR cH  _) ⟨callB_of 0 hB (xg0 mc_Gr_readNames) rfl rfl rfl (hB _ mz_Gr) (hB _ ml_Gr_38) (by decide +kernel) ⟨Nat.le_of_ble_eq_true rfl, Nat.le_of_ble_eq_true rfl⟩, hB _ mi_Gr_readNames, hB _ me_Gr_readNames⟩ (xqV (ws := [(g, .inr (2, [.ref g0, .ref g1, .ref g2, .ref g3, .ref g4, .ref g5, .int gc])), (g0, .inl (k0, 16, .inl (RE h))), (g1, .inl (k1, 16, .inl nM)), (g2, .inl (k2, 16, .inl lD)), (g3, .inl (k3, 16, .inl bF)), (g4, .inl (k4, 16, .inl oR)), (g5, .inl (k5, 16, .inl cH))]) (tys := [(k0, .int), (k1, .int), (k2, .int), (k3, .int), (k4, .int), (k5, .int)]) (hP.sub [0, 1, 2, 3, 4, 5, 6] rfl) (hD.sub [0, 1, 2, 3, 4, 5, 6] (by decide) rfl) (hK.sub [0, 1, 2, 3, 4, 5] rfl) hN (va_recv (ci := 2) (q0 := 0) (q := (R_Gr, F_Gr, 7)) hK hP rfl rfl)) rfl rfl hl.1 rfl (lv_room (Nat.le_of_ble_eq_true rfl)) d_Gr_read_6 ⟨Nat.le_of_ble_eq_true rfl, Nat.le_of_ble_eq_true rfl⟩) hP hD hS hA [0, 1, 2, 3, 4, 5, 6] [7, 8] rfl rfl (by decide) (by decide) (fun H locs hP hD hS => ?_)
  have hP : va_P D cls [(w, .inr (1, [.ref hd, .int ct])), (hd, .inl (cA, 16, .inl h)), (g, .inr (2, [.ref g0, .ref g1, .ref g2, .ref g3, .ref g4, .ref g5, .int (nI (cq (fun v9 => decide (lwN (RE h) v9 = v9)) 16))])), (g0, .inl (k0, 16, .inl (RE h))), (g1, .inl (k1, 16, .inl (fun k => nI (lwN (RE h) k)))), (g2, .inl (k2, 16, .inl lD)), (g3, .inl (k3, 16, .inl bF)), (g4, .inl (k4, 16, .inl oR)), (g5, .inl (k5, 16, .inl cH))] H := hP
  have hD : va_D A [(w, .inr (1, [.ref hd, .int ct])), (hd, .inl (cA, 16, .inl h)), (g, .inr (2, [.ref g0, .ref g1, .ref g2, .ref g3, .ref g4, .ref g5, .int (nI (cq (fun v9 => decide (lwN (RE h) v9 = v9)) 16))])), (g0, .inl (k0, 16, .inl (RE h))), (g1, .inl (k1, 16, .inl (fun k => nI (lwN (RE h) k)))), (g2, .inl (k2, 16, .inl lD)), (g3, .inl (k3, 16, .inl bF)), (g4, .inl (k4, 16, .inl oR)), (g5, .inl (k5, 16, .inl cH))] := hD
  refine lv_aload_n hx hb d_Gr_read_9 rfl (lv_at hl 0 rfl) ?_
  refine lv_aload_n hx hb d_Gr_read_10 rfl (lv_at hl 1 rfl) ?_
  refine xw_v (wc := [(g, .inr (2, [.ref g0, .ref g1, .ref g2, .ref g3, .ref g4, .ref g5, .int (nI (cq (fun v9 => decide (lwN (RE h) v9 = v9)) 16))])), (g0, .inl (k0, 16, .inl (RE h))), (g1, .inl (k1, 16, .inl (fun k => nI (lwN (RE h) k)))), (g2, .inl (k2, 16, .inl lD)), (g3, .inl (k3, 16, .inl bF)), (g4, .inl (k4, 16, .inl oR)), (g5, .inl (k5, 16, .inl cH)), (w, .inr (1, [.ref hd, .int ct])), (hd, .inl (cA, 16, .inl h))]) (wr := []) (w1 := [(g, .inr (2, [.ref g0, .ref g1, .ref g2, .ref g3, .ref g4, .ref g5, .int (nI (cq (fun v9 => decide (lwN (RE h) v9 = v9)) 16))])), (g0, .inl (k0, 16, .inl (RE h))), (g1, .inl (k1, 16, .inl (fun k => nI (lwN (RE h) k)))), (g2, .inl (k2, 16, .inl (LTp h (lwN (RE h)) 16 0))), (g3, .inl (k3, 16, .inl (BFp h (lwN (RE h)) 16 0))), (g4, .inl (k4, 16, .inl oR)), (g5, .inl (k5, 16, .inl cH)), (w, .inr (1, [.ref hd, .int ct])), (hd, .inl (cA, 16, .inl h))]) (va_runV (As := [.ref w]) (rest := []) ⟨hx, hb, hml, hown, hB⟩ (k_Gr_readLeads l D g g0 g1 g2 g3 g4 g5 k0 k1 k2 k3 k4 k5 (nI (cq (fun v9 => decide (lwN (RE h) v9 = v9)) 16)) (RE h) (lwN (RE h)) lD bF oR cH w hd cA ct h (fun k hk => Nat.lt_of_le_of_lt (lwN_le _ k) hk) _) ⟨callB_of 1 hB (xg0 mc_Gr_readLeads) rfl rfl rfl (hB _ mz_Gr) (hB _ ml_Gr_41) (by decide +kernel) ⟨Nat.le_of_ble_eq_true rfl, Nat.le_of_ble_eq_true rfl⟩, hB _ mi_Gr_readLeads, hB _ me_Gr_readLeads⟩ (xqV (ws := [(g, .inr (2, [.ref g0, .ref g1, .ref g2, .ref g3, .ref g4, .ref g5, .int (nI (cq (fun v9 => decide (lwN (RE h) v9 = v9)) 16))])), (g0, .inl (k0, 16, .inl (RE h))), (g1, .inl (k1, 16, .inl (fun k => nI (lwN (RE h) k)))), (g2, .inl (k2, 16, .inl lD)), (g3, .inl (k3, 16, .inl bF)), (g4, .inl (k4, 16, .inl oR)), (g5, .inl (k5, 16, .inl cH)), (w, .inr (1, [.ref hd, .int ct])), (hd, .inl (cA, 16, .inl h))]) (tys := [(k0, .int), (k1, .int), (k2, .int), (k3, .int), (k4, .int), (k5, .int), (cA, .int)]) (hP.sub [2, 3, 4, 5, 6, 7, 8, 0, 1] rfl) (hD.sub [2, 3, 4, 5, 6, 7, 8, 0, 1] (by decide) rfl) (hK.sub [0, 1, 2, 3, 4, 5, 6] rfl) hN (va_recv (ci := 2) (q0 := 2) (q := (R_Gr, F_Gr, 7)) hK hP rfl rfl)) rfl rfl hl.1 rfl (lv_room (Nat.le_of_ble_eq_true rfl)) d_Gr_read_11 ⟨Nat.le_of_ble_eq_true rfl, Nat.le_of_ble_eq_true rfl⟩) hP hD hS hA [2, 3, 4, 5, 6, 7, 8, 0, 1] [] rfl rfl (by decide) (by decide) (fun H locs hP hD hS => ?_)
  have hP : va_P D cls [(g, .inr (2, [.ref g0, .ref g1, .ref g2, .ref g3, .ref g4, .ref g5, .int (nI (cq (fun v9 => decide (lwN (RE h) v9 = v9)) 16))])), (g0, .inl (k0, 16, .inl (RE h))), (g1, .inl (k1, 16, .inl (fun k => nI (lwN (RE h) k)))), (g2, .inl (k2, 16, .inl (LTp h (lwN (RE h)) 16 0))), (g3, .inl (k3, 16, .inl (BFp h (lwN (RE h)) 16 0))), (g4, .inl (k4, 16, .inl oR)), (g5, .inl (k5, 16, .inl cH)), (w, .inr (1, [.ref hd, .int ct])), (hd, .inl (cA, 16, .inl h))] H := hP
  have hD : va_D A [(g, .inr (2, [.ref g0, .ref g1, .ref g2, .ref g3, .ref g4, .ref g5, .int (nI (cq (fun v9 => decide (lwN (RE h) v9 = v9)) 16))])), (g0, .inl (k0, 16, .inl (RE h))), (g1, .inl (k1, 16, .inl (fun k => nI (lwN (RE h) k)))), (g2, .inl (k2, 16, .inl (LTp h (lwN (RE h)) 16 0))), (g3, .inl (k3, 16, .inl (BFp h (lwN (RE h)) 16 0))), (g4, .inl (k4, 16, .inl oR)), (g5, .inl (k5, 16, .inl cH)), (w, .inr (1, [.ref hd, .int ct])), (hd, .inl (cA, 16, .inl h))] := hD
  refine lv_aload_n hx hb d_Gr_read_14 rfl (lv_at hl 0 rfl) ?_
  refine xw_v (wc := [(g, .inr (2, [.ref g0, .ref g1, .ref g2, .ref g3, .ref g4, .ref g5, .int (nI (cq (fun v9 => decide (lwN (RE h) v9 = v9)) 16))])), (g0, .inl (k0, 16, .inl (RE h))), (g1, .inl (k1, 16, .inl (fun k => nI (lwN (RE h) k)))), (g2, .inl (k2, 16, .inl (LTp h (lwN (RE h)) 16 0))), (g3, .inl (k3, 16, .inl (BFp h (lwN (RE h)) 16 0))), (g4, .inl (k4, 16, .inl oR)), (g5, .inl (k5, 16, .inl cH))]) (wr := [(w, .inr (1, [.ref hd, .int ct])), (hd, .inl (cA, 16, .inl h))]) (w1 := [(g, .inr (2, [.ref g0, .ref g1, .ref g2, .ref g3, .ref g4, .ref g5, .int (nI (cq (fun v9 => decide (lwN (RE h) v9 = v9)) 16))])), (g0, .inl (k0, 16, .inl (RE h))), (g1, .inl (k1, 16, .inl (fun k => nI (lwN (RE h) k)))), (g2, .inl (k2, 16, .inl (LTp h (lwN (RE h)) 16 0))), (g3, .inl (k3, 16, .inl (BFp h (lwN (RE h)) 16 0))), (g4, .inl (k4, 16, .inl (fun k => if k < (cq (fun v9 => decide (lwN (RE h) v9 = v9)) 16) then nI (nxF (fun k => nI (lwN (RE h) k)) (BFp h (lwN (RE h)) 16 0) (plF (fun k => nI (lwN (RE h) k)) (BFp h (lwN (RE h)) 16 0) k)) else oR k))), (g5, .inl (k5, 16, .inl cH))]) (va_runV (As := []) (rest := []) ⟨hx, hb, hml, hown, hB⟩ (k_Gr_readOrder l D g g0 g1 g2 g3 g4 g5 k0 k1 k2 k3 k4 k5 (cq (fun v9 => decide (lwN (RE h) v9 = v9)) 16) (RE h) (fun k => nI (lwN (RE h) k)) (LTp h (lwN (RE h)) 16 0) (BFp h (lwN (RE h)) 16 0) oR cH (cq_le _ 16) _) ⟨callB_of 0 hB (xg0 mc_Gr_readOrder) rfl rfl rfl (hB _ mz_Gr) (hB _ ml_Gr_44) (by decide +kernel) ⟨Nat.le_of_ble_eq_true rfl, Nat.le_of_ble_eq_true rfl⟩, hB _ mi_Gr_readOrder, hB _ me_Gr_readOrder⟩ (xqV (ws := [(g, .inr (2, [.ref g0, .ref g1, .ref g2, .ref g3, .ref g4, .ref g5, .int (nI (cq (fun v9 => decide (lwN (RE h) v9 = v9)) 16))])), (g0, .inl (k0, 16, .inl (RE h))), (g1, .inl (k1, 16, .inl (fun k => nI (lwN (RE h) k)))), (g2, .inl (k2, 16, .inl (LTp h (lwN (RE h)) 16 0))), (g3, .inl (k3, 16, .inl (BFp h (lwN (RE h)) 16 0))), (g4, .inl (k4, 16, .inl oR)), (g5, .inl (k5, 16, .inl cH))]) (tys := [(k0, .int), (k1, .int), (k2, .int), (k3, .int), (k4, .int), (k5, .int)]) (hP.sub [0, 1, 2, 3, 4, 5, 6] rfl) (hD.sub [0, 1, 2, 3, 4, 5, 6] (by decide) rfl) (hK.sub [0, 1, 2, 3, 4, 5] rfl) hN (va_recv (ci := 2) (q0 := 0) (q := (R_Gr, F_Gr, 7)) hK hP rfl rfl)) rfl rfl hl.1 rfl (lv_room (Nat.le_of_ble_eq_true rfl)) d_Gr_read_15 ⟨Nat.le_of_ble_eq_true rfl, Nat.le_of_ble_eq_true rfl⟩) hP hD hS hA [0, 1, 2, 3, 4, 5, 6] [7, 8] rfl rfl (by decide) (by decide) (fun H locs hP hD hS => ?_)
  have hP : va_P D cls [(w, .inr (1, [.ref hd, .int ct])), (hd, .inl (cA, 16, .inl h)), (g, .inr (2, [.ref g0, .ref g1, .ref g2, .ref g3, .ref g4, .ref g5, .int (nI (cq (fun v9 => decide (lwN (RE h) v9 = v9)) 16))])), (g0, .inl (k0, 16, .inl (RE h))), (g1, .inl (k1, 16, .inl (fun k => nI (lwN (RE h) k)))), (g2, .inl (k2, 16, .inl (LTp h (lwN (RE h)) 16 0))), (g3, .inl (k3, 16, .inl (BFp h (lwN (RE h)) 16 0))), (g4, .inl (k4, 16, .inl (fun k => if k < (cq (fun v9 => decide (lwN (RE h) v9 = v9)) 16) then nI (nxF (fun k => nI (lwN (RE h) k)) (BFp h (lwN (RE h)) 16 0) (plF (fun k => nI (lwN (RE h) k)) (BFp h (lwN (RE h)) 16 0) k)) else oR k))), (g5, .inl (k5, 16, .inl cH))] H := hP
  have hD : va_D A [(w, .inr (1, [.ref hd, .int ct])), (hd, .inl (cA, 16, .inl h)), (g, .inr (2, [.ref g0, .ref g1, .ref g2, .ref g3, .ref g4, .ref g5, .int (nI (cq (fun v9 => decide (lwN (RE h) v9 = v9)) 16))])), (g0, .inl (k0, 16, .inl (RE h))), (g1, .inl (k1, 16, .inl (fun k => nI (lwN (RE h) k)))), (g2, .inl (k2, 16, .inl (LTp h (lwN (RE h)) 16 0))), (g3, .inl (k3, 16, .inl (BFp h (lwN (RE h)) 16 0))), (g4, .inl (k4, 16, .inl (fun k => if k < (cq (fun v9 => decide (lwN (RE h) v9 = v9)) 16) then nI (nxF (fun k => nI (lwN (RE h) k)) (BFp h (lwN (RE h)) 16 0) (plF (fun k => nI (lwN (RE h) k)) (BFp h (lwN (RE h)) 16 0) k)) else oR k))), (g5, .inl (k5, 16, .inl cH))] := hD
  have hP9 := hP.sub (ws' := [(g, .inr (2, [.ref g0, .ref g1, .ref g2, .ref g3, .ref g4, .ref g5, .int (nI (cq (fun v9 => decide (lwN (RE h) v9 = v9)) 16))])), (g0, .inl (k0, 16, .inl (RE h))), (g1, .inl (k1, 16, .inl (fun k => nI (lwN (RE h) k)))), (g2, .inl (k2, 16, .inl (LTp h (lwN (RE h)) 16 0))), (g3, .inl (k3, 16, .inl (BFp h (lwN (RE h)) 16 0))), (g4, .inl (k4, 16, .inl (fun k => if k < (cq (fun v9 => decide (lwN (RE h) v9 = v9)) 16) then nI (nxF (fun k => nI (lwN (RE h) k)) (BFp h (lwN (RE h)) 16 0) (plF (fun k => nI (lwN (RE h) k)) (BFp h (lwN (RE h)) 16 0) k)) else oR k))), (g5, .inl (k5, 16, .inl cH)), (w, .inr (1, [.ref hd, .int ct])), (hd, .inl (cA, 16, .inl h))]) [2, 3, 4, 5, 6, 7, 8, 0, 1] rfl
  have hD9 := hD.sub (ws' := [(g, .inr (2, [.ref g0, .ref g1, .ref g2, .ref g3, .ref g4, .ref g5, .int (nI (cq (fun v9 => decide (lwN (RE h) v9 = v9)) 16))])), (g0, .inl (k0, 16, .inl (RE h))), (g1, .inl (k1, 16, .inl (fun k => nI (lwN (RE h) k)))), (g2, .inl (k2, 16, .inl (LTp h (lwN (RE h)) 16 0))), (g3, .inl (k3, 16, .inl (BFp h (lwN (RE h)) 16 0))), (g4, .inl (k4, 16, .inl (fun k => if k < (cq (fun v9 => decide (lwN (RE h) v9 = v9)) 16) then nI (nxF (fun k => nI (lwN (RE h) k)) (BFp h (lwN (RE h)) 16 0) (plF (fun k => nI (lwN (RE h) k)) (BFp h (lwN (RE h)) 16 0) k)) else oR k))), (g5, .inl (k5, 16, .inl cH)), (w, .inr (1, [.ref hd, .int ct])), (hd, .inl (cA, 16, .inl h))]) [2, 3, 4, 5, 6, 7, 8, 0, 1] (by decide) rfl
  subst hAe
  exact W.vret hx hb hr (fun t ht hW => ⟨⟨(), rfl, trivial, by rw [ht]; exact hP9, va_K.moved hW.alike hK, hD9⟩, hS.F ht⟩) hS.2.2 d_Gr_read_18
set_option maxHeartbeats 4000000 in
set_option maxRecDepth 100000 in
theorem k_Gr_longestChain (l : Launch) (D : va_G) (g g0 g1 g2 g3 g4 g5 : Nat) (k0 k1 k2 k3 k4 k5 : ClassId) (cn9 : Nat) (rE : Nat → Int32) (nM : Nat → Int32) (lD : Nat → Int32) (bF : Nat → Int32) (oR : Nat → Int32) (cH : Nat → Int32) (od : Nat → Nat) (hcn : cn9 ≤ 16) (hod : ∀ k, k < cn9 → oR k = nI (od k) ∧ od k < 16) (sz : Nat) : Met l y_Gr_longestChain (Cond.code y_Gr_longestChain c_Gr_longestChain 4 (some .int) :: BS) { frames := 2, cells := 0, slots := 0, locals := 63 } (va_Pc [.ref g] (xWp D [(g, .inr (2, [.ref g0, .ref g1, .ref g2, .ref g3, .ref g4, .ref g5, .int (nI cn9)])), (g0, .inl (k0, 16, .inl rE)), (g1, .inl (k1, 16, .inl nM)), (g2, .inl (k2, 16, .inl lD)), (g3, .inl (k3, 16, .inl bF)), (g4, .inl (k4, 16, .inl oR)), (g5, .inl (k5, 16, .inl cH))] [(k0, .int), (k1, .int), (k2, .int), (k3, .int), (k4, .int), (k5, .int)] sz)) (xQi D [(g, .inr (2, [.ref g0, .ref g1, .ref g2, .ref g3, .ref g4, .ref g5, .int (nI cn9)])), (g0, .inl (k0, 16, .inl rE)), (g1, .inl (k1, 16, .inl nM)), (g2, .inl (k2, 16, .inl lD)), (g3, .inl (k3, 16, .inl bF)), (g4, .inl (k4, 16, .inl oR)), (g5, .inl (k5, 16, .inl cH))] [(g, .inr (2, [.ref g0, .ref g1, .ref g2, .ref g3, .ref g4, .ref g5, .int (nI cn9)])), (g0, .inl (k0, 16, .inl rE)), (g1, .inl (k1, 16, .inl nM)), (g2, .inl (k2, 16, .inl lD)), (g3, .inl (k3, 16, .inl bF)), (g4, .inl (k4, 16, .inl oR)), (g5, .inl (k5, 16, .inl (chF bF od cH cn9)))] [(k0, .int), (k1, .int), (k2, .int), (k3, .int), (k4, .int), (k5, .int)] sz (lgF bF od cH cn9)) 0 0 (va_A [(g, .inr (2, [.ref g0, .ref g1, .ref g2, .ref g3, .ref g4, .ref g5, .int (nI cn9)])), (g0, .inl (k0, 16, .inl rE)), (g1, .inl (k1, 16, .inl nM)), (g2, .inl (k2, 16, .inl lD)), (g3, .inl (k3, 16, .inl bF)), (g4, .inl (k4, 16, .inl oR)), (g5, .inl (k5, 16, .inl cH))] sz) := by
  refine Met.ofW (cc := c_Gr_longestChain) (maxL := 4) (ret := (some .int)) (by decide) rfl ?_
  intro p e s m args below meth c s₁ B hml hv
  obtain ⟨rfl, hsz, hP, hK, hD0, hN⟩ := hv
  have hx := B.exec
  have hb := B.bytes
  have hr := B.returns
  have hB := xB B.pre
  have hown : s.vm.findClass R_Gr = some m.cls := findClass_of_methodNamed B.named
  have hlocks := B.notSynchronized
  subst hsz
  have hD := hD0.self (sz := s.heap.size)
  obtain ⟨A, hAe⟩ : ∃ A, A = va_A [(g, .inr (2, [.ref g0, .ref g1, .ref g2, .ref g3, .ref g4, .ref g5, .int (nI cn9)])), (g0, .inl (k0, 16, .inl rE)), (g1, .inl (k1, 16, .inl nM)), (g2, .inl (k2, 16, .inl lD)), (g3, .inl (k3, 16, .inl bF)), (g4, .inl (k4, 16, .inl oR)), (g5, .inl (k5, 16, .inl cH))] s.heap.size := ⟨_, rfl⟩
  rw [← hAe] at hD
  have hA : ∀ q : Nat, s.heap.size ≤ q → A q := fun q h => by rw [hAe]; exact Or.inr h
  have hS : va_S A s.heap s.heap [] := va_S.rf
  have hl := lv_entry ([.ref g]) (n := 4) (Nat.le_of_ble_eq_true rfl)
  rw [lg_entry_eq]
  generalize (lg_sl ([.ref g]) ++ List.replicate (4 - (lg_sl ([.ref g])).length) Slot.unset).toArray = ls at hl ⊢
  have hl : lv_has ls 4 [(0, .ref g)] := hl
  refine lv_iconst (v := nI 0) hx hb d_Gr_longestChain_0 (by decide) ?_
  refine lv_istore_n hx hb d_Gr_longestChain_1 rfl hl (by decide) rfl (fun ls hl => ?_)
  have hl : lv_has ls 4 [(1, .int (nI 0)), (0, .ref g)] := hl
  refine lv_iconst (v := nI 0) hx hb d_Gr_longestChain_2 (by decide) ?_
  refine lv_istore_n hx hb d_Gr_longestChain_3 rfl hl (by decide) rfl (fun ls hl => ?_)
  have hl : lv_has ls 4 [(2, .int (nI 0)), (1, .int (nI 0)), (0, .ref g)] := hl
  have hz : cH = (chF bF od cH 0) := rfl
  rw [hz] at hP hD
  refine xl_w (fun (u : Nat) ls H locs => ((u ≤ cn9)) ∧ lv_has ls 4 [(2, .int (nI u)), (1, .int (lgF bF od cH u)), (0, .ref g)] ∧ va_P D cls [(g, .inr (2, [.ref g0, .ref g1, .ref g2, .ref g3, .ref g4, .ref g5, .int (nI cn9)])), (g0, .inl (k0, 16, .inl rE)), (g1, .inl (k1, 16, .inl nM)), (g2, .inl (k2, 16, .inl lD)), (g3, .inl (k3, 16, .inl bF)), (g4, .inl (k4, 16, .inl oR)), (g5, .inl (k5, 16, .inl (chF bF od cH u)))] H ∧ va_D A [(g, .inr (2, [.ref g0, .ref g1, .ref g2, .ref g3, .ref g4, .ref g5, .int (nI cn9)])), (g0, .inl (k0, 16, .inl rE)), (g1, .inl (k1, 16, .inl nM)), (g2, .inl (k2, 16, .inl lD)), (g3, .inl (k3, 16, .inl bF)), (g4, .inl (k4, 16, .inl oR)), (g5, .inl (k5, 16, .inl (chF bF od cH u)))] ∧ va_S A s.heap H locs) (fun u => cn9 - u) (fun u ls H locs hI ih4 => ?_) 0 _ ⟨Nat.zero_le _, hl, hP, hD, hS⟩
  obtain ⟨hI, hl, hP, hD, hS⟩ := hI
  have hu := hI
  refine lv_iload_n hx hb d_Gr_longestChain_4 rfl (lv_at hl 0 rfl) ?_
  refine lv_aload_n hx hb d_Gr_longestChain_5 rfl (lv_at hl 2 rfl) ?_
  refine va_get (D := D) (ci := 2) (v := .int (nI cn9)) (C := R_Gr) (T := F_Gr) (N := 7) hx hb hB in_Gr hown hK hP 0 rfl rfl 6 (by decide) (hB _ mf_Gr_30) (fun _ h9 => h9) rfl d_Gr_longestChain_6 ?_
  refine lv_icmp_ge (tgt := 54) hx hb d_Gr_longestChain_9 rfl (fun hc9 => ?_) (fun hc9 => ?_)
  · have hc9 : cn9 ≤ u := (nI_leI (by omega) (by omega)).mp hc9
    have hz : (chF bF od cH u) = (chF bF od cH cn9) := by rw [show u = cn9 by omega]
    rw [hz] at hP hD
    refine lv_iload_n hx hb d_Gr_longestChain_54 rfl (lv_at hl 1 rfl) ?_
    have hP9 := hP.sub (ws' := [(g, .inr (2, [.ref g0, .ref g1, .ref g2, .ref g3, .ref g4, .ref g5, .int (nI cn9)])), (g0, .inl (k0, 16, .inl rE)), (g1, .inl (k1, 16, .inl nM)), (g2, .inl (k2, 16, .inl lD)), (g3, .inl (k3, 16, .inl bF)), (g4, .inl (k4, 16, .inl oR)), (g5, .inl (k5, 16, .inl (chF bF od cH cn9)))]) [0, 1, 2, 3, 4, 5, 6] rfl
    have hD9 := hD.sub (ws' := [(g, .inr (2, [.ref g0, .ref g1, .ref g2, .ref g3, .ref g4, .ref g5, .int (nI cn9)])), (g0, .inl (k0, 16, .inl rE)), (g1, .inl (k1, 16, .inl nM)), (g2, .inl (k2, 16, .inl lD)), (g3, .inl (k3, 16, .inl bF)), (g4, .inl (k4, 16, .inl oR)), (g5, .inl (k5, 16, .inl (chF bF od cH cn9)))]) [0, 1, 2, 3, 4, 5, 6] (by decide) rfl
    subst hAe
    refine xv_top (x' := lgF bF od cH cn9) (by rw [show u = cn9 by omega]) ?_
    exact W.iret (v := lgF bF od cH cn9) hx hb hr (fun t ht hW => ⟨⟨_, (), rfl, rfl, by rw [ht]; exact hP9, va_K.moved hW.alike hK, hD9⟩, hS.F ht⟩) hS.2.2 d_Gr_longestChain_55
  · have hc9 : ¬ (cn9 ≤ u) := fun q9 => hc9 ((nI_leI (by omega) (by omega)).mpr q9)
    refine lv_aload_n hx hb d_Gr_longestChain_12 rfl (lv_at hl 2 rfl) ?_
    refine va_get (D := D) (ci := 2) (v := .ref g4) (C := R_Gr) (T := F_Gr) (N := 7) hx hb hB in_Gr hown hK hP 0 rfl rfl 4 (by decide) (hB _ mf_Gr_24) (fun _ h9 => h9) rfl d_Gr_longestChain_13 ?_
    refine lv_iload_n hx hb d_Gr_longestChain_16 rfl (lv_at hl 0 rfl) ?_
    refine xa_ld (u := u) hx hb hK hP 5 4 rfl rfl (by omega) (by decide) d_Gr_longestChain_17 ?_
    refine xv_top (x' := nI (od u)) ((hod u (by omega)).1) ?_
    have hod2 := (hod u (by omega)).2
    refine lv_istore_n hx hb d_Gr_longestChain_18 rfl hl (by decide) rfl (fun ls hl => ?_)
    have hl : lv_has ls 4 [(3, .int (nI (od u))), (2, .int (nI u)), (1, .int (lgF bF od cH u)), (0, .ref g)] := hl
    refine lv_aload_n hx hb d_Gr_longestChain_19 rfl (lv_at hl 3 rfl) ?_
    refine va_get (D := D) (ci := 2) (v := .ref g5) (C := R_Gr) (T := F_Gr) (N := 7) hx hb hB in_Gr hown hK hP 0 rfl rfl 5 (by decide) (hB _ mf_Gr_27) (fun _ h9 => h9) rfl d_Gr_longestChain_20 ?_
    refine lv_iload_n hx hb d_Gr_longestChain_23 rfl (lv_at hl 0 rfl) ?_
    refine lv_iconst (v := nI 1) hx hb d_Gr_longestChain_24 (by decide) ?_
    refine lv_aload_n hx hb d_Gr_longestChain_25 rfl (lv_at hl 3 rfl) ?_
    refine lv_aload_n hx hb d_Gr_longestChain_26 rfl (lv_at hl 3 rfl) ?_
    refine va_get (D := D) (ci := 2) (v := .ref g3) (C := R_Gr) (T := F_Gr) (N := 7) hx hb hB in_Gr hown hK hP 0 rfl rfl 3 (by decide) (hB _ mf_Gr_21) (fun _ h9 => h9) rfl d_Gr_longestChain_27 ?_
    refine lv_iload_n hx hb d_Gr_longestChain_30 rfl (lv_at hl 0 rfl) ?_
    refine xa_ld (u := (od u)) hx hb hK hP 4 3 rfl rfl (by omega) (by decide) d_Gr_longestChain_31 ?_
    refine xr_cal (va_runV (As := [.int (bF (od u))]) (rest := [.int (nI 1), .int (nI (od u)), .ref g5]) ⟨hx, hb, hml, hown, hB⟩ (k_Gr_longestOf l D g g0 g1 g2 g3 g4 g5 k0 k1 k2 k3 k4 k5 (nI cn9) rE nM lD bF oR (chF bF od cH u) (bF (od u))) ⟨callB_of 1 hB (xg0 mc_Gr_longestOf) rfl rfl rfl (hB _ mz_Gr) (hB _ ml_Gr_63) (by decide +kernel) ⟨Nat.le_of_ble_eq_true rfl, Nat.le_of_ble_eq_true rfl⟩, hB _ mi_Gr_longestOf, hB _ me_Gr_longestOf⟩ (xpV (ws := [(g, .inr (2, [.ref g0, .ref g1, .ref g2, .ref g3, .ref g4, .ref g5, .int (nI cn9)])), (g0, .inl (k0, 16, .inl rE)), (g1, .inl (k1, 16, .inl nM)), (g2, .inl (k2, 16, .inl lD)), (g3, .inl (k3, 16, .inl bF)), (g4, .inl (k4, 16, .inl oR)), (g5, .inl (k5, 16, .inl (chF bF od cH u)))]) (tys := [(k0, .int), (k1, .int), (k2, .int), (k3, .int), (k4, .int), (k5, .int)]) (hP.sub [0, 1, 2, 3, 4, 5, 6] rfl) (hK.sub [0, 1, 2, 3, 4, 5] rfl) hN (va_recv (ci := 2) (q0 := 0) (q := (R_Gr, F_Gr, 7)) hK hP rfl rfl)) rfl rfl hl.1 rfl (lv_room (Nat.le_of_ble_eq_true rfl)) d_Gr_longestChain_32 ⟨Nat.le_of_ble_eq_true rfl, Nat.le_of_ble_eq_true rfl⟩) ?_
    refine lv_iadd hx hb d_Gr_longestChain_35 ?_
    refine xa_st (u := (od u)) hx hb hK hP hD hS 6 5 rfl rfl (by omega) (by decide) d_Gr_longestChain_36 (fun H locs hP hD hS => ?_)
    have hP : va_P D cls [(g, .inr (2, [.ref g0, .ref g1, .ref g2, .ref g3, .ref g4, .ref g5, .int (nI cn9)])), (g0, .inl (k0, 16, .inl rE)), (g1, .inl (k1, 16, .inl nM)), (g2, .inl (k2, 16, .inl lD)), (g3, .inl (k3, 16, .inl bF)), (g4, .inl (k4, 16, .inl oR)), (g5, .inl (k5, 16, .inl (upd (chF bF od cH u) (od u) ((nI 1) + (mxq (bF (od u)) (chF bF od cH u) 16)))))] H := hP
    have hD : va_D A [(g, .inr (2, [.ref g0, .ref g1, .ref g2, .ref g3, .ref g4, .ref g5, .int (nI cn9)])), (g0, .inl (k0, 16, .inl rE)), (g1, .inl (k1, 16, .inl nM)), (g2, .inl (k2, 16, .inl lD)), (g3, .inl (k3, 16, .inl bF)), (g4, .inl (k4, 16, .inl oR)), (g5, .inl (k5, 16, .inl (upd (chF bF od cH u) (od u) ((nI 1) + (mxq (bF (od u)) (chF bF od cH u) 16)))))] := hD
    have hz : (upd (chF bF od cH u) (od u) ((nI 1) + (mxq (bF (od u)) (chF bF od cH u) 16))) = (chF bF od cH (u + 1)) := rfl
    rw [hz] at hP hD
    refine lv_iload_n hx hb d_Gr_longestChain_37 rfl (lv_at hl 2 rfl) ?_
    refine lv_aload_n hx hb d_Gr_longestChain_38 rfl (lv_at hl 3 rfl) ?_
    refine va_get (D := D) (ci := 2) (v := .ref g5) (C := R_Gr) (T := F_Gr) (N := 7) hx hb hB in_Gr hown hK hP 0 rfl rfl 5 (by decide) (hB _ mf_Gr_27) (fun _ h9 => h9) rfl d_Gr_longestChain_39 ?_
    refine lv_iload_n hx hb d_Gr_longestChain_42 rfl (lv_at hl 0 rfl) ?_
    refine xa_ld (u := (od u)) hx hb hK hP 6 5 rfl rfl (by omega) (by decide) d_Gr_longestChain_43 ?_
    refine va_mmax hx hb (hml.trans hl.1.symm) hown (hB _ ml_Gr_66) (hB _ ms_Ma_max) (hB _ mz_Ma) (hB _ mc_Ma_max) (by decide) (Nat.le_of_ble_eq_true rfl) (by decide) (by decide) d_Gr_longestChain_44 ?_
    refine lv_istore_n hx hb d_Gr_longestChain_47 rfl hl (by decide) rfl (fun ls hl => ?_)
    have hl : lv_has ls 4 [(1, .int (if lgF bF od cH u < (chF bF od cH (u + 1)) (od u) then (chF bF od cH (u + 1)) (od u) else lgF bF od cH u)), (3, .int (nI (od u))), (2, .int (nI u)), (0, .ref g)] := hl
    have hl : lv_has ls 4 [(1, .int (lgF bF od cH (u + 1))), (3, .int (nI (od u))), (2, .int (nI u)), (0, .ref g)] := by
      have hz : (if lgF bF od cH u < (chF bF od cH (u + 1)) (od u) then (chF bF od cH (u + 1)) (od u) else lgF bF od cH u) = lgF bF od cH (u + 1) := rfl
      rw [← hz]; exact hl
    refine lv_iinc hx hb d_Gr_longestChain_48 hl (k := 2) rfl (v := nI (u + 1)) (nI_1 u) (by decide) rfl (fun ls hl => ?_)
    have hl : lv_has ls 4 [(2, .int (nI (u + 1))), (1, .int (lgF bF od cH (u + 1))), (3, .int (nI (od u))), (0, .ref g)] := hl
    refine lv_goto (tgt := 4) hx hb d_Gr_longestChain_51 rfl ?_
    exact ih4 (u + 1) _ H locs ⟨by omega, lv_sub hl [0, 1, 3] rfl, hP, hD, hS⟩ (by omega)
