set_option maxHeartbeats 4000000 in
set_option maxRecDepth 100000 in
theorem k_M_bridges (l : Launch) (D : va_G) (mo m0 m1 m2 m3 m4 m5 m6 : Nat) (o0 o1 o2 o3 o4 o5 o6 : ClassId) (mc : Int32) (mn : Int32) (mg : Int32) (h : Nat → Int32) (mO : Nat → Int32) (mG : Nat → Int32) (mF : Nat → Int32) (mA : Nat → Int32) (mU : Nat → Int32) (mR : Nat → Int32) (hg : gd h) (sz : Nat) : Met l y_M_bridges (Cond.code y_M_bridges c_M_bridges 4 (some .int) :: BS) { frames := 3, cells := 0, slots := 0, locals := 67 } (va_Pc [.ref mo] (xWp D [(mo, .inr (5, [.int mc, .int mn, .ref m0, .int mg, .ref m1, .ref m2, .ref m3, .ref m4, .ref m5, .ref m6])), (m0, .inl (o0, 16, .inl h)), (m1, .inl (o1, 16, .inl mO)), (m2, .inl (o2, 16, .inl mG)), (m3, .inl (o3, 16, .inl mF)), (m4, .inl (o4, 32, .inl mA)), (m5, .inl (o5, 32, .inl mU)), (m6, .inl (o6, 32, .inl mR))] [(o0, .int), (o1, .int), (o2, .int), (o3, .int), (o4, .int), (o5, .int), (o6, .int)] sz)) (xQi D [(mo, .inr (5, [.int mc, .int mn, .ref m0, .int mg, .ref m1, .ref m2, .ref m3, .ref m4, .ref m5, .ref m6])), (m0, .inl (o0, 16, .inl h)), (m1, .inl (o1, 16, .inl mO)), (m2, .inl (o2, 16, .inl mG)), (m3, .inl (o3, 16, .inl mF)), (m4, .inl (o4, 32, .inl mA)), (m5, .inl (o5, 32, .inl mU)), (m6, .inl (o6, 32, .inl mR))] [(mo, .inr (5, [.int mc, .int mn, .ref m0, .int mg, .ref m1, .ref m2, .ref m3, .ref m4, .ref m5, .ref m6])), (m0, .inl (o0, 16, .inl h)), (m1, .inl (o1, 16, .inl mO)), (m2, .inl (o2, 16, .inl mG)), (m3, .inl (o3, 16, .inl mF)), (m4, .inl (o4, 32, .inl mA)), (m5, .inl (o5, 32, .inl mU)), (m6, .inl (o6, 32, .inl mR))] [(o0, .int), (o1, .int), (o2, .int), (o3, .int), (o4, .int), (o5, .int), (o6, .int)] sz (nI (sq (fun a9 => cq (brP h a9) 16) 16))) 0 0 (va_A [(mo, .inr (5, [.int mc, .int mn, .ref m0, .int mg, .ref m1, .ref m2, .ref m3, .ref m4, .ref m5, .ref m6])), (m0, .inl (o0, 16, .inl h)), (m1, .inl (o1, 16, .inl mO)), (m2, .inl (o2, 16, .inl mG)), (m3, .inl (o3, 16, .inl mF)), (m4, .inl (o4, 32, .inl mA)), (m5, .inl (o5, 32, .inl mU)), (m6, .inl (o6, 32, .inl mR))] sz) := by
  refine Met.ofW (cc := c_M_bridges) (maxL := 4) (ret := (some .int)) (by decide) rfl ?_
  intro p e s m args below meth c s₁ B hml hv
  obtain ⟨rfl, hsz, hP, hK, hD0, hN⟩ := hv
  have hx := B.exec
  have hb := B.bytes
  have hr := B.returns
  have hB := xB B.pre
  have hown : s.vm.findClass R_M = some m.cls := findClass_of_methodNamed B.named
  have hlocks := B.notSynchronized
  subst hsz
  have hD := hD0.self (sz := s.heap.size)
  obtain ⟨A, hAe⟩ : ∃ A, A = va_A [(mo, .inr (5, [.int mc, .int mn, .ref m0, .int mg, .ref m1, .ref m2, .ref m3, .ref m4, .ref m5, .ref m6])), (m0, .inl (o0, 16, .inl h)), (m1, .inl (o1, 16, .inl mO)), (m2, .inl (o2, 16, .inl mG)), (m3, .inl (o3, 16, .inl mF)), (m4, .inl (o4, 32, .inl mA)), (m5, .inl (o5, 32, .inl mU)), (m6, .inl (o6, 32, .inl mR))] s.heap.size := ⟨_, rfl⟩
  rw [← hAe] at hD
  have hA : ∀ q : Nat, s.heap.size ≤ q → A q := fun q h => by rw [hAe]; exact Or.inr h
  have hS : va_S A s.heap s.heap [] := va_S.rf
  have hl := lv_entry ([.ref mo]) (n := 4) (Nat.le_of_ble_eq_true rfl)
  rw [lg_entry_eq]
  generalize (lg_sl ([.ref mo]) ++ List.replicate (4 - (lg_sl ([.ref mo])).length) Slot.unset).toArray = ls at hl ⊢
  have hl : lv_has ls 4 [(0, .ref mo)] := hl
  refine lv_iconst (v := nI 0) hx hb d_M_bridges_0 (by decide) ?_
  refine lv_istore_n hx hb d_M_bridges_1 rfl hl (by decide) rfl (fun ls hl => ?_)
  have hl : lv_has ls 4 [(1, .int (nI 0)), (0, .ref mo)] := hl
  refine lv_iconst (v := nI 0) hx hb d_M_bridges_2 (by decide) ?_
  refine lv_istore_n hx hb d_M_bridges_3 rfl hl (by decide) rfl (fun ls hl => ?_)
  have hl : lv_has ls 4 [(2, .int (nI 0)), (1, .int (nI 0)), (0, .ref mo)] := hl
  refine xl_w (fun (u : Nat) ls H locs => ((u ≤ 16)) ∧ lv_has ls 4 [(2, .int (nI u)), (1, .int (nI (sq (fun a9 => cq (brP h a9) 16) u))), (0, .ref mo)] ∧ va_P D cls [(mo, .inr (5, [.int mc, .int mn, .ref m0, .int mg, .ref m1, .ref m2, .ref m3, .ref m4, .ref m5, .ref m6])), (m0, .inl (o0, 16, .inl h)), (m1, .inl (o1, 16, .inl mO)), (m2, .inl (o2, 16, .inl mG)), (m3, .inl (o3, 16, .inl mF)), (m4, .inl (o4, 32, .inl mA)), (m5, .inl (o5, 32, .inl mU)), (m6, .inl (o6, 32, .inl mR))] H ∧ va_D A [(mo, .inr (5, [.int mc, .int mn, .ref m0, .int mg, .ref m1, .ref m2, .ref m3, .ref m4, .ref m5, .ref m6])), (m0, .inl (o0, 16, .inl h)), (m1, .inl (o1, 16, .inl mO)), (m2, .inl (o2, 16, .inl mG)), (m3, .inl (o3, 16, .inl mF)), (m4, .inl (o4, 32, .inl mA)), (m5, .inl (o5, 32, .inl mU)), (m6, .inl (o6, 32, .inl mR))] ∧ va_S A s.heap H locs) (fun u => 16 - u) (fun u ls H locs hI ih4 => ?_) 0 _ ⟨Nat.zero_le _, hl, hP, hD, hS⟩
  obtain ⟨hI, hl, hP, hD, hS⟩ := hI
  have hu_u := hI
  refine lv_iload_n hx hb d_M_bridges_4 rfl (lv_at hl 0 rfl) ?_
  refine lv_bipush (v := nI 16) hx hb d_M_bridges_5 (by decide) ?_
  refine lv_icmp_ge (tgt := 89) hx hb d_M_bridges_7 rfl (fun hc7 => ?_) (fun hc7 => ?_)
  · have hc7 : 16 ≤ u := (nI_leI (by omega) (by omega)).mp hc7
    refine lv_iload_n hx hb d_M_bridges_89 rfl (lv_at hl 1 rfl) ?_
    have hP9 := hP.sub (ws' := [(mo, .inr (5, [.int mc, .int mn, .ref m0, .int mg, .ref m1, .ref m2, .ref m3, .ref m4, .ref m5, .ref m6])), (m0, .inl (o0, 16, .inl h)), (m1, .inl (o1, 16, .inl mO)), (m2, .inl (o2, 16, .inl mG)), (m3, .inl (o3, 16, .inl mF)), (m4, .inl (o4, 32, .inl mA)), (m5, .inl (o5, 32, .inl mU)), (m6, .inl (o6, 32, .inl mR))]) [0, 1, 2, 3, 4, 5, 6, 7] rfl
    have hD9 := hD.sub (ws' := [(mo, .inr (5, [.int mc, .int mn, .ref m0, .int mg, .ref m1, .ref m2, .ref m3, .ref m4, .ref m5, .ref m6])), (m0, .inl (o0, 16, .inl h)), (m1, .inl (o1, 16, .inl mO)), (m2, .inl (o2, 16, .inl mG)), (m3, .inl (o3, 16, .inl mF)), (m4, .inl (o4, 32, .inl mA)), (m5, .inl (o5, 32, .inl mU)), (m6, .inl (o6, 32, .inl mR))]) [0, 1, 2, 3, 4, 5, 6, 7] (by decide) rfl
    subst hAe
    refine xv_top (x' := nI (sq (fun a9 => cq (brP h a9) 16) 16)) (by rw [show u = 16 by omega]) ?_
    exact W.iret (v := nI (sq (fun a9 => cq (brP h a9) 16) 16)) hx hb hr (fun t ht hW => ⟨⟨_, (), rfl, rfl, by rw [ht]; exact hP9, va_K.moved hW.alike hK, hD9⟩, hS.F ht⟩) hS.2.2 d_M_bridges_90
  · have hc7 : ¬ (16 ≤ u) := fun q9 => hc7 ((nI_leI (by omega) (by omega)).mpr q9)
    refine lv_iconst (v := nI 0) hx hb d_M_bridges_10 (by decide) ?_
    refine lv_istore_n hx hb d_M_bridges_11 rfl hl (by decide) rfl (fun ls hl => ?_)
    have hl : lv_has ls 4 [(3, .int (nI 0)), (2, .int (nI u)), (1, .int (nI (sq (fun a9 => cq (brP h a9) 16) u))), (0, .ref mo)] := hl
    refine xl_w (fun (v : Nat) ls H locs => ((v ≤ 16)) ∧ lv_has ls 4 [(3, .int (nI v)), (2, .int (nI u)), (1, .int (nI (sq (fun a9 => cq (brP h a9) 16) u + cq (brP h u) v))), (0, .ref mo)] ∧ va_P D cls [(mo, .inr (5, [.int mc, .int mn, .ref m0, .int mg, .ref m1, .ref m2, .ref m3, .ref m4, .ref m5, .ref m6])), (m0, .inl (o0, 16, .inl h)), (m1, .inl (o1, 16, .inl mO)), (m2, .inl (o2, 16, .inl mG)), (m3, .inl (o3, 16, .inl mF)), (m4, .inl (o4, 32, .inl mA)), (m5, .inl (o5, 32, .inl mU)), (m6, .inl (o6, 32, .inl mR))] H ∧ va_D A [(mo, .inr (5, [.int mc, .int mn, .ref m0, .int mg, .ref m1, .ref m2, .ref m3, .ref m4, .ref m5, .ref m6])), (m0, .inl (o0, 16, .inl h)), (m1, .inl (o1, 16, .inl mO)), (m2, .inl (o2, 16, .inl mG)), (m3, .inl (o3, 16, .inl mF)), (m4, .inl (o4, 32, .inl mA)), (m5, .inl (o5, 32, .inl mU)), (m6, .inl (o6, 32, .inl mR))] ∧ va_S A s.heap H locs) (fun v => 16 - v) (fun v ls H locs hI ih12 => ?_) 0 _ ⟨Nat.zero_le _, hl, hP, hD, hS⟩
    obtain ⟨hI, hl, hP, hD, hS⟩ := hI
    have hu_v := hI
    refine lv_iload_n hx hb d_M_bridges_12 rfl (lv_at hl 0 rfl) ?_
    refine lv_bipush (v := nI 16) hx hb d_M_bridges_13 (by decide) ?_
    refine lv_icmp_ge (tgt := 83) hx hb d_M_bridges_15 rfl (fun hc15 => ?_) (fun hc15 => ?_)
    · have hc15 : 16 ≤ v := (nI_leI (by omega) (by omega)).mp hc15
      have hl : lv_has ls 4 [(3, .int (nI v)), (2, .int (nI u)), (1, .int (nI (sq (fun a9 => cq (brP h a9) 16) (u + 1)))), (0, .ref mo)] := by
        have hz : (nI (sq (fun a9 => cq (brP h a9) 16) u + cq (brP h u) v)) = nI (sq (fun a9 => cq (brP h a9) 16) (u + 1)) := by rw [show v = 16 by omega]; rfl
        rw [← hz]; exact hl
      refine lv_iinc hx hb d_M_bridges_83 hl (k := 1) rfl (v := nI (u + 1)) (nI_1 u) (by decide) rfl (fun ls hl => ?_)
      have hl : lv_has ls 4 [(2, .int (nI (u + 1))), (3, .int (nI v)), (1, .int (nI (sq (fun a9 => cq (brP h a9) 16) (u + 1)))), (0, .ref mo)] := hl
      refine lv_goto (tgt := 4) hx hb d_M_bridges_86 rfl ?_
      exact ih4 (u + 1) _ H locs ⟨by omega, lv_sub hl [0, 2, 3] rfl, hP, hD, hS⟩ (by omega)
    · have hc15 : ¬ (16 ≤ v) := fun q9 => hc15 ((nI_leI (by omega) (by omega)).mpr q9)
      refine lv_aload_n hx hb d_M_bridges_18 rfl (lv_at hl 3 rfl) ?_
      refine va_get (D := D) (ci := 5) (v := .ref m0) (C := R_M) (T := F_M) (N := 10) hx hb hB in_M hown hK hP 0 rfl rfl 2 (by decide) (hB _ mf_M_7) (fun _ h9 => h9) rfl d_M_bridges_19 ?_
      refine lv_iload_n hx hb d_M_bridges_22 rfl (lv_at hl 1 rfl) ?_
      refine xa_ld (u := u) hx hb hK hP 1 0 rfl rfl (by omega) (by decide) d_M_bridges_23 ?_
      refine lv_iload_n hx hb d_M_bridges_24 rfl (lv_at hl 0 rfl) ?_
      refine xr_cal (va_runS (As := [.int (h u), .int (nI v)]) (rest := []) ⟨hx, hb, hml, hown, hB⟩ (k_M_has l D  (h u) v (by omega)) ⟨callB_of 2 hB (xg0 mc_M_has) rfl rfl rfl (hB _ mz_M) (hB _ ml_M_35) (by decide +kernel) ⟨Nat.le_of_ble_eq_true rfl, Nat.le_of_ble_eq_true rfl⟩, hB _ ms_M_has⟩ (xpS (ws := []) (tys := []) (hP.sub [] rfl) (hK.sub [] rfl) hN) rfl rfl hl.1 rfl (lv_room (Nat.le_of_ble_eq_true rfl)) d_M_bridges_25 ⟨Nat.le_of_ble_eq_true rfl, Nat.le_of_ble_eq_true rfl⟩) ?_
      refine lv_if_eq (tgt := 77) hx hb d_M_bridges_28 rfl (fun hc28 => ?_) (fun hc28 => ?_)
      · have hc28 := b2i_0.mp hc28
        have hl : lv_has ls 4 [(3, .int (nI v)), (2, .int (nI u)), (1, .int (nI (sq (fun a9 => cq (brP h a9) 16) u + cq (brP h u) (v + 1)))), (0, .ref mo)] := by
          have hz : (nI (sq (fun a9 => cq (brP h a9) 16) u + cq (brP h u) v)) = nI (sq (fun a9 => cq (brP h a9) 16) u + cq (brP h u) (v + 1)) := by rw [cq_f (p := brP h u) (k := v) (by unfold brP; rw [hc28]; rfl)]
          rw [← hz]; exact hl
        refine lv_iinc hx hb d_M_bridges_77 hl (k := 0) rfl (v := nI (v + 1)) (nI_1 v) (by decide) rfl (fun ls hl => ?_)
        have hl : lv_has ls 4 [(3, .int (nI (v + 1))), (2, .int (nI u)), (1, .int (nI (sq (fun a9 => cq (brP h a9) 16) u + cq (brP h u) (v + 1)))), (0, .ref mo)] := hl
        refine lv_goto (tgt := 12) hx hb d_M_bridges_80 rfl ?_
        exact ih12 (v + 1) _ H locs ⟨by omega, lv_sub hl [0, 1, 2, 3] rfl, hP, hD, hS⟩ (by omega)
      · have hc28 := b2i_n.mp hc28
        refine lv_aload_n hx hb d_M_bridges_31 rfl (lv_at hl 3 rfl) ?_
        refine va_get (D := D) (ci := 5) (v := .ref m0) (C := R_M) (T := F_M) (N := 10) hx hb hB in_M hown hK hP 0 rfl rfl 2 (by decide) (hB _ mf_M_7) (fun _ h9 => h9) rfl d_M_bridges_32 ?_
        refine lv_iload_n hx hb d_M_bridges_35 rfl (lv_at hl 1 rfl) ?_
        refine lv_dup2_11 hx hb d_M_bridges_36 rfl rfl ?_
        refine xa_ld (u := u) hx hb hK hP 1 0 rfl rfl (by omega) (by decide) d_M_bridges_37 ?_
        refine lv_iconst (v := nI 1) hx hb d_M_bridges_38 (by decide) ?_
        refine lv_iload_n hx hb d_M_bridges_39 rfl (lv_at hl 0 rfl) ?_
        refine lv_ishl hx hb d_M_bridges_40 ?_
        refine lv_iconst (v := -1) hx hb d_M_bridges_41 (by decide) ?_
        refine lv_ixor hx hb d_M_bridges_42 ?_
        refine lv_iand hx hb d_M_bridges_43 ?_
        refine xa_st (u := u) hx hb hK hP hD hS 1 0 rfl rfl (by omega) (by decide) d_M_bridges_44 (fun H locs hP hD hS => ?_)
        have hP : va_P D cls [(mo, .inr (5, [.int mc, .int mn, .ref m0, .int mg, .ref m1, .ref m2, .ref m3, .ref m4, .ref m5, .ref m6])), (m0, .inl (o0, 16, .inl (upd h u ((h u) &&& (((nI 1) <<< (nI v &&& 31)) ^^^ (-1)))))), (m1, .inl (o1, 16, .inl mO)), (m2, .inl (o2, 16, .inl mG)), (m3, .inl (o3, 16, .inl mF)), (m4, .inl (o4, 32, .inl mA)), (m5, .inl (o5, 32, .inl mU)), (m6, .inl (o6, 32, .inl mR))] H := hP
        have hD : va_D A [(mo, .inr (5, [.int mc, .int mn, .ref m0, .int mg, .ref m1, .ref m2, .ref m3, .ref m4, .ref m5, .ref m6])), (m0, .inl (o0, 16, .inl (upd h u ((h u) &&& (((nI 1) <<< (nI v &&& 31)) ^^^ (-1)))))), (m1, .inl (o1, 16, .inl mO)), (m2, .inl (o2, 16, .inl mG)), (m3, .inl (o3, 16, .inl mF)), (m4, .inl (o4, 32, .inl mA)), (m5, .inl (o5, 32, .inl mU)), (m6, .inl (o6, 32, .inl mR))] := hD
        have hz : (upd h u ((h u) &&& (((nI 1) <<< (nI v &&& 31)) ^^^ (-1)))) = (upd h u (h u &&& (bit v ^^^ (-1)))) := rfl
        rw [hz] at hP hD
        refine lv_iload_n hx hb d_M_bridges_45 rfl (lv_at hl 2 rfl) ?_
        refine lv_aload_n hx hb d_M_bridges_46 rfl (lv_at hl 3 rfl) ?_
        refine lv_iload_n hx hb d_M_bridges_47 rfl (lv_at hl 1 rfl) ?_
        refine xr_cal (va_runV (As := [.int (nI u)]) (rest := [.int (nI (sq (fun a9 => cq (brP h a9) 16) u + cq (brP h u) v))]) ⟨hx, hb, hml, hown, hB⟩ (k_M_reach l D mo m0 m1 m2 m3 m4 m5 m6 o0 o1 o2 o3 o4 o5 o6 mc mn mg (upd h u (h u &&& (bit v ^^^ (-1)))) mO mG mF mA mU mR (gd_cut hg) u (by omega)) ⟨callB_of 1 hB (xg0 mc_M_reach) rfl rfl rfl (hB _ mz_M) (hB _ ml_M_51) (by decide +kernel) ⟨Nat.le_of_ble_eq_true rfl, Nat.le_of_ble_eq_true rfl⟩, hB _ mi_M_reach, hB _ me_M_reach⟩ (xpV (ws := [(mo, .inr (5, [.int mc, .int mn, .ref m0, .int mg, .ref m1, .ref m2, .ref m3, .ref m4, .ref m5, .ref m6])), (m0, .inl (o0, 16, .inl (upd h u (h u &&& (bit v ^^^ (-1)))))), (m1, .inl (o1, 16, .inl mO)), (m2, .inl (o2, 16, .inl mG)), (m3, .inl (o3, 16, .inl mF)), (m4, .inl (o4, 32, .inl mA)), (m5, .inl (o5, 32, .inl mU)), (m6, .inl (o6, 32, .inl mR))]) (tys := [(o0, .int), (o1, .int), (o2, .int), (o3, .int), (o4, .int), (o5, .int), (o6, .int)]) (hP.sub [0, 1, 2, 3, 4, 5, 6, 7] rfl) (hK.sub [0, 1, 2, 3, 4, 5, 6] rfl) hN (va_recv (ci := 5) (q0 := 0) (q := (R_M, F_M, 10)) hK hP rfl rfl)) rfl rfl hl.1 rfl (lv_room (Nat.le_of_ble_eq_true rfl)) d_M_bridges_48 ⟨Nat.le_of_ble_eq_true rfl, Nat.le_of_ble_eq_true rfl⟩) ?_
        refine lv_iload_n hx hb d_M_bridges_51 rfl (lv_at hl 0 rfl) ?_
        refine xr_cal (va_runS (As := [.int (RE (upd h u (h u &&& (bit v ^^^ (-1)))) u), .int (nI v)]) (rest := [.int (nI (sq (fun a9 => cq (brP h a9) 16) u + cq (brP h u) v))]) ⟨hx, hb, hml, hown, hB⟩ (k_M_has l D  (RE (upd h u (h u &&& (bit v ^^^ (-1)))) u) v (by omega)) ⟨callB_of 2 hB (xg0 mc_M_has) rfl rfl rfl (hB _ mz_M) (hB _ ml_M_35) (by decide +kernel) ⟨Nat.le_of_ble_eq_true rfl, Nat.le_of_ble_eq_true rfl⟩, hB _ ms_M_has⟩ (xpS (ws := []) (tys := []) (hP.sub [] rfl) (hK.sub [] rfl) hN) rfl rfl hl.1 rfl (lv_room (Nat.le_of_ble_eq_true rfl)) d_M_bridges_52 ⟨Nat.le_of_ble_eq_true rfl, Nat.le_of_ble_eq_true rfl⟩) ?_
        refine lv_if_eq (tgt := 62) hx hb d_M_bridges_55 rfl (fun hc55 => ?_) (fun hc55 => ?_)
        · have hc55 := b2i_0.mp hc55
          refine lv_iconst (v := nI 1) hx hb d_M_bridges_62 (by decide) ?_
          refine lv_iadd hx hb d_M_bridges_63 ?_
          refine lv_istore_n hx hb d_M_bridges_64 rfl hl (by decide) rfl (fun ls hl => ?_)
          have hl : lv_has ls 4 [(1, .int ((nI (sq (fun a9 => cq (brP h a9) 16) u + cq (brP h u) v)) + (nI 1))), (3, .int (nI v)), (2, .int (nI u)), (0, .ref mo)] := hl
          refine lv_aload_n hx hb d_M_bridges_65 rfl (lv_at hl 3 rfl) ?_
          refine va_get (D := D) (ci := 5) (v := .ref m0) (C := R_M) (T := F_M) (N := 10) hx hb hB in_M hown hK hP 0 rfl rfl 2 (by decide) (hB _ mf_M_7) (fun _ h9 => h9) rfl d_M_bridges_66 ?_
          refine lv_iload_n hx hb d_M_bridges_69 rfl (lv_at hl 2 rfl) ?_
          refine lv_dup2_11 hx hb d_M_bridges_70 rfl rfl ?_
          refine xa_ld (u := u) hx hb hK hP 1 0 rfl rfl (by omega) (by decide) d_M_bridges_71 ?_
          refine xv_top (x' := h u &&& (bit v ^^^ (-1))) (pk_us) ?_
          refine lv_iconst (v := nI 1) hx hb d_M_bridges_72 (by decide) ?_
          refine lv_iload_n hx hb d_M_bridges_73 rfl (lv_at hl 1 rfl) ?_
          refine lv_ishl hx hb d_M_bridges_74 ?_
          refine lv_ior hx hb d_M_bridges_75 ?_
          refine xa_st (u := u) hx hb hK hP hD hS 1 0 rfl rfl (by omega) (by decide) d_M_bridges_76 (fun H locs hP hD hS => ?_)
          have hP : va_P D cls [(mo, .inr (5, [.int mc, .int mn, .ref m0, .int mg, .ref m1, .ref m2, .ref m3, .ref m4, .ref m5, .ref m6])), (m0, .inl (o0, 16, .inl (upd (upd h u (h u &&& (bit v ^^^ (-1)))) u ((h u &&& (bit v ^^^ (-1))) ||| ((nI 1) <<< (nI v &&& 31)))))), (m1, .inl (o1, 16, .inl mO)), (m2, .inl (o2, 16, .inl mG)), (m3, .inl (o3, 16, .inl mF)), (m4, .inl (o4, 32, .inl mA)), (m5, .inl (o5, 32, .inl mU)), (m6, .inl (o6, 32, .inl mR))] H := hP
          have hD : va_D A [(mo, .inr (5, [.int mc, .int mn, .ref m0, .int mg, .ref m1, .ref m2, .ref m3, .ref m4, .ref m5, .ref m6])), (m0, .inl (o0, 16, .inl (upd (upd h u (h u &&& (bit v ^^^ (-1)))) u ((h u &&& (bit v ^^^ (-1))) ||| ((nI 1) <<< (nI v &&& 31)))))), (m1, .inl (o1, 16, .inl mO)), (m2, .inl (o2, 16, .inl mG)), (m3, .inl (o3, 16, .inl mF)), (m4, .inl (o4, 32, .inl mA)), (m5, .inl (o5, 32, .inl mU)), (m6, .inl (o6, 32, .inl mR))] := hD
          have hz : (upd (upd h u (h u &&& (bit v ^^^ (-1)))) u ((h u &&& (bit v ^^^ (-1))) ||| ((nI 1) <<< (nI v &&& 31)))) = h := upd_back (by omega) hc28
          rw [hz] at hP hD
          have hl : lv_has ls 4 [(1, .int (nI (sq (fun a9 => cq (brP h a9) 16) u + cq (brP h u) (v + 1)))), (3, .int (nI v)), (2, .int (nI u)), (0, .ref mo)] := by
            have hz : ((nI (sq (fun a9 => cq (brP h a9) 16) u + cq (brP h u) v)) + (nI 1)) = nI (sq (fun a9 => cq (brP h a9) 16) u + cq (brP h u) (v + 1)) := by rw [cq_t (p := brP h u) (k := v) (by unfold brP; rw [hc28, hc55]; rfl)]; exact nI_add _ 1
            rw [← hz]; exact hl
          refine lv_iinc hx hb d_M_bridges_77 hl (k := 1) rfl (v := nI (v + 1)) (nI_1 v) (by decide) rfl (fun ls hl => ?_)
          have hl : lv_has ls 4 [(3, .int (nI (v + 1))), (1, .int (nI (sq (fun a9 => cq (brP h a9) 16) u + cq (brP h u) (v + 1)))), (2, .int (nI u)), (0, .ref mo)] := hl
          refine lv_goto (tgt := 12) hx hb d_M_bridges_80 rfl ?_
          exact ih12 (v + 1) _ H locs ⟨by omega, lv_sub hl [0, 2, 1, 3] rfl, hP, hD, hS⟩ (by omega)
        · have hc55 := b2i_n.mp hc55
          refine lv_iconst (v := nI 0) hx hb d_M_bridges_58 (by decide) ?_
          refine lv_goto (tgt := 63) hx hb d_M_bridges_59 rfl ?_
          refine lv_iadd hx hb d_M_bridges_63 ?_
          refine lv_istore_n hx hb d_M_bridges_64 rfl hl (by decide) rfl (fun ls hl => ?_)
          have hl : lv_has ls 4 [(1, .int ((nI (sq (fun a9 => cq (brP h a9) 16) u + cq (brP h u) v)) + (nI 0))), (3, .int (nI v)), (2, .int (nI u)), (0, .ref mo)] := hl
          refine lv_aload_n hx hb d_M_bridges_65 rfl (lv_at hl 3 rfl) ?_
          refine va_get (D := D) (ci := 5) (v := .ref m0) (C := R_M) (T := F_M) (N := 10) hx hb hB in_M hown hK hP 0 rfl rfl 2 (by decide) (hB _ mf_M_7) (fun _ h9 => h9) rfl d_M_bridges_66 ?_
          refine lv_iload_n hx hb d_M_bridges_69 rfl (lv_at hl 2 rfl) ?_
          refine lv_dup2_11 hx hb d_M_bridges_70 rfl rfl ?_
          refine xa_ld (u := u) hx hb hK hP 1 0 rfl rfl (by omega) (by decide) d_M_bridges_71 ?_
          refine xv_top (x' := h u &&& (bit v ^^^ (-1))) (pk_us) ?_
          refine lv_iconst (v := nI 1) hx hb d_M_bridges_72 (by decide) ?_
          refine lv_iload_n hx hb d_M_bridges_73 rfl (lv_at hl 1 rfl) ?_
          refine lv_ishl hx hb d_M_bridges_74 ?_
          refine lv_ior hx hb d_M_bridges_75 ?_
          refine xa_st (u := u) hx hb hK hP hD hS 1 0 rfl rfl (by omega) (by decide) d_M_bridges_76 (fun H locs hP hD hS => ?_)
          have hP : va_P D cls [(mo, .inr (5, [.int mc, .int mn, .ref m0, .int mg, .ref m1, .ref m2, .ref m3, .ref m4, .ref m5, .ref m6])), (m0, .inl (o0, 16, .inl (upd (upd h u (h u &&& (bit v ^^^ (-1)))) u ((h u &&& (bit v ^^^ (-1))) ||| ((nI 1) <<< (nI v &&& 31)))))), (m1, .inl (o1, 16, .inl mO)), (m2, .inl (o2, 16, .inl mG)), (m3, .inl (o3, 16, .inl mF)), (m4, .inl (o4, 32, .inl mA)), (m5, .inl (o5, 32, .inl mU)), (m6, .inl (o6, 32, .inl mR))] H := hP
          have hD : va_D A [(mo, .inr (5, [.int mc, .int mn, .ref m0, .int mg, .ref m1, .ref m2, .ref m3, .ref m4, .ref m5, .ref m6])), (m0, .inl (o0, 16, .inl (upd (upd h u (h u &&& (bit v ^^^ (-1)))) u ((h u &&& (bit v ^^^ (-1))) ||| ((nI 1) <<< (nI v &&& 31)))))), (m1, .inl (o1, 16, .inl mO)), (m2, .inl (o2, 16, .inl mG)), (m3, .inl (o3, 16, .inl mF)), (m4, .inl (o4, 32, .inl mA)), (m5, .inl (o5, 32, .inl mU)), (m6, .inl (o6, 32, .inl mR))] := hD
          have hz : (upd (upd h u (h u &&& (bit v ^^^ (-1)))) u ((h u &&& (bit v ^^^ (-1))) ||| ((nI 1) <<< (nI v &&& 31)))) = h := upd_back (by omega) hc28
          rw [hz] at hP hD
          have hl : lv_has ls 4 [(1, .int (nI (sq (fun a9 => cq (brP h a9) 16) u + cq (brP h u) (v + 1)))), (3, .int (nI v)), (2, .int (nI u)), (0, .ref mo)] := by
            have hz : ((nI (sq (fun a9 => cq (brP h a9) 16) u + cq (brP h u) v)) + (nI 0)) = nI (sq (fun a9 => cq (brP h a9) 16) u + cq (brP h u) (v + 1)) := by rw [cq_f (p := brP h u) (k := v) (by unfold brP; rw [hc55, Bool.not_true, Bool.and_false])]; exact nI_add _ 0
            rw [← hz]; exact hl
          refine lv_iinc hx hb d_M_bridges_77 hl (k := 1) rfl (v := nI (v + 1)) (nI_1 v) (by decide) rfl (fun ls hl => ?_)
          have hl : lv_has ls 4 [(3, .int (nI (v + 1))), (1, .int (nI (sq (fun a9 => cq (brP h a9) 16) u + cq (brP h u) (v + 1)))), (2, .int (nI u)), (0, .ref mo)] := hl
          refine lv_goto (tgt := 12) hx hb d_M_bridges_80 rfl ?_
          exact ih12 (v + 1) _ H locs ⟨by omega, lv_sub hl [0, 2, 1, 3] rfl, hP, hD, hS⟩ (by omega)
set_option maxHeartbeats 4000000 in
set_option maxRecDepth 100000 in
theorem k_M_otherwise (l : Launch) (D : va_G) (mo m0 m1 m2 m3 m4 m5 m6 : Nat) (o0 o1 o2 o3 o4 o5 o6 : ClassId) (mc : Int32) (mn : Int32) (mg : Int32) (h : Nat → Int32) (mO : Nat → Int32) (mG : Nat → Int32) (mF : Nat → Int32) (mA : Nat → Int32) (mU : Nat → Int32) (mR : Nat → Int32) (hg : gd h) (a9 b9 : Nat) (ha9 : a9 < 16) (hb9 : b9 < 16) (hm9 : m16 (mG a9)) (sz : Nat) : Met l y_M_otherwise (Cond.code y_M_otherwise c_M_otherwise 5 (some .boolean) :: BS) { frames := 2, cells := 0, slots := 0, locals := 46 } (va_Pc [.ref mo, .int (nI a9), .int (nI b9)] (xWp D [(mo, .inr (5, [.int mc, .int mn, .ref m0, .int mg, .ref m1, .ref m2, .ref m3, .ref m4, .ref m5, .ref m6])), (m0, .inl (o0, 16, .inl h)), (m1, .inl (o1, 16, .inl mO)), (m2, .inl (o2, 16, .inl mG)), (m3, .inl (o3, 16, .inl mF)), (m4, .inl (o4, 32, .inl mA)), (m5, .inl (o5, 32, .inl mU)), (m6, .inl (o6, 32, .inl mR))] [(o0, .int), (o1, .int), (o2, .int), (o3, .int), (o4, .int), (o5, .int), (o6, .int)] sz)) (xQi D [(mo, .inr (5, [.int mc, .int mn, .ref m0, .int mg, .ref m1, .ref m2, .ref m3, .ref m4, .ref m5, .ref m6])), (m0, .inl (o0, 16, .inl h)), (m1, .inl (o1, 16, .inl mO)), (m2, .inl (o2, 16, .inl mG)), (m3, .inl (o3, 16, .inl mF)), (m4, .inl (o4, 32, .inl mA)), (m5, .inl (o5, 32, .inl mU)), (m6, .inl (o6, 32, .inl mR))] [(mo, .inr (5, [.int mc, .int mn, .ref m0, .int mg, .ref m1, .ref m2, .ref m3, .ref m4, .ref m5, .ref m6])), (m0, .inl (o0, 16, .inl h)), (m1, .inl (o1, 16, .inl mO)), (m2, .inl (o2, 16, .inl mG)), (m3, .inl (o3, 16, .inl mF)), (m4, .inl (o4, 32, .inl mA)), (m5, .inl (o5, 32, .inl mU)), (m6, .inl (o6, 32, .inl (fun k => if k < 16 then h k else mR k)))] [(o0, .int), (o1, .int), (o2, .int), (o3, .int), (o4, .int), (o5, .int), (o6, .int)] sz (b2i (!(decide (SP (cutG h (mG a9) (mG b9)) (mG a9) 0 &&& mG b9 = 0))))) 0 0 (va_A [(mo, .inr (5, [.int mc, .int mn, .ref m0, .int mg, .ref m1, .ref m2, .ref m3, .ref m4, .ref m5, .ref m6])), (m0, .inl (o0, 16, .inl h)), (m1, .inl (o1, 16, .inl mO)), (m2, .inl (o2, 16, .inl mG)), (m3, .inl (o3, 16, .inl mF)), (m4, .inl (o4, 32, .inl mA)), (m5, .inl (o5, 32, .inl mU)), (m6, .inl (o6, 32, .inl mR))] sz) := by
  refine Met.ofW (cc := c_M_otherwise) (maxL := 5) (ret := (some .boolean)) (by decide) rfl ?_
  intro p e s m args below meth c s₁ B hml hv
  obtain ⟨rfl, hsz, hP, hK, hD0, hN⟩ := hv
  have hx := B.exec
  have hb := B.bytes
  have hr := B.returns
  have hB := xB B.pre
  have hown : s.vm.findClass R_M = some m.cls := findClass_of_methodNamed B.named
  have hlocks := B.notSynchronized
  subst hsz
  have hD := hD0.self (sz := s.heap.size)
  obtain ⟨A, hAe⟩ : ∃ A, A = va_A [(mo, .inr (5, [.int mc, .int mn, .ref m0, .int mg, .ref m1, .ref m2, .ref m3, .ref m4, .ref m5, .ref m6])), (m0, .inl (o0, 16, .inl h)), (m1, .inl (o1, 16, .inl mO)), (m2, .inl (o2, 16, .inl mG)), (m3, .inl (o3, 16, .inl mF)), (m4, .inl (o4, 32, .inl mA)), (m5, .inl (o5, 32, .inl mU)), (m6, .inl (o6, 32, .inl mR))] s.heap.size := ⟨_, rfl⟩
  rw [← hAe] at hD
  have hA : ∀ q : Nat, s.heap.size ≤ q → A q := fun q h => by rw [hAe]; exact Or.inr h
  have hS : va_S A s.heap s.heap [] := va_S.rf
  have hl := lv_entry ([.ref mo, .int (nI a9), .int (nI b9)]) (n := 5) (Nat.le_of_ble_eq_true rfl)
  rw [lg_entry_eq]
  generalize (lg_sl ([.ref mo, .int (nI a9), .int (nI b9)]) ++ List.replicate (5 - (lg_sl ([.ref mo, .int (nI a9), .int (nI b9)])).length) Slot.unset).toArray = ls at hl ⊢
  have hl : lv_has ls 5 [(0, .ref mo), (1, .int (nI a9)), (2, .int (nI b9))] := hl
  refine lv_iconst (v := nI 0) hx hb d_M_otherwise_0 (by decide) ?_
  refine lv_istore_n hx hb d_M_otherwise_1 rfl hl (by decide) rfl (fun ls hl => ?_)
  have hl : lv_has ls 5 [(3, .int (nI 0)), (0, .ref mo), (1, .int (nI a9)), (2, .int (nI b9))] := hl
  have hP := xP_ext hP 1 (fun k => if k < 0 then cutG h (mG a9) (mG b9) k else h k) rfl (fun j9 hj9 => (if_neg (Nat.not_lt_zero _)).symm)
  have hD := xD_ext hD 1 (y := .inl (o0, 16, .inl (fun k => if k < 0 then cutG h (mG a9) (mG b9) k else h k))) rfl
  have hP : va_P D cls [(mo, .inr (5, [.int mc, .int mn, .ref m0, .int mg, .ref m1, .ref m2, .ref m3, .ref m4, .ref m5, .ref m6])), (m0, .inl (o0, 16, .inl (fun k => if k < 0 then cutG h (mG a9) (mG b9) k else h k))), (m1, .inl (o1, 16, .inl mO)), (m2, .inl (o2, 16, .inl mG)), (m3, .inl (o3, 16, .inl mF)), (m4, .inl (o4, 32, .inl mA)), (m5, .inl (o5, 32, .inl mU)), (m6, .inl (o6, 32, .inl mR))] _ := hP
  have hD : va_D A [(mo, .inr (5, [.int mc, .int mn, .ref m0, .int mg, .ref m1, .ref m2, .ref m3, .ref m4, .ref m5, .ref m6])), (m0, .inl (o0, 16, .inl (fun k => if k < 0 then cutG h (mG a9) (mG b9) k else h k))), (m1, .inl (o1, 16, .inl mO)), (m2, .inl (o2, 16, .inl mG)), (m3, .inl (o3, 16, .inl mF)), (m4, .inl (o4, 32, .inl mA)), (m5, .inl (o5, 32, .inl mU)), (m6, .inl (o6, 32, .inl mR))] := hD
  have hP := xP_ext hP 7 (fun k => if k < 0 then h k else mR k) rfl (fun j9 hj9 => (if_neg (Nat.not_lt_zero _)).symm)
  have hD := xD_ext hD 7 (y := .inl (o6, 32, .inl (fun k => if k < 0 then h k else mR k))) rfl
  have hP : va_P D cls [(mo, .inr (5, [.int mc, .int mn, .ref m0, .int mg, .ref m1, .ref m2, .ref m3, .ref m4, .ref m5, .ref m6])), (m0, .inl (o0, 16, .inl (fun k => if k < 0 then cutG h (mG a9) (mG b9) k else h k))), (m1, .inl (o1, 16, .inl mO)), (m2, .inl (o2, 16, .inl mG)), (m3, .inl (o3, 16, .inl mF)), (m4, .inl (o4, 32, .inl mA)), (m5, .inl (o5, 32, .inl mU)), (m6, .inl (o6, 32, .inl (fun k => if k < 0 then h k else mR k)))] _ := hP
  have hD : va_D A [(mo, .inr (5, [.int mc, .int mn, .ref m0, .int mg, .ref m1, .ref m2, .ref m3, .ref m4, .ref m5, .ref m6])), (m0, .inl (o0, 16, .inl (fun k => if k < 0 then cutG h (mG a9) (mG b9) k else h k))), (m1, .inl (o1, 16, .inl mO)), (m2, .inl (o2, 16, .inl mG)), (m3, .inl (o3, 16, .inl mF)), (m4, .inl (o4, 32, .inl mA)), (m5, .inl (o5, 32, .inl mU)), (m6, .inl (o6, 32, .inl (fun k => if k < 0 then h k else mR k)))] := hD
  refine xl_w (fun (u : Nat) ls H locs => ((u ≤ 16)) ∧ lv_has ls 5 [(3, .int (nI u)), (0, .ref mo), (1, .int (nI a9)), (2, .int (nI b9))] ∧ va_P D cls [(mo, .inr (5, [.int mc, .int mn, .ref m0, .int mg, .ref m1, .ref m2, .ref m3, .ref m4, .ref m5, .ref m6])), (m0, .inl (o0, 16, .inl (fun k => if k < u then cutG h (mG a9) (mG b9) k else h k))), (m1, .inl (o1, 16, .inl mO)), (m2, .inl (o2, 16, .inl mG)), (m3, .inl (o3, 16, .inl mF)), (m4, .inl (o4, 32, .inl mA)), (m5, .inl (o5, 32, .inl mU)), (m6, .inl (o6, 32, .inl (fun k => if k < u then h k else mR k)))] H ∧ va_D A [(mo, .inr (5, [.int mc, .int mn, .ref m0, .int mg, .ref m1, .ref m2, .ref m3, .ref m4, .ref m5, .ref m6])), (m0, .inl (o0, 16, .inl (fun k => if k < u then cutG h (mG a9) (mG b9) k else h k))), (m1, .inl (o1, 16, .inl mO)), (m2, .inl (o2, 16, .inl mG)), (m3, .inl (o3, 16, .inl mF)), (m4, .inl (o4, 32, .inl mA)), (m5, .inl (o5, 32, .inl mU)), (m6, .inl (o6, 32, .inl (fun k => if k < u then h k else mR k)))] ∧ va_S A s.heap H locs) (fun u => 16 - u) (fun u ls H locs hI ih2 => ?_) 0 _ ⟨Nat.zero_le _, hl, hP, hD, hS⟩
  obtain ⟨hI, hl, hP, hD, hS⟩ := hI
  have hu := hI
  refine lv_iload_n hx hb d_M_otherwise_2 rfl (lv_at hl 0 rfl) ?_
  refine lv_bipush (v := nI 16) hx hb d_M_otherwise_3 (by decide) ?_
  refine lv_icmp_ge (tgt := 60) hx hb d_M_otherwise_5 rfl (fun hc5 => ?_) (fun hc5 => ?_)
  · have hc5 : 16 ≤ u := (nI_leI (by omega) (by omega)).mp hc5
    have hP := xP_ext hP 1 (cutG h (mG a9) (mG b9)) rfl (fun j9 hj9 => if_pos (by omega))
    have hD := xD_ext hD 1 (y := .inl (o0, 16, .inl (cutG h (mG a9) (mG b9)))) rfl
    have hP : va_P D cls [(mo, .inr (5, [.int mc, .int mn, .ref m0, .int mg, .ref m1, .ref m2, .ref m3, .ref m4, .ref m5, .ref m6])), (m0, .inl (o0, 16, .inl (cutG h (mG a9) (mG b9)))), (m1, .inl (o1, 16, .inl mO)), (m2, .inl (o2, 16, .inl mG)), (m3, .inl (o3, 16, .inl mF)), (m4, .inl (o4, 32, .inl mA)), (m5, .inl (o5, 32, .inl mU)), (m6, .inl (o6, 32, .inl (fun k => if k < u then h k else mR k)))] _ := hP
    have hD : va_D A [(mo, .inr (5, [.int mc, .int mn, .ref m0, .int mg, .ref m1, .ref m2, .ref m3, .ref m4, .ref m5, .ref m6])), (m0, .inl (o0, 16, .inl (cutG h (mG a9) (mG b9)))), (m1, .inl (o1, 16, .inl mO)), (m2, .inl (o2, 16, .inl mG)), (m3, .inl (o3, 16, .inl mF)), (m4, .inl (o4, 32, .inl mA)), (m5, .inl (o5, 32, .inl mU)), (m6, .inl (o6, 32, .inl (fun k => if k < u then h k else mR k)))] := hD
    have hP := xP_ext hP 7 (fun k => if k < 16 then h k else mR k) rfl (fun j9 hj9 => by rw [show u = 16 by omega])
    have hD := xD_ext hD 7 (y := .inl (o6, 32, .inl (fun k => if k < 16 then h k else mR k))) rfl
    have hP : va_P D cls [(mo, .inr (5, [.int mc, .int mn, .ref m0, .int mg, .ref m1, .ref m2, .ref m3, .ref m4, .ref m5, .ref m6])), (m0, .inl (o0, 16, .inl (cutG h (mG a9) (mG b9)))), (m1, .inl (o1, 16, .inl mO)), (m2, .inl (o2, 16, .inl mG)), (m3, .inl (o3, 16, .inl mF)), (m4, .inl (o4, 32, .inl mA)), (m5, .inl (o5, 32, .inl mU)), (m6, .inl (o6, 32, .inl (fun k => if k < 16 then h k else mR k)))] _ := hP
    have hD : va_D A [(mo, .inr (5, [.int mc, .int mn, .ref m0, .int mg, .ref m1, .ref m2, .ref m3, .ref m4, .ref m5, .ref m6])), (m0, .inl (o0, 16, .inl (cutG h (mG a9) (mG b9)))), (m1, .inl (o1, 16, .inl mO)), (m2, .inl (o2, 16, .inl mG)), (m3, .inl (o3, 16, .inl mF)), (m4, .inl (o4, 32, .inl mA)), (m5, .inl (o5, 32, .inl mU)), (m6, .inl (o6, 32, .inl (fun k => if k < 16 then h k else mR k)))] := hD
    refine lv_aload_n hx hb d_M_otherwise_60 rfl (lv_at hl 1 rfl) ?_
    refine lv_aload_n hx hb d_M_otherwise_61 rfl (lv_at hl 1 rfl) ?_
    refine va_get (D := D) (ci := 5) (v := .ref m2) (C := R_M) (T := F_M) (N := 10) hx hb hB in_M hown hK hP 0 rfl rfl 5 (by decide) (hB _ mf_M_16) (fun _ h9 => h9) rfl d_M_otherwise_62 ?_
    refine lv_iload_n hx hb d_M_otherwise_65 rfl (lv_at hl 2 rfl) ?_
    refine xa_ld (u := a9) hx hb hK hP 3 2 rfl rfl (by omega) (by decide) d_M_otherwise_66 ?_
    refine lv_ldc (v := 65535) hx hb hown (hB _ mk_M_39) d_M_otherwise_67 ?_
    refine xr_cal (va_runV (As := [.int (mG a9), .int 65535]) (rest := []) ⟨hx, hb, hml, hown, hB⟩ (k_M_spread l D mo m0 m1 m2 m3 m4 m5 m6 o0 o1 o2 o3 o4 o5 o6 mc mn mg (cutG h (mG a9) (mG b9)) mO mG mF mA mU (fun k => if k < 16 then h k else mR k) (gd_cutG hg) (mG a9) 65535 0 hm9 al_0) ⟨callB_of 2 hB (xg0 mc_M_spread) rfl rfl rfl (hB _ mz_M) (hB _ ml_M_40) (by decide +kernel) ⟨Nat.le_of_ble_eq_true rfl, Nat.le_of_ble_eq_true rfl⟩, hB _ mi_M_spread, hB _ me_M_spread⟩ (xpV (ws := [(mo, .inr (5, [.int mc, .int mn, .ref m0, .int mg, .ref m1, .ref m2, .ref m3, .ref m4, .ref m5, .ref m6])), (m0, .inl (o0, 16, .inl (cutG h (mG a9) (mG b9)))), (m1, .inl (o1, 16, .inl mO)), (m2, .inl (o2, 16, .inl mG)), (m3, .inl (o3, 16, .inl mF)), (m4, .inl (o4, 32, .inl mA)), (m5, .inl (o5, 32, .inl mU)), (m6, .inl (o6, 32, .inl (fun k => if k < 16 then h k else mR k)))]) (tys := [(o0, .int), (o1, .int), (o2, .int), (o3, .int), (o4, .int), (o5, .int), (o6, .int)]) (hP.sub [0, 1, 2, 3, 4, 5, 6, 7] rfl) (hK.sub [0, 1, 2, 3, 4, 5, 6] rfl) hN (va_recv (ci := 5) (q0 := 0) (q := (R_M, F_M, 10)) hK hP rfl rfl)) rfl rfl hl.1 rfl (lv_room (Nat.le_of_ble_eq_true rfl)) d_M_otherwise_69 ⟨Nat.le_of_ble_eq_true rfl, Nat.le_of_ble_eq_true rfl⟩) ?_
    refine lv_istore_n hx hb d_M_otherwise_72 rfl hl (by decide) rfl (fun ls hl => ?_)
    have hl : lv_has ls 5 [(3, .int (SP (cutG h (mG a9) (mG b9)) (mG a9) 0)), (0, .ref mo), (1, .int (nI a9)), (2, .int (nI b9))] := hl
    refine lv_iconst (v := nI 0) hx hb d_M_otherwise_73 (by decide) ?_
    refine lv_istore hx hb d_M_otherwise_74 hl (by decide) rfl (fun ls hl => ?_)
    have hl : lv_has ls 5 [(4, .int (nI 0)), (3, .int (SP (cutG h (mG a9) (mG b9)) (mG a9) 0)), (0, .ref mo), (1, .int (nI a9)), (2, .int (nI b9))] := hl
    have hP := xP_ext hP 1 (fun k => if k < 0 then h k else cutG h (mG a9) (mG b9) k) rfl (fun j9 hj9 => (if_neg (Nat.not_lt_zero _)).symm)
    have hD := xD_ext hD 1 (y := .inl (o0, 16, .inl (fun k => if k < 0 then h k else cutG h (mG a9) (mG b9) k))) rfl
    have hP : va_P D cls [(mo, .inr (5, [.int mc, .int mn, .ref m0, .int mg, .ref m1, .ref m2, .ref m3, .ref m4, .ref m5, .ref m6])), (m0, .inl (o0, 16, .inl (fun k => if k < 0 then h k else cutG h (mG a9) (mG b9) k))), (m1, .inl (o1, 16, .inl mO)), (m2, .inl (o2, 16, .inl mG)), (m3, .inl (o3, 16, .inl mF)), (m4, .inl (o4, 32, .inl mA)), (m5, .inl (o5, 32, .inl mU)), (m6, .inl (o6, 32, .inl (fun k => if k < 16 then h k else mR k)))] _ := hP
    have hD : va_D A [(mo, .inr (5, [.int mc, .int mn, .ref m0, .int mg, .ref m1, .ref m2, .ref m3, .ref m4, .ref m5, .ref m6])), (m0, .inl (o0, 16, .inl (fun k => if k < 0 then h k else cutG h (mG a9) (mG b9) k))), (m1, .inl (o1, 16, .inl mO)), (m2, .inl (o2, 16, .inl mG)), (m3, .inl (o3, 16, .inl mF)), (m4, .inl (o4, 32, .inl mA)), (m5, .inl (o5, 32, .inl mU)), (m6, .inl (o6, 32, .inl (fun k => if k < 16 then h k else mR k)))] := hD
    refine xl_w (fun (v : Nat) ls H locs => ((v ≤ 16)) ∧ lv_has ls 5 [(4, .int (nI v)), (3, .int (SP (cutG h (mG a9) (mG b9)) (mG a9) 0)), (0, .ref mo), (1, .int (nI a9)), (2, .int (nI b9))] ∧ va_P D cls [(mo, .inr (5, [.int mc, .int mn, .ref m0, .int mg, .ref m1, .ref m2, .ref m3, .ref m4, .ref m5, .ref m6])), (m0, .inl (o0, 16, .inl (fun k => if k < v then h k else cutG h (mG a9) (mG b9) k))), (m1, .inl (o1, 16, .inl mO)), (m2, .inl (o2, 16, .inl mG)), (m3, .inl (o3, 16, .inl mF)), (m4, .inl (o4, 32, .inl mA)), (m5, .inl (o5, 32, .inl mU)), (m6, .inl (o6, 32, .inl (fun k => if k < 16 then h k else mR k)))] H ∧ va_D A [(mo, .inr (5, [.int mc, .int mn, .ref m0, .int mg, .ref m1, .ref m2, .ref m3, .ref m4, .ref m5, .ref m6])), (m0, .inl (o0, 16, .inl (fun k => if k < v then h k else cutG h (mG a9) (mG b9) k))), (m1, .inl (o1, 16, .inl mO)), (m2, .inl (o2, 16, .inl mG)), (m3, .inl (o3, 16, .inl mF)), (m4, .inl (o4, 32, .inl mA)), (m5, .inl (o5, 32, .inl mU)), (m6, .inl (o6, 32, .inl (fun k => if k < 16 then h k else mR k)))] ∧ va_S A s.heap H locs) (fun v => 16 - v) (fun v ls H locs hI ih76 => ?_) 0 _ ⟨Nat.zero_le _, hl, hP, hD, hS⟩
    obtain ⟨hI, hl, hP, hD, hS⟩ := hI
    have hv := hI
    refine lv_iload hx hb d_M_otherwise_76 (lv_at hl 0 rfl) ?_
    refine lv_bipush (v := nI 16) hx hb d_M_otherwise_78 (by decide) ?_
    refine lv_icmp_ge (tgt := 103) hx hb d_M_otherwise_80 rfl (fun hc80 => ?_) (fun hc80 => ?_)
    · have hc80 : 16 ≤ v := (nI_leI (by omega) (by omega)).mp hc80
      have hP := xP_ext hP 1 (h) rfl (fun j9 hj9 => if_pos (by omega))
      have hD := xD_ext hD 1 (y := .inl (o0, 16, .inl (h))) rfl
      have hP : va_P D cls [(mo, .inr (5, [.int mc, .int mn, .ref m0, .int mg, .ref m1, .ref m2, .ref m3, .ref m4, .ref m5, .ref m6])), (m0, .inl (o0, 16, .inl h)), (m1, .inl (o1, 16, .inl mO)), (m2, .inl (o2, 16, .inl mG)), (m3, .inl (o3, 16, .inl mF)), (m4, .inl (o4, 32, .inl mA)), (m5, .inl (o5, 32, .inl mU)), (m6, .inl (o6, 32, .inl (fun k => if k < 16 then h k else mR k)))] _ := hP
      have hD : va_D A [(mo, .inr (5, [.int mc, .int mn, .ref m0, .int mg, .ref m1, .ref m2, .ref m3, .ref m4, .ref m5, .ref m6])), (m0, .inl (o0, 16, .inl h)), (m1, .inl (o1, 16, .inl mO)), (m2, .inl (o2, 16, .inl mG)), (m3, .inl (o3, 16, .inl mF)), (m4, .inl (o4, 32, .inl mA)), (m5, .inl (o5, 32, .inl mU)), (m6, .inl (o6, 32, .inl (fun k => if k < 16 then h k else mR k)))] := hD
      refine lv_iload_n hx hb d_M_otherwise_103 rfl (lv_at hl 1 rfl) ?_
      refine lv_aload_n hx hb d_M_otherwise_104 rfl (lv_at hl 2 rfl) ?_
      refine va_get (D := D) (ci := 5) (v := .ref m2) (C := R_M) (T := F_M) (N := 10) hx hb hB in_M hown hK hP 0 rfl rfl 5 (by decide) (hB _ mf_M_16) (fun _ h9 => h9) rfl d_M_otherwise_105 ?_
      refine lv_iload_n hx hb d_M_otherwise_108 rfl (lv_at hl 4 rfl) ?_
      refine xa_ld (u := b9) hx hb hK hP 3 2 rfl rfl (by omega) (by decide) d_M_otherwise_109 ?_
      refine lv_iand hx hb d_M_otherwise_110 ?_
      refine lv_if_eq (tgt := 118) hx hb d_M_otherwise_111 rfl (fun hc111 => ?_) (fun hc111 => ?_)
      · refine lv_iconst (v := nI 0) hx hb d_M_otherwise_118 (by decide) ?_
        have hP9 := hP.sub (ws' := [(mo, .inr (5, [.int mc, .int mn, .ref m0, .int mg, .ref m1, .ref m2, .ref m3, .ref m4, .ref m5, .ref m6])), (m0, .inl (o0, 16, .inl h)), (m1, .inl (o1, 16, .inl mO)), (m2, .inl (o2, 16, .inl mG)), (m3, .inl (o3, 16, .inl mF)), (m4, .inl (o4, 32, .inl mA)), (m5, .inl (o5, 32, .inl mU)), (m6, .inl (o6, 32, .inl (fun k => if k < 16 then h k else mR k)))]) [0, 1, 2, 3, 4, 5, 6, 7] rfl
        have hD9 := hD.sub (ws' := [(mo, .inr (5, [.int mc, .int mn, .ref m0, .int mg, .ref m1, .ref m2, .ref m3, .ref m4, .ref m5, .ref m6])), (m0, .inl (o0, 16, .inl h)), (m1, .inl (o1, 16, .inl mO)), (m2, .inl (o2, 16, .inl mG)), (m3, .inl (o3, 16, .inl mF)), (m4, .inl (o4, 32, .inl mA)), (m5, .inl (o5, 32, .inl mU)), (m6, .inl (o6, 32, .inl (fun k => if k < 16 then h k else mR k)))]) [0, 1, 2, 3, 4, 5, 6, 7] (by decide) rfl
        subst hAe
        refine xv_top (x' := b2i (!(decide (SP (cutG h (mG a9) (mG b9)) (mG a9) 0 &&& mG b9 = 0)))) (by first | (rw [decide_eq_true hc111]; rfl) | (rw [decide_eq_false hc111]; rfl)) ?_
        exact W.zret (v := b2i (!(decide (SP (cutG h (mG a9) (mG b9)) (mG a9) 0 &&& mG b9 = 0)))) hx hb hr (b2i_nar _) (fun t ht hW => ⟨⟨_, (), rfl, rfl, by rw [ht]; exact hP9, va_K.moved hW.alike hK, hD9⟩, hS.F ht⟩) hS.2.2 d_M_otherwise_119
      · refine lv_iconst (v := nI 1) hx hb d_M_otherwise_114 (by decide) ?_
        refine lv_goto (tgt := 119) hx hb d_M_otherwise_115 rfl ?_
        have hP9 := hP.sub (ws' := [(mo, .inr (5, [.int mc, .int mn, .ref m0, .int mg, .ref m1, .ref m2, .ref m3, .ref m4, .ref m5, .ref m6])), (m0, .inl (o0, 16, .inl h)), (m1, .inl (o1, 16, .inl mO)), (m2, .inl (o2, 16, .inl mG)), (m3, .inl (o3, 16, .inl mF)), (m4, .inl (o4, 32, .inl mA)), (m5, .inl (o5, 32, .inl mU)), (m6, .inl (o6, 32, .inl (fun k => if k < 16 then h k else mR k)))]) [0, 1, 2, 3, 4, 5, 6, 7] rfl
        have hD9 := hD.sub (ws' := [(mo, .inr (5, [.int mc, .int mn, .ref m0, .int mg, .ref m1, .ref m2, .ref m3, .ref m4, .ref m5, .ref m6])), (m0, .inl (o0, 16, .inl h)), (m1, .inl (o1, 16, .inl mO)), (m2, .inl (o2, 16, .inl mG)), (m3, .inl (o3, 16, .inl mF)), (m4, .inl (o4, 32, .inl mA)), (m5, .inl (o5, 32, .inl mU)), (m6, .inl (o6, 32, .inl (fun k => if k < 16 then h k else mR k)))]) [0, 1, 2, 3, 4, 5, 6, 7] (by decide) rfl
        subst hAe
        refine xv_top (x' := b2i (!(decide (SP (cutG h (mG a9) (mG b9)) (mG a9) 0 &&& mG b9 = 0)))) (by first | (rw [decide_eq_true hc111]; rfl) | (rw [decide_eq_false hc111]; rfl)) ?_
        exact W.zret (v := b2i (!(decide (SP (cutG h (mG a9) (mG b9)) (mG a9) 0 &&& mG b9 = 0)))) hx hb hr (b2i_nar _) (fun t ht hW => ⟨⟨_, (), rfl, rfl, by rw [ht]; exact hP9, va_K.moved hW.alike hK, hD9⟩, hS.F ht⟩) hS.2.2 d_M_otherwise_119
    · have hc80 : ¬ (16 ≤ v) := fun q9 => hc80 ((nI_leI (by omega) (by omega)).mpr q9)
      refine lv_aload_n hx hb d_M_otherwise_83 rfl (lv_at hl 2 rfl) ?_
      refine va_get (D := D) (ci := 5) (v := .ref m0) (C := R_M) (T := F_M) (N := 10) hx hb hB in_M hown hK hP 0 rfl rfl 2 (by decide) (hB _ mf_M_7) (fun _ h9 => h9) rfl d_M_otherwise_84 ?_
      refine lv_iload hx hb d_M_otherwise_87 (lv_at hl 0 rfl) ?_
      refine lv_aload_n hx hb d_M_otherwise_89 rfl (lv_at hl 2 rfl) ?_
      refine va_get (D := D) (ci := 5) (v := .ref m6) (C := R_M) (T := F_M) (N := 10) hx hb hB in_M hown hK hP 0 rfl rfl 9 (by decide) (hB _ mf_M_28) (fun _ h9 => h9) rfl d_M_otherwise_90 ?_
      refine lv_iload hx hb d_M_otherwise_93 (lv_at hl 0 rfl) ?_
      refine xa_ld (u := v) hx hb hK hP 7 6 rfl rfl (by omega) (by decide) d_M_otherwise_95 ?_
      refine xv_top (x' := h v) (if_pos (by omega)) ?_
      refine xa_st (u := v) hx hb hK hP hD hS 1 0 rfl rfl (by omega) (by decide) d_M_otherwise_96 (fun H locs hP hD hS => ?_)
      have hP : va_P D cls [(mo, .inr (5, [.int mc, .int mn, .ref m0, .int mg, .ref m1, .ref m2, .ref m3, .ref m4, .ref m5, .ref m6])), (m0, .inl (o0, 16, .inl (upd (fun k => if k < v then h k else cutG h (mG a9) (mG b9) k) v (h v)))), (m1, .inl (o1, 16, .inl mO)), (m2, .inl (o2, 16, .inl mG)), (m3, .inl (o3, 16, .inl mF)), (m4, .inl (o4, 32, .inl mA)), (m5, .inl (o5, 32, .inl mU)), (m6, .inl (o6, 32, .inl (fun k => if k < 16 then h k else mR k)))] H := hP
      have hD : va_D A [(mo, .inr (5, [.int mc, .int mn, .ref m0, .int mg, .ref m1, .ref m2, .ref m3, .ref m4, .ref m5, .ref m6])), (m0, .inl (o0, 16, .inl (upd (fun k => if k < v then h k else cutG h (mG a9) (mG b9) k) v (h v)))), (m1, .inl (o1, 16, .inl mO)), (m2, .inl (o2, 16, .inl mG)), (m3, .inl (o3, 16, .inl mF)), (m4, .inl (o4, 32, .inl mA)), (m5, .inl (o5, 32, .inl mU)), (m6, .inl (o6, 32, .inl (fun k => if k < 16 then h k else mR k)))] := hD
      have hz : (upd (fun k => if k < v then h k else cutG h (mG a9) (mG b9) k) v (h v)) = (fun k => if k < v + 1 then h k else cutG h (mG a9) (mG b9) k) := upd_ltf rfl
      rw [hz] at hP hD
      refine lv_iinc hx hb d_M_otherwise_97 hl (k := 0) rfl (v := nI (v + 1)) (nI_1 v) (by decide) rfl (fun ls hl => ?_)
      have hl : lv_has ls 5 [(4, .int (nI (v + 1))), (3, .int (SP (cutG h (mG a9) (mG b9)) (mG a9) 0)), (0, .ref mo), (1, .int (nI a9)), (2, .int (nI b9))] := hl
      refine lv_goto (tgt := 76) hx hb d_M_otherwise_100 rfl ?_
      exact ih76 (v + 1) _ H locs ⟨by omega, lv_sub hl [0, 1, 2, 3, 4] rfl, hP, hD, hS⟩ (by omega)
  · have hc5 : ¬ (16 ≤ u) := fun q9 => hc5 ((nI_leI (by omega) (by omega)).mpr q9)
    refine lv_aload_n hx hb d_M_otherwise_8 rfl (lv_at hl 1 rfl) ?_
    refine va_get (D := D) (ci := 5) (v := .ref m6) (C := R_M) (T := F_M) (N := 10) hx hb hB in_M hown hK hP 0 rfl rfl 9 (by decide) (hB _ mf_M_28) (fun _ h9 => h9) rfl d_M_otherwise_9 ?_
    refine lv_iload_n hx hb d_M_otherwise_12 rfl (lv_at hl 0 rfl) ?_
    refine lv_aload_n hx hb d_M_otherwise_13 rfl (lv_at hl 1 rfl) ?_
    refine va_get (D := D) (ci := 5) (v := .ref m0) (C := R_M) (T := F_M) (N := 10) hx hb hB in_M hown hK hP 0 rfl rfl 2 (by decide) (hB _ mf_M_7) (fun _ h9 => h9) rfl d_M_otherwise_14 ?_
    refine lv_iload_n hx hb d_M_otherwise_17 rfl (lv_at hl 0 rfl) ?_
    refine xa_ld (u := u) hx hb hK hP 1 0 rfl rfl (by omega) (by decide) d_M_otherwise_18 ?_
    refine xv_top (x' := h u) (if_neg (by omega)) ?_
    refine xa_st (u := u) hx hb hK hP hD hS 7 6 rfl rfl (by omega) (by decide) d_M_otherwise_19 (fun H locs hP hD hS => ?_)
    have hP : va_P D cls [(mo, .inr (5, [.int mc, .int mn, .ref m0, .int mg, .ref m1, .ref m2, .ref m3, .ref m4, .ref m5, .ref m6])), (m0, .inl (o0, 16, .inl (fun k => if k < u then cutG h (mG a9) (mG b9) k else h k))), (m1, .inl (o1, 16, .inl mO)), (m2, .inl (o2, 16, .inl mG)), (m3, .inl (o3, 16, .inl mF)), (m4, .inl (o4, 32, .inl mA)), (m5, .inl (o5, 32, .inl mU)), (m6, .inl (o6, 32, .inl (upd (fun k => if k < u then h k else mR k) u (h u))))] H := hP
    have hD : va_D A [(mo, .inr (5, [.int mc, .int mn, .ref m0, .int mg, .ref m1, .ref m2, .ref m3, .ref m4, .ref m5, .ref m6])), (m0, .inl (o0, 16, .inl (fun k => if k < u then cutG h (mG a9) (mG b9) k else h k))), (m1, .inl (o1, 16, .inl mO)), (m2, .inl (o2, 16, .inl mG)), (m3, .inl (o3, 16, .inl mF)), (m4, .inl (o4, 32, .inl mA)), (m5, .inl (o5, 32, .inl mU)), (m6, .inl (o6, 32, .inl (upd (fun k => if k < u then h k else mR k) u (h u))))] := hD
    refine lv_aload_n hx hb d_M_otherwise_20 rfl (lv_at hl 1 rfl) ?_
    refine va_get (D := D) (ci := 5) (v := .ref m0) (C := R_M) (T := F_M) (N := 10) hx hb hB in_M hown hK hP 0 rfl rfl 2 (by decide) (hB _ mf_M_7) (fun _ h9 => h9) rfl d_M_otherwise_21 ?_
    refine lv_iload_n hx hb d_M_otherwise_24 rfl (lv_at hl 0 rfl) ?_
    refine lv_dup2_11 hx hb d_M_otherwise_25 rfl rfl ?_
    refine xa_ld (u := u) hx hb hK hP 1 0 rfl rfl (by omega) (by decide) d_M_otherwise_26 ?_
    refine xv_top (x' := h u) (if_neg (by omega)) ?_
    refine lv_aload_n hx hb d_M_otherwise_27 rfl (lv_at hl 1 rfl) ?_
    refine va_get (D := D) (ci := 5) (v := .ref m2) (C := R_M) (T := F_M) (N := 10) hx hb hB in_M hown hK hP 0 rfl rfl 5 (by decide) (hB _ mf_M_16) (fun _ h9 => h9) rfl d_M_otherwise_28 ?_
    refine lv_iload_n hx hb d_M_otherwise_31 rfl (lv_at hl 2 rfl) ?_
    refine xa_ld (u := a9) hx hb hK hP 3 2 rfl rfl (by omega) (by decide) d_M_otherwise_32 ?_
    refine lv_iload_n hx hb d_M_otherwise_33 rfl (lv_at hl 0 rfl) ?_
    refine xr_cal (va_runS (As := [.int (mG a9), .int (nI u)]) (rest := [.int (h u), .int (nI u), .ref m0]) ⟨hx, hb, hml, hown, hB⟩ (k_M_has l D  (mG a9) u (by omega)) ⟨callB_of 2 hB (xg0 mc_M_has) rfl rfl rfl (hB _ mz_M) (hB _ ml_M_35) (by decide +kernel) ⟨Nat.le_of_ble_eq_true rfl, Nat.le_of_ble_eq_true rfl⟩, hB _ ms_M_has⟩ (xpS (ws := []) (tys := []) (hP.sub [] rfl) (hK.sub [] rfl) hN) rfl rfl hl.1 rfl (lv_room (Nat.le_of_ble_eq_true rfl)) d_M_otherwise_34 ⟨Nat.le_of_ble_eq_true rfl, Nat.le_of_ble_eq_true rfl⟩) ?_
    refine lv_if_eq (tgt := 51) hx hb d_M_otherwise_37 rfl (fun hc37 => ?_) (fun hc37 => ?_)
    · have hc37 := b2i_0.mp hc37
      refine lv_iconst (v := -1) hx hb d_M_otherwise_51 (by decide) ?_
      refine lv_iand hx hb d_M_otherwise_52 ?_
      refine xa_st (u := u) hx hb hK hP hD hS 1 0 rfl rfl (by omega) (by decide) d_M_otherwise_53 (fun H locs hP hD hS => ?_)
      have hP : va_P D cls [(mo, .inr (5, [.int mc, .int mn, .ref m0, .int mg, .ref m1, .ref m2, .ref m3, .ref m4, .ref m5, .ref m6])), (m0, .inl (o0, 16, .inl (upd (fun k => if k < u then cutG h (mG a9) (mG b9) k else h k) u ((h u) &&& (-1))))), (m1, .inl (o1, 16, .inl mO)), (m2, .inl (o2, 16, .inl mG)), (m3, .inl (o3, 16, .inl mF)), (m4, .inl (o4, 32, .inl mA)), (m5, .inl (o5, 32, .inl mU)), (m6, .inl (o6, 32, .inl (upd (fun k => if k < u then h k else mR k) u (h u))))] H := hP
      have hD : va_D A [(mo, .inr (5, [.int mc, .int mn, .ref m0, .int mg, .ref m1, .ref m2, .ref m3, .ref m4, .ref m5, .ref m6])), (m0, .inl (o0, 16, .inl (upd (fun k => if k < u then cutG h (mG a9) (mG b9) k else h k) u ((h u) &&& (-1))))), (m1, .inl (o1, 16, .inl mO)), (m2, .inl (o2, 16, .inl mG)), (m3, .inl (o3, 16, .inl mF)), (m4, .inl (o4, 32, .inl mA)), (m5, .inl (o5, 32, .inl mU)), (m6, .inl (o6, 32, .inl (upd (fun k => if k < u then h k else mR k) u (h u))))] := hD
      have hz : (upd (fun k => if k < u then cutG h (mG a9) (mG b9) k else h k) u ((h u) &&& (-1))) = (fun k => if k < u + 1 then cutG h (mG a9) (mG b9) k else h k) := upd_ltf ((and_m1 _).trans (if_neg (by rw [hc37]; decide)).symm)
      rw [hz] at hP hD
      have hz : (upd (fun k => if k < u then h k else mR k) u (h u)) = (fun k => if k < u + 1 then h k else mR k) := upd_ltf rfl
      rw [hz] at hP hD
      refine lv_iinc hx hb d_M_otherwise_54 hl (k := 0) rfl (v := nI (u + 1)) (nI_1 u) (by decide) rfl (fun ls hl => ?_)
      have hl : lv_has ls 5 [(3, .int (nI (u + 1))), (0, .ref mo), (1, .int (nI a9)), (2, .int (nI b9))] := hl
      refine lv_goto (tgt := 2) hx hb d_M_otherwise_57 rfl ?_
      exact ih2 (u + 1) _ H locs ⟨by omega, lv_sub hl [0, 1, 2, 3] rfl, hP, hD, hS⟩ (by omega)
    · have hc37 := b2i_n.mp hc37
      refine lv_aload_n hx hb d_M_otherwise_40 rfl (lv_at hl 1 rfl) ?_
      refine va_get (D := D) (ci := 5) (v := .ref m2) (C := R_M) (T := F_M) (N := 10) hx hb hB in_M hown hK hP 0 rfl rfl 5 (by decide) (hB _ mf_M_16) (fun _ h9 => h9) rfl d_M_otherwise_41 ?_
      refine lv_iload_n hx hb d_M_otherwise_44 rfl (lv_at hl 3 rfl) ?_
      refine xa_ld (u := b9) hx hb hK hP 3 2 rfl rfl (by omega) (by decide) d_M_otherwise_45 ?_
      refine lv_iconst (v := -1) hx hb d_M_otherwise_46 (by decide) ?_
      refine lv_ixor hx hb d_M_otherwise_47 ?_
      refine lv_goto (tgt := 52) hx hb d_M_otherwise_48 rfl ?_
      refine lv_iand hx hb d_M_otherwise_52 ?_
      refine xa_st (u := u) hx hb hK hP hD hS 1 0 rfl rfl (by omega) (by decide) d_M_otherwise_53 (fun H locs hP hD hS => ?_)
      have hP : va_P D cls [(mo, .inr (5, [.int mc, .int mn, .ref m0, .int mg, .ref m1, .ref m2, .ref m3, .ref m4, .ref m5, .ref m6])), (m0, .inl (o0, 16, .inl (upd (fun k => if k < u then cutG h (mG a9) (mG b9) k else h k) u ((h u) &&& ((mG b9) ^^^ (-1)))))), (m1, .inl (o1, 16, .inl mO)), (m2, .inl (o2, 16, .inl mG)), (m3, .inl (o3, 16, .inl mF)), (m4, .inl (o4, 32, .inl mA)), (m5, .inl (o5, 32, .inl mU)), (m6, .inl (o6, 32, .inl (upd (fun k => if k < u then h k else mR k) u (h u))))] H := hP
      have hD : va_D A [(mo, .inr (5, [.int mc, .int mn, .ref m0, .int mg, .ref m1, .ref m2, .ref m3, .ref m4, .ref m5, .ref m6])), (m0, .inl (o0, 16, .inl (upd (fun k => if k < u then cutG h (mG a9) (mG b9) k else h k) u ((h u) &&& ((mG b9) ^^^ (-1)))))), (m1, .inl (o1, 16, .inl mO)), (m2, .inl (o2, 16, .inl mG)), (m3, .inl (o3, 16, .inl mF)), (m4, .inl (o4, 32, .inl mA)), (m5, .inl (o5, 32, .inl mU)), (m6, .inl (o6, 32, .inl (upd (fun k => if k < u then h k else mR k) u (h u))))] := hD
      have hz : (upd (fun k => if k < u then cutG h (mG a9) (mG b9) k else h k) u ((h u) &&& ((mG b9) ^^^ (-1)))) = (fun k => if k < u + 1 then cutG h (mG a9) (mG b9) k else h k) := upd_ltf (if_pos hc37).symm
      rw [hz] at hP hD
      have hz : (upd (fun k => if k < u then h k else mR k) u (h u)) = (fun k => if k < u + 1 then h k else mR k) := upd_ltf rfl
      rw [hz] at hP hD
      refine lv_iinc hx hb d_M_otherwise_54 hl (k := 0) rfl (v := nI (u + 1)) (nI_1 u) (by decide) rfl (fun ls hl => ?_)
      have hl : lv_has ls 5 [(3, .int (nI (u + 1))), (0, .ref mo), (1, .int (nI a9)), (2, .int (nI b9))] := hl
      refine lv_goto (tgt := 2) hx hb d_M_otherwise_57 rfl ?_
      exact ih2 (u + 1) _ H locs ⟨by omega, lv_sub hl [0, 1, 2, 3] rfl, hP, hD, hS⟩ (by omega)
set_option maxHeartbeats 4000000 in
set_option maxRecDepth 100000 in
theorem k_M_longest (l : Launch) (D : va_G) (mo m0 m1 m2 m3 m4 m5 m6 : Nat) (o0 o1 o2 o3 o4 o5 o6 : ClassId) (mc : Int32) (mn : Int32) (cn9 : Nat) (h : Nat → Int32) (mO : Nat → Int32) (mG : Nat → Int32) (mF : Nat → Int32) (mA : Nat → Int32) (mU : Nat → Int32) (mR : Nat → Int32) (od : Nat → Nat) (hcn : cn9 ≤ 16) (hod : ∀ k, k < cn9 → mO k = nI (od k) ∧ od k < 16) (sz : Nat) : Met l y_M_longest (Cond.code y_M_longest c_M_longest 4 (some .int) :: BS) { frames := 3, cells := 0, slots := 0, locals := 66 } (va_Pc [.ref mo] (xWp D [(mo, .inr (5, [.int mc, .int mn, .ref m0, .int (nI cn9), .ref m1, .ref m2, .ref m3, .ref m4, .ref m5, .ref m6])), (m0, .inl (o0, 16, .inl h)), (m1, .inl (o1, 16, .inl mO)), (m2, .inl (o2, 16, .inl mG)), (m3, .inl (o3, 16, .inl mF)), (m4, .inl (o4, 32, .inl mA)), (m5, .inl (o5, 32, .inl mU)), (m6, .inl (o6, 32, .inl mR))] [(o0, .int), (o1, .int), (o2, .int), (o3, .int), (o4, .int), (o5, .int), (o6, .int)] sz)) (xQi D [(mo, .inr (5, [.int mc, .int mn, .ref m0, .int (nI cn9), .ref m1, .ref m2, .ref m3, .ref m4, .ref m5, .ref m6])), (m0, .inl (o0, 16, .inl h)), (m1, .inl (o1, 16, .inl mO)), (m2, .inl (o2, 16, .inl mG)), (m3, .inl (o3, 16, .inl mF)), (m4, .inl (o4, 32, .inl mA)), (m5, .inl (o5, 32, .inl mU)), (m6, .inl (o6, 32, .inl mR))] [(mo, .inr (5, [.int mc, .int mn, .ref m0, .int (nI cn9), .ref m1, .ref m2, .ref m3, .ref m4, .ref m5, .ref m6])), (m0, .inl (o0, 16, .inl h)), (m1, .inl (o1, 16, .inl mO)), (m2, .inl (o2, 16, .inl mG)), (m3, .inl (o3, 16, .inl mF)), (m4, .inl (o4, 32, .inl mA)), (m5, .inl (o5, 32, .inl mU)), (m6, .inl (o6, 32, .inl (mlF (fun i9 j9 => ldb h mG (od i9) (od j9)) mR cn9)))] [(o0, .int), (o1, .int), (o2, .int), (o3, .int), (o4, .int), (o5, .int), (o6, .int)] sz (mlB (fun i9 j9 => ldb h mG (od i9) (od j9)) mR cn9)) 0 0 (va_A [(mo, .inr (5, [.int mc, .int mn, .ref m0, .int (nI cn9), .ref m1, .ref m2, .ref m3, .ref m4, .ref m5, .ref m6])), (m0, .inl (o0, 16, .inl h)), (m1, .inl (o1, 16, .inl mO)), (m2, .inl (o2, 16, .inl mG)), (m3, .inl (o3, 16, .inl mF)), (m4, .inl (o4, 32, .inl mA)), (m5, .inl (o5, 32, .inl mU)), (m6, .inl (o6, 32, .inl mR))] sz) := by
  refine Met.ofW (cc := c_M_longest) (maxL := 4) (ret := (some .int)) (by decide) rfl ?_
  intro p e s m args below meth c s₁ B hml hv
  obtain ⟨rfl, hsz, hP, hK, hD0, hN⟩ := hv
  have hx := B.exec
  have hb := B.bytes
  have hr := B.returns
  have hB := xB B.pre
  have hown : s.vm.findClass R_M = some m.cls := findClass_of_methodNamed B.named
  have hlocks := B.notSynchronized
  subst hsz
  have hD := hD0.self (sz := s.heap.size)
  obtain ⟨A, hAe⟩ : ∃ A, A = va_A [(mo, .inr (5, [.int mc, .int mn, .ref m0, .int (nI cn9), .ref m1, .ref m2, .ref m3, .ref m4, .ref m5, .ref m6])), (m0, .inl (o0, 16, .inl h)), (m1, .inl (o1, 16, .inl mO)), (m2, .inl (o2, 16, .inl mG)), (m3, .inl (o3, 16, .inl mF)), (m4, .inl (o4, 32, .inl mA)), (m5, .inl (o5, 32, .inl mU)), (m6, .inl (o6, 32, .inl mR))] s.heap.size := ⟨_, rfl⟩
  rw [← hAe] at hD
  have hA : ∀ q : Nat, s.heap.size ≤ q → A q := fun q h => by rw [hAe]; exact Or.inr h
  have hS : va_S A s.heap s.heap [] := va_S.rf
  have hl := lv_entry ([.ref mo]) (n := 4) (Nat.le_of_ble_eq_true rfl)
  rw [lg_entry_eq]
  generalize (lg_sl ([.ref mo]) ++ List.replicate (4 - (lg_sl ([.ref mo])).length) Slot.unset).toArray = ls at hl ⊢
  have hl : lv_has ls 4 [(0, .ref mo)] := hl
  refine lv_iconst (v := nI 0) hx hb d_M_longest_0 (by decide) ?_
  refine lv_istore_n hx hb d_M_longest_1 rfl hl (by decide) rfl (fun ls hl => ?_)
  have hl : lv_has ls 4 [(1, .int (nI 0)), (0, .ref mo)] := hl
  refine lv_iconst (v := nI 0) hx hb d_M_longest_2 (by decide) ?_
  refine lv_istore_n hx hb d_M_longest_3 rfl hl (by decide) rfl (fun ls hl => ?_)
  have hl : lv_has ls 4 [(2, .int (nI 0)), (1, .int (nI 0)), (0, .ref mo)] := hl
  have hP := xP_ext hP 7 (mlF (fun i9 j9 => ldb h mG (od i9) (od j9)) mR 0) rfl (fun j9 hj9 => rfl)
  have hD := xD_ext hD 7 (y := .inl (o6, 32, .inl (mlF (fun i9 j9 => ldb h mG (od i9) (od j9)) mR 0))) rfl
  have hP : va_P D cls [(mo, .inr (5, [.int mc, .int mn, .ref m0, .int (nI cn9), .ref m1, .ref m2, .ref m3, .ref m4, .ref m5, .ref m6])), (m0, .inl (o0, 16, .inl h)), (m1, .inl (o1, 16, .inl mO)), (m2, .inl (o2, 16, .inl mG)), (m3, .inl (o3, 16, .inl mF)), (m4, .inl (o4, 32, .inl mA)), (m5, .inl (o5, 32, .inl mU)), (m6, .inl (o6, 32, .inl (mlF (fun i9 j9 => ldb h mG (od i9) (od j9)) mR 0)))] _ := hP
  have hD : va_D A [(mo, .inr (5, [.int mc, .int mn, .ref m0, .int (nI cn9), .ref m1, .ref m2, .ref m3, .ref m4, .ref m5, .ref m6])), (m0, .inl (o0, 16, .inl h)), (m1, .inl (o1, 16, .inl mO)), (m2, .inl (o2, 16, .inl mG)), (m3, .inl (o3, 16, .inl mF)), (m4, .inl (o4, 32, .inl mA)), (m5, .inl (o5, 32, .inl mU)), (m6, .inl (o6, 32, .inl (mlF (fun i9 j9 => ldb h mG (od i9) (od j9)) mR 0)))] := hD
  refine xl_w (fun (u : Nat) ls H locs => ((u ≤ cn9)) ∧ lv_has ls 4 [(2, .int (nI u)), (1, .int (mlB (fun i9 j9 => ldb h mG (od i9) (od j9)) mR u)), (0, .ref mo)] ∧ va_P D cls [(mo, .inr (5, [.int mc, .int mn, .ref m0, .int (nI cn9), .ref m1, .ref m2, .ref m3, .ref m4, .ref m5, .ref m6])), (m0, .inl (o0, 16, .inl h)), (m1, .inl (o1, 16, .inl mO)), (m2, .inl (o2, 16, .inl mG)), (m3, .inl (o3, 16, .inl mF)), (m4, .inl (o4, 32, .inl mA)), (m5, .inl (o5, 32, .inl mU)), (m6, .inl (o6, 32, .inl (mlF (fun i9 j9 => ldb h mG (od i9) (od j9)) mR u)))] H ∧ va_D A [(mo, .inr (5, [.int mc, .int mn, .ref m0, .int (nI cn9), .ref m1, .ref m2, .ref m3, .ref m4, .ref m5, .ref m6])), (m0, .inl (o0, 16, .inl h)), (m1, .inl (o1, 16, .inl mO)), (m2, .inl (o2, 16, .inl mG)), (m3, .inl (o3, 16, .inl mF)), (m4, .inl (o4, 32, .inl mA)), (m5, .inl (o5, 32, .inl mU)), (m6, .inl (o6, 32, .inl (mlF (fun i9 j9 => ldb h mG (od i9) (od j9)) mR u)))] ∧ va_S A s.heap H locs) (fun u => cn9 - u) (fun u ls H locs hI ih4 => ?_) 0 _ ⟨Nat.zero_le _, hl, hP, hD, hS⟩
  obtain ⟨hI, hl, hP, hD, hS⟩ := hI
  have hu := hI
  refine lv_iload_n hx hb d_M_longest_4 rfl (lv_at hl 0 rfl) ?_
  refine lv_aload_n hx hb d_M_longest_5 rfl (lv_at hl 2 rfl) ?_
  refine va_get (D := D) (ci := 5) (v := .int (nI cn9)) (C := R_M) (T := F_M) (N := 10) hx hb hB in_M hown hK hP 0 rfl rfl 3 (by decide) (hB _ mf_M_58) (fun _ h9 => h9) rfl d_M_longest_6 ?_
  refine lv_icmp_ge (tgt := 116) hx hb d_M_longest_9 rfl (fun hc9 => ?_) (fun hc9 => ?_)
  · have hc9 : cn9 ≤ u := (nI_leI (by omega) (by omega)).mp hc9
    have hz : (mlF (fun i9 j9 => ldb h mG (od i9) (od j9)) mR u) = (mlF (fun i9 j9 => ldb h mG (od i9) (od j9)) mR cn9) := by rw [show u = cn9 by omega]
    rw [hz] at hP hD
    refine lv_iload_n hx hb d_M_longest_116 rfl (lv_at hl 1 rfl) ?_
    have hP9 := hP.sub (ws' := [(mo, .inr (5, [.int mc, .int mn, .ref m0, .int (nI cn9), .ref m1, .ref m2, .ref m3, .ref m4, .ref m5, .ref m6])), (m0, .inl (o0, 16, .inl h)), (m1, .inl (o1, 16, .inl mO)), (m2, .inl (o2, 16, .inl mG)), (m3, .inl (o3, 16, .inl mF)), (m4, .inl (o4, 32, .inl mA)), (m5, .inl (o5, 32, .inl mU)), (m6, .inl (o6, 32, .inl (mlF (fun i9 j9 => ldb h mG (od i9) (od j9)) mR cn9)))]) [0, 1, 2, 3, 4, 5, 6, 7] rfl
    have hD9 := hD.sub (ws' := [(mo, .inr (5, [.int mc, .int mn, .ref m0, .int (nI cn9), .ref m1, .ref m2, .ref m3, .ref m4, .ref m5, .ref m6])), (m0, .inl (o0, 16, .inl h)), (m1, .inl (o1, 16, .inl mO)), (m2, .inl (o2, 16, .inl mG)), (m3, .inl (o3, 16, .inl mF)), (m4, .inl (o4, 32, .inl mA)), (m5, .inl (o5, 32, .inl mU)), (m6, .inl (o6, 32, .inl (mlF (fun i9 j9 => ldb h mG (od i9) (od j9)) mR cn9)))]) [0, 1, 2, 3, 4, 5, 6, 7] (by decide) rfl
    subst hAe
    refine xv_top (x' := mlB (fun i9 j9 => ldb h mG (od i9) (od j9)) mR cn9) (by rw [show u = cn9 by omega]) ?_
    exact W.iret (v := mlB (fun i9 j9 => ldb h mG (od i9) (od j9)) mR cn9) hx hb hr (fun t ht hW => ⟨⟨_, (), rfl, rfl, by rw [ht]; exact hP9, va_K.moved hW.alike hK, hD9⟩, hS.F ht⟩) hS.2.2 d_M_longest_117
  · have hc9 : ¬ (cn9 ≤ u) := fun q9 => hc9 ((nI_leI (by omega) (by omega)).mpr q9)
    refine lv_aload_n hx hb d_M_longest_12 rfl (lv_at hl 2 rfl) ?_
    refine va_get (D := D) (ci := 5) (v := .ref m6) (C := R_M) (T := F_M) (N := 10) hx hb hB in_M hown hK hP 0 rfl rfl 9 (by decide) (hB _ mf_M_28) (fun _ h9 => h9) rfl d_M_longest_13 ?_
    refine lv_iload_n hx hb d_M_longest_16 rfl (lv_at hl 0 rfl) ?_
    refine lv_iconst (v := nI 1) hx hb d_M_longest_17 (by decide) ?_
    refine xa_st (u := u) hx hb hK hP hD hS 7 6 rfl rfl (by omega) (by decide) d_M_longest_18 (fun H locs hP hD hS => ?_)
    have hP : va_P D cls [(mo, .inr (5, [.int mc, .int mn, .ref m0, .int (nI cn9), .ref m1, .ref m2, .ref m3, .ref m4, .ref m5, .ref m6])), (m0, .inl (o0, 16, .inl h)), (m1, .inl (o1, 16, .inl mO)), (m2, .inl (o2, 16, .inl mG)), (m3, .inl (o3, 16, .inl mF)), (m4, .inl (o4, 32, .inl mA)), (m5, .inl (o5, 32, .inl mU)), (m6, .inl (o6, 32, .inl (upd (mlF (fun i9 j9 => ldb h mG (od i9) (od j9)) mR u) u (nI 1))))] H := hP
    have hD : va_D A [(mo, .inr (5, [.int mc, .int mn, .ref m0, .int (nI cn9), .ref m1, .ref m2, .ref m3, .ref m4, .ref m5, .ref m6])), (m0, .inl (o0, 16, .inl h)), (m1, .inl (o1, 16, .inl mO)), (m2, .inl (o2, 16, .inl mG)), (m3, .inl (o3, 16, .inl mF)), (m4, .inl (o4, 32, .inl mA)), (m5, .inl (o5, 32, .inl mU)), (m6, .inl (o6, 32, .inl (upd (mlF (fun i9 j9 => ldb h mG (od i9) (od j9)) mR u) u (nI 1))))] := hD
    refine lv_iconst (v := nI 0) hx hb d_M_longest_19 (by decide) ?_
    refine lv_istore_n hx hb d_M_longest_20 rfl hl (by decide) rfl (fun ls hl => ?_)
    have hl : lv_has ls 4 [(3, .int (nI 0)), (2, .int (nI u)), (1, .int (mlB (fun i9 j9 => ldb h mG (od i9) (od j9)) mR u)), (0, .ref mo)] := hl
    have hP := xP_ext hP 7 (upd (mlF (fun i9 j9 => ldb h mG (od i9) (od j9)) mR u) u (mlI (fun i9 j9 => ldb h mG (od i9) (od j9)) (mlF (fun i9 j9 => ldb h mG (od i9) (od j9)) mR u) u 0)) rfl (fun j9 hj9 => rfl)
    have hD := xD_ext hD 7 (y := .inl (o6, 32, .inl (upd (mlF (fun i9 j9 => ldb h mG (od i9) (od j9)) mR u) u (mlI (fun i9 j9 => ldb h mG (od i9) (od j9)) (mlF (fun i9 j9 => ldb h mG (od i9) (od j9)) mR u) u 0)))) rfl
    have hP : va_P D cls [(mo, .inr (5, [.int mc, .int mn, .ref m0, .int (nI cn9), .ref m1, .ref m2, .ref m3, .ref m4, .ref m5, .ref m6])), (m0, .inl (o0, 16, .inl h)), (m1, .inl (o1, 16, .inl mO)), (m2, .inl (o2, 16, .inl mG)), (m3, .inl (o3, 16, .inl mF)), (m4, .inl (o4, 32, .inl mA)), (m5, .inl (o5, 32, .inl mU)), (m6, .inl (o6, 32, .inl (upd (mlF (fun i9 j9 => ldb h mG (od i9) (od j9)) mR u) u (mlI (fun i9 j9 => ldb h mG (od i9) (od j9)) (mlF (fun i9 j9 => ldb h mG (od i9) (od j9)) mR u) u 0))))] _ := hP
    have hD : va_D A [(mo, .inr (5, [.int mc, .int mn, .ref m0, .int (nI cn9), .ref m1, .ref m2, .ref m3, .ref m4, .ref m5, .ref m6])), (m0, .inl (o0, 16, .inl h)), (m1, .inl (o1, 16, .inl mO)), (m2, .inl (o2, 16, .inl mG)), (m3, .inl (o3, 16, .inl mF)), (m4, .inl (o4, 32, .inl mA)), (m5, .inl (o5, 32, .inl mU)), (m6, .inl (o6, 32, .inl (upd (mlF (fun i9 j9 => ldb h mG (od i9) (od j9)) mR u) u (mlI (fun i9 j9 => ldb h mG (od i9) (od j9)) (mlF (fun i9 j9 => ldb h mG (od i9) (od j9)) mR u) u 0))))] := hD
    refine xl_w (fun (i : Nat) ls H locs => ((i ≤ u)) ∧ lv_has ls 4 [(3, .int (nI i)), (2, .int (nI u)), (1, .int (mlB (fun i9 j9 => ldb h mG (od i9) (od j9)) mR u)), (0, .ref mo)] ∧ va_P D cls [(mo, .inr (5, [.int mc, .int mn, .ref m0, .int (nI cn9), .ref m1, .ref m2, .ref m3, .ref m4, .ref m5, .ref m6])), (m0, .inl (o0, 16, .inl h)), (m1, .inl (o1, 16, .inl mO)), (m2, .inl (o2, 16, .inl mG)), (m3, .inl (o3, 16, .inl mF)), (m4, .inl (o4, 32, .inl mA)), (m5, .inl (o5, 32, .inl mU)), (m6, .inl (o6, 32, .inl (upd (mlF (fun i9 j9 => ldb h mG (od i9) (od j9)) mR u) u (mlI (fun i9 j9 => ldb h mG (od i9) (od j9)) (mlF (fun i9 j9 => ldb h mG (od i9) (od j9)) mR u) u i))))] H ∧ va_D A [(mo, .inr (5, [.int mc, .int mn, .ref m0, .int (nI cn9), .ref m1, .ref m2, .ref m3, .ref m4, .ref m5, .ref m6])), (m0, .inl (o0, 16, .inl h)), (m1, .inl (o1, 16, .inl mO)), (m2, .inl (o2, 16, .inl mG)), (m3, .inl (o3, 16, .inl mF)), (m4, .inl (o4, 32, .inl mA)), (m5, .inl (o5, 32, .inl mU)), (m6, .inl (o6, 32, .inl (upd (mlF (fun i9 j9 => ldb h mG (od i9) (od j9)) mR u) u (mlI (fun i9 j9 => ldb h mG (od i9) (od j9)) (mlF (fun i9 j9 => ldb h mG (od i9) (od j9)) mR u) u i))))] ∧ va_S A s.heap H locs) (fun i => u - i) (fun i ls H locs hI ih21 => ?_) 0 _ ⟨Nat.zero_le _, hl, hP, hD, hS⟩
    obtain ⟨hI, hl, hP, hD, hS⟩ := hI
    have hi := hI
    refine lv_iload_n hx hb d_M_longest_21 rfl (lv_at hl 0 rfl) ?_
    refine lv_iload_n hx hb d_M_longest_22 rfl (lv_at hl 1 rfl) ?_
    refine lv_icmp_ge (tgt := 89) hx hb d_M_longest_23 rfl (fun hc23 => ?_) (fun hc23 => ?_)
    · have hc23 : u ≤ i := (nI_leI (by omega) (by omega)).mp hc23
      have hz : (upd (mlF (fun i9 j9 => ldb h mG (od i9) (od j9)) mR u) u (mlI (fun i9 j9 => ldb h mG (od i9) (od j9)) (mlF (fun i9 j9 => ldb h mG (od i9) (od j9)) mR u) u i)) = (mlF (fun i9 j9 => ldb h mG (od i9) (od j9)) mR (u + 1)) := by rw [show i = u by omega]; rfl
      rw [hz] at hP hD
      refine lv_aload_n hx hb d_M_longest_89 rfl (lv_at hl 3 rfl) ?_
      refine va_get (D := D) (ci := 5) (v := .ref m6) (C := R_M) (T := F_M) (N := 10) hx hb hB in_M hown hK hP 0 rfl rfl 9 (by decide) (hB _ mf_M_28) (fun _ h9 => h9) rfl d_M_longest_90 ?_
      refine lv_iload_n hx hb d_M_longest_93 rfl (lv_at hl 1 rfl) ?_
      refine xa_ld (u := u) hx hb hK hP 7 6 rfl rfl (by omega) (by decide) d_M_longest_94 ?_
      refine lv_iload_n hx hb d_M_longest_95 rfl (lv_at hl 2 rfl) ?_
      refine lv_icmp_le (tgt := 108) hx hb d_M_longest_96 rfl (fun hc96 => ?_) (fun hc96 => ?_)
      · refine lv_iload_n hx hb d_M_longest_108 rfl (lv_at hl 2 rfl) ?_
        refine lv_istore_n hx hb d_M_longest_109 rfl hl (by decide) rfl (fun ls hl => ?_)
        have hl : lv_has ls 4 [(1, .int (mlB (fun i9 j9 => ldb h mG (od i9) (od j9)) mR u)), (3, .int (nI i)), (2, .int (nI u)), (0, .ref mo)] := hl
        have hl : lv_has ls 4 [(1, .int (mlB (fun i9 j9 => ldb h mG (od i9) (od j9)) mR (u + 1))), (3, .int (nI i)), (2, .int (nI u)), (0, .ref mo)] := by
          have hz : (mlB (fun i9 j9 => ldb h mG (od i9) (od j9)) mR u) = mlB (fun i9 j9 => ldb h mG (od i9) (od j9)) mR (u + 1) := (if_pos hc96).symm
          rw [← hz]; exact hl
        refine lv_iinc hx hb d_M_longest_110 hl (k := 2) rfl (v := nI (u + 1)) (nI_1 u) (by decide) rfl (fun ls hl => ?_)
        have hl : lv_has ls 4 [(2, .int (nI (u + 1))), (1, .int (mlB (fun i9 j9 => ldb h mG (od i9) (od j9)) mR (u + 1))), (3, .int (nI i)), (0, .ref mo)] := hl
        refine lv_goto (tgt := 4) hx hb d_M_longest_113 rfl ?_
        exact ih4 (u + 1) _ H locs ⟨by omega, lv_sub hl [0, 1, 3] rfl, hP, hD, hS⟩ (by omega)
      · refine lv_aload_n hx hb d_M_longest_99 rfl (lv_at hl 3 rfl) ?_
        refine va_get (D := D) (ci := 5) (v := .ref m6) (C := R_M) (T := F_M) (N := 10) hx hb hB in_M hown hK hP 0 rfl rfl 9 (by decide) (hB _ mf_M_28) (fun _ h9 => h9) rfl d_M_longest_100 ?_
        refine lv_iload_n hx hb d_M_longest_103 rfl (lv_at hl 1 rfl) ?_
        refine xa_ld (u := u) hx hb hK hP 7 6 rfl rfl (by omega) (by decide) d_M_longest_104 ?_
        refine lv_goto (tgt := 109) hx hb d_M_longest_105 rfl ?_
        refine lv_istore_n hx hb d_M_longest_109 rfl hl (by decide) rfl (fun ls hl => ?_)
        have hl : lv_has ls 4 [(1, .int ((mlF (fun i9 j9 => ldb h mG (od i9) (od j9)) mR (u + 1)) u)), (3, .int (nI i)), (2, .int (nI u)), (0, .ref mo)] := hl
        have hl : lv_has ls 4 [(1, .int (mlB (fun i9 j9 => ldb h mG (od i9) (od j9)) mR (u + 1))), (3, .int (nI i)), (2, .int (nI u)), (0, .ref mo)] := by
          have hz : ((mlF (fun i9 j9 => ldb h mG (od i9) (od j9)) mR (u + 1)) u) = mlB (fun i9 j9 => ldb h mG (od i9) (od j9)) mR (u + 1) := (if_neg hc96).symm
          rw [← hz]; exact hl
        refine lv_iinc hx hb d_M_longest_110 hl (k := 2) rfl (v := nI (u + 1)) (nI_1 u) (by decide) rfl (fun ls hl => ?_)
        have hl : lv_has ls 4 [(2, .int (nI (u + 1))), (1, .int (mlB (fun i9 j9 => ldb h mG (od i9) (od j9)) mR (u + 1))), (3, .int (nI i)), (0, .ref mo)] := hl
        refine lv_goto (tgt := 4) hx hb d_M_longest_113 rfl ?_
        exact ih4 (u + 1) _ H locs ⟨by omega, lv_sub hl [0, 1, 3] rfl, hP, hD, hS⟩ (by omega)
    · have hc23 : ¬ (u ≤ i) := fun q9 => hc23 ((nI_leI (by omega) (by omega)).mpr q9)
      have ho1 := hod i (by omega)
      have ho2 := hod u (by omega)
      have ho3 := ho1.2
      have ho4 := ho2.2
      refine lv_aload_n hx hb d_M_longest_26 rfl (lv_at hl 3 rfl) ?_
      refine va_get (D := D) (ci := 5) (v := .ref m6) (C := R_M) (T := F_M) (N := 10) hx hb hB in_M hown hK hP 0 rfl rfl 9 (by decide) (hB _ mf_M_28) (fun _ h9 => h9) rfl d_M_longest_27 ?_
      refine lv_iload_n hx hb d_M_longest_30 rfl (lv_at hl 1 rfl) ?_
      refine lv_aload_n hx hb d_M_longest_31 rfl (lv_at hl 3 rfl) ?_
      refine lv_aload_n hx hb d_M_longest_32 rfl (lv_at hl 3 rfl) ?_
      refine va_get (D := D) (ci := 5) (v := .ref m1) (C := R_M) (T := F_M) (N := 10) hx hb hB in_M hown hK hP 0 rfl rfl 4 (by decide) (hB _ mf_M_13) (fun _ h9 => h9) rfl d_M_longest_33 ?_
      refine lv_iload_n hx hb d_M_longest_36 rfl (lv_at hl 0 rfl) ?_
      refine xa_ld (u := i) hx hb hK hP 2 1 rfl rfl (by omega) (by decide) d_M_longest_37 ?_
      refine xv_top (x' := nI (od i)) (ho1.1) ?_
      refine lv_aload_n hx hb d_M_longest_38 rfl (lv_at hl 3 rfl) ?_
      refine va_get (D := D) (ci := 5) (v := .ref m1) (C := R_M) (T := F_M) (N := 10) hx hb hB in_M hown hK hP 0 rfl rfl 4 (by decide) (hB _ mf_M_13) (fun _ h9 => h9) rfl d_M_longest_39 ?_
      refine lv_iload_n hx hb d_M_longest_42 rfl (lv_at hl 1 rfl) ?_
      refine xa_ld (u := u) hx hb hK hP 2 1 rfl rfl (by omega) (by decide) d_M_longest_43 ?_
      refine xv_top (x' := nI (od u)) (ho2.1) ?_
      refine xr_cal (va_runV (As := [.int (nI (od i)), .int (nI (od u))]) (rest := [.int (nI u), .ref m6]) ⟨hx, hb, hml, hown, hB⟩ (k_M_leads l D mo m0 m1 m2 m3 m4 m5 m6 o0 o1 o2 o3 o4 o5 o6 mc mn (nI cn9) h mO mG mF mA mU (upd (mlF (fun i9 j9 => ldb h mG (od i9) (od j9)) mR u) u (mlI (fun i9 j9 => ldb h mG (od i9) (od j9)) (mlF (fun i9 j9 => ldb h mG (od i9) (od j9)) mR u) u i)) (od i) (od u) (by omega) (by omega)) ⟨callB_of 2 hB (xg0 mc_M_leads) rfl rfl rfl (hB _ mz_M) (hB _ ml_M_93) (by decide +kernel) ⟨Nat.le_of_ble_eq_true rfl, Nat.le_of_ble_eq_true rfl⟩, hB _ mi_M_leads, hB _ me_M_leads⟩ (xpV (ws := [(mo, .inr (5, [.int mc, .int mn, .ref m0, .int (nI cn9), .ref m1, .ref m2, .ref m3, .ref m4, .ref m5, .ref m6])), (m0, .inl (o0, 16, .inl h)), (m1, .inl (o1, 16, .inl mO)), (m2, .inl (o2, 16, .inl mG)), (m3, .inl (o3, 16, .inl mF)), (m4, .inl (o4, 32, .inl mA)), (m5, .inl (o5, 32, .inl mU)), (m6, .inl (o6, 32, .inl (upd (mlF (fun i9 j9 => ldb h mG (od i9) (od j9)) mR u) u (mlI (fun i9 j9 => ldb h mG (od i9) (od j9)) (mlF (fun i9 j9 => ldb h mG (od i9) (od j9)) mR u) u i))))]) (tys := [(o0, .int), (o1, .int), (o2, .int), (o3, .int), (o4, .int), (o5, .int), (o6, .int)]) (hP.sub [0, 1, 2, 3, 4, 5, 6, 7] rfl) (hK.sub [0, 1, 2, 3, 4, 5, 6] rfl) hN (va_recv (ci := 5) (q0 := 0) (q := (R_M, F_M, 10)) hK hP rfl rfl)) rfl rfl hl.1 rfl (lv_room (Nat.le_of_ble_eq_true rfl)) d_M_longest_44 ⟨Nat.le_of_ble_eq_true rfl, Nat.le_of_ble_eq_true rfl⟩) ?_
      refine lv_if_eq (tgt := 76) hx hb d_M_longest_47 rfl (fun hc47 => ?_) (fun hc47 => ?_)
      · have hc47 := b2i_0.mp hc47
        refine lv_aload_n hx hb d_M_longest_76 rfl (lv_at hl 3 rfl) ?_
        refine va_get (D := D) (ci := 5) (v := .ref m6) (C := R_M) (T := F_M) (N := 10) hx hb hB in_M hown hK hP 0 rfl rfl 9 (by decide) (hB _ mf_M_28) (fun _ h9 => h9) rfl d_M_longest_77 ?_
        refine lv_iload_n hx hb d_M_longest_80 rfl (lv_at hl 1 rfl) ?_
        refine xa_ld (u := u) hx hb hK hP 7 6 rfl rfl (by omega) (by decide) d_M_longest_81 ?_
        refine xv_top (x' := mlI (fun i9 j9 => ldb h mG (od i9) (od j9)) (mlF (fun i9 j9 => ldb h mG (od i9) (od j9)) mR u) u i) (pk_us) ?_
        refine xa_st (u := u) hx hb hK hP hD hS 7 6 rfl rfl (by omega) (by decide) d_M_longest_82 (fun H locs hP hD hS => ?_)
        have hP : va_P D cls [(mo, .inr (5, [.int mc, .int mn, .ref m0, .int (nI cn9), .ref m1, .ref m2, .ref m3, .ref m4, .ref m5, .ref m6])), (m0, .inl (o0, 16, .inl h)), (m1, .inl (o1, 16, .inl mO)), (m2, .inl (o2, 16, .inl mG)), (m3, .inl (o3, 16, .inl mF)), (m4, .inl (o4, 32, .inl mA)), (m5, .inl (o5, 32, .inl mU)), (m6, .inl (o6, 32, .inl (upd (upd (mlF (fun i9 j9 => ldb h mG (od i9) (od j9)) mR u) u (mlI (fun i9 j9 => ldb h mG (od i9) (od j9)) (mlF (fun i9 j9 => ldb h mG (od i9) (od j9)) mR u) u i)) u (mlI (fun i9 j9 => ldb h mG (od i9) (od j9)) (mlF (fun i9 j9 => ldb h mG (od i9) (od j9)) mR u) u i))))] H := hP
        have hD : va_D A [(mo, .inr (5, [.int mc, .int mn, .ref m0, .int (nI cn9), .ref m1, .ref m2, .ref m3, .ref m4, .ref m5, .ref m6])), (m0, .inl (o0, 16, .inl h)), (m1, .inl (o1, 16, .inl mO)), (m2, .inl (o2, 16, .inl mG)), (m3, .inl (o3, 16, .inl mF)), (m4, .inl (o4, 32, .inl mA)), (m5, .inl (o5, 32, .inl mU)), (m6, .inl (o6, 32, .inl (upd (upd (mlF (fun i9 j9 => ldb h mG (od i9) (od j9)) mR u) u (mlI (fun i9 j9 => ldb h mG (od i9) (od j9)) (mlF (fun i9 j9 => ldb h mG (od i9) (od j9)) mR u) u i)) u (mlI (fun i9 j9 => ldb h mG (od i9) (od j9)) (mlF (fun i9 j9 => ldb h mG (od i9) (od j9)) mR u) u i))))] := hD
        have hz : (upd (upd (mlF (fun i9 j9 => ldb h mG (od i9) (od j9)) mR u) u (mlI (fun i9 j9 => ldb h mG (od i9) (od j9)) (mlF (fun i9 j9 => ldb h mG (od i9) (od j9)) mR u) u i)) u (mlI (fun i9 j9 => ldb h mG (od i9) (od j9)) (mlF (fun i9 j9 => ldb h mG (od i9) (od j9)) mR u) u i)) = (upd (mlF (fun i9 j9 => ldb h mG (od i9) (od j9)) mR u) u (mlI (fun i9 j9 => ldb h mG (od i9) (od j9)) (mlF (fun i9 j9 => ldb h mG (od i9) (od j9)) mR u) u (i + 1))) := upd_uu (if_neg (by first | (intro q9; exact q9.2 hc62) | (intro q9; have q8 : ldb h mG (od i) (od u) = true := q9.1; rw [show ldb h mG (od i) (od u) = false from hc47] at q8; cases q8))).symm
        rw [hz] at hP hD
        refine lv_iinc hx hb d_M_longest_83 hl (k := 0) rfl (v := nI (i + 1)) (nI_1 i) (by decide) rfl (fun ls hl => ?_)
        have hl : lv_has ls 4 [(3, .int (nI (i + 1))), (2, .int (nI u)), (1, .int (mlB (fun i9 j9 => ldb h mG (od i9) (od j9)) mR u)), (0, .ref mo)] := hl
        refine lv_goto (tgt := 21) hx hb d_M_longest_86 rfl ?_
        exact ih21 (i + 1) _ H locs ⟨by omega, lv_sub hl [0, 1, 2, 3] rfl, hP, hD, hS⟩ (by omega)
      · have hc47 := b2i_n.mp hc47
        refine lv_aload_n hx hb d_M_longest_50 rfl (lv_at hl 3 rfl) ?_
        refine va_get (D := D) (ci := 5) (v := .ref m6) (C := R_M) (T := F_M) (N := 10) hx hb hB in_M hown hK hP 0 rfl rfl 9 (by decide) (hB _ mf_M_28) (fun _ h9 => h9) rfl d_M_longest_51 ?_
        refine lv_iload_n hx hb d_M_longest_54 rfl (lv_at hl 0 rfl) ?_
        refine xa_ld (u := i) hx hb hK hP 7 6 rfl rfl (by omega) (by decide) d_M_longest_55 ?_
        refine xv_top (x' := mlF (fun i9 j9 => ldb h mG (od i9) (od j9)) mR u i) (pk_un (by omega)) ?_
        refine lv_aload_n hx hb d_M_longest_56 rfl (lv_at hl 3 rfl) ?_
        refine va_get (D := D) (ci := 5) (v := .ref m6) (C := R_M) (T := F_M) (N := 10) hx hb hB in_M hown hK hP 0 rfl rfl 9 (by decide) (hB _ mf_M_28) (fun _ h9 => h9) rfl d_M_longest_57 ?_
        refine lv_iload_n hx hb d_M_longest_60 rfl (lv_at hl 1 rfl) ?_
        refine xa_ld (u := u) hx hb hK hP 7 6 rfl rfl (by omega) (by decide) d_M_longest_61 ?_
        refine xv_top (x' := mlI (fun i9 j9 => ldb h mG (od i9) (od j9)) (mlF (fun i9 j9 => ldb h mG (od i9) (od j9)) mR u) u i) (pk_us) ?_
        refine lv_icmp_lt (tgt := 76) hx hb d_M_longest_62 rfl (fun hc62 => ?_) (fun hc62 => ?_)
        · refine lv_aload_n hx hb d_M_longest_76 rfl (lv_at hl 3 rfl) ?_
          refine va_get (D := D) (ci := 5) (v := .ref m6) (C := R_M) (T := F_M) (N := 10) hx hb hB in_M hown hK hP 0 rfl rfl 9 (by decide) (hB _ mf_M_28) (fun _ h9 => h9) rfl d_M_longest_77 ?_
          refine lv_iload_n hx hb d_M_longest_80 rfl (lv_at hl 1 rfl) ?_
          refine xa_ld (u := u) hx hb hK hP 7 6 rfl rfl (by omega) (by decide) d_M_longest_81 ?_
          refine xv_top (x' := mlI (fun i9 j9 => ldb h mG (od i9) (od j9)) (mlF (fun i9 j9 => ldb h mG (od i9) (od j9)) mR u) u i) (pk_us) ?_
          refine xa_st (u := u) hx hb hK hP hD hS 7 6 rfl rfl (by omega) (by decide) d_M_longest_82 (fun H locs hP hD hS => ?_)
          have hP : va_P D cls [(mo, .inr (5, [.int mc, .int mn, .ref m0, .int (nI cn9), .ref m1, .ref m2, .ref m3, .ref m4, .ref m5, .ref m6])), (m0, .inl (o0, 16, .inl h)), (m1, .inl (o1, 16, .inl mO)), (m2, .inl (o2, 16, .inl mG)), (m3, .inl (o3, 16, .inl mF)), (m4, .inl (o4, 32, .inl mA)), (m5, .inl (o5, 32, .inl mU)), (m6, .inl (o6, 32, .inl (upd (upd (mlF (fun i9 j9 => ldb h mG (od i9) (od j9)) mR u) u (mlI (fun i9 j9 => ldb h mG (od i9) (od j9)) (mlF (fun i9 j9 => ldb h mG (od i9) (od j9)) mR u) u i)) u (mlI (fun i9 j9 => ldb h mG (od i9) (od j9)) (mlF (fun i9 j9 => ldb h mG (od i9) (od j9)) mR u) u i))))] H := hP
          have hD : va_D A [(mo, .inr (5, [.int mc, .int mn, .ref m0, .int (nI cn9), .ref m1, .ref m2, .ref m3, .ref m4, .ref m5, .ref m6])), (m0, .inl (o0, 16, .inl h)), (m1, .inl (o1, 16, .inl mO)), (m2, .inl (o2, 16, .inl mG)), (m3, .inl (o3, 16, .inl mF)), (m4, .inl (o4, 32, .inl mA)), (m5, .inl (o5, 32, .inl mU)), (m6, .inl (o6, 32, .inl (upd (upd (mlF (fun i9 j9 => ldb h mG (od i9) (od j9)) mR u) u (mlI (fun i9 j9 => ldb h mG (od i9) (od j9)) (mlF (fun i9 j9 => ldb h mG (od i9) (od j9)) mR u) u i)) u (mlI (fun i9 j9 => ldb h mG (od i9) (od j9)) (mlF (fun i9 j9 => ldb h mG (od i9) (od j9)) mR u) u i))))] := hD
          have hz : (upd (upd (mlF (fun i9 j9 => ldb h mG (od i9) (od j9)) mR u) u (mlI (fun i9 j9 => ldb h mG (od i9) (od j9)) (mlF (fun i9 j9 => ldb h mG (od i9) (od j9)) mR u) u i)) u (mlI (fun i9 j9 => ldb h mG (od i9) (od j9)) (mlF (fun i9 j9 => ldb h mG (od i9) (od j9)) mR u) u i)) = (upd (mlF (fun i9 j9 => ldb h mG (od i9) (od j9)) mR u) u (mlI (fun i9 j9 => ldb h mG (od i9) (od j9)) (mlF (fun i9 j9 => ldb h mG (od i9) (od j9)) mR u) u (i + 1))) := upd_uu (if_neg (by first | (intro q9; exact q9.2 hc62) | (intro q9; have q8 : ldb h mG (od i) (od u) = true := q9.1; rw [show ldb h mG (od i) (od u) = false from hc47] at q8; cases q8))).symm
          rw [hz] at hP hD
          refine lv_iinc hx hb d_M_longest_83 hl (k := 0) rfl (v := nI (i + 1)) (nI_1 i) (by decide) rfl (fun ls hl => ?_)
          have hl : lv_has ls 4 [(3, .int (nI (i + 1))), (2, .int (nI u)), (1, .int (mlB (fun i9 j9 => ldb h mG (od i9) (od j9)) mR u)), (0, .ref mo)] := hl
          refine lv_goto (tgt := 21) hx hb d_M_longest_86 rfl ?_
          exact ih21 (i + 1) _ H locs ⟨by omega, lv_sub hl [0, 1, 2, 3] rfl, hP, hD, hS⟩ (by omega)
        · refine lv_aload_n hx hb d_M_longest_65 rfl (lv_at hl 3 rfl) ?_
          refine va_get (D := D) (ci := 5) (v := .ref m6) (C := R_M) (T := F_M) (N := 10) hx hb hB in_M hown hK hP 0 rfl rfl 9 (by decide) (hB _ mf_M_28) (fun _ h9 => h9) rfl d_M_longest_66 ?_
          refine lv_iload_n hx hb d_M_longest_69 rfl (lv_at hl 0 rfl) ?_
          refine xa_ld (u := i) hx hb hK hP 7 6 rfl rfl (by omega) (by decide) d_M_longest_70 ?_
          refine xv_top (x' := mlF (fun i9 j9 => ldb h mG (od i9) (od j9)) mR u i) (pk_un (by omega)) ?_
          refine lv_iconst (v := nI 1) hx hb d_M_longest_71 (by decide) ?_
          refine lv_iadd hx hb d_M_longest_72 ?_
          refine lv_goto (tgt := 82) hx hb d_M_longest_73 rfl ?_
          refine xa_st (u := u) hx hb hK hP hD hS 7 6 rfl rfl (by omega) (by decide) d_M_longest_82 (fun H locs hP hD hS => ?_)
          have hP : va_P D cls [(mo, .inr (5, [.int mc, .int mn, .ref m0, .int (nI cn9), .ref m1, .ref m2, .ref m3, .ref m4, .ref m5, .ref m6])), (m0, .inl (o0, 16, .inl h)), (m1, .inl (o1, 16, .inl mO)), (m2, .inl (o2, 16, .inl mG)), (m3, .inl (o3, 16, .inl mF)), (m4, .inl (o4, 32, .inl mA)), (m5, .inl (o5, 32, .inl mU)), (m6, .inl (o6, 32, .inl (upd (upd (mlF (fun i9 j9 => ldb h mG (od i9) (od j9)) mR u) u (mlI (fun i9 j9 => ldb h mG (od i9) (od j9)) (mlF (fun i9 j9 => ldb h mG (od i9) (od j9)) mR u) u i)) u ((mlF (fun i9 j9 => ldb h mG (od i9) (od j9)) mR u i) + (nI 1)))))] H := hP
          have hD : va_D A [(mo, .inr (5, [.int mc, .int mn, .ref m0, .int (nI cn9), .ref m1, .ref m2, .ref m3, .ref m4, .ref m5, .ref m6])), (m0, .inl (o0, 16, .inl h)), (m1, .inl (o1, 16, .inl mO)), (m2, .inl (o2, 16, .inl mG)), (m3, .inl (o3, 16, .inl mF)), (m4, .inl (o4, 32, .inl mA)), (m5, .inl (o5, 32, .inl mU)), (m6, .inl (o6, 32, .inl (upd (upd (mlF (fun i9 j9 => ldb h mG (od i9) (od j9)) mR u) u (mlI (fun i9 j9 => ldb h mG (od i9) (od j9)) (mlF (fun i9 j9 => ldb h mG (od i9) (od j9)) mR u) u i)) u ((mlF (fun i9 j9 => ldb h mG (od i9) (od j9)) mR u i) + (nI 1)))))] := hD
          have hz : (upd (upd (mlF (fun i9 j9 => ldb h mG (od i9) (od j9)) mR u) u (mlI (fun i9 j9 => ldb h mG (od i9) (od j9)) (mlF (fun i9 j9 => ldb h mG (od i9) (od j9)) mR u) u i)) u ((mlF (fun i9 j9 => ldb h mG (od i9) (od j9)) mR u i) + (nI 1))) = (upd (mlF (fun i9 j9 => ldb h mG (od i9) (od j9)) mR u) u (mlI (fun i9 j9 => ldb h mG (od i9) (od j9)) (mlF (fun i9 j9 => ldb h mG (od i9) (od j9)) mR u) u (i + 1))) := upd_uu (if_pos ⟨hc47, hc62⟩).symm
          rw [hz] at hP hD
          refine lv_iinc hx hb d_M_longest_83 hl (k := 0) rfl (v := nI (i + 1)) (nI_1 i) (by decide) rfl (fun ls hl => ?_)
          have hl : lv_has ls 4 [(3, .int (nI (i + 1))), (2, .int (nI u)), (1, .int (mlB (fun i9 j9 => ldb h mG (od i9) (od j9)) mR u)), (0, .ref mo)] := hl
          refine lv_goto (tgt := 21) hx hb d_M_longest_86 rfl ?_
          exact ih21 (i + 1) _ H locs ⟨by omega, lv_sub hl [0, 1, 2, 3] rfl, hP, hD, hS⟩ (by omega)
