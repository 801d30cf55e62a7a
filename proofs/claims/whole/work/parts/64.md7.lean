set_option maxHeartbeats 4000000 in
set_option maxRecDepth 100000 in
theorem k_M_pairs_f (l : Launch) (D : va_G) (mo m0 m1 m2 m3 m4 m5 m6 : Nat) (o0 o1 o2 o3 o4 o5 o6 : ClassId) (mc : Int32) (mn : Int32) (cn9 : Nat) (h : Nat → Int32) (mO : Nat → Int32) (mG : Nat → Int32) (mF : Nat → Int32) (mA : Nat → Int32) (mU : Nat → Int32) (mR : Nat → Int32) (od : Nat → Nat) (hcn : cn9 ≤ 16) (hod : ∀ k, k < cn9 → mO k = nI (od k) ∧ od k < 16) (sz : Nat) : Met l y_M_pairs (Cond.code y_M_pairs c_M_pairs 6 (some .int) :: BS) { frames := 3, cells := 0, slots := 0, locals := 66 } (va_Pc [.ref mo, .int (nI 0)] (xWp D [(mo, .inr (5, [.int mc, .int mn, .ref m0, .int (nI cn9), .ref m1, .ref m2, .ref m3, .ref m4, .ref m5, .ref m6])), (m0, .inl (o0, 16, .inl h)), (m1, .inl (o1, 16, .inl mO)), (m2, .inl (o2, 16, .inl mG)), (m3, .inl (o3, 16, .inl mF)), (m4, .inl (o4, 32, .inl mA)), (m5, .inl (o5, 32, .inl mU)), (m6, .inl (o6, 32, .inl mR))] [(o0, .int), (o1, .int), (o2, .int), (o3, .int), (o4, .int), (o5, .int), (o6, .int)] sz)) (xQi D [(mo, .inr (5, [.int mc, .int mn, .ref m0, .int (nI cn9), .ref m1, .ref m2, .ref m3, .ref m4, .ref m5, .ref m6])), (m0, .inl (o0, 16, .inl h)), (m1, .inl (o1, 16, .inl mO)), (m2, .inl (o2, 16, .inl mG)), (m3, .inl (o3, 16, .inl mF)), (m4, .inl (o4, 32, .inl mA)), (m5, .inl (o5, 32, .inl mU)), (m6, .inl (o6, 32, .inl mR))] [(mo, .inr (5, [.int mc, .int mn, .ref m0, .int (nI cn9), .ref m1, .ref m2, .ref m3, .ref m4, .ref m5, .ref m6])), (m0, .inl (o0, 16, .inl h)), (m1, .inl (o1, 16, .inl mO)), (m2, .inl (o2, 16, .inl mG)), (m3, .inl (o3, 16, .inl mF)), (m4, .inl (o4, 32, .inl mA)), (m5, .inl (o5, 32, .inl mU)), (m6, .inl (o6, 32, .inl mR))] [(o0, .int), (o1, .int), (o2, .int), (o3, .int), (o4, .int), (o5, .int), (o6, .int)] sz (nI (sq (fun i9 => cq (prL h mG od i9) cn9) cn9))) 0 0 (va_A [(mo, .inr (5, [.int mc, .int mn, .ref m0, .int (nI cn9), .ref m1, .ref m2, .ref m3, .ref m4, .ref m5, .ref m6])), (m0, .inl (o0, 16, .inl h)), (m1, .inl (o1, 16, .inl mO)), (m2, .inl (o2, 16, .inl mG)), (m3, .inl (o3, 16, .inl mF)), (m4, .inl (o4, 32, .inl mA)), (m5, .inl (o5, 32, .inl mU)), (m6, .inl (o6, 32, .inl mR))] sz) := by
  refine Met.ofW (cc := c_M_pairs) (maxL := 6) (ret := (some .int)) (by decide) rfl ?_
  intro p e s m args below meth c s₁ B hml hv
  obtain ⟨rfl, hsz, hP, hK, hD0, hN⟩ := hv
  have hx := B.exec
  have hb := B.bytes
  have hr := B.returns
  have hB := xB B.pre
  have hown : s.vm.findClass R_M = some m.cls := findClass_of_methodNamed B.named
  have hlocks := B.notSynchronized
  subst hsz
  have hD := hD0.self (sz := s.heap.size)
  obtain ⟨A, hAe⟩ : ∃ A, A = va_A [(mo, .inr (5, [.int mc, .int mn, .ref m0, .int (nI cn9), .ref m1, .ref m2, .ref m3, .ref m4, .ref m5, .ref m6])), (m0, .inl (o0, 16, .inl h)), (m1, .inl (o1, 16, .inl mO)), (m2, .inl (o2, 16, .inl mG)), (m3, .inl (o3, 16, .inl mF)), (m4, .inl (o4, 32, .inl mA)), (m5, .inl (o5, 32, .inl mU)), (m6, .inl (o6, 32, .inl mR))] s.heap.size := ⟨_, rfl⟩
  rw [← hAe] at hD
  have hA : ∀ q : Nat, s.heap.size ≤ q → A q := fun q h => by rw [hAe]; exact Or.inr h
  have hS : va_S A s.heap s.heap [] := va_S.rf
  have hl := lv_entry ([.ref mo, .int (nI 0)]) (n := 6) (Nat.le_of_ble_eq_true rfl)
  rw [lg_entry_eq]
  generalize (lg_sl ([.ref mo, .int (nI 0)]) ++ List.replicate (6 - (lg_sl ([.ref mo, .int (nI 0)])).length) Slot.unset).toArray = ls at hl ⊢
  have hl : lv_has ls 6 [(0, .ref mo), (1, .int (nI 0))] := hl
  refine lv_iconst (v := nI 0) hx hb d_M_pairs_0 (by decide) ?_
  refine lv_istore_n hx hb d_M_pairs_1 rfl hl (by decide) rfl (fun ls hl => ?_)
  have hl : lv_has ls 6 [(2, .int (nI 0)), (0, .ref mo), (1, .int (nI 0))] := hl
  refine lv_iconst (v := nI 0) hx hb d_M_pairs_2 (by decide) ?_
  refine lv_istore_n hx hb d_M_pairs_3 rfl hl (by decide) rfl (fun ls hl => ?_)
  have hl : lv_has ls 6 [(3, .int (nI 0)), (2, .int (nI 0)), (0, .ref mo), (1, .int (nI 0))] := hl
  refine xl_w (fun (i : Nat) ls H locs => ((i ≤ cn9)) ∧ lv_has ls 6 [(3, .int (nI i)), (2, .int (nI (sq (fun i9 => cq (prL h mG od i9) cn9) i))), (0, .ref mo), (1, .int (nI 0))] ∧ va_P D cls [(mo, .inr (5, [.int mc, .int mn, .ref m0, .int (nI cn9), .ref m1, .ref m2, .ref m3, .ref m4, .ref m5, .ref m6])), (m0, .inl (o0, 16, .inl h)), (m1, .inl (o1, 16, .inl mO)), (m2, .inl (o2, 16, .inl mG)), (m3, .inl (o3, 16, .inl mF)), (m4, .inl (o4, 32, .inl mA)), (m5, .inl (o5, 32, .inl mU)), (m6, .inl (o6, 32, .inl mR))] H ∧ va_D A [(mo, .inr (5, [.int mc, .int mn, .ref m0, .int (nI cn9), .ref m1, .ref m2, .ref m3, .ref m4, .ref m5, .ref m6])), (m0, .inl (o0, 16, .inl h)), (m1, .inl (o1, 16, .inl mO)), (m2, .inl (o2, 16, .inl mG)), (m3, .inl (o3, 16, .inl mF)), (m4, .inl (o4, 32, .inl mA)), (m5, .inl (o5, 32, .inl mU)), (m6, .inl (o6, 32, .inl mR))] ∧ va_S A s.heap H locs) (fun i => cn9 - i) (fun i ls H locs hI ih4 => ?_) 0 _ ⟨Nat.zero_le _, hl, hP, hD, hS⟩
  obtain ⟨hI, hl, hP, hD, hS⟩ := hI
  have hi := hI
  refine lv_iload_n hx hb d_M_pairs_4 rfl (lv_at hl 0 rfl) ?_
  refine lv_aload_n hx hb d_M_pairs_5 rfl (lv_at hl 2 rfl) ?_
  refine va_get (D := D) (ci := 5) (v := .int (nI cn9)) (C := R_M) (T := F_M) (N := 10) hx hb hB in_M hown hK hP 0 rfl rfl 3 (by decide) (hB _ mf_M_58) (fun _ h9 => h9) rfl d_M_pairs_6 ?_
  refine lv_icmp_ge (tgt := 92) hx hb d_M_pairs_9 rfl (fun hc9 => ?_) (fun hc9 => ?_)
  · have hc9 : cn9 ≤ i := (nI_leI (by omega) (by omega)).mp hc9
    refine lv_iload_n hx hb d_M_pairs_92 rfl (lv_at hl 1 rfl) ?_
    have hP9 := hP.sub (ws' := [(mo, .inr (5, [.int mc, .int mn, .ref m0, .int (nI cn9), .ref m1, .ref m2, .ref m3, .ref m4, .ref m5, .ref m6])), (m0, .inl (o0, 16, .inl h)), (m1, .inl (o1, 16, .inl mO)), (m2, .inl (o2, 16, .inl mG)), (m3, .inl (o3, 16, .inl mF)), (m4, .inl (o4, 32, .inl mA)), (m5, .inl (o5, 32, .inl mU)), (m6, .inl (o6, 32, .inl mR))]) [0, 1, 2, 3, 4, 5, 6, 7] rfl
    have hD9 := hD.sub (ws' := [(mo, .inr (5, [.int mc, .int mn, .ref m0, .int (nI cn9), .ref m1, .ref m2, .ref m3, .ref m4, .ref m5, .ref m6])), (m0, .inl (o0, 16, .inl h)), (m1, .inl (o1, 16, .inl mO)), (m2, .inl (o2, 16, .inl mG)), (m3, .inl (o3, 16, .inl mF)), (m4, .inl (o4, 32, .inl mA)), (m5, .inl (o5, 32, .inl mU)), (m6, .inl (o6, 32, .inl mR))]) [0, 1, 2, 3, 4, 5, 6, 7] (by decide) rfl
    subst hAe
    refine xv_top (x' := nI (sq (fun i9 => cq (prL h mG od i9) cn9) cn9)) (by rw [show i = cn9 by omega]) ?_
    exact W.iret (v := nI (sq (fun i9 => cq (prL h mG od i9) cn9) cn9)) hx hb hr (fun t ht hW => ⟨⟨_, (), rfl, rfl, by rw [ht]; exact hP9, va_K.moved hW.alike hK, hD9⟩, hS.F ht⟩) hS.2.2 d_M_pairs_93
  · have hc9 : ¬ (cn9 ≤ i) := fun q9 => hc9 ((nI_leI (by omega) (by omega)).mpr q9)
    refine lv_iconst (v := nI 0) hx hb d_M_pairs_12 (by decide) ?_
    refine lv_istore hx hb d_M_pairs_13 hl (by decide) rfl (fun ls hl => ?_)
    have hl : lv_has ls 6 [(4, .int (nI 0)), (3, .int (nI i)), (2, .int (nI (sq (fun i9 => cq (prL h mG od i9) cn9) i))), (0, .ref mo), (1, .int (nI 0))] := hl
    refine xl_w (fun (j : Nat) ls H locs => ((j ≤ cn9)) ∧ lv_has ls 6 [(4, .int (nI j)), (3, .int (nI i)), (2, .int (nI (sq (fun i9 => cq (prL h mG od i9) cn9) i + cq (prL h mG od i) j))), (0, .ref mo), (1, .int (nI 0))] ∧ va_P D cls [(mo, .inr (5, [.int mc, .int mn, .ref m0, .int (nI cn9), .ref m1, .ref m2, .ref m3, .ref m4, .ref m5, .ref m6])), (m0, .inl (o0, 16, .inl h)), (m1, .inl (o1, 16, .inl mO)), (m2, .inl (o2, 16, .inl mG)), (m3, .inl (o3, 16, .inl mF)), (m4, .inl (o4, 32, .inl mA)), (m5, .inl (o5, 32, .inl mU)), (m6, .inl (o6, 32, .inl mR))] H ∧ va_D A [(mo, .inr (5, [.int mc, .int mn, .ref m0, .int (nI cn9), .ref m1, .ref m2, .ref m3, .ref m4, .ref m5, .ref m6])), (m0, .inl (o0, 16, .inl h)), (m1, .inl (o1, 16, .inl mO)), (m2, .inl (o2, 16, .inl mG)), (m3, .inl (o3, 16, .inl mF)), (m4, .inl (o4, 32, .inl mA)), (m5, .inl (o5, 32, .inl mU)), (m6, .inl (o6, 32, .inl mR))] ∧ va_S A s.heap H locs) (fun j => cn9 - j) (fun j ls H locs hI ih15 => ?_) 0 _ ⟨Nat.zero_le _, hl, hP, hD, hS⟩
    obtain ⟨hI, hl, hP, hD, hS⟩ := hI
    have hj := hI
    refine lv_iload hx hb d_M_pairs_15 (lv_at hl 0 rfl) ?_
    refine lv_aload_n hx hb d_M_pairs_17 rfl (lv_at hl 3 rfl) ?_
    refine va_get (D := D) (ci := 5) (v := .int (nI cn9)) (C := R_M) (T := F_M) (N := 10) hx hb hB in_M hown hK hP 0 rfl rfl 3 (by decide) (hB _ mf_M_58) (fun _ h9 => h9) rfl d_M_pairs_18 ?_
    refine lv_icmp_ge (tgt := 86) hx hb d_M_pairs_21 rfl (fun hc21 => ?_) (fun hc21 => ?_)
    · have hc21 : cn9 ≤ j := (nI_leI (by omega) (by omega)).mp hc21
      have hl : lv_has ls 6 [(4, .int (nI j)), (3, .int (nI i)), (2, .int (nI (sq (fun i9 => cq (prL h mG od i9) cn9) (i + 1)))), (0, .ref mo), (1, .int (nI 0))] := by
        have hz : (nI (sq (fun i9 => cq (prL h mG od i9) cn9) i + cq (prL h mG od i) j)) = nI (sq (fun i9 => cq (prL h mG od i9) cn9) (i + 1)) := by rw [show j = cn9 by omega]; rfl
        rw [← hz]; exact hl
      refine lv_iinc hx hb d_M_pairs_86 hl (k := 1) rfl (v := nI (i + 1)) (nI_1 i) (by decide) rfl (fun ls hl => ?_)
      have hl : lv_has ls 6 [(3, .int (nI (i + 1))), (4, .int (nI j)), (2, .int (nI (sq (fun i9 => cq (prL h mG od i9) cn9) (i + 1)))), (0, .ref mo), (1, .int (nI 0))] := hl
      refine lv_goto (tgt := 4) hx hb d_M_pairs_89 rfl ?_
      exact ih4 (i + 1) _ H locs ⟨by omega, lv_sub hl [0, 2, 3, 4] rfl, hP, hD, hS⟩ (by omega)
    · have hc21 : ¬ (cn9 ≤ j) := fun q9 => hc21 ((nI_leI (by omega) (by omega)).mpr q9)
      have ho1 := hod i (by omega)
      have ho2 := hod j (by omega)
      have ho3 := ho1.2
      have ho4 := ho2.2
      refine lv_aload_n hx hb d_M_pairs_24 rfl (lv_at hl 3 rfl) ?_
      refine lv_aload_n hx hb d_M_pairs_25 rfl (lv_at hl 3 rfl) ?_
      refine va_get (D := D) (ci := 5) (v := .ref m1) (C := R_M) (T := F_M) (N := 10) hx hb hB in_M hown hK hP 0 rfl rfl 4 (by decide) (hB _ mf_M_13) (fun _ h9 => h9) rfl d_M_pairs_26 ?_
      refine lv_iload_n hx hb d_M_pairs_29 rfl (lv_at hl 1 rfl) ?_
      refine xa_ld (u := i) hx hb hK hP 2 1 rfl rfl (by omega) (by decide) d_M_pairs_30 ?_
      refine xv_top (x' := nI (od i)) (ho1.1) ?_
      refine lv_aload_n hx hb d_M_pairs_31 rfl (lv_at hl 3 rfl) ?_
      refine va_get (D := D) (ci := 5) (v := .ref m1) (C := R_M) (T := F_M) (N := 10) hx hb hB in_M hown hK hP 0 rfl rfl 4 (by decide) (hB _ mf_M_13) (fun _ h9 => h9) rfl d_M_pairs_32 ?_
      refine lv_iload hx hb d_M_pairs_35 (lv_at hl 0 rfl) ?_
      refine xa_ld (u := j) hx hb hK hP 2 1 rfl rfl (by omega) (by decide) d_M_pairs_37 ?_
      refine xv_top (x' := nI (od j)) (ho2.1) ?_
      refine xr_cal (va_runV (As := [.int (nI (od i)), .int (nI (od j))]) (rest := []) ⟨hx, hb, hml, hown, hB⟩ (k_M_leads l D mo m0 m1 m2 m3 m4 m5 m6 o0 o1 o2 o3 o4 o5 o6 mc mn (nI cn9) h mO mG mF mA mU mR (od i) (od j) (by omega) (by omega)) ⟨callB_of 2 hB (xg0 mc_M_leads) rfl rfl rfl (hB _ mz_M) (hB _ ml_M_93) (by decide +kernel) ⟨Nat.le_of_ble_eq_true rfl, Nat.le_of_ble_eq_true rfl⟩, hB _ mi_M_leads, hB _ me_M_leads⟩ (xpV (ws := [(mo, .inr (5, [.int mc, .int mn, .ref m0, .int (nI cn9), .ref m1, .ref m2, .ref m3, .ref m4, .ref m5, .ref m6])), (m0, .inl (o0, 16, .inl h)), (m1, .inl (o1, 16, .inl mO)), (m2, .inl (o2, 16, .inl mG)), (m3, .inl (o3, 16, .inl mF)), (m4, .inl (o4, 32, .inl mA)), (m5, .inl (o5, 32, .inl mU)), (m6, .inl (o6, 32, .inl mR))]) (tys := [(o0, .int), (o1, .int), (o2, .int), (o3, .int), (o4, .int), (o5, .int), (o6, .int)]) (hP.sub [0, 1, 2, 3, 4, 5, 6, 7] rfl) (hK.sub [0, 1, 2, 3, 4, 5, 6] rfl) hN (va_recv (ci := 5) (q0 := 0) (q := (R_M, F_M, 10)) hK hP rfl rfl)) rfl rfl hl.1 rfl (lv_room (Nat.le_of_ble_eq_true rfl)) d_M_pairs_38 ⟨Nat.le_of_ble_eq_true rfl, Nat.le_of_ble_eq_true rfl⟩) ?_
      refine lv_istore hx hb d_M_pairs_41 hl (by decide) rfl (fun ls hl => ?_)
      have hl : lv_has ls 6 [(5, .int (b2i (!(decide ((od i) = (od j))) && !(decide (un h (mG (od i)) 16 &&& mG (od j) = 0))))), (4, .int (nI j)), (3, .int (nI i)), (2, .int (nI (sq (fun i9 => cq (prL h mG od i9) cn9) i + cq (prL h mG od i) j))), (0, .ref mo), (1, .int (nI 0))] := hl
      refine lv_iload_n hx hb d_M_pairs_43 rfl (lv_at hl 3 rfl) ?_
      refine lv_iload hx hb d_M_pairs_44 (lv_at hl 0 rfl) ?_
      refine lv_if_eq (tgt := 77) hx hb d_M_pairs_46 rfl (fun hc46 => ?_) (fun hc46 => ?_)
      · have hc46 := b2i_0.mp hc46
        refine lv_iconst (v := nI 0) hx hb d_M_pairs_77 (by decide) ?_
        refine lv_iadd hx hb d_M_pairs_78 ?_
        refine lv_istore_n hx hb d_M_pairs_79 rfl hl (by decide) rfl (fun ls hl => ?_)
        have hl : lv_has ls 6 [(2, .int ((nI (sq (fun i9 => cq (prL h mG od i9) cn9) i + cq (prL h mG od i) j)) + (nI 0))), (5, .int (b2i (!(decide ((od i) = (od j))) && !(decide (un h (mG (od i)) 16 &&& mG (od j) = 0))))), (4, .int (nI j)), (3, .int (nI i)), (0, .ref mo), (1, .int (nI 0))] := hl
        have hl : lv_has ls 6 [(2, .int (nI (sq (fun i9 => cq (prL h mG od i9) cn9) i + cq (prL h mG od i) (j + 1)))), (5, .int (b2i (!(decide ((od i) = (od j))) && !(decide (un h (mG (od i)) 16 &&& mG (od j) = 0))))), (4, .int (nI j)), (3, .int (nI i)), (0, .ref mo), (1, .int (nI 0))] := by
          have hz : ((nI (sq (fun i9 => cq (prL h mG od i9) cn9) i + cq (prL h mG od i) j)) + (nI 0)) = nI (sq (fun i9 => cq (prL h mG od i9) cn9) i + cq (prL h mG od i) (j + 1)) := by rw [cq_f (p := prL h mG od i) (k := j) (hc46), nI_add]; rfl
          rw [← hz]; exact hl
        refine lv_iinc hx hb d_M_pairs_80 hl (k := 2) rfl (v := nI (j + 1)) (nI_1 j) (by decide) rfl (fun ls hl => ?_)
        have hl : lv_has ls 6 [(4, .int (nI (j + 1))), (2, .int (nI (sq (fun i9 => cq (prL h mG od i9) cn9) i + cq (prL h mG od i) (j + 1)))), (5, .int (b2i (!(decide ((od i) = (od j))) && !(decide (un h (mG (od i)) 16 &&& mG (od j) = 0))))), (3, .int (nI i)), (0, .ref mo), (1, .int (nI 0))] := hl
        refine lv_goto (tgt := 15) hx hb d_M_pairs_83 rfl ?_
        exact ih15 (j + 1) _ H locs ⟨by omega, lv_sub hl [0, 3, 1, 4, 5] rfl, hP, hD, hS⟩ (by omega)
      · have hc46 := b2i_n.mp hc46
        refine lv_iload_n hx hb d_M_pairs_49 rfl (lv_at hl 5 rfl) ?_
        refine lv_if_eq (tgt := 73) hx hb d_M_pairs_50 rfl (fun _ => ?_) (fun hc50 => absurd hc50 (by decide))
        refine lv_iconst (v := nI 1) hx hb d_M_pairs_73 (by decide) ?_
        refine lv_goto (tgt := 78) hx hb d_M_pairs_74 rfl ?_
        refine lv_iadd hx hb d_M_pairs_78 ?_
        refine lv_istore_n hx hb d_M_pairs_79 rfl hl (by decide) rfl (fun ls hl => ?_)
        have hl : lv_has ls 6 [(2, .int ((nI (sq (fun i9 => cq (prL h mG od i9) cn9) i + cq (prL h mG od i) j)) + (nI 1))), (5, .int (b2i (!(decide ((od i) = (od j))) && !(decide (un h (mG (od i)) 16 &&& mG (od j) = 0))))), (4, .int (nI j)), (3, .int (nI i)), (0, .ref mo), (1, .int (nI 0))] := hl
        have hl : lv_has ls 6 [(2, .int (nI (sq (fun i9 => cq (prL h mG od i9) cn9) i + cq (prL h mG od i) (j + 1)))), (5, .int (b2i (!(decide ((od i) = (od j))) && !(decide (un h (mG (od i)) 16 &&& mG (od j) = 0))))), (4, .int (nI j)), (3, .int (nI i)), (0, .ref mo), (1, .int (nI 0))] := by
          have hz : ((nI (sq (fun i9 => cq (prL h mG od i9) cn9) i + cq (prL h mG od i) j)) + (nI 1)) = nI (sq (fun i9 => cq (prL h mG od i9) cn9) i + cq (prL h mG od i) (j + 1)) := by rw [cq_t (p := prL h mG od i) (k := j) (hc46)]; exact nI_add _ 1
          rw [← hz]; exact hl
        refine lv_iinc hx hb d_M_pairs_80 hl (k := 2) rfl (v := nI (j + 1)) (nI_1 j) (by decide) rfl (fun ls hl => ?_)
        have hl : lv_has ls 6 [(4, .int (nI (j + 1))), (2, .int (nI (sq (fun i9 => cq (prL h mG od i9) cn9) i + cq (prL h mG od i) (j + 1)))), (5, .int (b2i (!(decide ((od i) = (od j))) && !(decide (un h (mG (od i)) 16 &&& mG (od j) = 0))))), (3, .int (nI i)), (0, .ref mo), (1, .int (nI 0))] := hl
        refine lv_goto (tgt := 15) hx hb d_M_pairs_83 rfl ?_
        exact ih15 (j + 1) _ H locs ⟨by omega, lv_sub hl [0, 3, 1, 4, 5] rfl, hP, hD, hS⟩ (by omega)
set_option maxHeartbeats 4000000 in
set_option maxRecDepth 100000 in
theorem k_M_pairs_t (l : Launch) (D : va_G) (mo m0 m1 m2 m3 m4 m5 m6 : Nat) (o0 o1 o2 o3 o4 o5 o6 : ClassId) (mc : Int32) (mn : Int32) (cn9 : Nat) (h : Nat → Int32) (mO : Nat → Int32) (mG : Nat → Int32) (mF : Nat → Int32) (mA : Nat → Int32) (mU : Nat → Int32) (mR : Nat → Int32) (od : Nat → Nat) (hg : gd h) (hcn : cn9 ≤ 16) (hod : ∀ k, k < cn9 → mO k = nI (od k) ∧ od k < 16) (hm9 : ∀ k, k < 16 → m16 (mG k)) (sz : Nat) : Met l y_M_pairs (Cond.code y_M_pairs c_M_pairs 6 (some .int) :: BS) { frames := 3, cells := 0, slots := 0, locals := 70 } (va_Pc [.ref mo, .int (nI 1)] (xWp D [(mo, .inr (5, [.int mc, .int mn, .ref m0, .int (nI cn9), .ref m1, .ref m2, .ref m3, .ref m4, .ref m5, .ref m6])), (m0, .inl (o0, 16, .inl h)), (m1, .inl (o1, 16, .inl mO)), (m2, .inl (o2, 16, .inl mG)), (m3, .inl (o3, 16, .inl mF)), (m4, .inl (o4, 32, .inl mA)), (m5, .inl (o5, 32, .inl mU)), (m6, .inl (o6, 32, .inl mR))] [(o0, .int), (o1, .int), (o2, .int), (o3, .int), (o4, .int), (o5, .int), (o6, .int)] sz)) (xQi D [(mo, .inr (5, [.int mc, .int mn, .ref m0, .int (nI cn9), .ref m1, .ref m2, .ref m3, .ref m4, .ref m5, .ref m6])), (m0, .inl (o0, 16, .inl h)), (m1, .inl (o1, 16, .inl mO)), (m2, .inl (o2, 16, .inl mG)), (m3, .inl (o3, 16, .inl mF)), (m4, .inl (o4, 32, .inl mA)), (m5, .inl (o5, 32, .inl mU)), (m6, .inl (o6, 32, .inl mR))] [(mo, .inr (5, [.int mc, .int mn, .ref m0, .int (nI cn9), .ref m1, .ref m2, .ref m3, .ref m4, .ref m5, .ref m6])), (m0, .inl (o0, 16, .inl h)), (m1, .inl (o1, 16, .inl mO)), (m2, .inl (o2, 16, .inl mG)), (m3, .inl (o3, 16, .inl mF)), (m4, .inl (o4, 32, .inl mA)), (m5, .inl (o5, 32, .inl mU)), (m6, .inl (o6, 32, .inl (prF h mR (sq (fun i9 => cq (prL h mG od i9) cn9) cn9))))] [(o0, .int), (o1, .int), (o2, .int), (o3, .int), (o4, .int), (o5, .int), (o6, .int)] sz (nI (sq (fun i9 => cq (prO h mG od i9) cn9) cn9))) 0 0 (va_A [(mo, .inr (5, [.int mc, .int mn, .ref m0, .int (nI cn9), .ref m1, .ref m2, .ref m3, .ref m4, .ref m5, .ref m6])), (m0, .inl (o0, 16, .inl h)), (m1, .inl (o1, 16, .inl mO)), (m2, .inl (o2, 16, .inl mG)), (m3, .inl (o3, 16, .inl mF)), (m4, .inl (o4, 32, .inl mA)), (m5, .inl (o5, 32, .inl mU)), (m6, .inl (o6, 32, .inl mR))] sz) := by
  refine Met.ofW (cc := c_M_pairs) (maxL := 6) (ret := (some .int)) (by decide) rfl ?_
  intro p e s m args below meth c s₁ B hml hv
  obtain ⟨rfl, hsz, hP, hK, hD0, hN⟩ := hv
  have hx := B.exec
  have hb := B.bytes
  have hr := B.returns
  have hB := xB B.pre
  have hown : s.vm.findClass R_M = some m.cls := findClass_of_methodNamed B.named
  have hlocks := B.notSynchronized
  subst hsz
  have hD := hD0.self (sz := s.heap.size)
  obtain ⟨A, hAe⟩ : ∃ A, A = va_A [(mo, .inr (5, [.int mc, .int mn, .ref m0, .int (nI cn9), .ref m1, .ref m2, .ref m3, .ref m4, .ref m5, .ref m6])), (m0, .inl (o0, 16, .inl h)), (m1, .inl (o1, 16, .inl mO)), (m2, .inl (o2, 16, .inl mG)), (m3, .inl (o3, 16, .inl mF)), (m4, .inl (o4, 32, .inl mA)), (m5, .inl (o5, 32, .inl mU)), (m6, .inl (o6, 32, .inl mR))] s.heap.size := ⟨_, rfl⟩
  rw [← hAe] at hD
  have hA : ∀ q : Nat, s.heap.size ≤ q → A q := fun q h => by rw [hAe]; exact Or.inr h
  have hS : va_S A s.heap s.heap [] := va_S.rf
  have hl := lv_entry ([.ref mo, .int (nI 1)]) (n := 6) (Nat.le_of_ble_eq_true rfl)
  rw [lg_entry_eq]
  generalize (lg_sl ([.ref mo, .int (nI 1)]) ++ List.replicate (6 - (lg_sl ([.ref mo, .int (nI 1)])).length) Slot.unset).toArray = ls at hl ⊢
  have hl : lv_has ls 6 [(0, .ref mo), (1, .int (nI 1))] := hl
  refine lv_iconst (v := nI 0) hx hb d_M_pairs_0 (by decide) ?_
  refine lv_istore_n hx hb d_M_pairs_1 rfl hl (by decide) rfl (fun ls hl => ?_)
  have hl : lv_has ls 6 [(2, .int (nI 0)), (0, .ref mo), (1, .int (nI 1))] := hl
  refine lv_iconst (v := nI 0) hx hb d_M_pairs_2 (by decide) ?_
  refine lv_istore_n hx hb d_M_pairs_3 rfl hl (by decide) rfl (fun ls hl => ?_)
  have hl : lv_has ls 6 [(3, .int (nI 0)), (2, .int (nI 0)), (0, .ref mo), (1, .int (nI 1))] := hl
  have hP := xP_ext hP 7 (prF h mR (sq (fun i9 => cq (prL h mG od i9) cn9) 0)) rfl (fun j9 hj9 => prF_0 _ _ _)
  have hD := xD_ext hD 7 (y := .inl (o6, 32, .inl (prF h mR (sq (fun i9 => cq (prL h mG od i9) cn9) 0)))) rfl
  have hP : va_P D cls [(mo, .inr (5, [.int mc, .int mn, .ref m0, .int (nI cn9), .ref m1, .ref m2, .ref m3, .ref m4, .ref m5, .ref m6])), (m0, .inl (o0, 16, .inl h)), (m1, .inl (o1, 16, .inl mO)), (m2, .inl (o2, 16, .inl mG)), (m3, .inl (o3, 16, .inl mF)), (m4, .inl (o4, 32, .inl mA)), (m5, .inl (o5, 32, .inl mU)), (m6, .inl (o6, 32, .inl (prF h mR (sq (fun i9 => cq (prL h mG od i9) cn9) 0))))] _ := hP
  have hD : va_D A [(mo, .inr (5, [.int mc, .int mn, .ref m0, .int (nI cn9), .ref m1, .ref m2, .ref m3, .ref m4, .ref m5, .ref m6])), (m0, .inl (o0, 16, .inl h)), (m1, .inl (o1, 16, .inl mO)), (m2, .inl (o2, 16, .inl mG)), (m3, .inl (o3, 16, .inl mF)), (m4, .inl (o4, 32, .inl mA)), (m5, .inl (o5, 32, .inl mU)), (m6, .inl (o6, 32, .inl (prF h mR (sq (fun i9 => cq (prL h mG od i9) cn9) 0))))] := hD
  refine xl_w (fun (i : Nat) ls H locs => ((i ≤ cn9)) ∧ lv_has ls 6 [(3, .int (nI i)), (2, .int (nI (sq (fun i9 => cq (prO h mG od i9) cn9) i))), (0, .ref mo), (1, .int (nI 1))] ∧ va_P D cls [(mo, .inr (5, [.int mc, .int mn, .ref m0, .int (nI cn9), .ref m1, .ref m2, .ref m3, .ref m4, .ref m5, .ref m6])), (m0, .inl (o0, 16, .inl h)), (m1, .inl (o1, 16, .inl mO)), (m2, .inl (o2, 16, .inl mG)), (m3, .inl (o3, 16, .inl mF)), (m4, .inl (o4, 32, .inl mA)), (m5, .inl (o5, 32, .inl mU)), (m6, .inl (o6, 32, .inl (prF h mR (sq (fun i9 => cq (prL h mG od i9) cn9) i))))] H ∧ va_D A [(mo, .inr (5, [.int mc, .int mn, .ref m0, .int (nI cn9), .ref m1, .ref m2, .ref m3, .ref m4, .ref m5, .ref m6])), (m0, .inl (o0, 16, .inl h)), (m1, .inl (o1, 16, .inl mO)), (m2, .inl (o2, 16, .inl mG)), (m3, .inl (o3, 16, .inl mF)), (m4, .inl (o4, 32, .inl mA)), (m5, .inl (o5, 32, .inl mU)), (m6, .inl (o6, 32, .inl (prF h mR (sq (fun i9 => cq (prL h mG od i9) cn9) i))))] ∧ va_S A s.heap H locs) (fun i => cn9 - i) (fun i ls H locs hI ih4 => ?_) 0 _ ⟨Nat.zero_le _, hl, hP, hD, hS⟩
  obtain ⟨hI, hl, hP, hD, hS⟩ := hI
  have hi := hI
  refine lv_iload_n hx hb d_M_pairs_4 rfl (lv_at hl 0 rfl) ?_
  refine lv_aload_n hx hb d_M_pairs_5 rfl (lv_at hl 2 rfl) ?_
  refine va_get (D := D) (ci := 5) (v := .int (nI cn9)) (C := R_M) (T := F_M) (N := 10) hx hb hB in_M hown hK hP 0 rfl rfl 3 (by decide) (hB _ mf_M_58) (fun _ h9 => h9) rfl d_M_pairs_6 ?_
  refine lv_icmp_ge (tgt := 92) hx hb d_M_pairs_9 rfl (fun hc9 => ?_) (fun hc9 => ?_)
  · have hc9 : cn9 ≤ i := (nI_leI (by omega) (by omega)).mp hc9
    have hz : (prF h mR (sq (fun i9 => cq (prL h mG od i9) cn9) i)) = (prF h mR (sq (fun i9 => cq (prL h mG od i9) cn9) cn9)) := by rw [show i = cn9 by omega]
    rw [hz] at hP hD
    refine lv_iload_n hx hb d_M_pairs_92 rfl (lv_at hl 1 rfl) ?_
    have hP9 := hP.sub (ws' := [(mo, .inr (5, [.int mc, .int mn, .ref m0, .int (nI cn9), .ref m1, .ref m2, .ref m3, .ref m4, .ref m5, .ref m6])), (m0, .inl (o0, 16, .inl h)), (m1, .inl (o1, 16, .inl mO)), (m2, .inl (o2, 16, .inl mG)), (m3, .inl (o3, 16, .inl mF)), (m4, .inl (o4, 32, .inl mA)), (m5, .inl (o5, 32, .inl mU)), (m6, .inl (o6, 32, .inl (prF h mR (sq (fun i9 => cq (prL h mG od i9) cn9) cn9))))]) [0, 1, 2, 3, 4, 5, 6, 7] rfl
    have hD9 := hD.sub (ws' := [(mo, .inr (5, [.int mc, .int mn, .ref m0, .int (nI cn9), .ref m1, .ref m2, .ref m3, .ref m4, .ref m5, .ref m6])), (m0, .inl (o0, 16, .inl h)), (m1, .inl (o1, 16, .inl mO)), (m2, .inl (o2, 16, .inl mG)), (m3, .inl (o3, 16, .inl mF)), (m4, .inl (o4, 32, .inl mA)), (m5, .inl (o5, 32, .inl mU)), (m6, .inl (o6, 32, .inl (prF h mR (sq (fun i9 => cq (prL h mG od i9) cn9) cn9))))]) [0, 1, 2, 3, 4, 5, 6, 7] (by decide) rfl
    subst hAe
    refine xv_top (x' := nI (sq (fun i9 => cq (prO h mG od i9) cn9) cn9)) (by rw [show i = cn9 by omega]) ?_
    exact W.iret (v := nI (sq (fun i9 => cq (prO h mG od i9) cn9) cn9)) hx hb hr (fun t ht hW => ⟨⟨_, (), rfl, rfl, by rw [ht]; exact hP9, va_K.moved hW.alike hK, hD9⟩, hS.F ht⟩) hS.2.2 d_M_pairs_93
  · have hc9 : ¬ (cn9 ≤ i) := fun q9 => hc9 ((nI_leI (by omega) (by omega)).mpr q9)
    refine lv_iconst (v := nI 0) hx hb d_M_pairs_12 (by decide) ?_
    refine lv_istore hx hb d_M_pairs_13 hl (by decide) rfl (fun ls hl => ?_)
    have hl : lv_has ls 6 [(4, .int (nI 0)), (3, .int (nI i)), (2, .int (nI (sq (fun i9 => cq (prO h mG od i9) cn9) i))), (0, .ref mo), (1, .int (nI 1))] := hl
    have hz : (prF h mR (sq (fun i9 => cq (prL h mG od i9) cn9) i)) = (prF h mR (sq (fun i9 => cq (prL h mG od i9) cn9) i + cq (prL h mG od i) 0)) := rfl
    rw [hz] at hP hD
    refine xl_w (fun (j : Nat) ls H locs => ((j ≤ cn9)) ∧ lv_has ls 6 [(4, .int (nI j)), (3, .int (nI i)), (2, .int (nI (sq (fun i9 => cq (prO h mG od i9) cn9) i + cq (prO h mG od i) j))), (0, .ref mo), (1, .int (nI 1))] ∧ va_P D cls [(mo, .inr (5, [.int mc, .int mn, .ref m0, .int (nI cn9), .ref m1, .ref m2, .ref m3, .ref m4, .ref m5, .ref m6])), (m0, .inl (o0, 16, .inl h)), (m1, .inl (o1, 16, .inl mO)), (m2, .inl (o2, 16, .inl mG)), (m3, .inl (o3, 16, .inl mF)), (m4, .inl (o4, 32, .inl mA)), (m5, .inl (o5, 32, .inl mU)), (m6, .inl (o6, 32, .inl (prF h mR (sq (fun i9 => cq (prL h mG od i9) cn9) i + cq (prL h mG od i) j))))] H ∧ va_D A [(mo, .inr (5, [.int mc, .int mn, .ref m0, .int (nI cn9), .ref m1, .ref m2, .ref m3, .ref m4, .ref m5, .ref m6])), (m0, .inl (o0, 16, .inl h)), (m1, .inl (o1, 16, .inl mO)), (m2, .inl (o2, 16, .inl mG)), (m3, .inl (o3, 16, .inl mF)), (m4, .inl (o4, 32, .inl mA)), (m5, .inl (o5, 32, .inl mU)), (m6, .inl (o6, 32, .inl (prF h mR (sq (fun i9 => cq (prL h mG od i9) cn9) i + cq (prL h mG od i) j))))] ∧ va_S A s.heap H locs) (fun j => cn9 - j) (fun j ls H locs hI ih15 => ?_) 0 _ ⟨Nat.zero_le _, hl, hP, hD, hS⟩
    obtain ⟨hI, hl, hP, hD, hS⟩ := hI
    have hj := hI
    refine lv_iload hx hb d_M_pairs_15 (lv_at hl 0 rfl) ?_
    refine lv_aload_n hx hb d_M_pairs_17 rfl (lv_at hl 3 rfl) ?_
    refine va_get (D := D) (ci := 5) (v := .int (nI cn9)) (C := R_M) (T := F_M) (N := 10) hx hb hB in_M hown hK hP 0 rfl rfl 3 (by decide) (hB _ mf_M_58) (fun _ h9 => h9) rfl d_M_pairs_18 ?_
    refine lv_icmp_ge (tgt := 86) hx hb d_M_pairs_21 rfl (fun hc21 => ?_) (fun hc21 => ?_)
    · have hc21 : cn9 ≤ j := (nI_leI (by omega) (by omega)).mp hc21
      have hl : lv_has ls 6 [(4, .int (nI j)), (3, .int (nI i)), (2, .int (nI (sq (fun i9 => cq (prO h mG od i9) cn9) (i + 1)))), (0, .ref mo), (1, .int (nI 1))] := by
        have hz : (nI (sq (fun i9 => cq (prO h mG od i9) cn9) i + cq (prO h mG od i) j)) = nI (sq (fun i9 => cq (prO h mG od i9) cn9) (i + 1)) := by rw [show j = cn9 by omega]; rfl
        rw [← hz]; exact hl
      have hz : (prF h mR (sq (fun i9 => cq (prL h mG od i9) cn9) i + cq (prL h mG od i) j)) = (prF h mR (sq (fun i9 => cq (prL h mG od i9) cn9) (i + 1))) := by rw [show j = cn9 by omega]; rfl
      rw [hz] at hP hD
      refine lv_iinc hx hb d_M_pairs_86 hl (k := 1) rfl (v := nI (i + 1)) (nI_1 i) (by decide) rfl (fun ls hl => ?_)
      have hl : lv_has ls 6 [(3, .int (nI (i + 1))), (4, .int (nI j)), (2, .int (nI (sq (fun i9 => cq (prO h mG od i9) cn9) (i + 1)))), (0, .ref mo), (1, .int (nI 1))] := hl
      refine lv_goto (tgt := 4) hx hb d_M_pairs_89 rfl ?_
      exact ih4 (i + 1) _ H locs ⟨by omega, lv_sub hl [0, 2, 3, 4] rfl, hP, hD, hS⟩ (by omega)
    · have hc21 : ¬ (cn9 ≤ j) := fun q9 => hc21 ((nI_leI (by omega) (by omega)).mpr q9)
      have ho1 := hod i (by omega)
      have ho2 := hod j (by omega)
      have ho3 := ho1.2
      have ho4 := ho2.2
      refine lv_aload_n hx hb d_M_pairs_24 rfl (lv_at hl 3 rfl) ?_
      refine lv_aload_n hx hb d_M_pairs_25 rfl (lv_at hl 3 rfl) ?_
      refine va_get (D := D) (ci := 5) (v := .ref m1) (C := R_M) (T := F_M) (N := 10) hx hb hB in_M hown hK hP 0 rfl rfl 4 (by decide) (hB _ mf_M_13) (fun _ h9 => h9) rfl d_M_pairs_26 ?_
      refine lv_iload_n hx hb d_M_pairs_29 rfl (lv_at hl 1 rfl) ?_
      refine xa_ld (u := i) hx hb hK hP 2 1 rfl rfl (by omega) (by decide) d_M_pairs_30 ?_
      refine xv_top (x' := nI (od i)) (ho1.1) ?_
      refine lv_aload_n hx hb d_M_pairs_31 rfl (lv_at hl 3 rfl) ?_
      refine va_get (D := D) (ci := 5) (v := .ref m1) (C := R_M) (T := F_M) (N := 10) hx hb hB in_M hown hK hP 0 rfl rfl 4 (by decide) (hB _ mf_M_13) (fun _ h9 => h9) rfl d_M_pairs_32 ?_
      refine lv_iload hx hb d_M_pairs_35 (lv_at hl 0 rfl) ?_
      refine xa_ld (u := j) hx hb hK hP 2 1 rfl rfl (by omega) (by decide) d_M_pairs_37 ?_
      refine xv_top (x' := nI (od j)) (ho2.1) ?_
      refine xr_cal (va_runV (As := [.int (nI (od i)), .int (nI (od j))]) (rest := []) ⟨hx, hb, hml, hown, hB⟩ (k_M_leads l D mo m0 m1 m2 m3 m4 m5 m6 o0 o1 o2 o3 o4 o5 o6 mc mn (nI cn9) h mO mG mF mA mU (prF h mR (sq (fun i9 => cq (prL h mG od i9) cn9) i + cq (prL h mG od i) j)) (od i) (od j) (by omega) (by omega)) ⟨callB_of 2 hB (xg0 mc_M_leads) rfl rfl rfl (hB _ mz_M) (hB _ ml_M_93) (by decide +kernel) ⟨Nat.le_of_ble_eq_true rfl, Nat.le_of_ble_eq_true rfl⟩, hB _ mi_M_leads, hB _ me_M_leads⟩ (xpV (ws := [(mo, .inr (5, [.int mc, .int mn, .ref m0, .int (nI cn9), .ref m1, .ref m2, .ref m3, .ref m4, .ref m5, .ref m6])), (m0, .inl (o0, 16, .inl h)), (m1, .inl (o1, 16, .inl mO)), (m2, .inl (o2, 16, .inl mG)), (m3, .inl (o3, 16, .inl mF)), (m4, .inl (o4, 32, .inl mA)), (m5, .inl (o5, 32, .inl mU)), (m6, .inl (o6, 32, .inl (prF h mR (sq (fun i9 => cq (prL h mG od i9) cn9) i + cq (prL h mG od i) j))))]) (tys := [(o0, .int), (o1, .int), (o2, .int), (o3, .int), (o4, .int), (o5, .int), (o6, .int)]) (hP.sub [0, 1, 2, 3, 4, 5, 6, 7] rfl) (hK.sub [0, 1, 2, 3, 4, 5, 6] rfl) hN (va_recv (ci := 5) (q0 := 0) (q := (R_M, F_M, 10)) hK hP rfl rfl)) rfl rfl hl.1 rfl (lv_room (Nat.le_of_ble_eq_true rfl)) d_M_pairs_38 ⟨Nat.le_of_ble_eq_true rfl, Nat.le_of_ble_eq_true rfl⟩) ?_
      refine lv_istore hx hb d_M_pairs_41 hl (by decide) rfl (fun ls hl => ?_)
      have hl : lv_has ls 6 [(5, .int (b2i (!(decide ((od i) = (od j))) && !(decide (un h (mG (od i)) 16 &&& mG (od j) = 0))))), (4, .int (nI j)), (3, .int (nI i)), (2, .int (nI (sq (fun i9 => cq (prO h mG od i9) cn9) i + cq (prO h mG od i) j))), (0, .ref mo), (1, .int (nI 1))] := hl
      refine lv_iload_n hx hb d_M_pairs_43 rfl (lv_at hl 3 rfl) ?_
      refine lv_iload hx hb d_M_pairs_44 (lv_at hl 0 rfl) ?_
      refine lv_if_eq (tgt := 77) hx hb d_M_pairs_46 rfl (fun hc46 => ?_) (fun hc46 => ?_)
      · have hc46 := b2i_0.mp hc46
        refine lv_iconst (v := nI 0) hx hb d_M_pairs_77 (by decide) ?_
        refine lv_iadd hx hb d_M_pairs_78 ?_
        refine lv_istore_n hx hb d_M_pairs_79 rfl hl (by decide) rfl (fun ls hl => ?_)
        have hl : lv_has ls 6 [(2, .int ((nI (sq (fun i9 => cq (prO h mG od i9) cn9) i + cq (prO h mG od i) j)) + (nI 0))), (5, .int (b2i (!(decide ((od i) = (od j))) && !(decide (un h (mG (od i)) 16 &&& mG (od j) = 0))))), (4, .int (nI j)), (3, .int (nI i)), (0, .ref mo), (1, .int (nI 1))] := hl
        have hl : lv_has ls 6 [(2, .int (nI (sq (fun i9 => cq (prO h mG od i9) cn9) i + cq (prO h mG od i) (j + 1)))), (5, .int (b2i (!(decide ((od i) = (od j))) && !(decide (un h (mG (od i)) 16 &&& mG (od j) = 0))))), (4, .int (nI j)), (3, .int (nI i)), (0, .ref mo), (1, .int (nI 1))] := by
          have hz : ((nI (sq (fun i9 => cq (prO h mG od i9) cn9) i + cq (prO h mG od i) j)) + (nI 0)) = nI (sq (fun i9 => cq (prO h mG od i9) cn9) i + cq (prO h mG od i) (j + 1)) := by rw [cq_f (p := prO h mG od i) (k := j) (by first | exact prO_f1 hc46 | exact prO_f2 hc70), nI_add]; rfl
          rw [← hz]; exact hl
        have hz : (prF h mR (sq (fun i9 => cq (prL h mG od i9) cn9) i + cq (prL h mG od i) j)) = (prF h mR (sq (fun i9 => cq (prL h mG od i9) cn9) i + cq (prL h mG od i) (j + 1))) := by rw [cq_f (p := prL h mG od i) (k := j) hc46]
        rw [hz] at hP hD
        refine lv_iinc hx hb d_M_pairs_80 hl (k := 2) rfl (v := nI (j + 1)) (nI_1 j) (by decide) rfl (fun ls hl => ?_)
        have hl : lv_has ls 6 [(4, .int (nI (j + 1))), (2, .int (nI (sq (fun i9 => cq (prO h mG od i9) cn9) i + cq (prO h mG od i) (j + 1)))), (5, .int (b2i (!(decide ((od i) = (od j))) && !(decide (un h (mG (od i)) 16 &&& mG (od j) = 0))))), (3, .int (nI i)), (0, .ref mo), (1, .int (nI 1))] := hl
        refine lv_goto (tgt := 15) hx hb d_M_pairs_83 rfl ?_
        exact ih15 (j + 1) _ H locs ⟨by omega, lv_sub hl [0, 3, 1, 4, 5] rfl, hP, hD, hS⟩ (by omega)
      · have hc46 := b2i_n.mp hc46
        refine lv_iload_n hx hb d_M_pairs_49 rfl (lv_at hl 5 rfl) ?_
        refine lv_if_eq (tgt := 73) hx hb d_M_pairs_50 rfl (fun hc50 => absurd hc50 (by decide)) (fun _ => ?_)
        refine lv_aload_n hx hb d_M_pairs_53 rfl (lv_at hl 4 rfl) ?_
        refine lv_aload_n hx hb d_M_pairs_54 rfl (lv_at hl 4 rfl) ?_
        refine va_get (D := D) (ci := 5) (v := .ref m1) (C := R_M) (T := F_M) (N := 10) hx hb hB in_M hown hK hP 0 rfl rfl 4 (by decide) (hB _ mf_M_13) (fun _ h9 => h9) rfl d_M_pairs_55 ?_
        refine lv_iload_n hx hb d_M_pairs_58 rfl (lv_at hl 2 rfl) ?_
        refine xa_ld (u := i) hx hb hK hP 2 1 rfl rfl (by omega) (by decide) d_M_pairs_59 ?_
        refine xv_top (x' := nI (od i)) (ho1.1) ?_
        refine lv_aload_n hx hb d_M_pairs_60 rfl (lv_at hl 4 rfl) ?_
        refine va_get (D := D) (ci := 5) (v := .ref m1) (C := R_M) (T := F_M) (N := 10) hx hb hB in_M hown hK hP 0 rfl rfl 4 (by decide) (hB _ mf_M_13) (fun _ h9 => h9) rfl d_M_pairs_61 ?_
        refine lv_iload hx hb d_M_pairs_64 (lv_at hl 1 rfl) ?_
        refine xa_ld (u := j) hx hb hK hP 2 1 rfl rfl (by omega) (by decide) d_M_pairs_66 ?_
        refine xv_top (x' := nI (od j)) (ho2.1) ?_
        refine xw_i (wc := [(mo, .inr (5, [.int mc, .int mn, .ref m0, .int (nI cn9), .ref m1, .ref m2, .ref m3, .ref m4, .ref m5, .ref m6])), (m0, .inl (o0, 16, .inl h)), (m1, .inl (o1, 16, .inl mO)), (m2, .inl (o2, 16, .inl mG)), (m3, .inl (o3, 16, .inl mF)), (m4, .inl (o4, 32, .inl mA)), (m5, .inl (o5, 32, .inl mU)), (m6, .inl (o6, 32, .inl (prF h mR (sq (fun i9 => cq (prL h mG od i9) cn9) i + cq (prL h mG od i) j))))]) (wr := []) (w1 := [(mo, .inr (5, [.int mc, .int mn, .ref m0, .int (nI cn9), .ref m1, .ref m2, .ref m3, .ref m4, .ref m5, .ref m6])), (m0, .inl (o0, 16, .inl h)), (m1, .inl (o1, 16, .inl mO)), (m2, .inl (o2, 16, .inl mG)), (m3, .inl (o3, 16, .inl mF)), (m4, .inl (o4, 32, .inl mA)), (m5, .inl (o5, 32, .inl mU)), (m6, .inl (o6, 32, .inl (fun k => if k < 16 then h k else (prF h mR (sq (fun i9 => cq (prL h mG od i9) cn9) i + cq (prL h mG od i) j)) k)))]) (va_runV (As := [.int (nI (od i)), .int (nI (od j))]) (rest := [.int (nI (sq (fun i9 => cq (prO h mG od i9) cn9) i + cq (prO h mG od i) j))]) ⟨hx, hb, hml, hown, hB⟩ (k_M_otherwise l D mo m0 m1 m2 m3 m4 m5 m6 o0 o1 o2 o3 o4 o5 o6 mc mn (nI cn9) h mO mG mF mA mU (prF h mR (sq (fun i9 => cq (prL h mG od i9) cn9) i + cq (prL h mG od i) j)) hg (od i) (od j) (by omega) (by omega) (hm9 (od i) ho1.2) _) ⟨callB_of 2 hB (xg0 mc_M_otherwise) rfl rfl rfl (hB _ mz_M) (hB _ ml_M_96) (by decide +kernel) ⟨Nat.le_of_ble_eq_true rfl, Nat.le_of_ble_eq_true rfl⟩, hB _ mi_M_otherwise, hB _ me_M_otherwise⟩ (xqV (ws := [(mo, .inr (5, [.int mc, .int mn, .ref m0, .int (nI cn9), .ref m1, .ref m2, .ref m3, .ref m4, .ref m5, .ref m6])), (m0, .inl (o0, 16, .inl h)), (m1, .inl (o1, 16, .inl mO)), (m2, .inl (o2, 16, .inl mG)), (m3, .inl (o3, 16, .inl mF)), (m4, .inl (o4, 32, .inl mA)), (m5, .inl (o5, 32, .inl mU)), (m6, .inl (o6, 32, .inl (prF h mR (sq (fun i9 => cq (prL h mG od i9) cn9) i + cq (prL h mG od i) j))))]) (tys := [(o0, .int), (o1, .int), (o2, .int), (o3, .int), (o4, .int), (o5, .int), (o6, .int)]) (hP.sub [0, 1, 2, 3, 4, 5, 6, 7] rfl) (hD.sub [0, 1, 2, 3, 4, 5, 6, 7] (by decide) rfl) (hK.sub [0, 1, 2, 3, 4, 5, 6] rfl) hN (va_recv (ci := 5) (q0 := 0) (q := (R_M, F_M, 10)) hK hP rfl rfl)) rfl rfl hl.1 rfl (lv_room (Nat.le_of_ble_eq_true rfl)) d_M_pairs_67 ⟨Nat.le_of_ble_eq_true rfl, Nat.le_of_ble_eq_true rfl⟩) hP hD hS hA [0, 1, 2, 3, 4, 5, 6, 7] [] rfl rfl (by decide) (by decide) (fun H locs hP hD hS => ?_)
        have hP : va_P D cls [(mo, .inr (5, [.int mc, .int mn, .ref m0, .int (nI cn9), .ref m1, .ref m2, .ref m3, .ref m4, .ref m5, .ref m6])), (m0, .inl (o0, 16, .inl h)), (m1, .inl (o1, 16, .inl mO)), (m2, .inl (o2, 16, .inl mG)), (m3, .inl (o3, 16, .inl mF)), (m4, .inl (o4, 32, .inl mA)), (m5, .inl (o5, 32, .inl mU)), (m6, .inl (o6, 32, .inl (fun k => if k < 16 then h k else (prF h mR (sq (fun i9 => cq (prL h mG od i9) cn9) i + cq (prL h mG od i) j)) k)))] H := hP
        have hD : va_D A [(mo, .inr (5, [.int mc, .int mn, .ref m0, .int (nI cn9), .ref m1, .ref m2, .ref m3, .ref m4, .ref m5, .ref m6])), (m0, .inl (o0, 16, .inl h)), (m1, .inl (o1, 16, .inl mO)), (m2, .inl (o2, 16, .inl mG)), (m3, .inl (o3, 16, .inl mF)), (m4, .inl (o4, 32, .inl mA)), (m5, .inl (o5, 32, .inl mU)), (m6, .inl (o6, 32, .inl (fun k => if k < 16 then h k else (prF h mR (sq (fun i9 => cq (prL h mG od i9) cn9) i + cq (prL h mG od i) j)) k)))] := hD
        refine lv_if_ne (tgt := 77) hx hb d_M_pairs_70 rfl (fun hc70 => ?_) (fun hc70 => ?_)
        · have hc70 := b2i_n.mp hc70
          refine lv_iconst (v := nI 0) hx hb d_M_pairs_77 (by decide) ?_
          refine lv_iadd hx hb d_M_pairs_78 ?_
          refine lv_istore_n hx hb d_M_pairs_79 rfl hl (by decide) rfl (fun ls hl => ?_)
          have hl : lv_has ls 6 [(2, .int ((nI (sq (fun i9 => cq (prO h mG od i9) cn9) i + cq (prO h mG od i) j)) + (nI 0))), (5, .int (b2i (!(decide ((od i) = (od j))) && !(decide (un h (mG (od i)) 16 &&& mG (od j) = 0))))), (4, .int (nI j)), (3, .int (nI i)), (0, .ref mo), (1, .int (nI 1))] := hl
          have hl : lv_has ls 6 [(2, .int (nI (sq (fun i9 => cq (prO h mG od i9) cn9) i + cq (prO h mG od i) (j + 1)))), (5, .int (b2i (!(decide ((od i) = (od j))) && !(decide (un h (mG (od i)) 16 &&& mG (od j) = 0))))), (4, .int (nI j)), (3, .int (nI i)), (0, .ref mo), (1, .int (nI 1))] := by
            have hz : ((nI (sq (fun i9 => cq (prO h mG od i9) cn9) i + cq (prO h mG od i) j)) + (nI 0)) = nI (sq (fun i9 => cq (prO h mG od i9) cn9) i + cq (prO h mG od i) (j + 1)) := by rw [cq_f (p := prO h mG od i) (k := j) (by first | exact prO_f1 hc46 | exact prO_f2 hc70), nI_add]; rfl
            rw [← hz]; exact hl
          have hz : (fun k => if k < 16 then h k else (prF h mR (sq (fun i9 => cq (prL h mG od i9) cn9) i + cq (prL h mG od i) j)) k) = (prF h mR (sq (fun i9 => cq (prL h mG od i9) cn9) i + cq (prL h mG od i) (j + 1))) := by rw [cq_t (p := prL h mG od i) (k := j) hc46]; exact prF_s _ _ _
          rw [hz] at hP hD
          refine lv_iinc hx hb d_M_pairs_80 hl (k := 2) rfl (v := nI (j + 1)) (nI_1 j) (by decide) rfl (fun ls hl => ?_)
          have hl : lv_has ls 6 [(4, .int (nI (j + 1))), (2, .int (nI (sq (fun i9 => cq (prO h mG od i9) cn9) i + cq (prO h mG od i) (j + 1)))), (5, .int (b2i (!(decide ((od i) = (od j))) && !(decide (un h (mG (od i)) 16 &&& mG (od j) = 0))))), (3, .int (nI i)), (0, .ref mo), (1, .int (nI 1))] := hl
          refine lv_goto (tgt := 15) hx hb d_M_pairs_83 rfl ?_
          exact ih15 (j + 1) _ H locs ⟨by omega, lv_sub hl [0, 3, 1, 4, 5] rfl, hP, hD, hS⟩ (by omega)
        · have hc70 := b2i_0.mp hc70
          refine lv_iconst (v := nI 1) hx hb d_M_pairs_73 (by decide) ?_
          refine lv_goto (tgt := 78) hx hb d_M_pairs_74 rfl ?_
          refine lv_iadd hx hb d_M_pairs_78 ?_
          refine lv_istore_n hx hb d_M_pairs_79 rfl hl (by decide) rfl (fun ls hl => ?_)
          have hl : lv_has ls 6 [(2, .int ((nI (sq (fun i9 => cq (prO h mG od i9) cn9) i + cq (prO h mG od i) j)) + (nI 1))), (5, .int (b2i (!(decide ((od i) = (od j))) && !(decide (un h (mG (od i)) 16 &&& mG (od j) = 0))))), (4, .int (nI j)), (3, .int (nI i)), (0, .ref mo), (1, .int (nI 1))] := hl
          have hl : lv_has ls 6 [(2, .int (nI (sq (fun i9 => cq (prO h mG od i9) cn9) i + cq (prO h mG od i) (j + 1)))), (5, .int (b2i (!(decide ((od i) = (od j))) && !(decide (un h (mG (od i)) 16 &&& mG (od j) = 0))))), (4, .int (nI j)), (3, .int (nI i)), (0, .ref mo), (1, .int (nI 1))] := by
            have hz : ((nI (sq (fun i9 => cq (prO h mG od i9) cn9) i + cq (prO h mG od i) j)) + (nI 1)) = nI (sq (fun i9 => cq (prO h mG od i9) cn9) i + cq (prO h mG od i) (j + 1)) := by rw [cq_t (p := prO h mG od i) (k := j) (prO_t hc46 hc70)]; exact nI_add _ 1
            rw [← hz]; exact hl
          have hz : (fun k => if k < 16 then h k else (prF h mR (sq (fun i9 => cq (prL h mG od i9) cn9) i + cq (prL h mG od i) j)) k) = (prF h mR (sq (fun i9 => cq (prL h mG od i9) cn9) i + cq (prL h mG od i) (j + 1))) := by rw [cq_t (p := prL h mG od i) (k := j) hc46]; exact prF_s _ _ _
          rw [hz] at hP hD
          refine lv_iinc hx hb d_M_pairs_80 hl (k := 2) rfl (v := nI (j + 1)) (nI_1 j) (by decide) rfl (fun ls hl => ?_)
          have hl : lv_has ls 6 [(4, .int (nI (j + 1))), (2, .int (nI (sq (fun i9 => cq (prO h mG od i9) cn9) i + cq (prO h mG od i) (j + 1)))), (5, .int (b2i (!(decide ((od i) = (od j))) && !(decide (un h (mG (od i)) 16 &&& mG (od j) = 0))))), (3, .int (nI i)), (0, .ref mo), (1, .int (nI 1))] := hl
          refine lv_goto (tgt := 15) hx hb d_M_pairs_83 rfl ?_
          exact ih15 (j + 1) _ H locs ⟨by omega, lv_sub hl [0, 3, 1, 4, 5] rfl, hP, hD, hS⟩ (by omega)
set_option maxHeartbeats 4000000 in
set_option maxRecDepth 100000 in
theorem k_M_figure_0 (l : Launch) (D : va_G) (mo m0 m1 m2 m3 m4 m5 m6 : Nat) (o0 o1 o2 o3 o4 o5 o6 : ClassId) (mc : Int32) (mn : Int32) (mg : Int32) (h : Nat → Int32) (mO : Nat → Int32) (mG : Nat → Int32) (mF : Nat → Int32) (mA : Nat → Int32) (mU : Nat → Int32) (mR : Nat → Int32) (hg : gd h) (sz : Nat) : Met l y_M_figure (Cond.code y_M_figure c_M_figure 2 (some .int) :: BS) { frames := 5, cells := 0, slots := 0, locals := 114 } (va_Pc [.ref mo, .int (nI 0)] (xWp D [(mo, .inr (5, [.int mc, .int mn, .ref m0, .int mg, .ref m1, .ref m2, .ref m3, .ref m4, .ref m5, .ref m6])), (m0, .inl (o0, 16, .inl h)), (m1, .inl (o1, 16, .inl mO)), (m2, .inl (o2, 16, .inl mG)), (m3, .inl (o3, 16, .inl mF)), (m4, .inl (o4, 32, .inl mA)), (m5, .inl (o5, 32, .inl mU)), (m6, .inl (o6, 32, .inl mR))] [(o0, .int), (o1, .int), (o2, .int), (o3, .int), (o4, .int), (o5, .int), (o6, .int)] sz)) (xQi D [(mo, .inr (5, [.int mc, .int mn, .ref m0, .int mg, .ref m1, .ref m2, .ref m3, .ref m4, .ref m5, .ref m6])), (m0, .inl (o0, 16, .inl h)), (m1, .inl (o1, 16, .inl mO)), (m2, .inl (o2, 16, .inl mG)), (m3, .inl (o3, 16, .inl mF)), (m4, .inl (o4, 32, .inl mA)), (m5, .inl (o5, 32, .inl mU)), (m6, .inl (o6, 32, .inl mR))] [(mo, .inr (5, [.int (nI 0), .int mn, .ref m0, .int (nI (ct h)), .ref m1, .ref m2, .ref m3, .ref m4, .ref m5, .ref m6])), (m0, .inl (o0, 16, .inl h)), (m1, .inl (o1, 16, .inl (fun k => if k < ct h then nI (nx h (pl h k)) else mO k))), (m2, .inl (o2, 16, .inl (GR h))), (m3, .inl (o3, 16, .inl mF)), (m4, .inl (o4, 32, .inl mA)), (m5, .inl (o5, 32, .inl mU)), (m6, .inl (o6, 32, .inl mR))] [(o0, .int), (o1, .int), (o2, .int), (o3, .int), (o4, .int), (o5, .int), (o6, .int)] sz (mn)) 0 0 (va_A [(mo, .inr (5, [.int mc, .int mn, .ref m0, .int mg, .ref m1, .ref m2, .ref m3, .ref m4, .ref m5, .ref m6])), (m0, .inl (o0, 16, .inl h)), (m1, .inl (o1, 16, .inl mO)), (m2, .inl (o2, 16, .inl mG)), (m3, .inl (o3, 16, .inl mF)), (m4, .inl (o4, 32, .inl mA)), (m5, .inl (o5, 32, .inl mU)), (m6, .inl (o6, 32, .inl mR))] sz) := by
  refine Met.ofW (cc := c_M_figure) (maxL := 2) (ret := (some .int)) (by decide) rfl ?_
  intro p e s m args below meth c s₁ B hml hv
  obtain ⟨rfl, hsz, hP, hK, hD0, hN⟩ := hv
  have hx := B.exec
  have hb := B.bytes
  have hr := B.returns
  have hB := xB B.pre
  have hown : s.vm.findClass R_M = some m.cls := findClass_of_methodNamed B.named
  have hlocks := B.notSynchronized
  subst hsz
  have hD := hD0.self (sz := s.heap.size)
  obtain ⟨A, hAe⟩ : ∃ A, A = va_A [(mo, .inr (5, [.int mc, .int mn, .ref m0, .int mg, .ref m1, .ref m2, .ref m3, .ref m4, .ref m5, .ref m6])), (m0, .inl (o0, 16, .inl h)), (m1, .inl (o1, 16, .inl mO)), (m2, .inl (o2, 16, .inl mG)), (m3, .inl (o3, 16, .inl mF)), (m4, .inl (o4, 32, .inl mA)), (m5, .inl (o5, 32, .inl mU)), (m6, .inl (o6, 32, .inl mR))] s.heap.size := ⟨_, rfl⟩
  rw [← hAe] at hD
  have hA : ∀ q : Nat, s.heap.size ≤ q → A q := fun q h => by rw [hAe]; exact Or.inr h
  have hS : va_S A s.heap s.heap [] := va_S.rf
  have hl := lv_entry ([.ref mo, .int (nI 0)]) (n := 2) (Nat.le_of_ble_eq_true rfl)
  rw [lg_entry_eq]
  generalize (lg_sl ([.ref mo, .int (nI 0)]) ++ List.replicate (2 - (lg_sl ([.ref mo, .int (nI 0)])).length) Slot.unset).toArray = ls at hl ⊢
  have hl : lv_has ls 2 [(0, .ref mo), (1, .int (nI 0))] := hl
  refine lv_aload_n hx hb d_M_figure_0 rfl (lv_at hl 0 rfl) ?_
  refine lv_iload_n hx hb d_M_figure_1 rfl (lv_at hl 1 rfl) ?_
  refine lv_if_lt (tgt := 10) hx hb d_M_figure_2 rfl (fun hc2 => absurd hc2 (by decide)) (fun _ => ?_)
  refine lv_iload_n hx hb d_M_figure_5 rfl (lv_at hl 1 rfl) ?_
  refine lv_iconst (v := nI 5) hx hb d_M_figure_6 (by decide) ?_
  refine lv_icmp_le (tgt := 14) hx hb d_M_figure_7 rfl (fun _ => ?_) (fun hc7 => absurd hc7 (by decide))
  refine lv_iconst (v := nI 0) hx hb d_M_figure_14 (by decide) ?_
  refine va_put (D := D) (ci := 5) (v := .int (nI 0)) (ty := .int) (C := R_M) (T := F_M) (N := 10) hx hb hB in_M t_M t_M_ok n_M hown hK hP hD hS 0 rfl rfl 0 (by decide) (hB _ mf_M_31) (fun _ h9 => h9) rfl (by decide +kernel) rfl rfl (Nat.le_of_ble_eq_true rfl) d_M_figure_15 (fun H locs hP hD hS => ?_)
  have hP : va_P D cls [(mo, .inr (5, [.int (nI 0), .int mn, .ref m0, .int mg, .ref m1, .ref m2, .ref m3, .ref m4, .ref m5, .ref m6])), (m0, .inl (o0, 16, .inl h)), (m1, .inl (o1, 16, .inl mO)), (m2, .inl (o2, 16, .inl mG)), (m3, .inl (o3, 16, .inl mF)), (m4, .inl (o4, 32, .inl mA)), (m5, .inl (o5, 32, .inl mU)), (m6, .inl (o6, 32, .inl mR))] H := hP
  have hD : va_D A [(mo, .inr (5, [.int (nI 0), .int mn, .ref m0, .int mg, .ref m1, .ref m2, .ref m3, .ref m4, .ref m5, .ref m6])), (m0, .inl (o0, 16, .inl h)), (m1, .inl (o1, 16, .inl mO)), (m2, .inl (o2, 16, .inl mG)), (m3, .inl (o3, 16, .inl mF)), (m4, .inl (o4, 32, .inl mA)), (m5, .inl (o5, 32, .inl mU)), (m6, .inl (o6, 32, .inl mR))] := hD
  refine lv_aload_n hx hb d_M_figure_18 rfl (lv_at hl 0 rfl) ?_
  refine va_get (D := D) (ci := 5) (v := .int (nI 0)) (C := R_M) (T := F_M) (N := 10) hx hb hB in_M hown hK hP 0 rfl rfl 0 (by decide) (hB _ mf_M_31) (fun _ h9 => h9) rfl d_M_figure_19 ?_
  refine lv_if_le (tgt := 27) hx hb d_M_figure_22 rfl (fun _ => ?_) (fun hc22 => absurd hc22 (by decide))
  refine lv_aload_n hx hb d_M_figure_27 rfl (lv_at hl 0 rfl) ?_
  refine xw_v (wc := [(mo, .inr (5, [.int (nI 0), .int mn, .ref m0, .int mg, .ref m1, .ref m2, .ref m3, .ref m4, .ref m5, .ref m6])), (m0, .inl (o0, 16, .inl h)), (m1, .inl (o1, 16, .inl mO)), (m2, .inl (o2, 16, .inl mG)), (m3, .inl (o3, 16, .inl mF)), (m4, .inl (o4, 32, .inl mA)), (m5, .inl (o5, 32, .inl mU)), (m6, .inl (o6, 32, .inl mR))]) (wr := []) (w1 := [(mo, .inr (5, [.int (nI 0), .int mn, .ref m0, .int (nI (ct h)), .ref m1, .ref m2, .ref m3, .ref m4, .ref m5, .ref m6])), (m0, .inl (o0, 16, .inl h)), (m1, .inl (o1, 16, .inl (fun k => if k < ct h then nI (nx h (pl h k)) else mO k))), (m2, .inl (o2, 16, .inl (GR h))), (m3, .inl (o3, 16, .inl mF)), (m4, .inl (o4, 32, .inl mA)), (m5, .inl (o5, 32, .inl mU)), (m6, .inl (o6, 32, .inl mR))]) (va_runV (As := []) (rest := []) ⟨hx, hb, hml, hown, hB⟩ (k_M_findOrder l D mo m0 m1 m2 m3 m4 m5 m6 o0 o1 o2 o3 o4 o5 o6 (nI 0) mn mg h mO mG mF mA mU mR hg _) ⟨callB_of 0 hB (xg0 mc_M_findOrder) rfl rfl rfl (hB _ mz_M) (hB _ ml_M_73) (by decide +kernel) ⟨Nat.le_of_ble_eq_true rfl, Nat.le_of_ble_eq_true rfl⟩, hB _ mi_M_findOrder, hB _ me_M_findOrder⟩ (xqV (ws := [(mo, .inr (5, [.int (nI 0), .int mn, .ref m0, .int mg, .ref m1, .ref m2, .ref m3, .ref m4, .ref m5, .ref m6])), (m0, .inl (o0, 16, .inl h)), (m1, .inl (o1, 16, .inl mO)), (m2, .inl (o2, 16, .inl mG)), (m3, .inl (o3, 16, .inl mF)), (m4, .inl (o4, 32, .inl mA)), (m5, .inl (o5, 32, .inl mU)), (m6, .inl (o6, 32, .inl mR))]) (tys := [(o0, .int), (o1, .int), (o2, .int), (o3, .int), (o4, .int), (o5, .int), (o6, .int)]) (hP.sub [0, 1, 2, 3, 4, 5, 6, 7] rfl) (hD.sub [0, 1, 2, 3, 4, 5, 6, 7] (by decide) rfl) (hK.sub [0, 1, 2, 3, 4, 5, 6] rfl) hN (va_recv (ci := 5) (q0 := 0) (q := (R_M, F_M, 10)) hK hP rfl rfl)) rfl rfl hl.1 rfl (lv_room (Nat.le_of_ble_eq_true rfl)) d_M_figure_28 ⟨Nat.le_of_ble_eq_true rfl, Nat.le_of_ble_eq_true rfl⟩) hP hD hS hA [0, 1, 2, 3, 4, 5, 6, 7] [] rfl rfl (by decide) (by decide) (fun H locs hP hD hS => ?_)
  have hP : va_P D cls [(mo, .inr (5, [.int (nI 0), .int mn, .ref m0, .int (nI (ct h)), .ref m1, .ref m2, .ref m3, .ref m4, .ref m5, .ref m6])), (m0, .inl (o0, 16, .inl h)), (m1, .inl (o1, 16, .inl (fun k => if k < ct h then nI (nx h (pl h k)) else mO k))), (m2, .inl (o2, 16, .inl (GR h))), (m3, .inl (o3, 16, .inl mF)), (m4, .inl (o4, 32, .inl mA)), (m5, .inl (o5, 32, .inl mU)), (m6, .inl (o6, 32, .inl mR))] H := hP
  have hD : va_D A [(mo, .inr (5, [.int (nI 0), .int mn, .ref m0, .int (nI (ct h)), .ref m1, .ref m2, .ref m3, .ref m4, .ref m5, .ref m6])), (m0, .inl (o0, 16, .inl h)), (m1, .inl (o1, 16, .inl (fun k => if k < ct h then nI (nx h (pl h k)) else mO k))), (m2, .inl (o2, 16, .inl (GR h))), (m3, .inl (o3, 16, .inl mF)), (m4, .inl (o4, 32, .inl mA)), (m5, .inl (o5, 32, .inl mU)), (m6, .inl (o6, 32, .inl mR))] := hD
  refine lv_iload_n hx hb d_M_figure_31 rfl (lv_at hl 1 rfl) ?_
  refine lv_tableIn (tgt := 68) (off := 36) hx hb d_M_figure_32 (by decide) (by decide) (by decide) (by decide) ?_
  refine lv_aload_n hx hb d_M_figure_68 rfl (lv_at hl 0 rfl) ?_
  refine va_get (D := D) (ci := 5) (v := .int mn) (C := R_M) (T := F_M) (N := 10) hx hb hB in_M hown hK hP 0 rfl rfl 1 (by decide) (hB _ mf_M_48) (fun _ h9 => h9) rfl d_M_figure_69 ?_
  have hP9 := hP.sub (ws' := [(mo, .inr (5, [.int (nI 0), .int mn, .ref m0, .int (nI (ct h)), .ref m1, .ref m2, .ref m3, .ref m4, .ref m5, .ref m6])), (m0, .inl (o0, 16, .inl h)), (m1, .inl (o1, 16, .inl (fun k => if k < ct h then nI (nx h (pl h k)) else mO k))), (m2, .inl (o2, 16, .inl (GR h))), (m3, .inl (o3, 16, .inl mF)), (m4, .inl (o4, 32, .inl mA)), (m5, .inl (o5, 32, .inl mU)), (m6, .inl (o6, 32, .inl mR))]) [0, 1, 2, 3, 4, 5, 6, 7] rfl
  have hD9 := hD.sub (ws' := [(mo, .inr (5, [.int (nI 0), .int mn, .ref m0, .int (nI (ct h)), .ref m1, .ref m2, .ref m3, .ref m4, .ref m5, .ref m6])), (m0, .inl (o0, 16, .inl h)), (m1, .inl (o1, 16, .inl (fun k => if k < ct h then nI (nx h (pl h k)) else mO k))), (m2, .inl (o2, 16, .inl (GR h))), (m3, .inl (o3, 16, .inl mF)), (m4, .inl (o4, 32, .inl mA)), (m5, .inl (o5, 32, .inl mU)), (m6, .inl (o6, 32, .inl mR))]) [0, 1, 2, 3, 4, 5, 6, 7] (by decide) rfl
  subst hAe
  exact W.iret (v := mn) hx hb hr (fun t ht hW => ⟨⟨_, (), rfl, rfl, by rw [ht]; exact hP9, va_K.moved hW.alike hK, hD9⟩, hS.F ht⟩) hS.2.2 d_M_figure_72
set_option maxHeartbeats 4000000 in
set_option maxRecDepth 100000 in
theorem k_M_figure_1 (l : Launch) (D : va_G) (mo m0 m1 m2 m3 m4 m5 m6 : Nat) (o0 o1 o2 o3 o4 o5 o6 : ClassId) (mc : Int32) (mn : Int32) (mg : Int32) (h : Nat → Int32) (mO : Nat → Int32) (mG : Nat → Int32) (mF : Nat → Int32) (mA : Nat → Int32) (mU : Nat → Int32) (mR : Nat → Int32) (hg : gd h) (sz : Nat) : Met l y_M_figure (Cond.code y_M_figure c_M_figure 2 (some .int) :: BS) { frames := 5, cells := 0, slots := 0, locals := 114 } (va_Pc [.ref mo, .int (nI 1)] (xWp D [(mo, .inr (5, [.int mc, .int mn, .ref m0, .int mg, .ref m1, .ref m2, .ref m3, .ref m4, .ref m5, .ref m6])), (m0, .inl (o0, 16, .inl h)), (m1, .inl (o1, 16, .inl mO)), (m2, .inl (o2, 16, .inl mG)), (m3, .inl (o3, 16, .inl mF)), (m4, .inl (o4, 32, .inl mA)), (m5, .inl (o5, 32, .inl mU)), (m6, .inl (o6, 32, .inl mR))] [(o0, .int), (o1, .int), (o2, .int), (o3, .int), (o4, .int), (o5, .int), (o6, .int)] sz)) (xQi D [(mo, .inr (5, [.int mc, .int mn, .ref m0, .int mg, .ref m1, .ref m2, .ref m3, .ref m4, .ref m5, .ref m6])), (m0, .inl (o0, 16, .inl h)), (m1, .inl (o1, 16, .inl mO)), (m2, .inl (o2, 16, .inl mG)), (m3, .inl (o3, 16, .inl mF)), (m4, .inl (o4, 32, .inl mA)), (m5, .inl (o5, 32, .inl mU)), (m6, .inl (o6, 32, .inl mR))] [(mo, .inr (5, [.int (nI 0), .int mn, .ref m0, .int (nI (ct h)), .ref m1, .ref m2, .ref m3, .ref m4, .ref m5, .ref m6])), (m0, .inl (o0, 16, .inl h)), (m1, .inl (o1, 16, .inl (fun k => if k < ct h then nI (nx h (pl h k)) else mO k))), (m2, .inl (o2, 16, .inl (GR h))), (m3, .inl (o3, 16, .inl mF)), (m4, .inl (o4, 32, .inl mA)), (m5, .inl (o5, 32, .inl mU)), (m6, .inl (o6, 32, .inl mR))] [(o0, .int), (o1, .int), (o2, .int), (o3, .int), (o4, .int), (o5, .int), (o6, .int)] sz (nI (ct h))) 0 0 (va_A [(mo, .inr (5, [.int mc, .int mn, .ref m0, .int mg, .ref m1, .ref m2, .ref m3, .ref m4, .ref m5, .ref m6])), (m0, .inl (o0, 16, .inl h)), (m1, .inl (o1, 16, .inl mO)), (m2, .inl (o2, 16, .inl mG)), (m3, .inl (o3, 16, .inl mF)), (m4, .inl (o4, 32, .inl mA)), (m5, .inl (o5, 32, .inl mU)), (m6, .inl (o6, 32, .inl mR))] sz) := by
  refine Met.ofW (cc := c_M_figure) (maxL := 2) (ret := (some .int)) (by decide) rfl ?_
  intro p e s m args below meth c s₁ B hml hv
  obtain ⟨rfl, hsz, hP, hK, hD0, hN⟩ := hv
  have hx := B.exec
  have hb := B.bytes
  have hr := B.returns
  have hB := xB B.pre
  have hown : s.vm.findClass R_M = some m.cls := findClass_of_methodNamed B.named
  have hlocks := B.notSynchronized
  subst hsz
  have hD := hD0.self (sz := s.heap.size)
  obtain ⟨A, hAe⟩ : ∃ A, A = va_A [(mo, .inr (5, [.int mc, .int mn, .ref m0, .int mg, .ref m1, .ref m2, .ref m3, .ref m4, .ref m5, .ref m6])), (m0, .inl (o0, 16, .inl h)), (m1, .inl (o1, 16, .inl mO)), (m2, .inl (o2, 16, .inl mG)), (m3, .inl (o3, 16, .inl mF)), (m4, .inl (o4, 32, .inl mA)), (m5, .inl (o5, 32, .inl mU)), (m6, .inl (o6, 32, .inl mR))] s.heap.size := ⟨_, rfl⟩
  rw [← hAe] at hD
  have hA : ∀ q : Nat, s.heap.size ≤ q → A q := fun q h => by rw [hAe]; exact Or.inr h
  have hS : va_S A s.heap s.heap [] := va_S.rf
  have hl := lv_entry ([.ref mo, .int (nI 1)]) (n := 2) (Nat.le_of_ble_eq_true rfl)
  rw [lg_entry_eq]
  generalize (lg_sl ([.ref mo, .int (nI 1)]) ++ List.replicate (2 - (lg_sl ([.ref mo, .int (nI 1)])).length) Slot.unset).toArray = ls at hl ⊢
  have hl : lv_has ls 2 [(0, .ref mo), (1, .int (nI 1))] := hl
  refine lv_aload_n hx hb d_M_figure_0 rfl (lv_at hl 0 rfl) ?_
  refine lv_iload_n hx hb d_M_figure_1 rfl (lv_at hl 1 rfl) ?_
  refine lv_if_lt (tgt := 10) hx hb d_M_figure_2 rfl (fun hc2 => absurd hc2 (by decide)) (fun _ => ?_)
  refine lv_iload_n hx hb d_M_figure_5 rfl (lv_at hl 1 rfl) ?_
  refine lv_iconst (v := nI 5) hx hb d_M_figure_6 (by decide) ?_
  refine lv_icmp_le (tgt := 14) hx hb d_M_figure_7 rfl (fun _ => ?_) (fun hc7 => absurd hc7 (by decide))
  refine lv_iconst (v := nI 0) hx hb d_M_figure_14 (by decide) ?_
  refine va_put (D := D) (ci := 5) (v := .int (nI 0)) (ty := .int) (C := R_M) (T := F_M) (N := 10) hx hb hB in_M t_M t_M_ok n_M hown hK hP hD hS 0 rfl rfl 0 (by decide) (hB _ mf_M_31) (fun _ h9 => h9) rfl (by decide +kernel) rfl rfl (Nat.le_of_ble_eq_true rfl) d_M_figure_15 (fun H locs hP hD hS => ?_)
  have hP : va_P D cls [(mo, .inr (5, [.int (nI 0), .int mn, .ref m0, .int mg, .ref m1, .ref m2, .ref m3, .ref m4, .ref m5, .ref m6])), (m0, .inl (o0, 16, .inl h)), (m1, .inl (o1, 16, .inl mO)), (m2, .inl (o2, 16, .inl mG)), (m3, .inl (o3, 16, .inl mF)), (m4, .inl (o4, 32, .inl mA)), (m5, .inl (o5, 32, .inl mU)), (m6, .inl (o6, 32, .inl mR))] H := hP
  have hD : va_D A [(mo, .inr (5, [.int (nI 0), .int mn, .ref m0, .int mg, .ref m1, .ref m2, .ref m3, .ref m4, .ref m5, .ref m6])), (m0, .inl (o0, 16, .inl h)), (m1, .inl (o1, 16, .inl mO)), (m2, .inl (o2, 16, .inl mG)), (m3, .inl (o3, 16, .inl mF)), (m4, .inl (o4, 32, .inl mA)), (m5, .inl (o5, 32, .inl mU)), (m6, .inl (o6, 32, .inl mR))] := hD
  refine lv_aload_n hx hb d_M_figure_18 rfl (lv_at hl 0 rfl) ?_
  refine va_get (D := D) (ci := 5) (v := .int (nI 0)) (C := R_M) (T := F_M) (N := 10) hx hb hB in_M hown hK hP 0 rfl rfl 0 (by decide) (hB _ mf_M_31) (fun _ h9 => h9) rfl d_M_figure_19 ?_
  refine lv_if_le (tgt := 27) hx hb d_M_figure_22 rfl (fun _ => ?_) (fun hc22 => absurd hc22 (by decide))
  refine lv_aload_n hx hb d_M_figure_27 rfl (lv_at hl 0 rfl) ?_
  refine xw_v (wc := [(mo, .inr (5, [.int (nI 0), .int mn, .ref m0, .int mg, .ref m1, .ref m2, .ref m3, .ref m4, .ref m5, .ref m6])), (m0, .inl (o0, 16, .inl h)), (m1, .inl (o1, 16, .inl mO)), (m2, .inl (o2, 16, .inl mG)), (m3, .inl (o3, 16, .inl mF)), (m4, .inl (o4, 32, .inl mA)), (m5, .inl (o5, 32, .inl mU)), (m6, .inl (o6, 32, .inl mR))]) (wr := []) (w1 := [(mo, .inr (5, [.int (nI 0), .int mn, .ref m0, .int (nI (ct h)), .ref m1, .ref m2, .ref m3, .ref m4, .ref m5, .ref m6])), (m0, .inl (o0, 16, .inl h)), (m1, .inl (o1, 16, .inl (fun k => if k < ct h then nI (nx h (pl h k)) else mO k))), (m2, .inl (o2, 16, .inl (GR h))), (m3, .inl (o3, 16, .inl mF)), (m4, .inl (o4, 32, .inl mA)), (m5, .inl (o5, 32, .inl mU)), (m6, .inl (o6, 32, .inl mR))]) (va_runV (As := []) (rest := []) ⟨hx, hb, hml, hown, hB⟩ (k_M_findOrder l D mo m0 m1 m2 m3 m4 m5 m6 o0 o1 o2 o3 o4 o5 o6 (nI 0) mn mg h mO mG mF mA mU mR hg _) ⟨callB_of 0 hB (xg0 mc_M_findOrder) rfl rfl rfl (hB _ mz_M) (hB _ ml_M_73) (by decide +kernel) ⟨Nat.le_of_ble_eq_true rfl, Nat.le_of_ble_eq_true rfl⟩, hB _ mi_M_findOrder, hB _ me_M_findOrder⟩ (xqV (ws := [(mo, .inr (5, [.int (nI 0), .int mn, .ref m0, .int mg, .ref m1, .ref m2, .ref m3, .ref m4, .ref m5, .ref m6])), (m0, .inl (o0, 16, .inl h)), (m1, .inl (o1, 16, .inl mO)), (m2, .inl (o2, 16, .inl mG)), (m3, .inl (o3, 16, .inl mF)), (m4, .inl (o4, 32, .inl mA)), (m5, .inl (o5, 32, .inl mU)), (m6, .inl (o6, 32, .inl mR))]) (tys := [(o0, .int), (o1, .int), (o2, .int), (o3, .int), (o4, .int), (o5, .int), (o6, .int)]) (hP.sub [0, 1, 2, 3, 4, 5, 6, 7] rfl) (hD.sub [0, 1, 2, 3, 4, 5, 6, 7] (by decide) rfl) (hK.sub [0, 1, 2, 3, 4, 5, 6] rfl) hN (va_recv (ci := 5) (q0 := 0) (q := (R_M, F_M, 10)) hK hP rfl rfl)) rfl rfl hl.1 rfl (lv_room (Nat.le_of_ble_eq_true rfl)) d_M_figure_28 ⟨Nat.le_of_ble_eq_true rfl, Nat.le_of_ble_eq_true rfl⟩) hP hD hS hA [0, 1, 2, 3, 4, 5, 6, 7] [] rfl rfl (by decide) (by decide) (fun H locs hP hD hS => ?_)
  have hP : va_P D cls [(mo, .inr (5, [.int (nI 0), .int mn, .ref m0, .int (nI (ct h)), .ref m1, .ref m2, .ref m3, .ref m4, .ref m5, .ref m6])), (m0, .inl (o0, 16, .inl h)), (m1, .inl (o1, 16, .inl (fun k => if k < ct h then nI (nx h (pl h k)) else mO k))), (m2, .inl (o2, 16, .inl (GR h))), (m3, .inl (o3, 16, .inl mF)), (m4, .inl (o4, 32, .inl mA)), (m5, .inl (o5, 32, .inl mU)), (m6, .inl (o6, 32, .inl mR))] H := hP
  have hD : va_D A [(mo, .inr (5, [.int (nI 0), .int mn, .ref m0, .int (nI (ct h)), .ref m1, .ref m2, .ref m3, .ref m4, .ref m5, .ref m6])), (m0, .inl (o0, 16, .inl h)), (m1, .inl (o1, 16, .inl (fun k => if k < ct h then nI (nx h (pl h k)) else mO k))), (m2, .inl (o2, 16, .inl (GR h))), (m3, .inl (o3, 16, .inl mF)), (m4, .inl (o4, 32, .inl mA)), (m5, .inl (o5, 32, .inl mU)), (m6, .inl (o6, 32, .inl mR))] := hD
  refine lv_iload_n hx hb d_M_figure_31 rfl (lv_at hl 1 rfl) ?_
  refine lv_tableIn (tgt := 73) (off := 41) hx hb d_M_figure_32 (by decide) (by decide) (by decide) (by decide) ?_
  refine lv_aload_n hx hb d_M_figure_73 rfl (lv_at hl 0 rfl) ?_
  refine va_get (D := D) (ci := 5) (v := .int (nI (ct h))) (C := R_M) (T := F_M) (N := 10) hx hb hB in_M hown hK hP 0 rfl rfl 3 (by decide) (hB _ mf_M_58) (fun _ h9 => h9) rfl d_M_figure_74 ?_
  have hP9 := hP.sub (ws' := [(mo, .inr (5, [.int (nI 0), .int mn, .ref m0, .int (nI (ct h)), .ref m1, .ref m2, .ref m3, .ref m4, .ref m5, .ref m6])), (m0, .inl (o0, 16, .inl h)), (m1, .inl (o1, 16, .inl (fun k => if k < ct h then nI (nx h (pl h k)) else mO k))), (m2, .inl (o2, 16, .inl (GR h))), (m3, .inl (o3, 16, .inl mF)), (m4, .inl (o4, 32, .inl mA)), (m5, .inl (o5, 32, .inl mU)), (m6, .inl (o6, 32, .inl mR))]) [0, 1, 2, 3, 4, 5, 6, 7] rfl
  have hD9 := hD.sub (ws' := [(mo, .inr (5, [.int (nI 0), .int mn, .ref m0, .int (nI (ct h)), .ref m1, .ref m2, .ref m3, .ref m4, .ref m5, .ref m6])), (m0, .inl (o0, 16, .inl h)), (m1, .inl (o1, 16, .inl (fun k => if k < ct h then nI (nx h (pl h k)) else mO k))), (m2, .inl (o2, 16, .inl (GR h))), (m3, .inl (o3, 16, .inl mF)), (m4, .inl (o4, 32, .inl mA)), (m5, .inl (o5, 32, .inl mU)), (m6, .inl (o6, 32, .inl mR))]) [0, 1, 2, 3, 4, 5, 6, 7] (by decide) rfl
  subst hAe
  exact W.iret (v := nI (ct h)) hx hb hr (fun t ht hW => ⟨⟨_, (), rfl, rfl, by rw [ht]; exact hP9, va_K.moved hW.alike hK, hD9⟩, hS.F ht⟩) hS.2.2 d_M_figure_77
set_option maxHeartbeats 4000000 in
set_option maxRecDepth 100000 in
theorem k_M_figure_2 (l : Launch) (D : va_G) (mo m0 m1 m2 m3 m4 m5 m6 : Nat) (o0 o1 o2 o3 o4 o5 o6 : ClassId) (mc : Int32) (mn : Int32) (mg : Int32) (h : Nat → Int32) (mO : Nat → Int32) (mG : Nat → Int32) (mF : Nat → Int32) (mA : Nat → Int32) (mU : Nat → Int32) (mR : Nat → Int32) (hg : gd h) (sz : Nat) : Met l y_M_figure (Cond.code y_M_figure c_M_figure 2 (some .int) :: BS) { frames := 5, cells := 0, slots := 0, locals := 114 } (va_Pc [.ref mo, .int (nI 2)] (xWp D [(mo, .inr (5, [.int mc, .int mn, .ref m0, .int mg, .ref m1, .ref m2, .ref m3, .ref m4, .ref m5, .ref m6])), (m0, .inl (o0, 16, .inl h)), (m1, .inl (o1, 16, .inl mO)), (m2, .inl (o2, 16, .inl mG)), (m3, .inl (o3, 16, .inl mF)), (m4, .inl (o4, 32, .inl mA)), (m5, .inl (o5, 32, .inl mU)), (m6, .inl (o6, 32, .inl mR))] [(o0, .int), (o1, .int), (o2, .int), (o3, .int), (o4, .int), (o5, .int), (o6, .int)] sz)) (xQi D [(mo, .inr (5, [.int mc, .int mn, .ref m0, .int mg, .ref m1, .ref m2, .ref m3, .ref m4, .ref m5, .ref m6])), (m0, .inl (o0, 16, .inl h)), (m1, .inl (o1, 16, .inl mO)), (m2, .inl (o2, 16, .inl mG)), (m3, .inl (o3, 16, .inl mF)), (m4, .inl (o4, 32, .inl mA)), (m5, .inl (o5, 32, .inl mU)), (m6, .inl (o6, 32, .inl mR))] [(mo, .inr (5, [.int (nI 0), .int mn, .ref m0, .int (nI (ct h)), .ref m1, .ref m2, .ref m3, .ref m4, .ref m5, .ref m6])), (m0, .inl (o0, 16, .inl h)), (m1, .inl (o1, 16, .inl (fun k => if k < ct h then nI (nx h (pl h k)) else mO k))), (m2, .inl (o2, 16, .inl (GR h))), (m3, .inl (o3, 16, .inl mF)), (m4, .inl (o4, 32, .inl mA)), (m5, .inl (o5, 32, .inl mU)), (m6, .inl (o6, 32, .inl mR))] [(o0, .int), (o1, .int), (o2, .int), (o3, .int), (o4, .int), (o5, .int), (o6, .int)] sz (nI (sq (fun i9 => cq (prL h (GR h) (odF h) i9) (ct h)) (ct h)))) 0 0 (va_A [(mo, .inr (5, [.int mc, .int mn, .ref m0, .int mg, .ref m1, .ref m2, .ref m3, .ref m4, .ref m5, .ref m6])), (m0, .inl (o0, 16, .inl h)), (m1, .inl (o1, 16, .inl mO)), (m2, .inl (o2, 16, .inl mG)), (m3, .inl (o3, 16, .inl mF)), (m4, .inl (o4, 32, .inl mA)), (m5, .inl (o5, 32, .inl mU)), (m6, .inl (o6, 32, .inl mR))] sz) := by
  refine Met.ofW (cc := c_M_figure) (maxL := 2) (ret := (some .int)) (by decide) rfl ?_
  intro p e s m args below meth c s₁ B hml hv
  obtain ⟨rfl, hsz, hP, hK, hD0, hN⟩ := hv
  have hx := B.exec
  have hb := B.bytes
  have hr := B.returns
  have hB := xB B.pre
  have hown : s.vm.findClass R_M = some m.cls := findClass_of_methodNamed B.named
  have hlocks := B.notSynchronized
  subst hsz
  have hD := hD0.self (sz := s.heap.size)
  obtain ⟨A, hAe⟩ : ∃ A, A = va_A [(mo, .inr (5, [.int mc, .int mn, .ref m0, .int mg, .ref m1, .ref m2, .ref m3, .ref m4, .ref m5, .ref m6])), (m0, .inl (o0, 16, .inl h)), (m1, .inl (o1, 16, .inl mO)), (m2, .inl (o2, 16, .inl mG)), (m3, .inl (o3, 16, .inl mF)), (m4, .inl (o4, 32, .inl mA)), (m5, .inl (o5, 32, .inl mU)), (m6, .inl (o6, 32, .inl mR))] s.heap.size := ⟨_, rfl⟩
  rw [← hAe] at hD
  have hA : ∀ q : Nat, s.heap.size ≤ q → A q := fun q h => by rw [hAe]; exact Or.inr h
  have hS : va_S A s.heap s.heap [] := va_S.rf
  have hl := lv_entry ([.ref mo, .int (nI 2)]) (n := 2) (Nat.le_of_ble_eq_true rfl)
  rw [lg_entry_eq]
  generalize (lg_sl ([.ref mo, .int (nI 2)]) ++ List.replicate (2 - (lg_sl ([.ref mo, .int (nI 2)])).length) Slot.unset).toArray = ls at hl ⊢
  have hl : lv_has ls 2 [(0, .ref mo), (1, .int (nI 2))] := hl
  refine lv_aload_n hx hb d_M_figure_0 rfl (lv_at hl 0 rfl) ?_
  refine lv_iload_n hx hb d_M_figure_1 rfl (lv_at hl 1 rfl) ?_
  refine lv_if_lt (tgt := 10) hx hb d_M_figure_2 rfl (fun hc2 => absurd hc2 (by decide)) (fun _ => ?_)
  refine lv_iload_n hx hb d_M_figure_5 rfl (lv_at hl 1 rfl) ?_
  refine lv_iconst (v := nI 5) hx hb d_M_figure_6 (by decide) ?_
  refine lv_icmp_le (tgt := 14) hx hb d_M_figure_7 rfl (fun _ => ?_) (fun hc7 => absurd hc7 (by decide))
  refine lv_iconst (v := nI 0) hx hb d_M_figure_14 (by decide) ?_
  refine va_put (D := D) (ci := 5) (v := .int (nI 0)) (ty := .int) (C := R_M) (T := F_M) (N := 10) hx hb hB in_M t_M t_M_ok n_M hown hK hP hD hS 0 rfl rfl 0 (by decide) (hB _ mf_M_31) (fun _ h9 => h9) rfl (by decide +kernel) rfl rfl (Nat.le_of_ble_eq_true rfl) d_M_figure_15 (fun H locs hP hD hS => ?_)
  have hP : va_P D cls [(mo, .inr (5, [.int (nI 0), .int mn, .ref m0, .int mg, .ref m1, .ref m2, .ref m3, .ref m4, .ref m5, .ref m6])), (m0, .inl (o0, 16, .inl h)), (m1, .inl (o1, 16, .inl mO)), (m2, .inl (o2, 16, .inl mG)), (m3, .inl (o3, 16, .inl mF)), (m4, .inl (o4, 32, .inl mA)), (m5, .inl (o5, 32, .inl mU)), (m6, .inl (o6, 32, .inl mR))] H := hP
  have hD : va_D A [(mo, .inr (5, [.int (nI 0), .int mn, .ref m0, .int mg, .ref m1, .ref m2, .ref m3, .ref m4, .ref m5, .ref m6])), (m0, .inl (o0, 16, .inl h)), (m1, .inl (o1, 16, .inl mO)), (m2, .inl (o2, 16, .inl mG)), (m3, .inl (o3, 16, .inl mF)), (m4, .inl (o4, 32, .inl mA)), (m5, .inl (o5, 32, .inl mU)), (m6, .inl (o6, 32, .inl mR))] := hD
  refine lv_aload_n hx hb d_M_figure_18 rfl (lv_at hl 0 rfl) ?_
  refine va_get (D := D) (ci := 5) (v := .int (nI 0)) (C := R_M) (T := F_M) (N := 10) hx hb hB in_M hown hK hP 0 rfl rfl 0 (by decide) (hB _ mf_M_31) (fun _ h9 => h9) rfl d_M_figure_19 ?_
  refine lv_if_le (tgt := 27) hx hb d_M_figure_22 rfl (fun _ => ?_) (fun hc22 => absurd hc22 (by decide))
  refine lv_aload_n hx hb d_M_figure_27 rfl (lv_at hl 0 rfl) ?_
  refine xw_v (wc := [(mo, .inr (5, [.int (nI 0), .int mn, .ref m0, .int mg, .ref m1, .ref m2, .ref m3, .ref m4, .ref m5, .ref m6])), (m0, .inl (o0, 16, .inl h)), (m1, .inl (o1, 16, .inl mO)), (m2, .inl (o2, 16, .inl mG)), (m3, .inl (o3, 16, .inl mF)), (m4, .inl (o4, 32, .inl mA)), (m5, .inl (o5, 32, .inl mU)), (m6, .inl (o6, 32, .inl mR))]) (wr := []) (w1 := [(mo, .inr (5, [.int (nI 0), .int mn, .ref m0, .int (nI (ct h)), .ref m1, .ref m2, .ref m3, .ref m4, .ref m5, .ref m6])), (m0, .inl (o0, 16, .inl h)), (m1, .inl (o1, 16, .inl (fun k => if k < ct h then nI (nx h (pl h k)) else mO k))), (m2, .inl (o2, 16, .inl (GR h))), (m3, .inl (o3, 16, .inl mF)), (m4, .inl (o4, 32, .inl mA)), (m5, .inl (o5, 32, .inl mU)), (m6, .inl (o6, 32, .inl mR))]) (va_runV (As := []) (rest := []) ⟨hx, hb, hml, hown, hB⟩ (k_M_findOrder l D mo m0 m1 m2 m3 m4 m5 m6 o0 o1 o2 o3 o4 o5 o6 (nI 0) mn mg h mO mG mF mA mU mR hg _) ⟨callB_of 0 hB (xg0 mc_M_findOrder) rfl rfl rfl (hB _ mz_M) (hB _ ml_M_73) (by decide +kernel) ⟨Nat.le_of_ble_eq_true rfl, Nat.le_of_ble_eq_true rfl⟩, hB _ mi_M_findOrder, hB _ me_M_findOrder⟩ (xqV (ws := [(mo, .inr (5, [.int (nI 0), .int mn, .ref m0, .int mg, .ref m1, .ref m2, .ref m3, .ref m4, .ref m5, .ref m6])), (m0, .inl (o0, 16, .inl h)), (m1, .inl (o1, 16, .inl mO)), (m2, .inl (o2, 16, .inl mG)), (m3, .inl (o3, 16, .inl mF)), (m4, .inl (o4, 32, .inl mA)), (m5, .inl (o5, 32, .inl mU)), (m6, .inl (o6, 32, .inl mR))]) (tys := [(o0, .int), (o1, .int), (o2, .int), (o3, .int), (o4, .int), (o5, .int), (o6, .int)]) (hP.sub [0, 1, 2, 3, 4, 5, 6, 7] rfl) (hD.sub [0, 1, 2, 3, 4, 5, 6, 7] (by decide) rfl) (hK.sub [0, 1, 2, 3, 4, 5, 6] rfl) hN (va_recv (ci := 5) (q0 := 0) (q := (R_M, F_M, 10)) hK hP rfl rfl)) rfl rfl hl.1 rfl (lv_room (Nat.le_of_ble_eq_true rfl)) d_M_figure_28 ⟨Nat.le_of_ble_eq_true rfl, Nat.le_of_ble_eq_true rfl⟩) hP hD hS hA [0, 1, 2, 3, 4, 5, 6, 7] [] rfl rfl (by decide) (by decide) (fun H locs hP hD hS => ?_)
  have hP : va_P D cls [(mo, .inr (5, [.int (nI 0), .int mn, .ref m0, .int (nI (ct h)), .ref m1, .ref m2, .ref m3, .ref m4, .ref m5, .ref m6])), (m0, .inl (o0, 16, .inl h)), (m1, .inl (o1, 16, .inl (fun k => if k < ct h then nI (nx h (pl h k)) else mO k))), (m2, .inl (o2, 16, .inl (GR h))), (m3, .inl (o3, 16, .inl mF)), (m4, .inl (o4, 32, .inl mA)), (m5, .inl (o5, 32, .inl mU)), (m6, .inl (o6, 32, .inl mR))] H := hP
  have hD : va_D A [(mo, .inr (5, [.int (nI 0), .int mn, .ref m0, .int (nI (ct h)), .ref m1, .ref m2, .ref m3, .ref m4, .ref m5, .ref m6])), (m0, .inl (o0, 16, .inl h)), (m1, .inl (o1, 16, .inl (fun k => if k < ct h then nI (nx h (pl h k)) else mO k))), (m2, .inl (o2, 16, .inl (GR h))), (m3, .inl (o3, 16, .inl mF)), (m4, .inl (o4, 32, .inl mA)), (m5, .inl (o5, 32, .inl mU)), (m6, .inl (o6, 32, .inl mR))] := hD
  refine lv_iload_n hx hb d_M_figure_31 rfl (lv_at hl 1 rfl) ?_
  refine lv_tableIn (tgt := 78) (off := 46) hx hb d_M_figure_32 (by decide) (by decide) (by decide) (by decide) ?_
  refine lv_aload_n hx hb d_M_figure_78 rfl (lv_at hl 0 rfl) ?_
  refine lv_iconst (v := nI 0) hx hb d_M_figure_79 (by decide) ?_
  refine xw_i (wc := [(mo, .inr (5, [.int (nI 0), .int mn, .ref m0, .int (nI (ct h)), .ref m1, .ref m2, .ref m3, .ref m4, .ref m5, .ref m6])), (m0, .inl (o0, 16, .inl h)), (m1, .inl (o1, 16, .inl (fun k => if k < ct h then nI (nx h (pl h k)) else mO k))), (m2, .inl (o2, 16, .inl (GR h))), (m3, .inl (o3, 16, .inl mF)), (m4, .inl (o4, 32, .inl mA)), (m5, .inl (o5, 32, .inl mU)), (m6, .inl (o6, 32, .inl mR))]) (wr := []) (w1 := [(mo, .inr (5, [.int (nI 0), .int mn, .ref m0, .int (nI (ct h)), .ref m1, .ref m2, .ref m3, .ref m4, .ref m5, .ref m6])), (m0, .inl (o0, 16, .inl h)), (m1, .inl (o1, 16, .inl (fun k => if k < ct h then nI (nx h (pl h k)) else mO k))), (m2, .inl (o2, 16, .inl (GR h))), (m3, .inl (o3, 16, .inl mF)), (m4, .inl (o4, 32, .inl mA)), (m5, .inl (o5, 32, .inl mU)), (m6, .inl (o6, 32, .inl mR))]) (va_runV (As := [.int (nI 0)]) (rest := []) ⟨hx, hb, hml, hown, hB⟩ (k_M_pairs_f l D mo m0 m1 m2 m3 m4 m5 m6 o0 o1 o2 o3 o4 o5 o6 (nI 0) mn (ct h) h (fun k => if k < ct h then nI (nx h (pl h k)) else mO k) (GR h) mF mA mU mR (odF h) (ct_le h) (odF_s h mO) _) ⟨callB_of 1 hB (xg0 mc_M_pairs) rfl rfl rfl (hB _ mz_M) (hB _ ml_M_99) (by decide +kernel) ⟨Nat.le_of_ble_eq_true rfl, Nat.le_of_ble_eq_true rfl⟩, hB _ mi_M_pairs, hB _ me_M_pairs⟩ (xqV (ws := [(mo, .inr (5, [.int (nI 0), .int mn, .ref m0, .int (nI (ct h)), .ref m1, .ref m2, .ref m3, .ref m4, .ref m5, .ref m6])), (m0, .inl (o0, 16, .inl h)), (m1, .inl (o1, 16, .inl (fun k => if k < ct h then nI (nx h (pl h k)) else mO k))), (m2, .inl (o2, 16, .inl (GR h))), (m3, .inl (o3, 16, .inl mF)), (m4, .inl (o4, 32, .inl mA)), (m5, .inl (o5, 32, .inl mU)), (m6, .inl (o6, 32, .inl mR))]) (tys := [(o0, .int), (o1, .int), (o2, .int), (o3, .int), (o4, .int), (o5, .int), (o6, .int)]) (hP.sub [0, 1, 2, 3, 4, 5, 6, 7] rfl) (hD.sub [0, 1, 2, 3, 4, 5, 6, 7] (by decide) rfl) (hK.sub [0, 1, 2, 3, 4, 5, 6] rfl) hN (va_recv (ci := 5) (q0 := 0) (q := (R_M, F_M, 10)) hK hP rfl rfl)) rfl rfl hl.1 rfl (lv_room (Nat.le_of_ble_eq_true rfl)) d_M_figure_80 ⟨Nat.le_of_ble_eq_true rfl, Nat.le_of_ble_eq_true rfl⟩) hP hD hS hA [0, 1, 2, 3, 4, 5, 6, 7] [] rfl rfl (by decide) (by decide) (fun H locs hP hD hS => ?_)
  have hP : va_P D cls [(mo, .inr (5, [.int (nI 0), .int mn, .ref m0, .int (nI (ct h)), .ref m1, .ref m2, .ref m3, .ref m4, .ref m5, .ref m6])), (m0, .inl (o0, 16, .inl h)), (m1, .inl (o1, 16, .inl (fun k => if k < ct h then nI (nx h (pl h k)) else mO k))), (m2, .inl (o2, 16, .inl (GR h))), (m3, .inl (o3, 16, .inl mF)), (m4, .inl (o4, 32, .inl mA)), (m5, .inl (o5, 32, .inl mU)), (m6, .inl (o6, 32, .inl mR))] H := hP
  have hD : va_D A [(mo, .inr (5, [.int (nI 0), .int mn, .ref m0, .int (nI (ct h)), .ref m1, .ref m2, .ref m3, .ref m4, .ref m5, .ref m6])), (m0, .inl (o0, 16, .inl h)), (m1, .inl (o1, 16, .inl (fun k => if k < ct h then nI (nx h (pl h k)) else mO k))), (m2, .inl (o2, 16, .inl (GR h))), (m3, .inl (o3, 16, .inl mF)), (m4, .inl (o4, 32, .inl mA)), (m5, .inl (o5, 32, .inl mU)), (m6, .inl (o6, 32, .inl mR))] := hD
  have hP9 := hP.sub (ws' := [(mo, .inr (5, [.int (nI 0), .int mn, .ref m0, .int (nI (ct h)), .ref m1, .ref m2, .ref m3, .ref m4, .ref m5, .ref m6])), (m0, .inl (o0, 16, .inl h)), (m1, .inl (o1, 16, .inl (fun k => if k < ct h then nI (nx h (pl h k)) else mO k))), (m2, .inl (o2, 16, .inl (GR h))), (m3, .inl (o3, 16, .inl mF)), (m4, .inl (o4, 32, .inl mA)), (m5, .inl (o5, 32, .inl mU)), (m6, .inl (o6, 32, .inl mR))]) [0, 1, 2, 3, 4, 5, 6, 7] rfl
  have hD9 := hD.sub (ws' := [(mo, .inr (5, [.int (nI 0), .int mn, .ref m0, .int (nI (ct h)), .ref m1, .ref m2, .ref m3, .ref m4, .ref m5, .ref m6])), (m0, .inl (o0, 16, .inl h)), (m1, .inl (o1, 16, .inl (fun k => if k < ct h then nI (nx h (pl h k)) else mO k))), (m2, .inl (o2, 16, .inl (GR h))), (m3, .inl (o3, 16, .inl mF)), (m4, .inl (o4, 32, .inl mA)), (m5, .inl (o5, 32, .inl mU)), (m6, .inl (o6, 32, .inl mR))]) [0, 1, 2, 3, 4, 5, 6, 7] (by decide) rfl
  subst hAe
  exact W.iret (v := nI (sq (fun i9 => cq (prL h (GR h) (odF h) i9) (ct h)) (ct h))) hx hb hr (fun t ht hW => ⟨⟨_, (), rfl, rfl, by rw [ht]; exact hP9, va_K.moved hW.alike hK, hD9⟩, hS.F ht⟩) hS.2.2 d_M_figure_83
set_option maxHeartbeats 4000000 in
set_option maxRecDepth 100000 in
theorem k_M_figure_3 (l : Launch) (D : va_G) (mo m0 m1 m2 m3 m4 m5 m6 : Nat) (o0 o1 o2 o3 o4 o5 o6 : ClassId) (mc : Int32) (mn : Int32) (mg : Int32) (h : Nat → Int32) (mO : Nat → Int32) (mG : Nat → Int32) (mF : Nat → Int32) (mA : Nat → Int32) (mU : Nat → Int32) (mR : Nat → Int32) (hg : gd h) (sz : Nat) : Met l y_M_figure (Cond.code y_M_figure c_M_figure 2 (some .int) :: BS) { frames := 5, cells := 0, slots := 0, locals := 114 } (va_Pc [.ref mo, .int (nI 3)] (xWp D [(mo, .inr (5, [.int mc, .int mn, .ref m0, .int mg, .ref m1, .ref m2, .ref m3, .ref m4, .ref m5, .ref m6])), (m0, .inl (o0, 16, .inl h)), (m1, .inl (o1, 16, .inl mO)), (m2, .inl (o2, 16, .inl mG)), (m3, .inl (o3, 16, .inl mF)), (m4, .inl (o4, 32, .inl mA)), (m5, .inl (o5, 32, .inl mU)), (m6, .inl (o6, 32, .inl mR))] [(o0, .int), (o1, .int), (o2, .int), (o3, .int), (o4, .int), (o5, .int), (o6, .int)] sz)) (xQi D [(mo, .inr (5, [.int mc, .int mn, .ref m0, .int mg, .ref m1, .ref m2, .ref m3, .ref m4, .ref m5, .ref m6])), (m0, .inl (o0, 16, .inl h)), (m1, .inl (o1, 16, .inl mO)), (m2, .inl (o2, 16, .inl mG)), (m3, .inl (o3, 16, .inl mF)), (m4, .inl (o4, 32, .inl mA)), (m5, .inl (o5, 32, .inl mU)), (m6, .inl (o6, 32, .inl mR))] [(mo, .inr (5, [.int (nI 0), .int mn, .ref m0, .int (nI (ct h)), .ref m1, .ref m2, .ref m3, .ref m4, .ref m5, .ref m6])), (m0, .inl (o0, 16, .inl h)), (m1, .inl (o1, 16, .inl (fun k => if k < ct h then nI (nx h (pl h k)) else mO k))), (m2, .inl (o2, 16, .inl (GR h))), (m3, .inl (o3, 16, .inl mF)), (m4, .inl (o4, 32, .inl mA)), (m5, .inl (o5, 32, .inl mU)), (m6, .inl (o6, 32, .inl (prF h mR (sq (fun i9 => cq (prL h (GR h) (odF h) i9) (ct h)) (ct h)))))] [(o0, .int), (o1, .int), (o2, .int), (o3, .int), (o4, .int), (o5, .int), (o6, .int)] sz (nI (sq (fun i9 => cq (prO h (GR h) (odF h) i9) (ct h)) (ct h)))) 0 0 (va_A [(mo, .inr (5, [.int mc, .int mn, .ref m0, .int mg, .ref m1, .ref m2, .ref m3, .ref m4, .ref m5, .ref m6])), (m0, .inl (o0, 16, .inl h)), (m1, .inl (o1, 16, .inl mO)), (m2, .inl (o2, 16, .inl mG)), (m3, .inl (o3, 16, .inl mF)), (m4, .inl (o4, 32, .inl mA)), (m5, .inl (o5, 32, .inl mU)), (m6, .inl (o6, 32, .inl mR))] sz) := by
  refine Met.ofW (cc := c_M_figure) (maxL := 2) (ret := (some .int)) (by decide) rfl ?_
  intro p e s m args below meth c s₁ B hml hv
  obtain ⟨rfl, hsz, hP, hK, hD0, hN⟩ := hv
  have hx := B.exec
  have hb := B.bytes
  have hr := B.returns
  have hB := xB B.pre
  have hown : s.vm.findClass R_M = some m.cls := findClass_of_methodNamed B.named
  have hlocks := B.notSynchronized
  subst hsz
  have hD := hD0.self (sz := s.heap.size)
  obtain ⟨A, hAe⟩ : ∃ A, A = va_A [(mo, .inr (5, [.int mc, .int mn, .ref m0, .int mg, .ref m1, .ref m2, .ref m3, .ref m4, .ref m5, .ref m6])), (m0, .inl (o0, 16, .inl h)), (m1, .inl (o1, 16, .inl mO)), (m2, .inl (o2, 16, .inl mG)), (m3, .inl (o3, 16, .inl mF)), (m4, .inl (o4, 32, .inl mA)), (m5, .inl (o5, 32, .inl mU)), (m6, .inl (o6, 32, .inl mR))] s.heap.size := ⟨_, rfl⟩
  rw [← hAe] at hD
  have hA : ∀ q : Nat, s.heap.size ≤ q → A q := fun q h => by rw [hAe]; exact Or.inr h
  have hS : va_S A s.heap s.heap [] := va_S.rf
  have hl := lv_entry ([.ref mo, .int (nI 3)]) (n := 2) (Nat.le_of_ble_eq_true rfl)
  rw [lg_entry_eq]
  generalize (lg_sl ([.ref mo, .int (nI 3)]) ++ List.replicate (2 - (lg_sl ([.ref mo, .int (nI 3)])).length) Slot.unset).toArray = ls at hl ⊢
  have hl : lv_has ls 2 [(0, .ref mo), (1, .int (nI 3))] := hl
  refine lv_aload_n hx hb d_M_figure_0 rfl (lv_at hl 0 rfl) ?_
  refine lv_iload_n hx hb d_M_figure_1 rfl (lv_at hl 1 rfl) ?_
  refine lv_if_lt (tgt := 10) hx hb d_M_figure_2 rfl (fun hc2 => absurd hc2 (by decide)) (fun _ => ?_)
  refine lv_iload_n hx hb d_M_figure_5 rfl (lv_at hl 1 rfl) ?_
  refine lv_iconst (v := nI 5) hx hb d_M_figure_6 (by decide) ?_
  refine lv_icmp_le (tgt := 14) hx hb d_M_figure_7 rfl (fun _ => ?_) (fun hc7 => absurd hc7 (by decide))
  refine lv_iconst (v := nI 0) hx hb d_M_figure_14 (by decide) ?_
  refine va_put (D := D) (ci := 5) (v := .int (nI 0)) (ty := .int) (C := R_M) (T := F_M) (N := 10) hx hb hB in_M t_M t_M_ok n_M hown hK hP hD hS 0 rfl rfl 0 (by decide) (hB _ mf_M_31) (fun _ h9 => h9) rfl (by decide +kernel) rfl rfl (Nat.le_of_ble_eq_true rfl) d_M_figure_15 (fun H locs hP hD hS => ?_)
  have hP : va_P D cls [(mo, .inr (5, [.int (nI 0), .int mn, .ref m0, .int mg, .ref m1, .ref m2, .ref m3, .ref m4, .ref m5, .ref m6])), (m0, .inl (o0, 16, .inl h)), (m1, .inl (o1, 16, .inl mO)), (m2, .inl (o2, 16, .inl mG)), (m3, .inl (o3, 16, .inl mF)), (m4, .inl (o4, 32, .inl mA)), (m5, .inl (o5, 32, .inl mU)), (m6, .inl (o6, 32, .inl mR))] H := hP
  have hD : va_D A [(mo, .inr (5, [.int (nI 0), .int mn, .ref m0, .int mg, .ref m1, .ref m2, .ref m3, .ref m4, .ref m5, .ref m6])), (m0, .inl (o0, 16, .inl h)), (m1, .inl (o1, 16, .inl mO)), (m2, .inl (o2, 16, .inl mG)), (m3, .inl (o3, 16, .inl mF)), (m4, .inl (o4, 32, .inl mA)), (m5, .inl (o5, 32, .inl mU)), (m6, .inl (o6, 32, .inl mR))] := hD
  refine lv_aload_n hx hb d_M_figure_18 rfl (lv_at hl 0 rfl) ?_
  refine va_get (D := D) (ci := 5) (v := .int (nI 0)) (C := R_M) (T := F_M) (N := 10) hx hb hB in_M hown hK hP 0 rfl rfl 0 (by decide) (hB _ mf_M_31) (fun _ h9 => h9) rfl d_M_figure_19 ?_
  refine lv_if_le (tgt := 27) hx hb d_M_figure_22 rfl (fun _ => ?_) (fun hc22 => absurd hc22 (by decide))
  refine lv_aload_n hx hb d_M_figure_27 rfl (lv_at hl 0 rfl) ?_
  refine xw_v (wc := [(mo, .inr (5, [.int (nI 0), .int mn, .ref m0, .int mg, .ref m1, .ref m2, .ref m3, .ref m4, .ref m5, .ref m6])), (m0, .inl (o0, 16, .inl h)), (m1, .inl (o1, 16, .inl mO)), (m2, .inl (o2, 16, .inl mG)), (m3, .inl (o3, 16, .inl mF)), (m4, .inl (o4, 32, .inl mA)), (m5, .inl (o5, 32, .inl mU)), (m6, .inl (o6, 32, .inl mR))]) (wr := []) (w1 := [(mo, .inr (5, [.int (nI 0), .int mn, .ref m0, .int (nI (ct h)), .ref m1, .ref m2, .ref m3, .ref m4, .ref m5, .ref m6])), (m0, .inl (o0, 16, .inl h)), (m1, .inl (o1, 16, .inl (fun k => if k < ct h then nI (nx h (pl h k)) else mO k))), (m2, .inl (o2, 16, .inl (GR h))), (m3, .inl (o3, 16, .inl mF)), (m4, .inl (o4, 32, .inl mA)), (m5, .inl (o5, 32, .inl mU)), (m6, .inl (o6, 32, .inl mR))]) (va_runV (As := []) (rest := []) ⟨hx, hb, hml, hown, hB⟩ (k_M_findOrder l D mo m0 m1 m2 m3 m4 m5 m6 o0 o1 o2 o3 o4 o5 o6 (nI 0) mn mg h mO mG mF mA mU mR hg _) ⟨callB_of 0 hB (xg0 mc_M_findOrder) rfl rfl rfl (hB _ mz_M) (hB _ ml_M_73) (by decide +kernel) ⟨Nat.le_of_ble_eq_true rfl, Nat.le_of_ble_eq_true rfl⟩, hB _ mi_M_findOrder, hB _ me_M_findOrder⟩ (xqV (ws := [(mo, .inr (5, [.int (nI 0), .int mn, .ref m0, .int mg, .ref m1, .ref m2, .ref m3, .ref m4, .ref m5, .ref m6])), (m0, .inl (o0, 16, .inl h)), (m1, .inl (o1, 16, .inl mO)), (m2, .inl (o2, 16, .inl mG)), (m3, .inl (o3, 16, .inl mF)), (m4, .inl (o4, 32, .inl mA)), (m5, .inl (o5, 32, .inl mU)), (m6, .inl (o6, 32, .inl mR))]) (tys := [(o0, .int), (o1, .int), (o2, .int), (o3, .int), (o4, .int), (o5, .int), (o6, .int)]) (hP.sub [0, 1, 2, 3, 4, 5, 6, 7] rfl) (hD.sub [0, 1, 2, 3, 4, 5, 6, 7] (by decide) rfl) (hK.sub [0, 1, 2, 3, 4, 5, 6] rfl) hN (va_recv (ci := 5) (q0 := 0) (q := (R_M, F_M, 10)) hK hP rfl rfl)) rfl rfl hl.1 rfl (lv_room (Nat.le_of_ble_eq_true rfl)) d_M_figure_28 ⟨Nat.le_of_ble_eq_true rfl, Nat.le_of_ble_eq_true rfl⟩) hP hD hS hA [0, 1, 2, 3, 4, 5, 6, 7] [] rfl rfl (by decide) (by decide) (fun H locs hP hD hS => ?_)
  have hP : va_P D cls [(mo, .inr (5, [.int (nI 0), .int mn, .ref m0, .int (nI (ct h)), .ref m1, .ref m2, .ref m3, .ref m4, .ref m5, .ref m6])), (m0, .inl (o0, 16, .inl h)), (m1, .inl (o1, 16, .inl (fun k => if k < ct h then nI (nx h (pl h k)) else mO k))), (m2, .inl (o2, 16, .inl (GR h))), (m3, .inl (o3, 16, .inl mF)), (m4, .inl (o4, 32, .inl mA)), (m5, .inl (o5, 32, .inl mU)), (m6, .inl (o6, 32, .inl mR))] H := hP
  have hD : va_D A [(mo, .inr (5, [.int (nI 0), .int mn, .ref m0, .int (nI (ct h)), .ref m1, .ref m2, .ref m3, .ref m4, .ref m5, .ref m6])), (m0, .inl (o0, 16, .inl h)), (m1, .inl (o1, 16, .inl (fun k => if k < ct h then nI (nx h (pl h k)) else mO k))), (m2, .inl (o2, 16, .inl (GR h))), (m3, .inl (o3, 16, .inl mF)), (m4, .inl (o4, 32, .inl mA)), (m5, .inl (o5, 32, .inl mU)), (m6, .inl (o6, 32, .inl mR))] := hD
  refine lv_iload_n hx hb d_M_figure_31 rfl (lv_at hl 1 rfl) ?_
  refine lv_tableIn (tgt := 84) (off := 52) hx hb d_M_figure_32 (by decide) (by decide) (by decide) (by decide) ?_
  refine lv_aload_n hx hb d_M_figure_84 rfl (lv_at hl 0 rfl) ?_
  refine lv_iconst (v := nI 1) hx hb d_M_figure_85 (by decide) ?_
  refine xw_i (wc := [(mo, .inr (5, [.int (nI 0), .int mn, .ref m0, .int (nI (ct h)), .ref m1, .ref m2, .ref m3, .ref m4, .ref m5, .ref m6])), (m0, .inl (o0, 16, .inl h)), (m1, .inl (o1, 16, .inl (fun k => if k < ct h then nI (nx h (pl h k)) else mO k))), (m2, .inl (o2, 16, .inl (GR h))), (m3, .inl (o3, 16, .inl mF)), (m4, .inl (o4, 32, .inl mA)), (m5, .inl (o5, 32, .inl mU)), (m6, .inl (o6, 32, .inl mR))]) (wr := []) (w1 := [(mo, .inr (5, [.int (nI 0), .int mn, .ref m0, .int (nI (ct h)), .ref m1, .ref m2, .ref m3, .ref m4, .ref m5, .ref m6])), (m0, .inl (o0, 16, .inl h)), (m1, .inl (o1, 16, .inl (fun k => if k < ct h then nI (nx h (pl h k)) else mO k))), (m2, .inl (o2, 16, .inl (GR h))), (m3, .inl (o3, 16, .inl mF)), (m4, .inl (o4, 32, .inl mA)), (m5, .inl (o5, 32, .inl mU)), (m6, .inl (o6, 32, .inl (prF h mR (sq (fun i9 => cq (prL h (GR h) (odF h) i9) (ct h)) (ct h)))))]) (va_runV (As := [.int (nI 1)]) (rest := []) ⟨hx, hb, hml, hown, hB⟩ (k_M_pairs_t l D mo m0 m1 m2 m3 m4 m5 m6 o0 o1 o2 o3 o4 o5 o6 (nI 0) mn (ct h) h (fun k => if k < ct h then nI (nx h (pl h k)) else mO k) (GR h) mF mA mU mR (odF h) hg (ct_le h) (odF_s h mO) (fun k hk => GR_m16 hg hk) _) ⟨callB_of 1 hB (xg0 mc_M_pairs) rfl rfl rfl (hB _ mz_M) (hB _ ml_M_99) (by decide +kernel) ⟨Nat.le_of_ble_eq_true rfl, Nat.le_of_ble_eq_true rfl⟩, hB _ mi_M_pairs, hB _ me_M_pairs⟩ (xqV (ws := [(mo, .inr (5, [.int (nI 0), .int mn, .ref m0, .int (nI (ct h)), .ref m1, .ref m2, .ref m3, .ref m4, .ref m5, .ref m6])), (m0, .inl (o0, 16, .inl h)), (m1, .inl (o1, 16, .inl (fun k => if k < ct h then nI (nx h (pl h k)) else mO k))), (m2, .inl (o2, 16, .inl (GR h))), (m3, .inl (o3, 16, .inl mF)), (m4, .inl (o4, 32, .inl mA)), (m5, .inl (o5, 32, .inl mU)), (m6, .inl (o6, 32, .inl mR))]) (tys := [(o0, .int), (o1, .int), (o2, .int), (o3, .int), (o4, .int), (o5, .int), (o6, .int)]) (hP.sub [0, 1, 2, 3, 4, 5, 6, 7] rfl) (hD.sub [0, 1, 2, 3, 4, 5, 6, 7] (by decide) rfl) (hK.sub [0, 1, 2, 3, 4, 5, 6] rfl) hN (va_recv (ci := 5) (q0 := 0) (q := (R_M, F_M, 10)) hK hP rfl rfl)) rfl rfl hl.1 rfl (lv_room (Nat.le_of_ble_eq_true rfl)) d_M_figure_86 ⟨Nat.le_of_ble_eq_true rfl, Nat.le_of_ble_eq_true rfl⟩) hP hD hS hA [0, 1, 2, 3, 4, 5, 6, 7] [] rfl rfl (by decide) (by decide) (fun H locs hP hD hS => ?_)
  have hP : va_P D cls [(mo, .inr (5, [.int (nI 0), .int mn, .ref m0, .int (nI (ct h)), .ref m1, .ref m2, .ref m3, .ref m4, .ref m5, .ref m6])), (m0, .inl (o0, 16, .inl h)), (m1, .inl (o1, 16, .inl (fun k => if k < ct h then nI (nx h (pl h k)) else mO k))), (m2, .inl (o2, 16, .inl (GR h))), (m3, .inl (o3, 16, .inl mF)), (m4, .inl (o4, 32, .inl mA)), (m5, .inl (o5, 32, .inl mU)), (m6, .inl (o6, 32, .inl (prF h mR (sq (fun i9 => cq (prL h (GR h) (odF h) i9) (ct h)) (ct h)))))] H := hP
  have hD : va_D A [(mo, .inr (5, [.int (nI 0), .int mn, .ref m0, .int (nI (ct h)), .ref m1, .ref m2, .ref m3, .ref m4, .ref m5, .ref m6])), (m0, .inl (o0, 16, .inl h)), (m1, .inl (o1, 16, .inl (fun k => if k < ct h then nI (nx h (pl h k)) else mO k))), (m2, .inl (o2, 16, .inl (GR h))), (m3, .inl (o3, 16, .inl mF)), (m4, .inl (o4, 32, .inl mA)), (m5, .inl (o5, 32, .inl mU)), (m6, .inl (o6, 32, .inl (prF h mR (sq (fun i9 => cq (prL h (GR h) (odF h) i9) (ct h)) (ct h)))))] := hD
  have hP9 := hP.sub (ws' := [(mo, .inr (5, [.int (nI 0), .int mn, .ref m0, .int (nI (ct h)), .ref m1, .ref m2, .ref m3, .ref m4, .ref m5, .ref m6])), (m0, .inl (o0, 16, .inl h)), (m1, .inl (o1, 16, .inl (fun k => if k < ct h then nI (nx h (pl h k)) else mO k))), (m2, .inl (o2, 16, .inl (GR h))), (m3, .inl (o3, 16, .inl mF)), (m4, .inl (o4, 32, .inl mA)), (m5, .inl (o5, 32, .inl mU)), (m6, .inl (o6, 32, .inl (prF h mR (sq (fun i9 => cq (prL h (GR h) (odF h) i9) (ct h)) (ct h)))))]) [0, 1, 2, 3, 4, 5, 6, 7] rfl
  have hD9 := hD.sub (ws' := [(mo, .inr (5, [.int (nI 0), .int mn, .ref m0, .int (nI (ct h)), .ref m1, .ref m2, .ref m3, .ref m4, .ref m5, .ref m6])), (m0, .inl (o0, 16, .inl h)), (m1, .inl (o1, 16, .inl (fun k => if k < ct h then nI (nx h (pl h k)) else mO k))), (m2, .inl (o2, 16, .inl (GR h))), (m3, .inl (o3, 16, .inl mF)), (m4, .inl (o4, 32, .inl mA)), (m5, .inl (o5, 32, .inl mU)), (m6, .inl (o6, 32, .inl (prF h mR (sq (fun i9 => cq (prL h (GR h) (odF h) i9) (ct h)) (ct h)))))]) [0, 1, 2, 3, 4, 5, 6, 7] (by decide) rfl
  subst hAe
  exact W.iret (v := nI (sq (fun i9 => cq (prO h (GR h) (odF h) i9) (ct h)) (ct h))) hx hb hr (fun t ht hW => ⟨⟨_, (), rfl, rfl, by rw [ht]; exact hP9, va_K.moved hW.alike hK, hD9⟩, hS.F ht⟩) hS.2.2 d_M_figure_89
set_option maxHeartbeats 4000000 in
set_option maxRecDepth 100000 in
theorem k_M_figure_4 (l : Launch) (D : va_G) (mo m0 m1 m2 m3 m4 m5 m6 : Nat) (o0 o1 o2 o3 o4 o5 o6 : ClassId) (mc : Int32) (mn : Int32) (mg : Int32) (h : Nat → Int32) (mO : Nat → Int32) (mG : Nat → Int32) (mF : Nat → Int32) (mA : Nat → Int32) (mU : Nat → Int32) (mR : Nat → Int32) (hg : gd h) (sz : Nat) : Met l y_M_figure (Cond.code y_M_figure c_M_figure 2 (some .int) :: BS) { frames := 5, cells := 0, slots := 0, locals := 114 } (va_Pc [.ref mo, .int (nI 4)] (xWp D [(mo, .inr (5, [.int mc, .int mn, .ref m0, .int mg, .ref m1, .ref m2, .ref m3, .ref m4, .ref m5, .ref m6])), (m0, .inl (o0, 16, .inl h)), (m1, .inl (o1, 16, .inl mO)), (m2, .inl (o2, 16, .inl mG)), (m3, .inl (o3, 16, .inl mF)), (m4, .inl (o4, 32, .inl mA)), (m5, .inl (o5, 32, .inl mU)), (m6, .inl (o6, 32, .inl mR))] [(o0, .int), (o1, .int), (o2, .int), (o3, .int), (o4, .int), (o5, .int), (o6, .int)] sz)) (xQi D [(mo, .inr (5, [.int mc, .int mn, .ref m0, .int mg, .ref m1, .ref m2, .ref m3, .ref m4, .ref m5, .ref m6])), (m0, .inl (o0, 16, .inl h)), (m1, .inl (o1, 16, .inl mO)), (m2, .inl (o2, 16, .inl mG)), (m3, .inl (o3, 16, .inl mF)), (m4, .inl (o4, 32, .inl mA)), (m5, .inl (o5, 32, .inl mU)), (m6, .inl (o6, 32, .inl mR))] [(mo, .inr (5, [.int (nI 0), .int mn, .ref m0, .int (nI (ct h)), .ref m1, .ref m2, .ref m3, .ref m4, .ref m5, .ref m6])), (m0, .inl (o0, 16, .inl h)), (m1, .inl (o1, 16, .inl (fun k => if k < ct h then nI (nx h (pl h k)) else mO k))), (m2, .inl (o2, 16, .inl (GR h))), (m3, .inl (o3, 16, .inl mF)), (m4, .inl (o4, 32, .inl mA)), (m5, .inl (o5, 32, .inl mU)), (m6, .inl (o6, 32, .inl (mlF (fun i9 j9 => ldb h (GR h) (odF h i9) (odF h j9)) mR (ct h))))] [(o0, .int), (o1, .int), (o2, .int), (o3, .int), (o4, .int), (o5, .int), (o6, .int)] sz (mlB (fun i9 j9 => ldb h (GR h) (odF h i9) (odF h j9)) mR (ct h))) 0 0 (va_A [(mo, .inr (5, [.int mc, .int mn, .ref m0, .int mg, .ref m1, .ref m2, .ref m3, .ref m4, .ref m5, .ref m6])), (m0, .inl (o0, 16, .inl h)), (m1, .inl (o1, 16, .inl mO)), (m2, .inl (o2, 16, .inl mG)), (m3, .inl (o3, 16, .inl mF)), (m4, .inl (o4, 32, .inl mA)), (m5, .inl (o5, 32, .inl mU)), (m6, .inl (o6, 32, .inl mR))] sz) := by
  refine Met.ofW (cc := c_M_figure) (maxL := 2) (ret := (some .int)) (by decide) rfl ?_
  intro p e s m args below meth c s₁ B hml hv
  obtain ⟨rfl, hsz, hP, hK, hD0, hN⟩ := hv
  have hx := B.exec
  have hb := B.bytes
  have hr := B.returns
  have hB := xB B.pre
  have hown : s.vm.findClass R_M = some m.cls := findClass_of_methodNamed B.named
  have hlocks := B.notSynchronized
  subst hsz
  have hD := hD0.self (sz := s.heap.size)
  obtain ⟨A, hAe⟩ : ∃ A, A = va_A [(mo, .inr (5, [.int mc, .int mn, .ref m0, .int mg, .ref m1, .ref m2, .ref m3, .ref m4, .ref m5, .ref m6])), (m0, .inl (o0, 16, .inl h)), (m1, .inl (o1, 16, .inl mO)), (m2, .inl (o2, 16, .inl mG)), (m3, .inl (o3, 16, .inl mF)), (m4, .inl (o4, 32, .inl mA)), (m5, .inl (o5, 32, .inl mU)), (m6, .inl (o6, 32, .inl mR))] s.heap.size := ⟨_, rfl⟩
  rw [← hAe] at hD
  have hA : ∀ q : Nat, s.heap.size ≤ q → A q := fun q h => by rw [hAe]; exact Or.inr h
  have hS : va_S A s.heap s.heap [] := va_S.rf
  have hl := lv_entry ([.ref mo, .int (nI 4)]) (n := 2) (Nat.le_of_ble_eq_true rfl)
  rw [lg_entry_eq]
  generalize (lg_sl ([.ref mo, .int (nI 4)]) ++ List.replicate (2 - (lg_sl ([.ref mo, .int (nI 4)])).length) Slot.unset).toArray = ls at hl ⊢
  have hl : lv_has ls 2 [(0, .ref mo), (1, .int (nI 4))] := hl
  refine lv_aload_n hx hb d_M_figure_0 rfl (lv_at hl 0 rfl) ?_
  refine lv_iload_n hx hb d_M_figure_1 rfl (lv_at hl 1 rfl) ?_
  refine lv_if_lt (tgt := 10) hx hb d_M_figure_2 rfl (fun hc2 => absurd hc2 (by decide)) (fun _ => ?_)
  refine lv_iload_n hx hb d_M_figure_5 rfl (lv_at hl 1 rfl) ?_
  refine lv_iconst (v := nI 5) hx hb d_M_figure_6 (by decide) ?_
  refine lv_icmp_le (tgt := 14) hx hb d_M_figure_7 rfl (fun _ => ?_) (fun hc7 => absurd hc7 (by decide))
  refine lv_iconst (v := nI 0) hx hb d_M_figure_14 (by decide) ?_
  refine va_put (D := D) (ci := 5) (v := .int (nI 0)) (ty := .int) (C := R_M) (T := F_M) (N := 10) hx hb hB in_M t_M t_M_ok n_M hown hK hP hD hS 0 rfl rfl 0 (by decide) (hB _ mf_M_31) (fun _ h9 => h9) rfl (by decide +kernel) rfl rfl (Nat.le_of_ble_eq_true rfl) d_M_figure_15 (fun H locs hP hD hS => ?_)
  have hP : va_P D cls [(mo, .inr (5, [.int (nI 0), .int mn, .ref m0, .int mg, .ref m1, .ref m2, .ref m3, .ref m4, .ref m5, .ref m6])), (m0, .inl (o0, 16, .inl h)), (m1, .inl (o1, 16, .inl mO)), (m2, .inl (o2, 16, .inl mG)), (m3, .inl (o3, 16, .inl mF)), (m4, .inl (o4, 32, .inl mA)), (m5, .inl (o5, 32, .inl mU)), (m6, .inl (o6, 32, .inl mR))] H := hP
  have hD : va_D A [(mo, .inr (5, [.int (nI 0), .int mn, .ref m0, .int mg, .ref m1, .ref m2, .ref m3, .ref m4, .ref m5, .ref m6])), (m0, .inl (o0, 16, .inl h)), (m1, .inl (o1, 16, .inl mO)), (m2, .inl (o2, 16, .inl mG)), (m3, .inl (o3, 16, .inl mF)), (m4, .inl (o4, 32, .inl mA)), (m5, .inl (o5, 32, .inl mU)), (m6, .inl (o6, 32, .inl mR))] := hD
  refine lv_aload_n hx hb d_M_figure_18 rfl (lv_at hl 0 rfl) ?_
  refine va_get (D := D) (ci := 5) (v := .int (nI 0)) (C := R_M) (T := F_M) (N := 10) hx hb hB in_M hown hK hP 0 rfl rfl 0 (by decide) (hB _ mf_M_31) (fun _ h9 => h9) rfl d_M_figure_19 ?_
  refine lv_if_le (tgt := 27) hx hb d_M_figure_22 rfl (fun _ => ?_) (fun hc22 => absurd hc22 (by decide))
  refine lv_aload_n hx hb d_M_figure_27 rfl (lv_at hl 0 rfl) ?_
  refine xw_v (wc := [(mo, .inr (5, [.int (nI 0), .int mn, .ref m0, .int mg, .ref m1, .ref m2, .ref m3, .ref m4, .ref m5, .ref m6])), (m0, .inl (o0, 16, .inl h)), (m1, .inl (o1, 16, .inl mO)), (m2, .inl (o2, 16, .inl mG)), (m3, .inl (o3, 16, .inl mF)), (m4, .inl (o4, 32, .inl mA)), (m5, .inl (o5, 32, .inl mU)), (m6, .inl (o6, 32, .inl mR))]) (wr := []) (w1 := [(mo, .inr (5, [.int (nI 0), .int mn, .ref m0, .int (nI (ct h)), .ref m1, .ref m2, .ref m3, .ref m4, .ref m5, .ref m6])), (m0, .inl (o0, 16, .inl h)), (m1, .inl (o1, 16, .inl (fun k => if k < ct h then nI (nx h (pl h k)) else mO k))), (m2, .inl (o2, 16, .inl (GR h))), (m3, .inl (o3, 16, .inl mF)), (m4, .inl (o4, 32, .inl mA)), (m5, .inl (o5, 32, .inl mU)), (m6, .inl (o6, 32, .inl mR))]) (va_runV (As := []) (rest := []) ⟨hx, hb, hml, hown, hB⟩ (k_M_findOrder l D mo m0 m1 m2 m3 m4 m5 m6 o0 o1 o2 o3 o4 o5 o6 (nI 0) mn mg h mO mG mF mA mU mR hg _) ⟨callB_of 0 hB (xg0 mc_M_findOrder) rfl rfl rfl (hB _ mz_M) (hB _ ml_M_73) (by decide +kernel) ⟨Nat.le_of_ble_eq_true rfl, Nat.le_of_ble_eq_true rfl⟩, hB _ mi_M_findOrder, hB _ me_M_findOrder⟩ (xqV (ws := [(mo, .inr (5, [.int (nI 0), .int mn, .ref m0, .int mg, .ref m1, .ref m2, .ref m3, .ref m4, .ref m5, .ref m6])), (m0, .inl (o0, 16, .inl h)), (m1, .inl (o1, 16, .inl mO)), (m2, .inl (o2, 16, .inl mG)), (m3, .inl (o3, 16, .inl mF)), (m4, .inl (o4, 32, .inl mA)), (m5, .inl (o5, 32, .inl mU)), (m6, .inl (o6, 32, .inl mR))]) (tys := [(o0, .int), (o1, .int), (o2, .int), (o3, .int), (o4, .int), (o5, .int), (o6, .int)]) (hP.sub [0, 1, 2, 3, 4, 5, 6, 7] rfl) (hD.sub [0, 1, 2, 3, 4, 5, 6, 7] (by decide) rfl) (hK.sub [0, 1, 2, 3, 4, 5, 6] rfl) hN (va_recv (ci := 5) (q0 := 0) (q := (R_M, F_M, 10)) hK hP rfl rfl)) rfl rfl hl.1 rfl (lv_room (Nat.le_of_ble_eq_true rfl)) d_M_figure_28 ⟨Nat.le_of_ble_eq_true rfl, Nat.le_of_ble_eq_true rfl⟩) hP hD hS hA [0, 1, 2, 3, 4, 5, 6, 7] [] rfl rfl (by decide) (by decide) (fun H locs hP hD hS => ?_)
  have hP : va_P D cls [(mo, .inr (5, [.int (nI 0), .int mn, .ref m0, .int (nI (ct h)), .ref m1, .ref m2, .ref m3, .ref m4, .ref m5, .ref m6])), (m0, .inl (o0, 16, .inl h)), (m1, .inl (o1, 16, .inl (fun k => if k < ct h then nI (nx h (pl h k)) else mO k))), (m2, .inl (o2, 16, .inl (GR h))), (m3, .inl (o3, 16, .inl mF)), (m4, .inl (o4, 32, .inl mA)), (m5, .inl (o5, 32, .inl mU)), (m6, .inl (o6, 32, .inl mR))] H := hP
  have hD : va_D A [(mo, .inr (5, [.int (nI 0), .int mn, .ref m0, .int (nI (ct h)), .ref m1, .ref m2, .ref m3, .ref m4, .ref m5, .ref m6])), (m0, .inl (o0, 16, .inl h)), (m1, .inl (o1, 16, .inl (fun k => if k < ct h then nI (nx h (pl h k)) else mO k))), (m2, .inl (o2, 16, .inl (GR h))), (m3, .inl (o3, 16, .inl mF)), (m4, .inl (o4, 32, .inl mA)), (m5, .inl (o5, 32, .inl mU)), (m6, .inl (o6, 32, .inl mR))] := hD
  refine lv_iload_n hx hb d_M_figure_31 rfl (lv_at hl 1 rfl) ?_
  refine lv_tableIn (tgt := 90) (off := 58) hx hb d_M_figure_32 (by decide) (by decide) (by decide) (by decide) ?_
  refine lv_aload_n hx hb d_M_figure_90 rfl (lv_at hl 0 rfl) ?_
  refine xw_i (wc := [(mo, .inr (5, [.int (nI 0), .int mn, .ref m0, .int (nI (ct h)), .ref m1, .ref m2, .ref m3, .ref m4, .ref m5, .ref m6])), (m0, .inl (o0, 16, .inl h)), (m1, .inl (o1, 16, .inl (fun k => if k < ct h then nI (nx h (pl h k)) else mO k))), (m2, .inl (o2, 16, .inl (GR h))), (m3, .inl (o3, 16, .inl mF)), (m4, .inl (o4, 32, .inl mA)), (m5, .inl (o5, 32, .inl mU)), (m6, .inl (o6, 32, .inl mR))]) (wr := []) (w1 := [(mo, .inr (5, [.int (nI 0), .int mn, .ref m0, .int (nI (ct h)), .ref m1, .ref m2, .ref m3, .ref m4, .ref m5, .ref m6])), (m0, .inl (o0, 16, .inl h)), (m1, .inl (o1, 16, .inl (fun k => if k < ct h then nI (nx h (pl h k)) else mO k))), (m2, .inl (o2, 16, .inl (GR h))), (m3, .inl (o3, 16, .inl mF)), (m4, .inl (o4, 32, .inl mA)), (m5, .inl (o5, 32, .inl mU)), (m6, .inl (o6, 32, .inl (mlF (fun i9 j9 => ldb h (GR h) ((odF h) i9) ((odF h) j9)) mR (ct h))))]) (va_runV (As := []) (rest := []) ⟨hx, hb, hml, hown, hB⟩ (k_M_longest l D mo m0 m1 m2 m3 m4 m5 m6 o0 o1 o2 o3 o4 o5 o6 (nI 0) mn (ct h) h (fun k => if k < ct h then nI (nx h (pl h k)) else mO k) (GR h) mF mA mU mR (odF h) (ct_le h) (odF_s h mO) _) ⟨callB_of 0 hB (xg0 mc_M_longest) rfl rfl rfl (hB _ mz_M) (hB _ ml_M_103) (by decide +kernel) ⟨Nat.le_of_ble_eq_true rfl, Nat.le_of_ble_eq_true rfl⟩, hB _ mi_M_longest, hB _ me_M_longest⟩ (xqV (ws := [(mo, .inr (5, [.int (nI 0), .int mn, .ref m0, .int (nI (ct h)), .ref m1, .ref m2, .ref m3, .ref m4, .ref m5, .ref m6])), (m0, .inl (o0, 16, .inl h)), (m1, .inl (o1, 16, .inl (fun k => if k < ct h then nI (nx h (pl h k)) else mO k))), (m2, .inl (o2, 16, .inl (GR h))), (m3, .inl (o3, 16, .inl mF)), (m4, .inl (o4, 32, .inl mA)), (m5, .inl (o5, 32, .inl mU)), (m6, .inl (o6, 32, .inl mR))]) (tys := [(o0, .int), (o1, .int), (o2, .int), (o3, .int), (o4, .int), (o5, .int), (o6, .int)]) (hP.sub [0, 1, 2, 3, 4, 5, 6, 7] rfl) (hD.sub [0, 1, 2, 3, 4, 5, 6, 7] (by decide) rfl) (hK.sub [0, 1, 2, 3, 4, 5, 6] rfl) hN (va_recv (ci := 5) (q0 := 0) (q := (R_M, F_M, 10)) hK hP rfl rfl)) rfl rfl hl.1 rfl (lv_room (Nat.le_of_ble_eq_true rfl)) d_M_figure_91 ⟨Nat.le_of_ble_eq_true rfl, Nat.le_of_ble_eq_true rfl⟩) hP hD hS hA [0, 1, 2, 3, 4, 5, 6, 7] [] rfl rfl (by decide) (by decide) (fun H locs hP hD hS => ?_)
  have hP : va_P D cls [(mo, .inr (5, [.int (nI 0), .int mn, .ref m0, .int (nI (ct h)), .ref m1, .ref m2, .ref m3, .ref m4, .ref m5, .ref m6])), (m0, .inl (o0, 16, .inl h)), (m1, .inl (o1, 16, .inl (fun k => if k < ct h then nI (nx h (pl h k)) else mO k))), (m2, .inl (o2, 16, .inl (GR h))), (m3, .inl (o3, 16, .inl mF)), (m4, .inl (o4, 32, .inl mA)), (m5, .inl (o5, 32, .inl mU)), (m6, .inl (o6, 32, .inl (mlF (fun i9 j9 => ldb h (GR h) ((odF h) i9) ((odF h) j9)) mR (ct h))))] H := hP
  have hD : va_D A [(mo, .inr (5, [.int (nI 0), .int mn, .ref m0, .int (nI (ct h)), .ref m1, .ref m2, .ref m3, .ref m4, .ref m5, .ref m6])), (m0, .inl (o0, 16, .inl h)), (m1, .inl (o1, 16, .inl (fun k => if k < ct h then nI (nx h (pl h k)) else mO k))), (m2, .inl (o2, 16, .inl (GR h))), (m3, .inl (o3, 16, .inl mF)), (m4, .inl (o4, 32, .inl mA)), (m5, .inl (o5, 32, .inl mU)), (m6, .inl (o6, 32, .inl (mlF (fun i9 j9 => ldb h (GR h) ((odF h) i9) ((odF h) j9)) mR (ct h))))] := hD
  have hP9 := hP.sub (ws' := [(mo, .inr (5, [.int (nI 0), .int mn, .ref m0, .int (nI (ct h)), .ref m1, .ref m2, .ref m3, .ref m4, .ref m5, .ref m6])), (m0, .inl (o0, 16, .inl h)), (m1, .inl (o1, 16, .inl (fun k => if k < ct h then nI (nx h (pl h k)) else mO k))), (m2, .inl (o2, 16, .inl (GR h))), (m3, .inl (o3, 16, .inl mF)), (m4, .inl (o4, 32, .inl mA)), (m5, .inl (o5, 32, .inl mU)), (m6, .inl (o6, 32, .inl (mlF (fun i9 j9 => ldb h (GR h) (odF h i9) (odF h j9)) mR (ct h))))]) [0, 1, 2, 3, 4, 5, 6, 7] rfl
  have hD9 := hD.sub (ws' := [(mo, .inr (5, [.int (nI 0), .int mn, .ref m0, .int (nI (ct h)), .ref m1, .ref m2, .ref m3, .ref m4, .ref m5, .ref m6])), (m0, .inl (o0, 16, .inl h)), (m1, .inl (o1, 16, .inl (fun k => if k < ct h then nI (nx h (pl h k)) else mO k))), (m2, .inl (o2, 16, .inl (GR h))), (m3, .inl (o3, 16, .inl mF)), (m4, .inl (o4, 32, .inl mA)), (m5, .inl (o5, 32, .inl mU)), (m6, .inl (o6, 32, .inl (mlF (fun i9 j9 => ldb h (GR h) (odF h i9) (odF h j9)) mR (ct h))))]) [0, 1, 2, 3, 4, 5, 6, 7] (by decide) rfl
  subst hAe
  refine xv_top (x' := mlB (fun i9 j9 => ldb h (GR h) (odF h i9) (odF h j9)) mR (ct h)) (rfl) ?_
  exact W.iret (v := mlB (fun i9 j9 => ldb h (GR h) (odF h i9) (odF h j9)) mR (ct h)) hx hb hr (fun t ht hW => ⟨⟨_, (), rfl, rfl, by rw [ht]; exact hP9, va_K.moved hW.alike hK, hD9⟩, hS.F ht⟩) hS.2.2 d_M_figure_94
set_option maxHeartbeats 4000000 in
set_option maxRecDepth 100000 in
theorem k_M_figure_5 (l : Launch) (D : va_G) (mo m0 m1 m2 m3 m4 m5 m6 : Nat) (o0 o1 o2 o3 o4 o5 o6 : ClassId) (mc : Int32) (mn : Int32) (mg : Int32) (h : Nat → Int32) (mO : Nat → Int32) (mG : Nat → Int32) (mF : Nat → Int32) (mA : Nat → Int32) (mU : Nat → Int32) (mR : Nat → Int32) (hg : gd h) (sz : Nat) : Met l y_M_figure (Cond.code y_M_figure c_M_figure 2 (some .int) :: BS) { frames := 5, cells := 0, slots := 0, locals := 114 } (va_Pc [.ref mo, .int (nI 5)] (xWp D [(mo, .inr (5, [.int mc, .int mn, .ref m0, .int mg, .ref m1, .ref m2, .ref m3, .ref m4, .ref m5, .ref m6])), (m0, .inl (o0, 16, .inl h)), (m1, .inl (o1, 16, .inl mO)), (m2, .inl (o2, 16, .inl mG)), (m3, .inl (o3, 16, .inl mF)), (m4, .inl (o4, 32, .inl mA)), (m5, .inl (o5, 32, .inl mU)), (m6, .inl (o6, 32, .inl mR))] [(o0, .int), (o1, .int), (o2, .int), (o3, .int), (o4, .int), (o5, .int), (o6, .int)] sz)) (xQi D [(mo, .inr (5, [.int mc, .int mn, .ref m0, .int mg, .ref m1, .ref m2, .ref m3, .ref m4, .ref m5, .ref m6])), (m0, .inl (o0, 16, .inl h)), (m1, .inl (o1, 16, .inl mO)), (m2, .inl (o2, 16, .inl mG)), (m3, .inl (o3, 16, .inl mF)), (m4, .inl (o4, 32, .inl mA)), (m5, .inl (o5, 32, .inl mU)), (m6, .inl (o6, 32, .inl mR))] [(mo, .inr (5, [.int (nI 0), .int mn, .ref m0, .int (nI (ct h)), .ref m1, .ref m2, .ref m3, .ref m4, .ref m5, .ref m6])), (m0, .inl (o0, 16, .inl h)), (m1, .inl (o1, 16, .inl (fun k => if k < ct h then nI (nx h (pl h k)) else mO k))), (m2, .inl (o2, 16, .inl (GR h))), (m3, .inl (o3, 16, .inl mF)), (m4, .inl (o4, 32, .inl mA)), (m5, .inl (o5, 32, .inl mU)), (m6, .inl (o6, 32, .inl mR))] [(o0, .int), (o1, .int), (o2, .int), (o3, .int), (o4, .int), (o5, .int), (o6, .int)] sz (nI (sq (fun a9 => cq (brP h a9) 16) 16))) 0 0 (va_A [(mo, .inr (5, [.int mc, .int mn, .ref m0, .int mg, .ref m1, .ref m2, .ref m3, .ref m4, .ref m5, .ref m6])), (m0, .inl (o0, 16, .inl h)), (m1, .inl (o1, 16, .inl mO)), (m2, .inl (o2, 16, .inl mG)), (m3, .inl (o3, 16, .inl mF)), (m4, .inl (o4, 32, .inl mA)), (m5, .inl (o5, 32, .inl mU)), (m6, .inl (o6, 32, .inl mR))] sz) := by
  refine Met.ofW (cc := c_M_figure) (maxL := 2) (ret := (some .int)) (by decide) rfl ?_
  intro p e s m args below meth c s₁ B hml hv
  obtain ⟨rfl, hsz, hP, hK, hD0, hN⟩ := hv
  have hx := B.exec
  have hb := B.bytes
  have hr := B.returns
  have hB := xB B.pre
  have hown : s.vm.findClass R_M = some m.cls := findClass_of_methodNamed B.named
  have hlocks := B.notSynchronized
  subst hsz
  have hD := hD0.self (sz := s.heap.size)
  obtain ⟨A, hAe⟩ : ∃ A, A = va_A [(mo, .inr (5, [.int mc, .int mn, .ref m0, .int mg, .ref m1, .ref m2, .ref m3, .ref m4, .ref m5, .ref m6])), (m0, .inl (o0, 16, .inl h)), (m1, .inl (o1, 16, .inl mO)), (m2, .inl (o2, 16, .inl mG)), (m3, .inl (o3, 16, .inl mF)), (m4, .inl (o4, 32, .inl mA)), (m5, .inl (o5, 32, .inl mU)), (m6, .inl (o6, 32, .inl mR))] s.heap.size := ⟨_, rfl⟩
  rw [← hAe] at hD
  have hA : ∀ q : Nat, s.heap.size ≤ q → A q := fun q h => by rw [hAe]; exact Or.inr h
  have hS : va_S A s.heap s.heap [] := va_S.rf
  have hl := lv_entry ([.ref mo, .int (nI 5)]) (n := 2) (Nat.le_of_ble_eq_true rfl)
  rw [lg_entry_eq]
  generalize (lg_sl ([.ref mo, .int (nI 5)]) ++ List.replicate (2 - (lg_sl ([.ref mo, .int (nI 5)])).length) Slot.unset).toArray = ls at hl ⊢
  have hl : lv_has ls 2 [(0, .ref mo), (1, .int (nI 5))] := hl
  refine lv_aload_n hx hb d_M_figure_0 rfl (lv_at hl 0 rfl) ?_
  refine lv_iload_n hx hb d_M_figure_1 rfl (lv_at hl 1 rfl) ?_
  refine lv_if_lt (tgt := 10) hx hb d_M_figure_2 rfl (fun hc2 => absurd hc2 (by decide)) (fun _ => ?_)
  refine lv_iload_n hx hb d_M_figure_5 rfl (lv_at hl 1 rfl) ?_
  refine lv_iconst (v := nI 5) hx hb d_M_figure_6 (by decide) ?_
  refine lv_icmp_le (tgt := 14) hx hb d_M_figure_7 rfl (fun _ => ?_) (fun hc7 => absurd hc7 (by decide))
  refine lv_iconst (v := nI 0) hx hb d_M_figure_14 (by decide) ?_
  refine va_put (D := D) (ci := 5) (v := .int (nI 0)) (ty := .int) (C := R_M) (T := F_M) (N := 10) hx hb hB in_M t_M t_M_ok n_M hown hK hP hD hS 0 rfl rfl 0 (by decide) (hB _ mf_M_31) (fun _ h9 => h9) rfl (by decide +kernel) rfl rfl (Nat.le_of_ble_eq_true rfl) d_M_figure_15 (fun H locs hP hD hS => ?_)
  have hP : va_P D cls [(mo, .inr (5, [.int (nI 0), .int mn, .ref m0, .int mg, .ref m1, .ref m2, .ref m3, .ref m4, .ref m5, .ref m6])), (m0, .inl (o0, 16, .inl h)), (m1, .inl (o1, 16, .inl mO)), (m2, .inl (o2, 16, .inl mG)), (m3, .inl (o3, 16, .inl mF)), (m4, .inl (o4, 32, .inl mA)), (m5, .inl (o5, 32, .inl mU)), (m6, .inl (o6, 32, .inl mR))] H := hP
  have hD : va_D A [(mo, .inr (5, [.int (nI 0), .int mn, .ref m0, .int mg, .ref m1, .ref m2, .ref m3, .ref m4, .ref m5, .ref m6])), (m0, .inl (o0, 16, .inl h)), (m1, .inl (o1, 16, .inl mO)), (m2, .inl (o2, 16, .inl mG)), (m3, .inl (o3, 16, .inl mF)), (m4, .inl (o4, 32, .inl mA)), (m5, .inl (o5, 32, .inl mU)), (m6, .inl (o6, 32, .inl mR))] := hD
  refine lv_aload_n hx hb d_M_figure_18 rfl (lv_at hl 0 rfl) ?_
  refine va_get (D := D) (ci := 5) (v := .int (nI 0)) (C := R_M) (T := F_M) (N := 10) hx hb hB in_M hown hK hP 0 rfl rfl 0 (by decide) (hB _ mf_M_31) (fun _ h9 => h9) rfl d_M_figure_19 ?_
  refine lv_if_le (tgt := 27) hx hb d_M_figure_22 rfl (fun _ => ?_) (fun hc22 => absurd hc22 (by decide))
  refine lv_aload_n hx hb d_M_figure_27 rfl (lv_at hl 0 rfl) ?_
  refine xw_v (wc := [(mo, .inr (5, [.int (nI 0), .int mn, .ref m0, .int mg, .ref m1, .ref m2, .ref m3, .ref m4, .ref m5, .ref m6])), (m0, .inl (o0, 16, .inl h)), (m1, .inl (o1, 16, .inl mO)), (m2, .inl (o2, 16, .inl mG)), (m3, .inl (o3, 16, .inl mF)), (m4, .inl (o4, 32, .inl mA)), (m5, .inl (o5, 32, .inl mU)), (m6, .inl (o6, 32, .inl mR))]) (wr := []) (w1 := [(mo, .inr (5, [.int (nI 0), .int mn, .ref m0, .int (nI (ct h)), .ref m1, .ref m2, .ref m3, .ref m4, .ref m5, .ref m6])), (m0, .inl (o0, 16, .inl h)), (m1, .inl (o1, 16, .inl (fun k => if k < ct h then nI (nx h (pl h k)) else mO k))), (m2, .inl (o2, 16, .inl (GR h))), (m3, .inl (o3, 16, .inl mF)), (m4, .inl (o4, 32, .inl mA)), (m5, .inl (o5, 32, .inl mU)), (m6, .inl (o6, 32, .inl mR))]) (va_runV (As := []) (rest := []) ⟨hx, hb, hml, hown, hB⟩ (k_M_findOrder l D mo m0 m1 m2 m3 m4 m5 m6 o0 o1 o2 o3 o4 o5 o6 (nI 0) mn mg h mO mG mF mA mU mR hg _) ⟨callB_of 0 hB (xg0 mc_M_findOrder) rfl rfl rfl (hB _ mz_M) (hB _ ml_M_73) (by decide +kernel) ⟨Nat.le_of_ble_eq_true rfl, Nat.le_of_ble_eq_true rfl⟩, hB _ mi_M_findOrder, hB _ me_M_findOrder⟩ (xqV (ws := [(mo, .inr (5, [.int (nI 0), .int mn, .ref m0, .int mg, .ref m1, .ref m2, .ref m3, .ref m4, .ref m5, .ref m6])), (m0, .inl (o0, 16, .inl h)), (m1, .inl (o1, 16, .inl mO)), (m2, .inl (o2, 16, .inl mG)), (m3, .inl (o3, 16, .inl mF)), (m4, .inl (o4, 32, .inl mA)), (m5, .inl (o5, 32, .inl mU)), (m6, .inl (o6, 32, .inl mR))]) (tys := [(o0, .int), (o1, .int), (o2, .int), (o3, .int), (o4, .int), (o5, .int), (o6, .int)]) (hP.sub [0, 1, 2, 3, 4, 5, 6, 7] rfl) (hD.sub [0, 1, 2, 3, 4, 5, 6, 7] (by decide) rfl) (hK.sub [0, 1, 2, 3, 4, 5, 6] rfl) hN (va_recv (ci := 5) (q0 := 0) (q := (R_M, F_M, 10)) hK hP rfl rfl)) rfl rfl hl.1 rfl (lv_room (Nat.le_of_ble_eq_true rfl)) d_M_figure_28 ⟨Nat.le_of_ble_eq_true rfl, Nat.le_of_ble_eq_true rfl⟩) hP hD hS hA [0, 1, 2, 3, 4, 5, 6, 7] [] rfl rfl (by decide) (by decide) (fun H locs hP hD hS => ?_)
  have hP : va_P D cls [(mo, .inr (5, [.int (nI 0), .int mn, .ref m0, .int (nI (ct h)), .ref m1, .ref m2, .ref m3, .ref m4, .ref m5, .ref m6])), (m0, .inl (o0, 16, .inl h)), (m1, .inl (o1, 16, .inl (fun k => if k < ct h then nI (nx h (pl h k)) else mO k))), (m2, .inl (o2, 16, .inl (GR h))), (m3, .inl (o3, 16, .inl mF)), (m4, .inl (o4, 32, .inl mA)), (m5, .inl (o5, 32, .inl mU)), (m6, .inl (o6, 32, .inl mR))] H := hP
  have hD : va_D A [(mo, .inr (5, [.int (nI 0), .int mn, .ref m0, .int (nI (ct h)), .ref m1, .ref m2, .ref m3, .ref m4, .ref m5, .ref m6])), (m0, .inl (o0, 16, .inl h)), (m1, .inl (o1, 16, .inl (fun k => if k < ct h then nI (nx h (pl h k)) else mO k))), (m2, .inl (o2, 16, .inl (GR h))), (m3, .inl (o3, 16, .inl mF)), (m4, .inl (o4, 32, .inl mA)), (m5, .inl (o5, 32, .inl mU)), (m6, .inl (o6, 32, .inl mR))] := hD
  refine lv_iload_n hx hb d_M_figure_31 rfl (lv_at hl 1 rfl) ?_
  refine lv_tableOut (tgt := 95) hx hb d_M_figure_32 (by decide) (by decide) ?_
  refine lv_aload_n hx hb d_M_figure_95 rfl (lv_at hl 0 rfl) ?_
  refine xw_i (wc := [(mo, .inr (5, [.int (nI 0), .int mn, .ref m0, .int (nI (ct h)), .ref m1, .ref m2, .ref m3, .ref m4, .ref m5, .ref m6])), (m0, .inl (o0, 16, .inl h)), (m1, .inl (o1, 16, .inl (fun k => if k < ct h then nI (nx h (pl h k)) else mO k))), (m2, .inl (o2, 16, .inl (GR h))), (m3, .inl (o3, 16, .inl mF)), (m4, .inl (o4, 32, .inl mA)), (m5, .inl (o5, 32, .inl mU)), (m6, .inl (o6, 32, .inl mR))]) (wr := []) (w1 := [(mo, .inr (5, [.int (nI 0), .int mn, .ref m0, .int (nI (ct h)), .ref m1, .ref m2, .ref m3, .ref m4, .ref m5, .ref m6])), (m0, .inl (o0, 16, .inl h)), (m1, .inl (o1, 16, .inl (fun k => if k < ct h then nI (nx h (pl h k)) else mO k))), (m2, .inl (o2, 16, .inl (GR h))), (m3, .inl (o3, 16, .inl mF)), (m4, .inl (o4, 32, .inl mA)), (m5, .inl (o5, 32, .inl mU)), (m6, .inl (o6, 32, .inl mR))]) (va_runV (As := []) (rest := []) ⟨hx, hb, hml, hown, hB⟩ (k_M_bridges l D mo m0 m1 m2 m3 m4 m5 m6 o0 o1 o2 o3 o4 o5 o6 (nI 0) mn (nI (ct h)) h (fun k => if k < ct h then nI (nx h (pl h k)) else mO k) (GR h) mF mA mU mR hg _) ⟨callB_of 0 hB (xg0 mc_M_bridges) rfl rfl rfl (hB _ mz_M) (hB _ ml_M_107) (by decide +kernel) ⟨Nat.le_of_ble_eq_true rfl, Nat.le_of_ble_eq_true rfl⟩, hB _ mi_M_bridges, hB _ me_M_bridges⟩ (xqV (ws := [(mo, .inr (5, [.int (nI 0), .int mn, .ref m0, .int (nI (ct h)), .ref m1, .ref m2, .ref m3, .ref m4, .ref m5, .ref m6])), (m0, .inl (o0, 16, .inl h)), (m1, .inl (o1, 16, .inl (fun k => if k < ct h then nI (nx h (pl h k)) else mO k))), (m2, .inl (o2, 16, .inl (GR h))), (m3, .inl (o3, 16, .inl mF)), (m4, .inl (o4, 32, .inl mA)), (m5, .inl (o5, 32, .inl mU)), (m6, .inl (o6, 32, .inl mR))]) (tys := [(o0, .int), (o1, .int), (o2, .int), (o3, .int), (o4, .int), (o5, .int), (o6, .int)]) (hP.sub [0, 1, 2, 3, 4, 5, 6, 7] rfl) (hD.sub [0, 1, 2, 3, 4, 5, 6, 7] (by decide) rfl) (hK.sub [0, 1, 2, 3, 4, 5, 6] rfl) hN (va_recv (ci := 5) (q0 := 0) (q := (R_M, F_M, 10)) hK hP rfl rfl)) rfl rfl hl.1 rfl (lv_room (Nat.le_of_ble_eq_true rfl)) d_M_figure_96 ⟨Nat.le_of_ble_eq_true rfl, Nat.le_of_ble_eq_true rfl⟩) hP hD hS hA [0, 1, 2, 3, 4, 5, 6, 7] [] rfl rfl (by decide) (by decide) (fun H locs hP hD hS => ?_)
  have hP : va_P D cls [(mo, .inr (5, [.int (nI 0), .int mn, .ref m0, .int (nI (ct h)), .ref m1, .ref m2, .ref m3, .ref m4, .ref m5, .ref m6])), (m0, .inl (o0, 16, .inl h)), (m1, .inl (o1, 16, .inl (fun k => if k < ct h then nI (nx h (pl h k)) else mO k))), (m2, .inl (o2, 16, .inl (GR h))), (m3, .inl (o3, 16, .inl mF)), (m4, .inl (o4, 32, .inl mA)), (m5, .inl (o5, 32, .inl mU)), (m6, .inl (o6, 32, .inl mR))] H := hP
  have hD : va_D A [(mo, .inr (5, [.int (nI 0), .int mn, .ref m0, .int (nI (ct h)), .ref m1, .ref m2, .ref m3, .ref m4, .ref m5, .ref m6])), (m0, .inl (o0, 16, .inl h)), (m1, .inl (o1, 16, .inl (fun k => if k < ct h then nI (nx h (pl h k)) else mO k))), (m2, .inl (o2, 16, .inl (GR h))), (m3, .inl (o3, 16, .inl mF)), (m4, .inl (o4, 32, .inl mA)), (m5, .inl (o5, 32, .inl mU)), (m6, .inl (o6, 32, .inl mR))] := hD
  have hP9 := hP.sub (ws' := [(mo, .inr (5, [.int (nI 0), .int mn, .ref m0, .int (nI (ct h)), .ref m1, .ref m2, .ref m3, .ref m4, .ref m5, .ref m6])), (m0, .inl (o0, 16, .inl h)), (m1, .inl (o1, 16, .inl (fun k => if k < ct h then nI (nx h (pl h k)) else mO k))), (m2, .inl (o2, 16, .inl (GR h))), (m3, .inl (o3, 16, .inl mF)), (m4, .inl (o4, 32, .inl mA)), (m5, .inl (o5, 32, .inl mU)), (m6, .inl (o6, 32, .inl mR))]) [0, 1, 2, 3, 4, 5, 6, 7] rfl
  have hD9 := hD.sub (ws' := [(mo, .inr (5, [.int (nI 0), .int mn, .ref m0, .int (nI (ct h)), .ref m1, .ref m2, .ref m3, .ref m4, .ref m5, .ref m6])), (m0, .inl (o0, 16, .inl h)), (m1, .inl (o1, 16, .inl (fun k => if k < ct h then nI (nx h (pl h k)) else mO k))), (m2, .inl (o2, 16, .inl (GR h))), (m3, .inl (o3, 16, .inl mF)), (m4, .inl (o4, 32, .inl mA)), (m5, .inl (o5, 32, .inl mU)), (m6, .inl (o6, 32, .inl mR))]) [0, 1, 2, 3, 4, 5, 6, 7] (by decide) rfl
  subst hAe
  exact W.iret (v := nI (sq (fun a9 => cq (brP h a9) 16) 16)) hx hb hr (fun t ht hW => ⟨⟨_, (), rfl, rfl, by rw [ht]; exact hP9, va_K.moved hW.alike hK, hD9⟩, hS.F ht⟩) hS.2.2 d_M_figure_99
set_option maxHeartbeats 4000000 in
set_option maxRecDepth 100000 in
theorem k_M_figure_bad (l : Launch) (D : va_G) (mo m0 m1 m2 m3 m4 m5 m6 : Nat) (o0 o1 o2 o3 o4 o5 o6 : ClassId) (mc : Int32) (mn : Int32) (mg : Int32) (h : Nat → Int32) (mO : Nat → Int32) (mG : Nat → Int32) (mF : Nat → Int32) (mA : Nat → Int32) (mU : Nat → Int32) (mR : Nat → Int32) (x : Int32) (hb9 : x < 0 ∨ ¬ x ≤ nI 5) (sz : Nat) : Met l y_M_figure (Cond.code y_M_figure c_M_figure 2 (some .int) :: BS) { frames := 0, cells := 0, slots := 0, locals := 0 } (va_Pc [.ref mo, .int x] (xWp D [(mo, .inr (5, [.int mc, .int mn, .ref m0, .int mg, .ref m1, .ref m2, .ref m3, .ref m4, .ref m5, .ref m6])), (m0, .inl (o0, 16, .inl h)), (m1, .inl (o1, 16, .inl mO)), (m2, .inl (o2, 16, .inl mG)), (m3, .inl (o3, 16, .inl mF)), (m4, .inl (o4, 32, .inl mA)), (m5, .inl (o5, 32, .inl mU)), (m6, .inl (o6, 32, .inl mR))] [(o0, .int), (o1, .int), (o2, .int), (o3, .int), (o4, .int), (o5, .int), (o6, .int)] sz)) (xQi D [(mo, .inr (5, [.int mc, .int mn, .ref m0, .int mg, .ref m1, .ref m2, .ref m3, .ref m4, .ref m5, .ref m6])), (m0, .inl (o0, 16, .inl h)), (m1, .inl (o1, 16, .inl mO)), (m2, .inl (o2, 16, .inl mG)), (m3, .inl (o3, 16, .inl mF)), (m4, .inl (o4, 32, .inl mA)), (m5, .inl (o5, 32, .inl mU)), (m6, .inl (o6, 32, .inl mR))] [(mo, .inr (5, [.int (nI 1), .int mn, .ref m0, .int mg, .ref m1, .ref m2, .ref m3, .ref m4, .ref m5, .ref m6])), (m0, .inl (o0, 16, .inl h)), (m1, .inl (o1, 16, .inl mO)), (m2, .inl (o2, 16, .inl mG)), (m3, .inl (o3, 16, .inl mF)), (m4, .inl (o4, 32, .inl mA)), (m5, .inl (o5, 32, .inl mU)), (m6, .inl (o6, 32, .inl mR))] [(o0, .int), (o1, .int), (o2, .int), (o3, .int), (o4, .int), (o5, .int), (o6, .int)] sz (nI 0)) 0 0 (va_A [(mo, .inr (5, [.int mc, .int mn, .ref m0, .int mg, .ref m1, .ref m2, .ref m3, .ref m4, .ref m5, .ref m6])), (m0, .inl (o0, 16, .inl h)), (m1, .inl (o1, 16, .inl mO)), (m2, .inl (o2, 16, .inl mG)), (m3, .inl (o3, 16, .inl mF)), (m4, .inl (o4, 32, .inl mA)), (m5, .inl (o5, 32, .inl mU)), (m6, .inl (o6, 32, .inl mR))] sz) := by
  refine Met.ofW (cc := c_M_figure) (maxL := 2) (ret := (some .int)) (by decide) rfl ?_
  intro p e s m args below meth c s₁ B hml hv
  obtain ⟨rfl, hsz, hP, hK, hD0, hN⟩ := hv
  have hx := B.exec
  have hb := B.bytes
  have hr := B.returns
  have hB := xB B.pre
  have hown : s.vm.findClass R_M = some m.cls := findClass_of_methodNamed B.named
  have hlocks := B.notSynchronized
  subst hsz
  have hD := hD0.self (sz := s.heap.size)
  obtain ⟨A, hAe⟩ : ∃ A, A = va_A [(mo, .inr (5, [.int mc, .int mn, .ref m0, .int mg, .ref m1, .ref m2, .ref m3, .ref m4, .ref m5, .ref m6])), (m0, .inl (o0, 16, .inl h)), (m1, .inl (o1, 16, .inl mO)), (m2, .inl (o2, 16, .inl mG)), (m3, .inl (o3, 16, .inl mF)), (m4, .inl (o4, 32, .inl mA)), (m5, .inl (o5, 32, .inl mU)), (m6, .inl (o6, 32, .inl mR))] s.heap.size := ⟨_, rfl⟩
  rw [← hAe] at hD
  have hA : ∀ q : Nat, s.heap.size ≤ q → A q := fun q h => by rw [hAe]; exact Or.inr h
  have hS : va_S A s.heap s.heap [] := va_S.rf
  have hl := lv_entry ([.ref mo, .int x]) (n := 2) (Nat.le_of_ble_eq_true rfl)
  rw [lg_entry_eq]
  generalize (lg_sl ([.ref mo, .int x]) ++ List.replicate (2 - (lg_sl ([.ref mo, .int x])).length) Slot.unset).toArray = ls at hl ⊢
  have hl : lv_has ls 2 [(0, .ref mo), (1, .int x)] := hl
  refine lv_aload_n hx hb d_M_figure_0 rfl (lv_at hl 0 rfl) ?_
  refine lv_iload_n hx hb d_M_figure_1 rfl (lv_at hl 1 rfl) ?_
  refine lv_if_lt (tgt := 10) hx hb d_M_figure_2 rfl (fun hc2 => ?_) (fun hc2 => ?_)
  · refine lv_iconst (v := nI 1) hx hb d_M_figure_10 (by decide) ?_
    refine lv_goto (tgt := 15) hx hb d_M_figure_11 rfl ?_
    refine va_put (D := D) (ci := 5) (v := .int (nI 1)) (ty := .int) (C := R_M) (T := F_M) (N := 10) hx hb hB in_M t_M t_M_ok n_M hown hK hP hD hS 0 rfl rfl 0 (by decide) (hB _ mf_M_31) (fun _ h9 => h9) rfl (by decide +kernel) rfl rfl (Nat.le_of_ble_eq_true rfl) d_M_figure_15 (fun H locs hP hD hS => ?_)
    have hP : va_P D cls [(mo, .inr (5, [.int (nI 1), .int mn, .ref m0, .int mg, .ref m1, .ref m2, .ref m3, .ref m4, .ref m5, .ref m6])), (m0, .inl (o0, 16, .inl h)), (m1, .inl (o1, 16, .inl mO)), (m2, .inl (o2, 16, .inl mG)), (m3, .inl (o3, 16, .inl mF)), (m4, .inl (o4, 32, .inl mA)), (m5, .inl (o5, 32, .inl mU)), (m6, .inl (o6, 32, .inl mR))] H := hP
    have hD : va_D A [(mo, .inr (5, [.int (nI 1), .int mn, .ref m0, .int mg, .ref m1, .ref m2, .ref m3, .ref m4, .ref m5, .ref m6])), (m0, .inl (o0, 16, .inl h)), (m1, .inl (o1, 16, .inl mO)), (m2, .inl (o2, 16, .inl mG)), (m3, .inl (o3, 16, .inl mF)), (m4, .inl (o4, 32, .inl mA)), (m5, .inl (o5, 32, .inl mU)), (m6, .inl (o6, 32, .inl mR))] := hD
    refine lv_aload_n hx hb d_M_figure_18 rfl (lv_at hl 0 rfl) ?_
    refine va_get (D := D) (ci := 5) (v := .int (nI 1)) (C := R_M) (T := F_M) (N := 10) hx hb hB in_M hown hK hP 0 rfl rfl 0 (by decide) (hB _ mf_M_31) (fun _ h9 => h9) rfl d_M_figure_19 ?_
    refine lv_if_le (tgt := 27) hx hb d_M_figure_22 rfl (fun hc22 => absurd hc22 (by decide)) (fun _ => ?_)
    refine lv_iconst (v := nI 0) hx hb d_M_figure_25 (by decide) ?_
    have hP9 := hP.sub (ws' := [(mo, .inr (5, [.int (nI 1), .int mn, .ref m0, .int mg, .ref m1, .ref m2, .ref m3, .ref m4, .ref m5, .ref m6])), (m0, .inl (o0, 16, .inl h)), (m1, .inl (o1, 16, .inl mO)), (m2, .inl (o2, 16, .inl mG)), (m3, .inl (o3, 16, .inl mF)), (m4, .inl (o4, 32, .inl mA)), (m5, .inl (o5, 32, .inl mU)), (m6, .inl (o6, 32, .inl mR))]) [0, 1, 2, 3, 4, 5, 6, 7] rfl
    have hD9 := hD.sub (ws' := [(mo, .inr (5, [.int (nI 1), .int mn, .ref m0, .int mg, .ref m1, .ref m2, .ref m3, .ref m4, .ref m5, .ref m6])), (m0, .inl (o0, 16, .inl h)), (m1, .inl (o1, 16, .inl mO)), (m2, .inl (o2, 16, .inl mG)), (m3, .inl (o3, 16, .inl mF)), (m4, .inl (o4, 32, .inl mA)), (m5, .inl (o5, 32, .inl mU)), (m6, .inl (o6, 32, .inl mR))]) [0, 1, 2, 3, 4, 5, 6, 7] (by decide) rfl
    subst hAe
    exact W.iret (v := nI 0) hx hb hr (fun t ht hW => ⟨⟨_, (), rfl, rfl, by rw [ht]; exact hP9, va_K.moved hW.alike hK, hD9⟩, hS.F ht⟩) hS.2.2 d_M_figure_26
  · refine lv_iload_n hx hb d_M_figure_5 rfl (lv_at hl 1 rfl) ?_
    refine lv_iconst (v := nI 5) hx hb d_M_figure_6 (by decide) ?_
    refine lv_icmp_le (tgt := 14) hx hb d_M_figure_7 rfl (fun hc7 => ?_) (fun hc7 => ?_)
    · exact (hb9.elim (fun q9 => absurd q9 hc2) (fun q9 => absurd hc7 q9))
    · refine lv_iconst (v := nI 1) hx hb d_M_figure_10 (by decide) ?_
      refine lv_goto (tgt := 15) hx hb d_M_figure_11 rfl ?_
      refine va_put (D := D) (ci := 5) (v := .int (nI 1)) (ty := .int) (C := R_M) (T := F_M) (N := 10) hx hb hB in_M t_M t_M_ok n_M hown hK hP hD hS 0 rfl rfl 0 (by decide) (hB _ mf_M_31) (fun _ h9 => h9) rfl (by decide +kernel) rfl rfl (Nat.le_of_ble_eq_true rfl) d_M_figure_15 (fun H locs hP hD hS => ?_)
      have hP : va_P D cls [(mo, .inr (5, [.int (nI 1), .int mn, .ref m0, .int mg, .ref m1, .ref m2, .ref m3, .ref m4, .ref m5, .ref m6])), (m0, .inl (o0, 16, .inl h)), (m1, .inl (o1, 16, .inl mO)), (m2, .inl (o2, 16, .inl mG)), (m3, .inl (o3, 16, .inl mF)), (m4, .inl (o4, 32, .inl mA)), (m5, .inl (o5, 32, .inl mU)), (m6, .inl (o6, 32, .inl mR))] H := hP
      have hD : va_D A [(mo, .inr (5, [.int (nI 1), .int mn, .ref m0, .int mg, .ref m1, .ref m2, .ref m3, .ref m4, .ref m5, .ref m6])), (m0, .inl (o0, 16, .inl h)), (m1, .inl (o1, 16, .inl mO)), (m2, .inl (o2, 16, .inl mG)), (m3, .inl (o3, 16, .inl mF)), (m4, .inl (o4, 32, .inl mA)), (m5, .inl (o5, 32, .inl mU)), (m6, .inl (o6, 32, .inl mR))] := hD
      refine lv_aload_n hx hb d_M_figure_18 rfl (lv_at hl 0 rfl) ?_
      refine va_get (D := D) (ci := 5) (v := .int (nI 1)) (C := R_M) (T := F_M) (N := 10) hx hb hB in_M hown hK hP 0 rfl rfl 0 (by decide) (hB _ mf_M_31) (fun _ h9 => h9) rfl d_M_figure_19 ?_
      refine lv_if_le (tgt := 27) hx hb d_M_figure_22 rfl (fun hc22 => absurd hc22 (by decide)) (fun _ => ?_)
      refine lv_iconst (v := nI 0) hx hb d_M_figure_25 (by decide) ?_
      have hP9 := hP.sub (ws' := [(mo, .inr (5, [.int (nI 1), .int mn, .ref m0, .int mg, .ref m1, .ref m2, .ref m3, .ref m4, .ref m5, .ref m6])), (m0, .inl (o0, 16, .inl h)), (m1, .inl (o1, 16, .inl mO)), (m2, .inl (o2, 16, .inl mG)), (m3, .inl (o3, 16, .inl mF)), (m4, .inl (o4, 32, .inl mA)), (m5, .inl (o5, 32, .inl mU)), (m6, .inl (o6, 32, .inl mR))]) [0, 1, 2, 3, 4, 5, 6, 7] rfl
      have hD9 := hD.sub (ws' := [(mo, .inr (5, [.int (nI 1), .int mn, .ref m0, .int mg, .ref m1, .ref m2, .ref m3, .ref m4, .ref m5, .ref m6])), (m0, .inl (o0, 16, .inl h)), (m1, .inl (o1, 16, .inl mO)), (m2, .inl (o2, 16, .inl mG)), (m3, .inl (o3, 16, .inl mF)), (m4, .inl (o4, 32, .inl mA)), (m5, .inl (o5, 32, .inl mU)), (m6, .inl (o6, 32, .inl mR))]) [0, 1, 2, 3, 4, 5, 6, 7] (by decide) rfl
      subst hAe
      exact W.iret (v := nI 0) hx hb hr (fun t ht hW => ⟨⟨_, (), rfl, rfl, by rw [ht]; exact hP9, va_K.moved hW.alike hK, hD9⟩, hS.F ht⟩) hS.2.2 d_M_figure_26
