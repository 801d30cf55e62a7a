set_option maxHeartbeats 4000000 in
set_option maxRecDepth 100000 in
theorem k_M_isPlace (l : Launch) (D : va_G) (x : Int32) : Met l y_M_isPlace (Cond.code y_M_isPlace c_M_isPlace 1 (some .boolean) :: BS) { frames := 0, cells := 0, slots := 0, locals := 0 } (va_Pc [.int x] (xR D [] [])) (QcRead (b2i (isP x))) 0 0 (fun _ => False) := by
  refine Met.ofW (cc := c_M_isPlace) (maxL := 1) (ret := (some .boolean)) (by decide) rfl ?_
  intro p e s m args below meth c s₁ B hml hv
  obtain ⟨rfl, hP, hK, hN⟩ := hv
  have hx := B.exec
  have hb := B.bytes
  have hr := B.returns
  have hB := xB B.pre
  have hown : s.vm.findClass R_M = some m.cls := findClass_of_methodNamed B.named
  have hlocks := B.notSynchronized
  have hl := lv_entry ([.int x]) (n := 1) (Nat.le_of_ble_eq_true rfl)
  rw [lg_entry_eq]
  generalize (lg_sl ([.int x]) ++ List.replicate (1 - (lg_sl ([.int x])).length) Slot.unset).toArray = ls at hl ⊢
  have hl : lv_has ls 1 [(0, .int x)] := hl
  refine lv_iload_n hx hb d_M_isPlace_0 rfl (lv_at hl 0 rfl) ?_
  refine lv_if_lt (tgt := 14) hx hb d_M_isPlace_1 rfl (fun hc1 => ?_) (fun hc1 => ?_)
  · refine lv_iconst (v := nI 0) hx hb d_M_isPlace_14 (by decide) ?_
    refine xv_top (x' := b2i (isP x)) (by unfold isP; first | (rw [decide_eq_true hc1, decide_eq_true hc7]; rfl) | (rw [decide_eq_true hc1, decide_eq_false (fun q9 => q9 hc7)]; rfl) | (rw [decide_eq_false (fun q9 => q9 hc1)]; rfl)) ?_
    exact W.zret (v := b2i (isP x)) hx hb hr (b2i_nar _) (fun t ht hW => ⟨rfl, ht⟩) (fun _ h => by cases h) d_M_isPlace_15
  · refine lv_iload_n hx hb d_M_isPlace_4 rfl (lv_at hl 0 rfl) ?_
    refine lv_bipush (v := nI 15) hx hb d_M_isPlace_5 (by decide) ?_
    refine lv_icmp_gt (tgt := 14) hx hb d_M_isPlace_7 rfl (fun hc7 => ?_) (fun hc7 => ?_)
    · refine lv_iconst (v := nI 0) hx hb d_M_isPlace_14 (by decide) ?_
      refine xv_top (x' := b2i (isP x)) (by unfold isP; first | (rw [decide_eq_true hc1, decide_eq_true hc7]; rfl) | (rw [decide_eq_true hc1, decide_eq_false (fun q9 => q9 hc7)]; rfl) | (rw [decide_eq_false (fun q9 => q9 hc1)]; rfl)) ?_
      exact W.zret (v := b2i (isP x)) hx hb hr (b2i_nar _) (fun t ht hW => ⟨rfl, ht⟩) (fun _ h => by cases h) d_M_isPlace_15
    · refine lv_iconst (v := nI 1) hx hb d_M_isPlace_10 (by decide) ?_
      refine lv_goto (tgt := 15) hx hb d_M_isPlace_11 rfl ?_
      refine xv_top (x' := b2i (isP x)) (by unfold isP; first | (rw [decide_eq_true hc1, decide_eq_true hc7]; rfl) | (rw [decide_eq_true hc1, decide_eq_false (fun q9 => q9 hc7)]; rfl) | (rw [decide_eq_false (fun q9 => q9 hc1)]; rfl)) ?_
      exact W.zret (v := b2i (isP x)) hx hb hr (b2i_nar _) (fun t ht hW => ⟨rfl, ht⟩) (fun _ h => by cases h) d_M_isPlace_15
set_option maxHeartbeats 4000000 in
set_option maxRecDepth 100000 in
theorem k_M_has (l : Launch) (D : va_G) (x : Int32) (n : Nat) (hn : n < 32) : Met l y_M_has (Cond.code y_M_has c_M_has 2 (some .boolean) :: BS) { frames := 0, cells := 0, slots := 0, locals := 0 } (va_Pc [.int x, .int (nI n)] (xR D [] [])) (QcRead (b2i (bt x n))) 0 0 (fun _ => False) := by
  refine Met.ofW (cc := c_M_has) (maxL := 2) (ret := (some .boolean)) (by decide) rfl ?_
  intro p e s m args below meth c s₁ B hml hv
  obtain ⟨rfl, hP, hK, hN⟩ := hv
  have hx := B.exec
  have hb := B.bytes
  have hr := B.returns
  have hB := xB B.pre
  have hown : s.vm.findClass R_M = some m.cls := findClass_of_methodNamed B.named
  have hlocks := B.notSynchronized
  have hl := lv_entry ([.int x, .int (nI n)]) (n := 2) (Nat.le_of_ble_eq_true rfl)
  rw [lg_entry_eq]
  generalize (lg_sl ([.int x, .int (nI n)]) ++ List.replicate (2 - (lg_sl ([.int x, .int (nI n)])).length) Slot.unset).toArray = ls at hl ⊢
  have hl : lv_has ls 2 [(0, .int x), (1, .int (nI n))] := hl
  refine lv_iload_n hx hb d_M_has_0 rfl (lv_at hl 0 rfl) ?_
  refine lv_iload_n hx hb d_M_has_1 rfl (lv_at hl 1 rfl) ?_
  refine lv_ishr hx hb d_M_has_2 ?_
  refine lv_iconst (v := nI 1) hx hb d_M_has_3 (by decide) ?_
  refine lv_iand hx hb d_M_has_4 ?_
  refine lv_iconst (v := nI 1) hx hb d_M_has_5 (by decide) ?_
  refine lv_icmp_ne (tgt := 13) hx hb d_M_has_6 rfl (fun hc6 => ?_) (fun hc6 => ?_)
  · have hc6 : bt x n = false := by cases hq : bt x n with | false => rfl | true => exact absurd ((has_s hn).mpr hq) hc6
    refine lv_iconst (v := nI 0) hx hb d_M_has_13 (by decide) ?_
    refine xv_top (x' := b2i (bt x n)) (by rw [hc6]; rfl) ?_
    exact W.zret (v := b2i (bt x n)) hx hb hr (b2i_nar _) (fun t ht hW => ⟨rfl, ht⟩) (fun _ h => by cases h) d_M_has_14
  · have hc6 : bt x n = true := (has_s hn).mp hc6
    refine lv_iconst (v := nI 1) hx hb d_M_has_9 (by decide) ?_
    refine lv_goto (tgt := 14) hx hb d_M_has_10 rfl ?_
    refine xv_top (x' := b2i (bt x n)) (by rw [hc6]; rfl) ?_
    exact W.zret (v := b2i (bt x n)) hx hb hr (b2i_nar _) (fun t ht hW => ⟨rfl, ht⟩) (fun _ h => by cases h) d_M_has_14
set_option maxHeartbeats 4000000 in
set_option maxRecDepth 100000 in
theorem k_M_at (l : Launch) (D : va_G) (x : Int32) (n : Nat) (hn : n < 32) : Met l y_M_at (Cond.code y_M_at c_M_at 2 (some .boolean) :: BS) { frames := 0, cells := 0, slots := 0, locals := 0 } (va_Pc [.int x, .int (nI n)] (xR D [] [])) (QcRead (b2i (bt x n))) 0 0 (fun _ => False) := by
  refine Met.ofW (cc := c_M_at) (maxL := 2) (ret := (some .boolean)) (by decide) rfl ?_
  intro p e s m args below meth c s₁ B hml hv
  obtain ⟨rfl, hP, hK, hN⟩ := hv
  have hx := B.exec
  have hb := B.bytes
  have hr := B.returns
  have hB := xB B.pre
  have hown : s.vm.findClass R_M = some m.cls := findClass_of_methodNamed B.named
  have hlocks := B.notSynchronized
  have hl := lv_entry ([.int x, .int (nI n)]) (n := 2) (Nat.le_of_ble_eq_true rfl)
  rw [lg_entry_eq]
  generalize (lg_sl ([.int x, .int (nI n)]) ++ List.replicate (2 - (lg_sl ([.int x, .int (nI n)])).length) Slot.unset).toArray = ls at hl ⊢
  have hl : lv_has ls 2 [(0, .int x), (1, .int (nI n))] := hl
  refine lv_iload_n hx hb d_M_at_0 rfl (lv_at hl 0 rfl) ?_
  refine lv_iload_n hx hb d_M_at_1 rfl (lv_at hl 1 rfl) ?_
  refine lv_iushr hx hb d_M_at_2 rfl ?_
  refine lv_iconst (v := nI 1) hx hb d_M_at_3 (by decide) ?_
  refine lv_iand hx hb d_M_at_4 ?_
  refine lv_iconst (v := nI 1) hx hb d_M_at_5 (by decide) ?_
  refine lv_icmp_ne (tgt := 13) hx hb d_M_at_6 rfl (fun hc6 => ?_) (fun hc6 => ?_)
  · have hc6 : bt x n = false := by cases hq : bt x n with | false => rfl | true => exact absurd ((has_u1 hn).mpr hq) hc6
    refine lv_iconst (v := nI 0) hx hb d_M_at_13 (by decide) ?_
    refine xv_top (x' := b2i (bt x n)) (by rw [hc6]; rfl) ?_
    exact W.zret (v := b2i (bt x n)) hx hb hr (b2i_nar _) (fun t ht hW => ⟨rfl, ht⟩) (fun _ h => by cases h) d_M_at_14
  · have hc6 : bt x n = true := (has_u1 hn).mp hc6
    refine lv_iconst (v := nI 1) hx hb d_M_at_9 (by decide) ?_
    refine lv_goto (tgt := 14) hx hb d_M_at_10 rfl ?_
    refine xv_top (x' := b2i (bt x n)) (by rw [hc6]; rfl) ?_
    exact W.zret (v := b2i (bt x n)) hx hb hr (b2i_nar _) (fun t ht hW => ⟨rfl, ht⟩) (fun _ h => by cases h) d_M_at_14
set_option maxHeartbeats 4000000 in
set_option maxRecDepth 100000 in
theorem k_M_size (l : Launch) (D : va_G) (x : Int32) : Met l y_M_size (Cond.code y_M_size c_M_size 3 (some .int) :: BS) { frames := 0, cells := 0, slots := 0, locals := 0 } (va_Pc [.int x] (xR D [] [])) (QcRead (nI (cn x 16))) 0 0 (fun _ => False) := by
  refine Met.ofW (cc := c_M_size) (maxL := 3) (ret := (some .int)) (by decide) rfl ?_
  intro p e s m args below meth c s₁ B hml hv
  obtain ⟨rfl, hP, hK, hN⟩ := hv
  have hx := B.exec
  have hb := B.bytes
  have hr := B.returns
  have hB := xB B.pre
  have hown : s.vm.findClass R_M = some m.cls := findClass_of_methodNamed B.named
  have hlocks := B.notSynchronized
  have hl := lv_entry ([.int x]) (n := 3) (Nat.le_of_ble_eq_true rfl)
  rw [lg_entry_eq]
  generalize (lg_sl ([.int x]) ++ List.replicate (3 - (lg_sl ([.int x])).length) Slot.unset).toArray = ls at hl ⊢
  have hl : lv_has ls 3 [(0, .int x)] := hl
  refine lv_iconst (v := nI 0) hx hb d_M_size_0 (by decide) ?_
  refine lv_istore_n hx hb d_M_size_1 rfl hl (by decide) rfl (fun ls hl => ?_)
  have hl : lv_has ls 3 [(1, .int (nI 0)), (0, .int x)] := hl
  refine lv_iconst (v := nI 0) hx hb d_M_size_2 (by decide) ?_
  refine lv_istore_n hx hb d_M_size_3 rfl hl (by decide) rfl (fun ls hl => ?_)
  have hl : lv_has ls 3 [(2, .int (nI 0)), (1, .int (nI 0)), (0, .int x)] := hl
  refine xl_r (fun (u : Nat) ls => ((u ≤ 16)) ∧ lv_has ls 3 [(2, .int (nI u)), (1, .int (nI (cn x u))), (0, .int x)]) (fun u => 16 - u) (fun u ls hI ih4 => ?_) 0 _ ⟨Nat.zero_le _, hl⟩
  obtain ⟨hI, hl⟩ := hI
  have hu_u := hI
  refine lv_iload_n hx hb d_M_size_4 rfl (lv_at hl 0 rfl) ?_
  refine lv_bipush (v := nI 16) hx hb d_M_size_5 (by decide) ?_
  refine lv_icmp_ge (tgt := 24) hx hb d_M_size_7 rfl (fun hc7 => ?_) (fun hc7 => ?_)
  · have hc7 : 16 ≤ u := (nI_leI (by omega) (by omega)).mp hc7
    refine lv_iload_n hx hb d_M_size_24 rfl (lv_at hl 1 rfl) ?_
    refine xv_top (x' := nI (cn x 16)) (by rw [show u = 16 by omega]) ?_
    exact W.iret (v := nI (cn x 16)) hx hb hr (fun t ht hW => ⟨rfl, ht⟩) (fun _ h => by cases h) d_M_size_25
  · have hc7 : ¬ (16 ≤ u) := fun q9 => hc7 ((nI_leI (by omega) (by omega)).mpr q9)
    refine lv_iload_n hx hb d_M_size_10 rfl (lv_at hl 1 rfl) ?_
    refine lv_iload_n hx hb d_M_size_11 rfl (lv_at hl 2 rfl) ?_
    refine lv_iload_n hx hb d_M_size_12 rfl (lv_at hl 0 rfl) ?_
    refine lv_ishr hx hb d_M_size_13 ?_
    refine lv_iconst (v := nI 1) hx hb d_M_size_14 (by decide) ?_
    refine lv_iand hx hb d_M_size_15 ?_
    refine lv_iadd hx hb d_M_size_16 ?_
    refine lv_istore_n hx hb d_M_size_17 rfl hl (by decide) rfl (fun ls hl => ?_)
    have hl : lv_has ls 3 [(1, .int ((nI (cn x u)) + ((x >>> (nI u &&& 31)) &&& (nI 1)))), (2, .int (nI u)), (0, .int x)] := hl
    have hl : lv_has ls 3 [(1, .int (nI (cn x (u + 1)))), (2, .int (nI u)), (0, .int x)] := by
      have hz : ((nI (cn x u)) + ((x >>> (nI u &&& 31)) &&& (nI 1))) = nI (cn x (u + 1)) := sz_step (by omega)
      rw [← hz]; exact hl
    refine lv_iinc hx hb d_M_size_18 hl (k := 1) rfl (v := nI (u + 1)) (nI_1 u) (by decide) rfl (fun ls hl => ?_)
    have hl : lv_has ls 3 [(2, .int (nI (u + 1))), (1, .int (nI (cn x (u + 1)))), (0, .int x)] := hl
    refine lv_goto (tgt := 4) hx hb d_M_size_21 rfl ?_
    exact ih4 (u + 1) _ ⟨by omega, lv_sub hl [0, 1, 2] rfl⟩ (by omega)
set_option maxHeartbeats 4000000 in
set_option maxRecDepth 100000 in
theorem k_M_least (l : Launch) (D : va_G) (x : Int32) (hex : ∃ j, j < 16 ∧ bt x j = true) : Met l y_M_least (Cond.code y_M_least c_M_least 2 (some .int) :: BS) { frames := 1, cells := 0, slots := 0, locals := 21 } (va_Pc [.int x] (xR D [] [])) (QcRead (nI (first (fun i => bt x i) 0 16))) 0 0 (fun _ => False) := by
  refine Met.ofW (cc := c_M_least) (maxL := 2) (ret := (some .int)) (by decide) rfl ?_
  intro p e s m args below meth c s₁ B hml hv
  obtain ⟨rfl, hP, hK, hN⟩ := hv
  have hx := B.exec
  have hb := B.bytes
  have hr := B.returns
  have hB := xB B.pre
  have hown : s.vm.findClass R_M = some m.cls := findClass_of_methodNamed B.named
  have hlocks := B.notSynchronized
  have hl := lv_entry ([.int x]) (n := 2) (Nat.le_of_ble_eq_true rfl)
  rw [lg_entry_eq]
  generalize (lg_sl ([.int x]) ++ List.replicate (2 - (lg_sl ([.int x])).length) Slot.unset).toArray = ls at hl ⊢
  have hl : lv_has ls 2 [(0, .int x)] := hl
  refine lv_iconst (v := nI 0) hx hb d_M_least_0 (by decide) ?_
  refine lv_istore_n hx hb d_M_least_1 rfl hl (by decide) rfl (fun ls hl => ?_)
  have hl : lv_has ls 2 [(1, .int (nI 0)), (0, .int x)] := hl
  refine xl_r (fun (i : Nat) ls => ((i < 16) ∧ (∀ k9, k9 < i → bt x k9 = false)) ∧ lv_has ls 2 [(1, .int (nI i)), (0, .int x)]) (fun i => 16 - i) (fun i ls hI ih2 => ?_) 0 _ ⟨⟨by decide, lt_0⟩, hl⟩
  obtain ⟨hI, hl⟩ := hI
  obtain ⟨hi, hm⟩ := hI
  refine lv_iload_n hx hb d_M_least_2 rfl (lv_at hl 1 rfl) ?_
  refine lv_iload_n hx hb d_M_least_3 rfl (lv_at hl 0 rfl) ?_
  refine xr_cal (va_runS (As := [.int x, .int (nI i)]) (rest := []) ⟨hx, hb, hml, hown, hB⟩ (k_M_has l D  x i (by omega)) ⟨callB_of 2 hB (xg0 mc_M_has) rfl rfl rfl (hB _ mz_M) (hB _ ml_M_35) (by decide +kernel) ⟨Nat.le_of_ble_eq_true rfl, Nat.le_of_ble_eq_true rfl⟩, hB _ ms_M_has⟩ (xpS (ws := []) (tys := []) (hP.sub [] rfl) (hK.sub [] rfl) hN) rfl rfl hl.1 rfl (lv_room (Nat.le_of_ble_eq_true rfl)) d_M_least_4 ⟨Nat.le_of_ble_eq_true rfl, Nat.le_of_ble_eq_true rfl⟩) ?_
  refine lv_if_ne (tgt := 16) hx hb d_M_least_7 rfl (fun hc7 => ?_) (fun hc7 => ?_)
  · have hc7 := b2i_n.mp hc7
    refine lv_iload_n hx hb d_M_least_16 rfl (lv_at hl 0 rfl) ?_
    refine xv_top (x' := nI (first (fun i => bt x i) 0 16)) (by rw [first_eq (p := (fun i => bt x i)) hc7 hi hm]) ?_
    exact W.iret (v := nI (first (fun i => bt x i) 0 16)) hx hb hr (fun t ht hW => ⟨rfl, ht⟩) (fun _ h => by cases h) d_M_least_17
  · have hc7 := b2i_0.mp hc7
    refine lv_iinc hx hb d_M_least_10 hl (k := 0) rfl (v := nI (i + 1)) (nI_1 i) (by decide) rfl (fun ls hl => ?_)
    have hl : lv_has ls 2 [(1, .int (nI (i + 1))), (0, .int x)] := hl
    refine lv_goto (tgt := 2) hx hb d_M_least_13 rfl ?_
    exact ih2 (i + 1) _ ⟨⟨lst_step hex hm hi hc7, lt_s hm hc7⟩, lv_sub hl [0, 1] rfl⟩ (by omega)
set_option maxHeartbeats 4000000 in
set_option maxRecDepth 100000 in
theorem k_M_spread (l : Launch) (D : va_G) (mo m0 m1 m2 m3 m4 m5 m6 : Nat) (o0 o1 o2 o3 o4 o5 o6 : ClassId) (mc mn mg : Int32) (h mO mG mF mA mU mR : Nat → Int32) (hg : gd h) (sx al cx : Int32) (hsx : m16 sx) (hal : ∀ i, i < 16 → bt al i = !(bt cx i)) : Met l y_M_spread (Cond.code y_M_spread c_M_spread 6 (some .int) :: BS) { frames := 1, cells := 0, slots := 0, locals := 21 } (va_Pc [.ref mo, .int sx, .int al] (xR D [(mo, .inr (5, [.int mc, .int mn, .ref m0, .int mg, .ref m1, .ref m2, .ref m3, .ref m4, .ref m5, .ref m6])), (m0, .inl (o0, 16, .inl h)), (m1, .inl (o1, 16, .inl mO)), (m2, .inl (o2, 16, .inl mG)), (m3, .inl (o3, 16, .inl mF)), (m4, .inl (o4, 32, .inl mA)), (m5, .inl (o5, 32, .inl mU)), (m6, .inl (o6, 32, .inl mR))] [(o0, .int), (o1, .int), (o2, .int), (o3, .int), (o4, .int), (o5, .int), (o6, .int)])) (QcRead (SP h sx cx)) 0 0 (fun _ => False) := by
  refine Met.ofW (cc := c_M_spread) (maxL := 6) (ret := (some .int)) (by decide) rfl ?_
  intro p e s m args below meth c s₁ B hml hv
  obtain ⟨rfl, hP, hK, hN⟩ := hv
  have hx := B.exec
  have hb := B.bytes
  have hr := B.returns
  have hB := xB B.pre
  have hown : s.vm.findClass R_M = some m.cls := findClass_of_methodNamed B.named
  have hlocks := B.notSynchronized
  have hl := lv_entry ([.ref mo, .int sx, .int al]) (n := 6) (Nat.le_of_ble_eq_true rfl)
  rw [lg_entry_eq]
  generalize (lg_sl ([.ref mo, .int sx, .int al]) ++ List.replicate (6 - (lg_sl ([.ref mo, .int sx, .int al])).length) Slot.unset).toArray = ls at hl ⊢
  have hl : lv_has ls 6 [(0, .ref mo), (1, .int sx), (2, .int al)] := hl
  refine lv_iload_n hx hb d_M_spread_0 rfl (lv_at hl 1 rfl) ?_
  refine lv_iload_n hx hb d_M_spread_1 rfl (lv_at hl 2 rfl) ?_
  refine lv_iand hx hb d_M_spread_2 ?_
  refine lv_istore_n hx hb d_M_spread_3 rfl hl (by decide) rfl (fun ls hl => ?_)
  have hl : lv_has ls 6 [(3, .int (sx &&& al)), (0, .ref mo), (1, .int sx), (2, .int al)] := hl
  have hl : lv_has ls 6 [(3, .int (itr h cx 0 (sx &&& (cx ^^^ (-1))))), (0, .ref mo), (1, .int sx), (2, .int al)] := by
    have hz : (sx &&& al) = itr h cx 0 (sx &&& (cx ^^^ (-1))) := al_and hsx hal
    rw [← hz]; exact hl
  refine lv_iconst (v := nI 0) hx hb d_M_spread_4 (by decide) ?_
  refine lv_istore hx hb d_M_spread_5 hl (by decide) rfl (fun ls hl => ?_)
  have hl : lv_has ls 6 [(4, .int (nI 0)), (3, .int (itr h cx 0 (sx &&& (cx ^^^ (-1))))), (0, .ref mo), (1, .int sx), (2, .int al)] := hl
  refine xl_r2 (fun (k : Nat) (b9 : Int32) ls => ((k ≤ 16) ∧ ((k = 0 ∧ b9 = 0) ∨ ∃ j9, k = j9 + 1 ∧ b9 = itr h cx j9 (sx &&& (cx ^^^ (-1))))) ∧ lv_has ls 6 [(4, .int b9), (3, .int (itr h cx k (sx &&& (cx ^^^ (-1))))), (0, .ref mo), (1, .int sx), (2, .int al)]) (fun k b9 => 17 - k) (fun k b9 ls hI ih7 => ?_) 0 (nI 0) _ ⟨⟨Nat.zero_le _, Or.inl ⟨rfl, rfl⟩⟩, hl⟩
  obtain ⟨hI, hl⟩ := hI
  obtain ⟨hk, hkb⟩ := hI
  refine lv_iload_n hx hb d_M_spread_7 rfl (lv_at hl 1 rfl) ?_
  refine lv_iload hx hb d_M_spread_8 (lv_at hl 0 rfl) ?_
  refine lv_icmp_eq (tgt := 61) hx hb d_M_spread_10 rfl (fun hc10 => ?_) (fun hc10 => ?_)
  · refine lv_iload_n hx hb d_M_spread_61 rfl (lv_at hl 1 rfl) ?_
    refine xv_top (x' := SP h sx cx) (sp_end hg hsx hkb hc10) ?_
    exact W.iret (v := SP h sx cx) hx hb hr (fun t ht hW => ⟨rfl, ht⟩) (fun _ h => by cases h) d_M_spread_62
  · have hk1 : k + 1 ≤ 16 := by
      rcases hkb with ⟨h1, h2⟩ | ⟨j9, h1, h2⟩
      · omega
      · subst h1; subst h2
        have := itr_ne hg (m16_and hsx) hc10
        omega
    refine lv_iload_n hx hb d_M_spread_13 rfl (lv_at hl 1 rfl) ?_
    refine lv_istore hx hb d_M_spread_14 hl (by decide) rfl (fun ls hl => ?_)
    have hl : lv_has ls 6 [(4, .int (itr h cx k (sx &&& (cx ^^^ (-1))))), (3, .int (itr h cx k (sx &&& (cx ^^^ (-1))))), (0, .ref mo), (1, .int sx), (2, .int al)] := hl
    refine lv_iconst (v := nI 0) hx hb d_M_spread_16 (by decide) ?_
    refine lv_istore hx hb d_M_spread_17 hl (by decide) rfl (fun ls hl => ?_)
    have hl : lv_has ls 6 [(5, .int (nI 0)), (4, .int (itr h cx k (sx &&& (cx ^^^ (-1))))), (3, .int (itr h cx k (sx &&& (cx ^^^ (-1))))), (0, .ref mo), (1, .int sx), (2, .int al)] := hl
    refine xl_r (fun (v : Nat) ls => ((v ≤ 16)) ∧ lv_has ls 6 [(5, .int (nI v)), (4, .int (itr h cx k (sx &&& (cx ^^^ (-1))))), (3, .int (ac (fun v9 => h v9 &&& al) (itr h cx k (sx &&& (cx ^^^ (-1)))) (itr h cx k (sx &&& (cx ^^^ (-1)))) v)), (0, .ref mo), (1, .int sx), (2, .int al)]) (fun v => 16 - v) (fun v ls hI ih19 => ?_) 0 _ ⟨Nat.zero_le _, hl⟩
    obtain ⟨hI, hl⟩ := hI
    have hv := hI
    refine lv_iload hx hb d_M_spread_19 (lv_at hl 0 rfl) ?_
    refine lv_bipush (v := nI 16) hx hb d_M_spread_21 (by decide) ?_
    refine lv_icmp_ge (tgt := 58) hx hb d_M_spread_23 rfl (fun hc23 => ?_) (fun hc23 => ?_)
    · have hc23 : 16 ≤ v := (nI_leI (by omega) (by omega)).mp hc23
      have hl : lv_has ls 6 [(5, .int (nI v)), (4, .int (itr h cx k (sx &&& (cx ^^^ (-1))))), (3, .int (itr h cx (k + 1) (sx &&& (cx ^^^ (-1))))), (0, .ref mo), (1, .int sx), (2, .int al)] := by
        have hz : (ac (fun v9 => h v9 &&& al) (itr h cx k (sx &&& (cx ^^^ (-1)))) (itr h cx k (sx &&& (cx ^^^ (-1)))) v) = itr h cx (k + 1) (sx &&& (cx ^^^ (-1))) := by rw [show v = 16 by omega]; exact ac_stp hg (itr_m16 hg (m16_and hsx) k) hal
        rw [← hz]; exact hl
      refine lv_goto (tgt := 7) hx hb d_M_spread_58 rfl ?_
      exact ih7 (k + 1) (itr h cx k (sx &&& (cx ^^^ (-1)))) _ ⟨⟨hk1, Or.inr ⟨k, rfl, rfl⟩⟩, lv_sub hl [1, 2, 3, 4, 5] rfl⟩ (by omega)
    · have hc23 : ¬ (16 ≤ v) := fun q9 => hc23 ((nI_leI (by omega) (by omega)).mpr q9)
      refine lv_iload_n hx hb d_M_spread_26 rfl (lv_at hl 2 rfl) ?_
      refine lv_iload hx hb d_M_spread_27 (lv_at hl 1 rfl) ?_
      refine lv_iload hx hb d_M_spread_29 (lv_at hl 0 rfl) ?_
      refine xr_cal (va_runS (As := [.int (itr h cx k (sx &&& (cx ^^^ (-1)))), .int (nI v)]) (rest := [.int (ac (fun v9 => h v9 &&& al) (itr h cx k (sx &&& (cx ^^^ (-1)))) (itr h cx k (sx &&& (cx ^^^ (-1)))) v)]) ⟨hx, hb, hml, hown, hB⟩ (k_M_has l D  (itr h cx k (sx &&& (cx ^^^ (-1)))) v (by omega)) ⟨callB_of 2 hB (xg0 mc_M_has) rfl rfl rfl (hB _ mz_M) (hB _ ml_M_35) (by decide +kernel) ⟨Nat.le_of_ble_eq_true rfl, Nat.le_of_ble_eq_true rfl⟩, hB _ ms_M_has⟩ (xpS (ws := []) (tys := []) (hP.sub [] rfl) (hK.sub [] rfl) hN) rfl rfl hl.1 rfl (lv_room (Nat.le_of_ble_eq_true rfl)) d_M_spread_31 ⟨Nat.le_of_ble_eq_true rfl, Nat.le_of_ble_eq_true rfl⟩) ?_
      refine lv_if_eq (tgt := 49) hx hb d_M_spread_34 rfl (fun hc34 => ?_) (fun hc34 => ?_)
      · have hc34 := b2i_0.mp hc34
        refine lv_iconst (v := nI 0) hx hb d_M_spread_49 (by decide) ?_
        refine lv_ior hx hb d_M_spread_50 ?_
        refine lv_istore_n hx hb d_M_spread_51 rfl hl (by decide) rfl (fun ls hl => ?_)
        have hl : lv_has ls 6 [(3, .int ((ac (fun v9 => h v9 &&& al) (itr h cx k (sx &&& (cx ^^^ (-1)))) (itr h cx k (sx &&& (cx ^^^ (-1)))) v) ||| (nI 0))), (5, .int (nI v)), (4, .int (itr h cx k (sx &&& (cx ^^^ (-1))))), (0, .ref mo), (1, .int sx), (2, .int al)] := hl
        have hl : lv_has ls 6 [(3, .int (ac (fun v9 => h v9 &&& al) (itr h cx k (sx &&& (cx ^^^ (-1)))) (itr h cx k (sx &&& (cx ^^^ (-1)))) (v + 1))), (5, .int (nI v)), (4, .int (itr h cx k (sx &&& (cx ^^^ (-1))))), (0, .ref mo), (1, .int sx), (2, .int al)] := by
          have hz : ((ac (fun v9 => h v9 &&& al) (itr h cx k (sx &&& (cx ^^^ (-1)))) (itr h cx k (sx &&& (cx ^^^ (-1)))) v) ||| (nI 0)) = ac (fun v9 => h v9 &&& al) (itr h cx k (sx &&& (cx ^^^ (-1)))) (itr h cx k (sx &&& (cx ^^^ (-1)))) (v + 1) := by show _ = _ ||| _; rw [if_neg (by rw [hc34]; decide)]; rfl
          rw [← hz]; exact hl
        refine lv_iinc hx hb d_M_spread_52 hl (k := 1) rfl (v := nI (v + 1)) (nI_1 v) (by decide) rfl (fun ls hl => ?_)
        have hl : lv_has ls 6 [(5, .int (nI (v + 1))), (3, .int (ac (fun v9 => h v9 &&& al) (itr h cx k (sx &&& (cx ^^^ (-1)))) (itr h cx k (sx &&& (cx ^^^ (-1)))) (v + 1))), (4, .int (itr h cx k (sx &&& (cx ^^^ (-1))))), (0, .ref mo), (1, .int sx), (2, .int al)] := hl
        refine lv_goto (tgt := 19) hx hb d_M_spread_55 rfl ?_
        exact ih19 (v + 1) _ ⟨by omega, lv_sub hl [0, 2, 1, 3, 4, 5] rfl⟩ (by omega)
      · have hc34 := b2i_n.mp hc34
        refine lv_aload_n hx hb d_M_spread_37 rfl (lv_at hl 3 rfl) ?_
        refine va_get (D := D) (ci := 5) (v := .ref m0) (C := R_M) (T := F_M) (N := 10) hx hb hB in_M hown hK hP 0 rfl rfl 2 (by decide) (hB _ mf_M_7) (fun _ h9 => h9) rfl d_M_spread_38 ?_
        refine lv_iload hx hb d_M_spread_41 (lv_at hl 0 rfl) ?_
        refine xa_ld (u := v) hx hb hK hP 1 0 rfl rfl (by omega) (by decide) d_M_spread_43 ?_
        refine lv_iload_n hx hb d_M_spread_44 rfl (lv_at hl 5 rfl) ?_
        refine lv_iand hx hb d_M_spread_45 ?_
        refine lv_goto (tgt := 50) hx hb d_M_spread_46 rfl ?_
        refine lv_ior hx hb d_M_spread_50 ?_
        refine lv_istore_n hx hb d_M_spread_51 rfl hl (by decide) rfl (fun ls hl => ?_)
        have hl : lv_has ls 6 [(3, .int ((ac (fun v9 => h v9 &&& al) (itr h cx k (sx &&& (cx ^^^ (-1)))) (itr h cx k (sx &&& (cx ^^^ (-1)))) v) ||| ((h v) &&& al))), (5, .int (nI v)), (4, .int (itr h cx k (sx &&& (cx ^^^ (-1))))), (0, .ref mo), (1, .int sx), (2, .int al)] := hl
        have hl : lv_has ls 6 [(3, .int (ac (fun v9 => h v9 &&& al) (itr h cx k (sx &&& (cx ^^^ (-1)))) (itr h cx k (sx &&& (cx ^^^ (-1)))) (v + 1))), (5, .int (nI v)), (4, .int (itr h cx k (sx &&& (cx ^^^ (-1))))), (0, .ref mo), (1, .int sx), (2, .int al)] := by
          have hz : ((ac (fun v9 => h v9 &&& al) (itr h cx k (sx &&& (cx ^^^ (-1)))) (itr h cx k (sx &&& (cx ^^^ (-1)))) v) ||| ((h v) &&& al)) = ac (fun v9 => h v9 &&& al) (itr h cx k (sx &&& (cx ^^^ (-1)))) (itr h cx k (sx &&& (cx ^^^ (-1)))) (v + 1) := by show _ = _ ||| _; rw [if_pos hc34]
          rw [← hz]; exact hl
        refine lv_iinc hx hb d_M_spread_52 hl (k := 1) rfl (v := nI (v + 1)) (nI_1 v) (by decide) rfl (fun ls hl => ?_)
        have hl : lv_has ls 6 [(5, .int (nI (v + 1))), (3, .int (ac (fun v9 => h v9 &&& al) (itr h cx k (sx &&& (cx ^^^ (-1)))) (itr h cx k (sx &&& (cx ^^^ (-1)))) (v + 1))), (4, .int (itr h cx k (sx &&& (cx ^^^ (-1))))), (0, .ref mo), (1, .int sx), (2, .int al)] := hl
        refine lv_goto (tgt := 19) hx hb d_M_spread_55 rfl ?_
        exact ih19 (v + 1) _ ⟨by omega, lv_sub hl [0, 2, 1, 3, 4, 5] rfl⟩ (by omega)
set_option maxHeartbeats 4000000 in
set_option maxRecDepth 100000 in
theorem k_M_reach (l : Launch) (D : va_G) (mo m0 m1 m2 m3 m4 m5 m6 : Nat) (o0 o1 o2 o3 o4 o5 o6 : ClassId) (mc mn mg : Int32) (h mO mG mF mA mU mR : Nat → Int32) (hg : gd h) (v : Nat) (hv : v < 16) : Met l y_M_reach (Cond.code y_M_reach c_M_reach 2 (some .int) :: BS) { frames := 2, cells := 0, slots := 0, locals := 46 } (va_Pc [.ref mo, .int (nI v)] (xR D [(mo, .inr (5, [.int mc, .int mn, .ref m0, .int mg, .ref m1, .ref m2, .ref m3, .ref m4, .ref m5, .ref m6])), (m0, .inl (o0, 16, .inl h)), (m1, .inl (o1, 16, .inl mO)), (m2, .inl (o2, 16, .inl mG)), (m3, .inl (o3, 16, .inl mF)), (m4, .inl (o4, 32, .inl mA)), (m5, .inl (o5, 32, .inl mU)), (m6, .inl (o6, 32, .inl mR))] [(o0, .int), (o1, .int), (o2, .int), (o3, .int), (o4, .int), (o5, .int), (o6, .int)])) (QcRead (RE h v)) 0 0 (fun _ => False) := by
  refine Met.ofW (cc := c_M_reach) (maxL := 2) (ret := (some .int)) (by decide) rfl ?_
  intro p e s m args below meth c s₁ B hml hv
  obtain ⟨rfl, hP, hK, hN⟩ := hv
  have hx := B.exec
  have hb := B.bytes
  have hr := B.returns
  have hB := xB B.pre
  have hown : s.vm.findClass R_M = some m.cls := findClass_of_methodNamed B.named
  have hlocks := B.notSynchronized
  have hl := lv_entry ([.ref mo, .int (nI v)]) (n := 2) (Nat.le_of_ble_eq_true rfl)
  rw [lg_entry_eq]
  generalize (lg_sl ([.ref mo, .int (nI v)]) ++ List.replicate (2 - (lg_sl ([.ref mo, .int (nI v)])).length) Slot.unset).toArray = ls at hl ⊢
  have hl : lv_has ls 2 [(0, .ref mo), (1, .int (nI v))] := hl
  refine lv_aload_n hx hb d_M_reach_0 rfl (lv_at hl 0 rfl) ?_
  refine lv_iconst (v := nI 1) hx hb d_M_reach_1 (by decide) ?_
  refine lv_iload_n hx hb d_M_reach_2 rfl (lv_at hl 1 rfl) ?_
  refine lv_ishl hx hb d_M_reach_3 ?_
  refine xv_top (x' := bit v) (rfl) ?_
  refine lv_ldc (v := 65535) hx hb hown (hB _ mk_M_39) d_M_reach_4 ?_
  refine xr_cal (va_runV (As := [.int (bit v), .int 65535]) (rest := []) ⟨hx, hb, hml, hown, hB⟩ (k_M_spread l D mo m0 m1 m2 m3 m4 m5 m6 o0 o1 o2 o3 o4 o5 o6 mc mn mg h mO mG mF mA mU mR hg (bit v) 65535 0 (m16_bit hv) al_0) ⟨callB_of 2 hB (xg0 mc_M_spread) rfl rfl rfl (hB _ mz_M) (hB _ ml_M_40) (by decide +kernel) ⟨Nat.le_of_ble_eq_true rfl, Nat.le_of_ble_eq_true rfl⟩, hB _ mi_M_spread, hB _ me_M_spread⟩ (xpV (ws := [(mo, .inr (5, [.int mc, .int mn, .ref m0, .int mg, .ref m1, .ref m2, .ref m3, .ref m4, .ref m5, .ref m6])), (m0, .inl (o0, 16, .inl h)), (m1, .inl (o1, 16, .inl mO)), (m2, .inl (o2, 16, .inl mG)), (m3, .inl (o3, 16, .inl mF)), (m4, .inl (o4, 32, .inl mA)), (m5, .inl (o5, 32, .inl mU)), (m6, .inl (o6, 32, .inl mR))]) (tys := [(o0, .int), (o1, .int), (o2, .int), (o3, .int), (o4, .int), (o5, .int), (o6, .int)]) (hP.sub [0, 1, 2, 3, 4, 5, 6, 7] rfl) (hK.sub [0, 1, 2, 3, 4, 5, 6] rfl) hN (va_recv (ci := 5) (q0 := 0) (q := (R_M, F_M, 10)) hK hP rfl rfl)) rfl rfl hl.1 rfl (lv_room (Nat.le_of_ble_eq_true rfl)) d_M_reach_6 ⟨Nat.le_of_ble_eq_true rfl, Nat.le_of_ble_eq_true rfl⟩) ?_
  refine xv_top (x' := RE h v) (rfl) ?_
  exact W.iret (v := RE h v) hx hb hr (fun t ht hW => ⟨rfl, ht⟩) (fun _ h => by cases h) d_M_reach_9
set_option maxHeartbeats 4000000 in
set_option maxRecDepth 100000 in
theorem k_M_ends (l : Launch) (D : va_G) (mo m0 m1 m2 m3 m4 m5 m6 : Nat) (o0 o1 o2 o3 o4 o5 o6 : ClassId) (mc mn mg : Int32) (h mO mG mF mA mU mR : Nat → Int32) (tx : Int32) : Met l y_M_ends (Cond.code y_M_ends c_M_ends 4 (some .int) :: BS) { frames := 1, cells := 0, slots := 0, locals := 21 } (va_Pc [.ref mo, .int tx] (xR D [(mo, .inr (5, [.int mc, .int mn, .ref m0, .int mg, .ref m1, .ref m2, .ref m3, .ref m4, .ref m5, .ref m6])), (m0, .inl (o0, 16, .inl h)), (m1, .inl (o1, 16, .inl mO)), (m2, .inl (o2, 16, .inl mG)), (m3, .inl (o3, 16, .inl mF)), (m4, .inl (o4, 32, .inl mA)), (m5, .inl (o5, 32, .inl mU)), (m6, .inl (o6, 32, .inl mR))] [(o0, .int), (o1, .int), (o2, .int), (o3, .int), (o4, .int), (o5, .int), (o6, .int)])) (QcRead (un h tx 16)) 0 0 (fun _ => False) := by
  refine Met.ofW (cc := c_M_ends) (maxL := 4) (ret := (some .int)) (by decide) rfl ?_
  intro p e s m args below meth c s₁ B hml hv
  obtain ⟨rfl, hP, hK, hN⟩ := hv
  have hx := B.exec
  have hb := B.bytes
  have hr := B.returns
  have hB := xB B.pre
  have hown : s.vm.findClass R_M = some m.cls := findClass_of_methodNamed B.named
  have hlocks := B.notSynchronized
  have hl := lv_entry ([.ref mo, .int tx]) (n := 4) (Nat.le_of_ble_eq_true rfl)
  rw [lg_entry_eq]
  generalize (lg_sl ([.ref mo, .int tx]) ++ List.replicate (4 - (lg_sl ([.ref mo, .int tx])).length) Slot.unset).toArray = ls at hl ⊢
  have hl : lv_has ls 4 [(0, .ref mo), (1, .int tx)] := hl
  refine lv_iconst (v := nI 0) hx hb d_M_ends_0 (by decide) ?_
  refine lv_istore_n hx hb d_M_ends_1 rfl hl (by decide) rfl (fun ls hl => ?_)
  have hl : lv_has ls 4 [(2, .int (nI 0)), (0, .ref mo), (1, .int tx)] := hl
  refine lv_iconst (v := nI 0) hx hb d_M_ends_2 (by decide) ?_
  refine lv_istore_n hx hb d_M_ends_3 rfl hl (by decide) rfl (fun ls hl => ?_)
  have hl : lv_has ls 4 [(3, .int (nI 0)), (2, .int (nI 0)), (0, .ref mo), (1, .int tx)] := hl
  refine xl_r (fun (u : Nat) ls => ((u ≤ 16)) ∧ lv_has ls 4 [(3, .int (nI u)), (2, .int (un h tx u)), (0, .ref mo), (1, .int tx)]) (fun u => 16 - u) (fun u ls hI ih4 => ?_) 0 _ ⟨Nat.zero_le _, hl⟩
  obtain ⟨hI, hl⟩ := hI
  have hu_u := hI
  refine lv_iload_n hx hb d_M_ends_4 rfl (lv_at hl 0 rfl) ?_
  refine lv_bipush (v := nI 16) hx hb d_M_ends_5 (by decide) ?_
  refine lv_icmp_ge (tgt := 37) hx hb d_M_ends_7 rfl (fun hc7 => ?_) (fun hc7 => ?_)
  · have hc7 : 16 ≤ u := (nI_leI (by omega) (by omega)).mp hc7
    refine lv_iload_n hx hb d_M_ends_37 rfl (lv_at hl 1 rfl) ?_
    refine xv_top (x' := un h tx 16) (by rw [show u = 16 by omega]) ?_
    exact W.iret (v := un h tx 16) hx hb hr (fun t ht hW => ⟨rfl, ht⟩) (fun _ h => by cases h) d_M_ends_38
  · have hc7 : ¬ (16 ≤ u) := fun q9 => hc7 ((nI_leI (by omega) (by omega)).mpr q9)
    refine lv_iload_n hx hb d_M_ends_10 rfl (lv_at hl 1 rfl) ?_
    refine lv_iload_n hx hb d_M_ends_11 rfl (lv_at hl 3 rfl) ?_
    refine lv_iload_n hx hb d_M_ends_12 rfl (lv_at hl 0 rfl) ?_
    refine xr_cal (va_runS (As := [.int tx, .int (nI u)]) (rest := [.int (un h tx u)]) ⟨hx, hb, hml, hown, hB⟩ (k_M_has l D  tx u (by omega)) ⟨callB_of 2 hB (xg0 mc_M_has) rfl rfl rfl (hB _ mz_M) (hB _ ml_M_35) (by decide +kernel) ⟨Nat.le_of_ble_eq_true rfl, Nat.le_of_ble_eq_true rfl⟩, hB _ ms_M_has⟩ (xpS (ws := []) (tys := []) (hP.sub [] rfl) (hK.sub [] rfl) hN) rfl rfl hl.1 rfl (lv_room (Nat.le_of_ble_eq_true rfl)) d_M_ends_13 ⟨Nat.le_of_ble_eq_true rfl, Nat.le_of_ble_eq_true rfl⟩) ?_
    refine lv_if_eq (tgt := 28) hx hb d_M_ends_16 rfl (fun hc16 => ?_) (fun hc16 => ?_)
    · have hc16 := b2i_0.mp hc16
      refine lv_iconst (v := nI 0) hx hb d_M_ends_28 (by decide) ?_
      refine lv_ior hx hb d_M_ends_29 ?_
      refine lv_istore_n hx hb d_M_ends_30 rfl hl (by decide) rfl (fun ls hl => ?_)
      have hl : lv_has ls 4 [(2, .int ((un h tx u) ||| (nI 0))), (3, .int (nI u)), (0, .ref mo), (1, .int tx)] := hl
      have hl : lv_has ls 4 [(2, .int (un h tx (u + 1))), (3, .int (nI u)), (0, .ref mo), (1, .int tx)] := by
        have hz : ((un h tx u) ||| (nI 0)) = un h tx (u + 1) := (or_z _).trans (if_neg (by rw [hc16]; decide)).symm
        rw [← hz]; exact hl
      refine lv_iinc hx hb d_M_ends_31 hl (k := 1) rfl (v := nI (u + 1)) (nI_1 u) (by decide) rfl (fun ls hl => ?_)
      have hl : lv_has ls 4 [(3, .int (nI (u + 1))), (2, .int (un h tx (u + 1))), (0, .ref mo), (1, .int tx)] := hl
      refine lv_goto (tgt := 4) hx hb d_M_ends_34 rfl ?_
      exact ih4 (u + 1) _ ⟨by omega, lv_sub hl [0, 1, 2, 3] rfl⟩ (by omega)
    · have hc16 := b2i_n.mp hc16
      refine lv_aload_n hx hb d_M_ends_19 rfl (lv_at hl 2 rfl) ?_
      refine va_get (D := D) (ci := 5) (v := .ref m0) (C := R_M) (T := F_M) (N := 10) hx hb hB in_M hown hK hP 0 rfl rfl 2 (by decide) (hB _ mf_M_7) (fun _ h9 => h9) rfl d_M_ends_20 ?_
      refine lv_iload_n hx hb d_M_ends_23 rfl (lv_at hl 0 rfl) ?_
      refine xa_ld (u := u) hx hb hK hP 1 0 rfl rfl (by omega) (by decide) d_M_ends_24 ?_
      refine lv_goto (tgt := 29) hx hb d_M_ends_25 rfl ?_
      refine lv_ior hx hb d_M_ends_29 ?_
      refine lv_istore_n hx hb d_M_ends_30 rfl hl (by decide) rfl (fun ls hl => ?_)
      have hl : lv_has ls 4 [(2, .int ((un h tx u) ||| (h u))), (3, .int (nI u)), (0, .ref mo), (1, .int tx)] := hl
      have hl : lv_has ls 4 [(2, .int (un h tx (u + 1))), (3, .int (nI u)), (0, .ref mo), (1, .int tx)] := by
        have hz : ((un h tx u) ||| (h u)) = un h tx (u + 1) := (if_pos hc16).symm
        rw [← hz]; exact hl
      refine lv_iinc hx hb d_M_ends_31 hl (k := 1) rfl (v := nI (u + 1)) (nI_1 u) (by decide) rfl (fun ls hl => ?_)
      have hl : lv_has ls 4 [(3, .int (nI (u + 1))), (2, .int (un h tx (u + 1))), (0, .ref mo), (1, .int tx)] := hl
      refine lv_goto (tgt := 4) hx hb d_M_ends_34 rfl ?_
      exact ih4 (u + 1) _ ⟨by omega, lv_sub hl [0, 1, 2, 3] rfl⟩ (by omega)
set_option maxHeartbeats 4000000 in
set_option maxRecDepth 100000 in
theorem k_M_dependent (l : Launch) (D : va_G) (mo m0 m1 m2 m3 m4 m5 m6 : Nat) (o0 o1 o2 o3 o4 o5 o6 : ClassId) (mc mn mg : Int32) (h mO mG mF mA mU mR : Nat → Int32) (hg : gd h) (r9 v9 d9 : Nat) (hr9 : r9 < 16) (hv9 : v9 < 16) (hd9 : d9 < 16) : Met l y_M_dependent (Cond.code y_M_dependent c_M_dependent 4 (some .boolean) :: BS) { frames := 2, cells := 0, slots := 0, locals := 46 } (va_Pc [.ref mo, .int (nI r9), .int (nI v9), .int (nI d9)] (xR D [(mo, .inr (5, [.int mc, .int mn, .ref m0, .int mg, .ref m1, .ref m2, .ref m3, .ref m4, .ref m5, .ref m6])), (m0, .inl (o0, 16, .inl h)), (m1, .inl (o1, 16, .inl mO)), (m2, .inl (o2, 16, .inl mG)), (m3, .inl (o3, 16, .inl mF)), (m4, .inl (o4, 32, .inl mA)), (m5, .inl (o5, 32, .inl mU)), (m6, .inl (o6, 32, .inl mR))] [(o0, .int), (o1, .int), (o2, .int), (o3, .int), (o4, .int), (o5, .int), (o6, .int)])) (QcRead (b2i (decide (d9 = r9) || decide (d9 = v9) || !(bt (SP h (bit r9) (bit d9)) v9)))) 0 0 (fun _ => False) := by
  refine Met.ofW (cc := c_M_dependent) (maxL := 4) (ret := (some .boolean)) (by decide) rfl ?_
  intro p e s m args below meth c s₁ B hml hv
  obtain ⟨rfl, hP, hK, hN⟩ := hv
  have hx := B.exec
  have hb := B.bytes
  have hr := B.returns
  have hB := xB B.pre
  have hown : s.vm.findClass R_M = some m.cls := findClass_of_methodNamed B.named
  have hlocks := B.notSynchronized
  have hl := lv_entry ([.ref mo, .int (nI r9), .int (nI v9), .int (nI d9)]) (n := 4) (Nat.le_of_ble_eq_true rfl)
  rw [lg_entry_eq]
  generalize (lg_sl ([.ref mo, .int (nI r9), .int (nI v9), .int (nI d9)]) ++ List.replicate (4 - (lg_sl ([.ref mo, .int (nI r9), .int (nI v9), .int (nI d9)])).length) Slot.unset).toArray = ls at hl ⊢
  have hl : lv_has ls 4 [(0, .ref mo), (1, .int (nI r9)), (2, .int (nI v9)), (3, .int (nI d9))] := hl
  refine lv_iload_n hx hb d_M_dependent_0 rfl (lv_at hl 3 rfl) ?_
  refine lv_iload_n hx hb d_M_dependent_1 rfl (lv_at hl 1 rfl) ?_
  refine lv_icmp_eq (tgt := 32) hx hb d_M_dependent_2 rfl (fun hc2 => ?_) (fun hc2 => ?_)
  · have hc2 : d9 = r9 := (nI_eq (by omega) (by omega)).mp hc2
    refine lv_iconst (v := nI 1) hx hb d_M_dependent_32 (by decide) ?_
    refine lv_goto (tgt := 37) hx hb d_M_dependent_33 rfl ?_
    refine xv_top (x' := b2i (decide (d9 = r9) || decide (d9 = v9) || !(bt (SP h (bit r9) (bit d9)) v9))) (by first | (rw [decide_eq_true hc2]; rfl) | (rw [decide_eq_false hc2, decide_eq_true hc7]; rfl) | (rw [decide_eq_false hc2, decide_eq_false hc7, hc29]; rfl)) ?_
    exact W.zret (v := b2i (decide (d9 = r9) || decide (d9 = v9) || !(bt (SP h (bit r9) (bit d9)) v9))) hx hb hr (b2i_nar _) (fun t ht hW => ⟨rfl, ht⟩) (fun _ h => by cases h) d_M_dependent_37
  · have hc2 : ¬ (d9 = r9) := fun q9 => hc2 ((nI_eq (by omega) (by omega)).mpr q9)
    refine lv_iload_n hx hb d_M_dependent_5 rfl (lv_at hl 3 rfl) ?_
    refine lv_iload_n hx hb d_M_dependent_6 rfl (lv_at hl 2 rfl) ?_
    refine lv_icmp_eq (tgt := 32) hx hb d_M_dependent_7 rfl (fun hc7 => ?_) (fun hc7 => ?_)
    · have hc7 : d9 = v9 := (nI_eq (by omega) (by omega)).mp hc7
      refine lv_iconst (v := nI 1) hx hb d_M_dependent_32 (by decide) ?_
      refine lv_goto (tgt := 37) hx hb d_M_dependent_33 rfl ?_
      refine xv_top (x' := b2i (decide (d9 = r9) || decide (d9 = v9) || !(bt (SP h (bit r9) (bit d9)) v9))) (by first | (rw [decide_eq_true hc2]; rfl) | (rw [decide_eq_false hc2, decide_eq_true hc7]; rfl) | (rw [decide_eq_false hc2, decide_eq_false hc7, hc29]; rfl)) ?_
      exact W.zret (v := b2i (decide (d9 = r9) || decide (d9 = v9) || !(bt (SP h (bit r9) (bit d9)) v9))) hx hb hr (b2i_nar _) (fun t ht hW => ⟨rfl, ht⟩) (fun _ h => by cases h) d_M_dependent_37
    · have hc7 : ¬ (d9 = v9) := fun q9 => hc7 ((nI_eq (by omega) (by omega)).mpr q9)
      refine lv_aload_n hx hb d_M_dependent_10 rfl (lv_at hl 0 rfl) ?_
      refine lv_iconst (v := nI 1) hx hb d_M_dependent_11 (by decide) ?_
      refine lv_iload_n hx hb d_M_dependent_12 rfl (lv_at hl 1 rfl) ?_
      refine lv_ishl hx hb d_M_dependent_13 ?_
      refine xv_top (x' := bit r9) (rfl) ?_
      refine lv_ldc (v := 65535) hx hb hown (hB _ mk_M_39) d_M_dependent_14 ?_
      refine lv_iconst (v := nI 1) hx hb d_M_dependent_16 (by decide) ?_
      refine lv_iload_n hx hb d_M_dependent_17 rfl (lv_at hl 3 rfl) ?_
      refine lv_ishl hx hb d_M_dependent_18 ?_
      refine xv_top (x' := bit d9) (rfl) ?_
      refine lv_iconst (v := -1) hx hb d_M_dependent_19 (by decide) ?_
      refine lv_ixor hx hb d_M_dependent_20 ?_
      refine lv_iand hx hb d_M_dependent_21 ?_
      refine xr_cal (va_runV (As := [.int (bit r9), .int (65535 &&& ((bit d9) ^^^ (-1)))]) (rest := []) ⟨hx, hb, hml, hown, hB⟩ (k_M_spread l D mo m0 m1 m2 m3 m4 m5 m6 o0 o1 o2 o3 o4 o5 o6 mc mn mg h mO mG mF mA mU mR hg (bit r9) (65535 &&& ((bit d9) ^^^ (-1))) (bit d9) (m16_bit hr9) (al_d hd9)) ⟨callB_of 2 hB (xg0 mc_M_spread) rfl rfl rfl (hB _ mz_M) (hB _ ml_M_40) (by decide +kernel) ⟨Nat.le_of_ble_eq_true rfl, Nat.le_of_ble_eq_true rfl⟩, hB _ mi_M_spread, hB _ me_M_spread⟩ (xpV (ws := [(mo, .inr (5, [.int mc, .int mn, .ref m0, .int mg, .ref m1, .ref m2, .ref m3, .ref m4, .ref m5, .ref m6])), (m0, .inl (o0, 16, .inl h)), (m1, .inl (o1, 16, .inl mO)), (m2, .inl (o2, 16, .inl mG)), (m3, .inl (o3, 16, .inl mF)), (m4, .inl (o4, 32, .inl mA)), (m5, .inl (o5, 32, .inl mU)), (m6, .inl (o6, 32, .inl mR))]) (tys := [(o0, .int), (o1, .int), (o2, .int), (o3, .int), (o4, .int), (o5, .int), (o6, .int)]) (hP.sub [0, 1, 2, 3, 4, 5, 6, 7] rfl) (hK.sub [0, 1, 2, 3, 4, 5, 6] rfl) hN (va_recv (ci := 5) (q0 := 0) (q := (R_M, F_M, 10)) hK hP rfl rfl)) rfl rfl hl.1 rfl (lv_room (Nat.le_of_ble_eq_true rfl)) d_M_dependent_22 ⟨Nat.le_of_ble_eq_true rfl, Nat.le_of_ble_eq_true rfl⟩) ?_
      refine lv_iload_n hx hb d_M_dependent_25 rfl (lv_at hl 2 rfl) ?_
      refine xr_cal (va_runS (As := [.int (SP h (bit r9) (bit d9)), .int (nI v9)]) (rest := []) ⟨hx, hb, hml, hown, hB⟩ (k_M_has l D  (SP h (bit r9) (bit d9)) v9 (by omega)) ⟨callB_of 2 hB (xg0 mc_M_has) rfl rfl rfl (hB _ mz_M) (hB _ ml_M_35) (by decide +kernel) ⟨Nat.le_of_ble_eq_true rfl, Nat.le_of_ble_eq_true rfl⟩, hB _ ms_M_has⟩ (xpS (ws := []) (tys := []) (hP.sub [] rfl) (hK.sub [] rfl) hN) rfl rfl hl.1 rfl (lv_room (Nat.le_of_ble_eq_true rfl)) d_M_dependent_26 ⟨Nat.le_of_ble_eq_true rfl, Nat.le_of_ble_eq_true rfl⟩) ?_
      refine lv_if_ne (tgt := 36) hx hb d_M_dependent_29 rfl (fun hc29 => ?_) (fun hc29 => ?_)
      · have hc29 := b2i_n.mp hc29
        refine lv_iconst (v := nI 0) hx hb d_M_dependent_36 (by decide) ?_
        refine xv_top (x' := b2i (decide (d9 = r9) || decide (d9 = v9) || !(bt (SP h (bit r9) (bit d9)) v9))) (by first | (rw [decide_eq_true hc2]; rfl) | (rw [decide_eq_false hc2, decide_eq_true hc7]; rfl) | (rw [decide_eq_false hc2, decide_eq_false hc7, hc29]; rfl)) ?_
        exact W.zret (v := b2i (decide (d9 = r9) || decide (d9 = v9) || !(bt (SP h (bit r9) (bit d9)) v9))) hx hb hr (b2i_nar _) (fun t ht hW => ⟨rfl, ht⟩) (fun _ h => by cases h) d_M_dependent_37
      · have hc29 := b2i_0.mp hc29
        refine lv_iconst (v := nI 1) hx hb d_M_dependent_32 (by decide) ?_
        refine lv_goto (tgt := 37) hx hb d_M_dependent_33 rfl ?_
        refine xv_top (x' := b2i (decide (d9 = r9) || decide (d9 = v9) || !(bt (SP h (bit r9) (bit d9)) v9))) (by first | (rw [decide_eq_true hc2]; rfl) | (rw [decide_eq_false hc2, decide_eq_true hc7]; rfl) | (rw [decide_eq_false hc2, decide_eq_false hc7, hc29]; rfl)) ?_
        exact W.zret (v := b2i (decide (d9 = r9) || decide (d9 = v9) || !(bt (SP h (bit r9) (bit d9)) v9))) hx hb hr (b2i_nar _) (fun t ht hW => ⟨rfl, ht⟩) (fun _ h => by cases h) d_M_dependent_37
set_option maxHeartbeats 4000000 in
set_option maxRecDepth 100000 in
theorem k_M_leads (l : Launch) (D : va_G) (mo m0 m1 m2 m3 m4 m5 m6 : Nat) (o0 o1 o2 o3 o4 o5 o6 : ClassId) (mc mn mg : Int32) (h mO mG mF mA mU mR : Nat → Int32) (a9 b9 : Nat) (ha9 : a9 < 16) (hb9 : b9 < 16) : Met l y_M_leads (Cond.code y_M_leads c_M_leads 3 (some .boolean) :: BS) { frames := 2, cells := 0, slots := 0, locals := 44 } (va_Pc [.ref mo, .int (nI a9), .int (nI b9)] (xR D [(mo, .inr (5, [.int mc, .int mn, .ref m0, .int mg, .ref m1, .ref m2, .ref m3, .ref m4, .ref m5, .ref m6])), (m0, .inl (o0, 16, .inl h)), (m1, .inl (o1, 16, .inl mO)), (m2, .inl (o2, 16, .inl mG)), (m3, .inl (o3, 16, .inl mF)), (m4, .inl (o4, 32, .inl mA)), (m5, .inl (o5, 32, .inl mU)), (m6, .inl (o6, 32, .inl mR))] [(o0, .int), (o1, .int), (o2, .int), (o3, .int), (o4, .int), (o5, .int), (o6, .int)])) (QcRead (b2i (!(decide (a9 = b9)) && !(decide (un h (mG a9) 16 &&& mG b9 = 0))))) 0 0 (fun _ => False) := by
  refine Met.ofW (cc := c_M_leads) (maxL := 3) (ret := (some .boolean)) (by decide) rfl ?_
  intro p e s m args below meth c s₁ B hml hv
  obtain ⟨rfl, hP, hK, hN⟩ := hv
  have hx := B.exec
  have hb := B.bytes
  have hr := B.returns
  have hB := xB B.pre
  have hown : s.vm.findClass R_M = some m.cls := findClass_of_methodNamed B.named
  have hlocks := B.notSynchronized
  have hl := lv_entry ([.ref mo, .int (nI a9), .int (nI b9)]) (n := 3) (Nat.le_of_ble_eq_true rfl)
  rw [lg_entry_eq]
  generalize (lg_sl ([.ref mo, .int (nI a9), .int (nI b9)]) ++ List.replicate (3 - (lg_sl ([.ref mo, .int (nI a9), .int (nI b9)])).length) Slot.unset).toArray = ls at hl ⊢
  have hl : lv_has ls 3 [(0, .ref mo), (1, .int (nI a9)), (2, .int (nI b9))] := hl
  refine lv_iload_n hx hb d_M_leads_0 rfl (lv_at hl 1 rfl) ?_
  refine lv_iload_n hx hb d_M_leads_1 rfl (lv_at hl 2 rfl) ?_
  refine lv_icmp_eq (tgt := 29) hx hb d_M_leads_2 rfl (fun hc2 => ?_) (fun hc2 => ?_)
  · have hc2 : a9 = b9 := (nI_eq (by omega) (by omega)).mp hc2
    refine lv_iconst (v := nI 0) hx hb d_M_leads_29 (by decide) ?_
    refine xv_top (x' := b2i (!(decide (a9 = b9)) && !(decide (un h (mG a9) 16 &&& mG b9 = 0)))) (by first | (rw [decide_eq_true hc2]; rfl) | (rw [decide_eq_false hc2, decide_eq_true hc22]; rfl) | (rw [decide_eq_false hc2, decide_eq_false hc22]; rfl)) ?_
    exact W.zret (v := b2i (!(decide (a9 = b9)) && !(decide (un h (mG a9) 16 &&& mG b9 = 0)))) hx hb hr (b2i_nar _) (fun t ht hW => ⟨rfl, ht⟩) (fun _ h => by cases h) d_M_leads_30
  · have hc2 : ¬ (a9 = b9) := fun q9 => hc2 ((nI_eq (by omega) (by omega)).mpr q9)
    refine lv_aload_n hx hb d_M_leads_5 rfl (lv_at hl 0 rfl) ?_
    refine lv_aload_n hx hb d_M_leads_6 rfl (lv_at hl 0 rfl) ?_
    refine va_get (D := D) (ci := 5) (v := .ref m2) (C := R_M) (T := F_M) (N := 10) hx hb hB in_M hown hK hP 0 rfl rfl 5 (by decide) (hB _ mf_M_16) (fun _ h9 => h9) rfl d_M_leads_7 ?_
    refine lv_iload_n hx hb d_M_leads_10 rfl (lv_at hl 1 rfl) ?_
    refine xa_ld (u := a9) hx hb hK hP 3 2 rfl rfl (by omega) (by decide) d_M_leads_11 ?_
    refine xr_cal (va_runV (As := [.int (mG a9)]) (rest := []) ⟨hx, hb, hml, hown, hB⟩ (k_M_ends l D mo m0 m1 m2 m3 m4 m5 m6 o0 o1 o2 o3 o4 o5 o6 mc mn mg h mO mG mF mA mU mR (mG a9)) ⟨callB_of 1 hB (xg0 mc_M_ends) rfl rfl rfl (hB _ mz_M) (hB _ ml_M_64) (by decide +kernel) ⟨Nat.le_of_ble_eq_true rfl, Nat.le_of_ble_eq_true rfl⟩, hB _ mi_M_ends, hB _ me_M_ends⟩ (xpV (ws := [(mo, .inr (5, [.int mc, .int mn, .ref m0, .int mg, .ref m1, .ref m2, .ref m3, .ref m4, .ref m5, .ref m6])), (m0, .inl (o0, 16, .inl h)), (m1, .inl (o1, 16, .inl mO)), (m2, .inl (o2, 16, .inl mG)), (m3, .inl (o3, 16, .inl mF)), (m4, .inl (o4, 32, .inl mA)), (m5, .inl (o5, 32, .inl mU)), (m6, .inl (o6, 32, .inl mR))]) (tys := [(o0, .int), (o1, .int), (o2, .int), (o3, .int), (o4, .int), (o5, .int), (o6, .int)]) (hP.sub [0, 1, 2, 3, 4, 5, 6, 7] rfl) (hK.sub [0, 1, 2, 3, 4, 5, 6] rfl) hN (va_recv (ci := 5) (q0 := 0) (q := (R_M, F_M, 10)) hK hP rfl rfl)) rfl rfl hl.1 rfl (lv_room (Nat.le_of_ble_eq_true rfl)) d_M_leads_12 ⟨Nat.le_of_ble_eq_true rfl, Nat.le_of_ble_eq_true rfl⟩) ?_
    refine lv_aload_n hx hb d_M_leads_15 rfl (lv_at hl 0 rfl) ?_
    refine va_get (D := D) (ci := 5) (v := .ref m2) (C := R_M) (T := F_M) (N := 10) hx hb hB in_M hown hK hP 0 rfl rfl 5 (by decide) (hB _ mf_M_16) (fun _ h9 => h9) rfl d_M_leads_16 ?_
    refine lv_iload_n hx hb d_M_leads_19 rfl (lv_at hl 2 rfl) ?_
    refine xa_ld (u := b9) hx hb hK hP 3 2 rfl rfl (by omega) (by decide) d_M_leads_20 ?_
    refine lv_iand hx hb d_M_leads_21 ?_
    refine lv_if_eq (tgt := 29) hx hb d_M_leads_22 rfl (fun hc22 => ?_) (fun hc22 => ?_)
    · refine lv_iconst (v := nI 0) hx hb d_M_leads_29 (by decide) ?_
      refine xv_top (x' := b2i (!(decide (a9 = b9)) && !(decide (un h (mG a9) 16 &&& mG b9 = 0)))) (by first | (rw [decide_eq_true hc2]; rfl) | (rw [decide_eq_false hc2, decide_eq_true hc22]; rfl) | (rw [decide_eq_false hc2, decide_eq_false hc22]; rfl)) ?_
      exact W.zret (v := b2i (!(decide (a9 = b9)) && !(decide (un h (mG a9) 16 &&& mG b9 = 0)))) hx hb hr (b2i_nar _) (fun t ht hW => ⟨rfl, ht⟩) (fun _ h => by cases h) d_M_leads_30
    · refine lv_iconst (v := nI 1) hx hb d_M_leads_25 (by decide) ?_
      refine lv_goto (tgt := 30) hx hb d_M_leads_26 rfl ?_
      refine xv_top (x' := b2i (!(decide (a9 = b9)) && !(decide (un h (mG a9) 16 &&& mG b9 = 0)))) (by first | (rw [decide_eq_true hc2]; rfl) | (rw [decide_eq_false hc2, decide_eq_true hc22]; rfl) | (rw [decide_eq_false hc2, decide_eq_false hc22]; rfl)) ?_
      exact W.zret (v := b2i (!(decide (a9 = b9)) && !(decide (un h (mG a9) 16 &&& mG b9 = 0)))) hx hb hr (b2i_nar _) (fun t ht hW => ⟨rfl, ht⟩) (fun _ h => by cases h) d_M_leads_30
set_option maxHeartbeats 4000000 in
set_option maxRecDepth 100000 in
theorem k_M_thrown (l : Launch) (D : va_G) (mo m0 m1 m2 m3 m4 m5 m6 : Nat) (o0 o1 o2 o3 o4 o5 o6 : ClassId) (mc mn mg : Int32) (h mO mG mF mA mU mR : Nat → Int32)  : Met l y_M_thrown (Cond.code y_M_thrown c_M_thrown 1 (some .int) :: BS) { frames := 0, cells := 0, slots := 0, locals := 0 } (va_Pc [.ref mo] (xR D [(mo, .inr (5, [.int mc, .int mn, .ref m0, .int mg, .ref m1, .ref m2, .ref m3, .ref m4, .ref m5, .ref m6])), (m0, .inl (o0, 16, .inl h)), (m1, .inl (o1, 16, .inl mO)), (m2, .inl (o2, 16, .inl mG)), (m3, .inl (o3, 16, .inl mF)), (m4, .inl (o4, 32, .inl mA)), (m5, .inl (o5, 32, .inl mU)), (m6, .inl (o6, 32, .inl mR))] [(o0, .int), (o1, .int), (o2, .int), (o3, .int), (o4, .int), (o5, .int), (o6, .int)])) (QcRead (mc)) 0 0 (fun _ => False) := by
  refine Met.ofW (cc := c_M_thrown) (maxL := 1) (ret := (some .int)) (by decide) rfl ?_
  intro p e s m args below meth c s₁ B hml hv
  obtain ⟨rfl, hP, hK, hN⟩ := hv
  have hx := B.exec
  have hb := B.bytes
  have hr := B.returns
  have hB := xB B.pre
  have hown : s.vm.findClass R_M = some m.cls := findClass_of_methodNamed B.named
  have hlocks := B.notSynchronized
  have hl := lv_entry ([.ref mo]) (n := 1) (Nat.le_of_ble_eq_true rfl)
  rw [lg_entry_eq]
  generalize (lg_sl ([.ref mo]) ++ List.replicate (1 - (lg_sl ([.ref mo])).length) Slot.unset).toArray = ls at hl ⊢
  have hl : lv_has ls 1 [(0, .ref mo)] := hl
  refine lv_aload_n hx hb d_M_thrown_0 rfl (lv_at hl 0 rfl) ?_
  refine va_get (D := D) (ci := 5) (v := .int mc) (C := R_M) (T := F_M) (N := 10) hx hb hB in_M hown hK hP 0 rfl rfl 0 (by decide) (hB _ mf_M_31) (fun _ h9 => h9) rfl d_M_thrown_1 ?_
  exact W.iret (v := mc) hx hb hr (fun t ht hW => ⟨rfl, ht⟩) (fun _ h => by cases h) d_M_thrown_4
