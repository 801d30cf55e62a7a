set_option maxHeartbeats 4000000 in
set_option maxRecDepth 100000 in
theorem k_Wy_least (l : Launch) (D : va_G) (x : Int32) : Met l y_Wy_least (Cond.code y_Wy_least c_Wy_least 2 (some .int) :: BS) { frames := 1, cells := 0, slots := 0, locals := 21 } (va_Pc [.int x] (xR D [] [])) (QcRead (nI (first (fun i => bt x i) 0 16))) 0 0 (fun _ => False) := by
  refine Met.ofW (cc := c_Wy_least) (maxL := 2) (ret := (some .int)) (by decide) rfl ?_
  intro p e s m args below meth c s₁ B hml hv
  obtain ⟨rfl, hP, hK, hN⟩ := hv
  have hx := B.exec
  have hb := B.bytes
  have hr := B.returns
  have hB := xB B.pre
  have hown : s.vm.findClass R_Wy = some m.cls := findClass_of_methodNamed B.named
  have hlocks := B.notSynchronized
  have hl := lv_entry ([.int x]) (n := 2) (Nat.le_of_ble_eq_true rfl)
  rw [lg_entry_eq]
  generalize (lg_sl ([.int x]) ++ List.replicate (2 - (lg_sl ([.int x])).length) Slot.unset).toArray = ls at hl ⊢
  have hl : lv_has ls 2 [(0, .int x)] := hl
  refine lv_iconst (v := nI 0) hx hb d_Wy_least_0 (by decide) ?_
  refine lv_istore_n hx hb d_Wy_least_1 rfl hl (by decide) rfl (fun ls hl => ?_)
  have hl : lv_has ls 2 [(1, .int (nI 0)), (0, .int x)] := hl
  refine xl_r (fun (i : Nat) ls => (i ≤ 16 ∧ ∀ k9, k9 < i → (fun i => bt x i) k9 = false) ∧ lv_has ls 2 [(1, .int (nI i)), (0, .int x)]) (fun i => 16 - i) (fun i ls hI ih2 => ?_) 0 _ ⟨⟨Nat.zero_le _, lt_0⟩, hl⟩
  obtain ⟨hI, hl⟩ := hI
  obtain ⟨hu_i, hm⟩ := hI
  refine lv_iload_n hx hb d_Wy_least_2 rfl (lv_at hl 0 rfl) ?_
  refine lv_bipush (v := nI 16) hx hb d_Wy_least_3 (by decide) ?_
  refine lv_icmp_ge (tgt := 24) hx hb d_Wy_least_5 rfl (fun hc5 => ?_) (fun hc5 => ?_)
  · have hc5 : 16 ≤ i := (nI_leI (by omega) (by omega)).mp hc5
    refine lv_iconst (v := nI 0) hx hb d_Wy_least_24 (by decide) ?_
    refine xv_top (x' := nI (first (fun i => bt x i) 0 16)) (by first | rw [first_eq (p := (fun i => bt x i)) hc13 (by omega) hm] | rw [first_none (p := (fun i => bt x i)) (fun k9 hk9 => hm k9 (by omega))]) ?_
    exact W.iret (v := nI (first (fun i => bt x i) 0 16)) hx hb hr (fun t ht hW => ⟨rfl, ht⟩) (fun _ h => by cases h) d_Wy_least_25
  · have hc5 : ¬ (16 ≤ i) := fun q9 => hc5 ((nI_leI (by omega) (by omega)).mpr q9)
    refine lv_iload_n hx hb d_Wy_least_8 rfl (lv_at hl 1 rfl) ?_
    refine lv_iload_n hx hb d_Wy_least_9 rfl (lv_at hl 0 rfl) ?_
    refine xr_cal (va_runSN (As := [.int x, .int (nI i)]) (rest := []) ⟨hx, hb, hml, hown, hB⟩ (k_A_has l D x i (by omega)) ⟨va_cnB 2 hB (xg0 mc_A_has) rfl rfl rfl (xn_Wy_23 hN) (hB _ mz_A) (by decide +kernel) ⟨Nat.le_of_ble_eq_true rfl, Nat.le_of_ble_eq_true rfl⟩, hB _ ms_A_has, trivial⟩ (xpS (ws := []) (tys := []) (hP.sub [] rfl) (hK.sub [] rfl) hN) rfl rfl hl.1 rfl (lv_room (Nat.le_of_ble_eq_true rfl)) d_Wy_least_10 ⟨Nat.le_of_ble_eq_true rfl, Nat.le_of_ble_eq_true rfl⟩) ?_
    refine lv_if_eq (tgt := 18) hx hb d_Wy_least_13 rfl (fun hc13 => ?_) (fun hc13 => ?_)
    · have hc13 := b2i_0.mp hc13
      refine lv_iinc hx hb d_Wy_least_18 hl (k := 0) rfl (v := nI (i + 1)) (nI_1 i) (by decide) rfl (fun ls hl => ?_)
      have hl : lv_has ls 2 [(1, .int (nI (i + 1))), (0, .int x)] := hl
      refine lv_goto (tgt := 2) hx hb d_Wy_least_21 rfl ?_
      exact ih2 (i + 1) _ ⟨⟨by omega, lt_s hm (by exact hc13)⟩, lv_sub hl [0, 1] rfl⟩ (by omega)
    · have hc13 := b2i_n.mp hc13
      refine lv_iload_n hx hb d_Wy_least_16 rfl (lv_at hl 0 rfl) ?_
      refine xv_top (x' := nI (first (fun i => bt x i) 0 16)) (by first | rw [first_eq (p := (fun i => bt x i)) hc13 (by omega) hm] | rw [first_none (p := (fun i => bt x i)) (fun k9 hk9 => hm k9 (by omega))]) ?_
      exact W.iret (v := nI (first (fun i => bt x i) 0 16)) hx hb hr (fun t ht hW => ⟨rfl, ht⟩) (fun _ h => by cases h) d_Wy_least_17
set_option maxHeartbeats 4000000 in
set_option maxRecDepth 100000 in
theorem k_Wy_tailsInto (l : Launch) (D : va_G) (w hd : Nat) (cA : ClassId) (ct : Int32) (h : Nat → Int32) (ex : Int32) : Met l y_Wy_tailsInto (Cond.code y_Wy_tailsInto c_Wy_tailsInto 4 (some .int) :: BS) { frames := 1, cells := 0, slots := 0, locals := 21 } (va_Pc [.int ex, .ref w] (xR D [(w, .inr (1, [.ref hd, .int ct])), (hd, .inl (cA, 16, .inl h))] [(cA, .int)])) (QcRead (tl h ex 16)) 0 0 (fun _ => False) := by
  refine Met.ofW (cc := c_Wy_tailsInto) (maxL := 4) (ret := (some .int)) (by decide) rfl ?_
  intro p e s m args below meth c s₁ B hml hv
  obtain ⟨rfl, hP, hK, hN⟩ := hv
  have hx := B.exec
  have hb := B.bytes
  have hr := B.returns
  have hB := xB B.pre
  have hown : s.vm.findClass R_Wy = some m.cls := findClass_of_methodNamed B.named
  have hlocks := B.notSynchronized
  have hl := lv_entry ([.int ex, .ref w]) (n := 4) (Nat.le_of_ble_eq_true rfl)
  rw [lg_entry_eq]
  generalize (lg_sl ([.int ex, .ref w]) ++ List.replicate (4 - (lg_sl ([.int ex, .ref w])).length) Slot.unset).toArray = ls at hl ⊢
  have hl : lv_has ls 4 [(0, .int ex), (1, .ref w)] := hl
  refine lv_iconst (v := nI 0) hx hb d_Wy_tailsInto_0 (by decide) ?_
  refine lv_istore_n hx hb d_Wy_tailsInto_1 rfl hl (by decide) rfl (fun ls hl => ?_)
  have hl : lv_has ls 4 [(2, .int (nI 0)), (0, .int ex), (1, .ref w)] := hl
  refine lv_iconst (v := nI 0) hx hb d_Wy_tailsInto_2 (by decide) ?_
  refine lv_istore_n hx hb d_Wy_tailsInto_3 rfl hl (by decide) rfl (fun ls hl => ?_)
  have hl : lv_has ls 4 [(3, .int (nI 0)), (2, .int (nI 0)), (0, .int ex), (1, .ref w)] := hl
  refine xl_r (fun (u : Nat) ls => (u ≤ 16) ∧ lv_has ls 4 [(3, .int (nI u)), (2, .int (tl h ex u)), (0, .int ex), (1, .ref w)]) (fun u => 16 - u) (fun u ls hI ih4 => ?_) 0 _ ⟨Nat.zero_le _, hl⟩
  obtain ⟨hI, hl⟩ := hI
  have hu_u := hI
  refine lv_iload_n hx hb d_Wy_tailsInto_4 rfl (lv_at hl 0 rfl) ?_
  refine lv_bipush (v := nI 16) hx hb d_Wy_tailsInto_5 (by decide) ?_
  refine lv_icmp_ge (tgt := 33) hx hb d_Wy_tailsInto_7 rfl (fun hc7 => ?_) (fun hc7 => ?_)
  · have hc7 : 16 ≤ u := (nI_leI (by omega) (by omega)).mp hc7
    refine lv_iload_n hx hb d_Wy_tailsInto_33 rfl (lv_at hl 1 rfl) ?_
    refine xv_top (x' := tl h ex 16) (by rw [show u = 16 by omega]) ?_
    exact W.iret (v := tl h ex 16) hx hb hr (fun t ht hW => ⟨rfl, ht⟩) (fun _ h => by cases h) d_Wy_tailsInto_34
  · have hc7 : ¬ (16 ≤ u) := fun q9 => hc7 ((nI_leI (by omega) (by omega)).mpr q9)
    refine lv_aload_n hx hb d_Wy_tailsInto_10 rfl (lv_at hl 3 rfl) ?_
    refine lv_iload_n hx hb d_Wy_tailsInto_11 rfl (lv_at hl 0 rfl) ?_
    refine xr_cal (va_runV (As := [.int (nI u)]) (rest := []) ⟨hx, hb, hml, hown, hB⟩ (k_Web_headsOf l D w hd cA ct h u (by omega)) ⟨callB_of 1 hB (xg0 mc_Web_headsOf) rfl rfl rfl (hB _ mz_Web) (hB _ ml_Wy_27) (by decide +kernel) ⟨Nat.le_of_ble_eq_true rfl, Nat.le_of_ble_eq_true rfl⟩, hB _ mi_Web_headsOf, hB _ me_Web_headsOf⟩ (xpV (ws := [(w, .inr (1, [.ref hd, .int ct])), (hd, .inl (cA, 16, .inl h))]) (tys := [(cA, .int)]) (hP.sub [0, 1] rfl) (hK.sub [0] rfl) hN (va_recv (ci := 1) (q0 := 0) (q := (R_Web, F_Web, 2)) hK hP rfl rfl)) rfl rfl hl.1 rfl (lv_room (Nat.le_of_ble_eq_true rfl)) d_Wy_tailsInto_12 ⟨Nat.le_of_ble_eq_true rfl, Nat.le_of_ble_eq_true rfl⟩) ?_
    refine lv_iload_n hx hb d_Wy_tailsInto_15 rfl (lv_at hl 2 rfl) ?_
    refine lv_iand hx hb d_Wy_tailsInto_16 ?_
    refine lv_if_eq (tgt := 27) hx hb d_Wy_tailsInto_17 rfl (fun hc17 => ?_) (fun hc17 => ?_)
    · have hl : lv_has ls 4 [(3, .int (nI u)), (2, .int (tl h ex (u + 1))), (0, .int ex), (1, .ref w)] := by
        have hz : (tl h ex u) = tl h ex (u + 1) := (if_pos hc17).symm
        rw [← hz]; exact hl
      refine lv_iinc hx hb d_Wy_tailsInto_27 hl (k := 0) rfl (v := nI (u + 1)) (nI_1 u) (by decide) rfl (fun ls hl => ?_)
      have hl : lv_has ls 4 [(3, .int (nI (u + 1))), (2, .int (tl h ex (u + 1))), (0, .int ex), (1, .ref w)] := hl
      refine lv_goto (tgt := 4) hx hb d_Wy_tailsInto_30 rfl ?_
      exact ih4 (u + 1) _ ⟨by omega, lv_sub hl [0, 1, 2, 3] rfl⟩ (by omega)
    · refine lv_iload_n hx hb d_Wy_tailsInto_20 rfl (lv_at hl 1 rfl) ?_
      refine lv_iload_n hx hb d_Wy_tailsInto_21 rfl (lv_at hl 0 rfl) ?_
      refine xr_cal (va_runSN (As := [.int (nI u)]) (rest := [.int (tl h ex u)]) ⟨hx, hb, hml, hown, hB⟩ (k_A_only l D u) ⟨va_cnB 1 hB (xg0 mc_A_only) rfl rfl rfl (xn_Wy_15 hN) (hB _ mz_A) (by decide +kernel) ⟨Nat.le_of_ble_eq_true rfl, Nat.le_of_ble_eq_true rfl⟩, hB _ ms_A_only, trivial⟩ (xpS (ws := []) (tys := []) (hP.sub [] rfl) (hK.sub [] rfl) hN) rfl rfl hl.1 rfl (lv_room (Nat.le_of_ble_eq_true rfl)) d_Wy_tailsInto_22 ⟨Nat.le_of_ble_eq_true rfl, Nat.le_of_ble_eq_true rfl⟩) ?_
      refine lv_ior hx hb d_Wy_tailsInto_25 ?_
      refine lv_istore_n hx hb d_Wy_tailsInto_26 rfl hl (by decide) rfl (fun ls hl => ?_)
      have hl : lv_has ls 4 [(2, .int ((tl h ex u) ||| (bit u))), (3, .int (nI u)), (0, .int ex), (1, .ref w)] := hl
      have hl : lv_has ls 4 [(2, .int (tl h ex (u + 1))), (3, .int (nI u)), (0, .int ex), (1, .ref w)] := by
        have hz : ((tl h ex u) ||| (bit u)) = tl h ex (u + 1) := (if_neg hc17).symm
        rw [← hz]; exact hl
      refine lv_iinc hx hb d_Wy_tailsInto_27 hl (k := 1) rfl (v := nI (u + 1)) (nI_1 u) (by decide) rfl (fun ls hl => ?_)
      have hl : lv_has ls 4 [(3, .int (nI (u + 1))), (2, .int (tl h ex (u + 1))), (0, .int ex), (1, .ref w)] := hl
      refine lv_goto (tgt := 4) hx hb d_Wy_tailsInto_30 rfl ?_
      exact ih4 (u + 1) _ ⟨by omega, lv_sub hl [0, 1, 2, 3] rfl⟩ (by omega)
set_option maxHeartbeats 4000000 in
set_option maxRecDepth 100000 in
theorem k_Wy_lengthFrom (l : Launch) (D : va_G) (yw la : Nat) (cL : ClassId) (lf : Nat → Int32) (ux : Nat) (hux : ux < 32) : Met l y_Wy_lengthFrom (Cond.code y_Wy_lengthFrom c_Wy_lengthFrom 3 (some .int) :: BS) { frames := 1, cells := 0, slots := 0, locals := 21 } (va_Pc [.ref yw, .int (nI ux)] (xR D [(yw, .inr (3, [.ref la])), (la, .inl (cL, 16, .inl lf))] [(cL, .int)])) (QcRead (lenF lf ux)) 0 0 (fun _ => False) := by
  refine Met.ofW (cc := c_Wy_lengthFrom) (maxL := 3) (ret := (some .int)) (by decide) rfl ?_
  intro p e s m args below meth c s₁ B hml hv
  obtain ⟨rfl, hP, hK, hN⟩ := hv
  have hx := B.exec
  have hb := B.bytes
  have hr := B.returns
  have hB := xB B.pre
  have hown : s.vm.findClass R_Wy = some m.cls := findClass_of_methodNamed B.named
  have hlocks := B.notSynchronized
  have hl := lv_entry ([.ref yw, .int (nI ux)]) (n := 3) (Nat.le_of_ble_eq_true rfl)
  rw [lg_entry_eq]
  generalize (lg_sl ([.ref yw, .int (nI ux)]) ++ List.replicate (3 - (lg_sl ([.ref yw, .int (nI ux)])).length) Slot.unset).toArray = ls at hl ⊢
  have hl : lv_has ls 3 [(0, .ref yw), (1, .int (nI ux))] := hl
  refine lv_iconst (v := nI 0) hx hb d_Wy_lengthFrom_0 (by decide) ?_
  refine lv_istore_n hx hb d_Wy_lengthFrom_1 rfl hl (by decide) rfl (fun ls hl => ?_)
  have hl : lv_has ls 3 [(2, .int (nI 0)), (0, .ref yw), (1, .int (nI ux))] := hl
  refine xl_r (fun (n : Nat) ls => (n ≤ 16 ∧ ∀ k9, k9 < n → (fun n => bt (lf n) ux) k9 = false) ∧ lv_has ls 3 [(2, .int (nI n)), (0, .ref yw), (1, .int (nI ux))]) (fun n => 16 - n) (fun n ls hI ih2 => ?_) 0 _ ⟨⟨Nat.zero_le _, lt_0⟩, hl⟩
  obtain ⟨hI, hl⟩ := hI
  obtain ⟨hu_n, hm⟩ := hI
  refine lv_iload_n hx hb d_Wy_lengthFrom_2 rfl (lv_at hl 0 rfl) ?_
  refine lv_bipush (v := nI 16) hx hb d_Wy_lengthFrom_3 (by decide) ?_
  refine lv_icmp_ge (tgt := 29) hx hb d_Wy_lengthFrom_5 rfl (fun hc5 => ?_) (fun hc5 => ?_)
  · have hc5 : 16 ≤ n := (nI_leI (by omega) (by omega)).mp hc5
    refine lv_iconst (v := -1) hx hb d_Wy_lengthFrom_29 (by decide) ?_
    refine xv_top (x' := lenF lf ux) (by unfold lenF; first | rw [first_eq (p := (fun n => bt (lf n) ux)) hc18 (by omega) hm, if_pos (by omega)] | rw [first_none (p := (fun n => bt (lf n) ux)) (fun k9 hk9 => hm k9 (by omega)), if_neg (by omega)]) ?_
    exact W.iret (v := lenF lf ux) hx hb hr (fun t ht hW => ⟨rfl, ht⟩) (fun _ h => by cases h) d_Wy_lengthFrom_30
  · have hc5 : ¬ (16 ≤ n) := fun q9 => hc5 ((nI_leI (by omega) (by omega)).mpr q9)
    refine lv_aload_n hx hb d_Wy_lengthFrom_8 rfl (lv_at hl 1 rfl) ?_
    refine va_get (D := D) (ci := 3) (v := .ref la) (C := R_Wy) (T := F_Wy) (N := 1) hx hb hB in_Wy hown hK hP 0 rfl rfl 0 (by decide) (hB _ mf_Wy_9) (fun _ h9 => h9) rfl d_Wy_lengthFrom_9 ?_
    refine lv_iload_n hx hb d_Wy_lengthFrom_12 rfl (lv_at hl 0 rfl) ?_
    refine xa_ld (u := n) hx hb hK hP 1 0 rfl rfl (by omega) (by decide) d_Wy_lengthFrom_13 ?_
    refine lv_iload_n hx hb d_Wy_lengthFrom_14 rfl (lv_at hl 2 rfl) ?_
    refine xr_cal (va_runSN (As := [.int (lf n), .int (nI ux)]) (rest := []) ⟨hx, hb, hml, hown, hB⟩ (k_A_has l D (lf n) ux (by omega)) ⟨va_cnB 2 hB (xg0 mc_A_has) rfl rfl rfl (xn_Wy_23 hN) (hB _ mz_A) (by decide +kernel) ⟨Nat.le_of_ble_eq_true rfl, Nat.le_of_ble_eq_true rfl⟩, hB _ ms_A_has, trivial⟩ (xpS (ws := []) (tys := []) (hP.sub [] rfl) (hK.sub [] rfl) hN) rfl rfl hl.1 rfl (lv_room (Nat.le_of_ble_eq_true rfl)) d_Wy_lengthFrom_15 ⟨Nat.le_of_ble_eq_true rfl, Nat.le_of_ble_eq_true rfl⟩) ?_
    refine lv_if_eq (tgt := 23) hx hb d_Wy_lengthFrom_18 rfl (fun hc18 => ?_) (fun hc18 => ?_)
    · have hc18 := b2i_0.mp hc18
      refine lv_iinc hx hb d_Wy_lengthFrom_23 hl (k := 0) rfl (v := nI (n + 1)) (nI_1 n) (by decide) rfl (fun ls hl => ?_)
      have hl : lv_has ls 3 [(2, .int (nI (n + 1))), (0, .ref yw), (1, .int (nI ux))] := hl
      refine lv_goto (tgt := 2) hx hb d_Wy_lengthFrom_26 rfl ?_
      exact ih2 (n + 1) _ ⟨⟨by omega, lt_s hm (by exact hc18)⟩, lv_sub hl [0, 1, 2] rfl⟩ (by omega)
    · have hc18 := b2i_n.mp hc18
      refine lv_iload_n hx hb d_Wy_lengthFrom_21 rfl (lv_at hl 0 rfl) ?_
      refine xv_top (x' := lenF lf ux) (by unfold lenF; first | rw [first_eq (p := (fun n => bt (lf n) ux)) hc18 (by omega) hm, if_pos (by omega)] | rw [first_none (p := (fun n => bt (lf n) ux)) (fun k9 hk9 => hm k9 (by omega)), if_neg (by omega)]) ?_
      exact W.iret (v := lenF lf ux) hx hb hr (fun t ht hW => ⟨rfl, ht⟩) (fun _ h => by cases h) d_Wy_lengthFrom_22
set_option maxHeartbeats 4000000 in
set_option maxRecDepth 100000 in
theorem k_Wy_placeOnFirst (l : Launch) (D : va_G) (yw la : Nat) (cL : ClassId) (lf : Nat → Int32) (w hd : Nat) (cA : ClassId) (ct : Int32) (h : Nat → Int32) (ux L i : Nat) (hux : ux < 16) (hL : L < 16) (hi : i ≤ L) : Met l y_Wy_placeOnFirst (Cond.code y_Wy_placeOnFirst c_Wy_placeOnFirst 7 (some .int) :: BS) { frames := 2, cells := 0, slots := 0, locals := 42 } (va_Pc [.ref yw, .int (nI ux), .int (nI L), .int (nI i), .ref w] (xR D [(yw, .inr (3, [.ref la])), (la, .inl (cL, 16, .inl lf)), (w, .inr (1, [.ref hd, .int ct])), (hd, .inl (cA, 16, .inl h))] [(cL, .int), (cA, .int)])) (QcRead (nI (pw h lf L ux i))) 0 0 (fun _ => False) := by
  refine Met.ofW (cc := c_Wy_placeOnFirst) (maxL := 7) (ret := (some .int)) (by decide) rfl ?_
  intro p e s m args below meth c s₁ B hml hv
  obtain ⟨rfl, hP, hK, hN⟩ := hv
  have hx := B.exec
  have hb := B.bytes
  have hr := B.returns
  have hB := xB B.pre
  have hown : s.vm.findClass R_Wy = some m.cls := findClass_of_methodNamed B.named
  have hlocks := B.notSynchronized
  have hl := lv_entry ([.ref yw, .int (nI ux), .int (nI L), .int (nI i), .ref w]) (n := 7) (Nat.le_of_ble_eq_true rfl)
  rw [lg_entry_eq]
  generalize (lg_sl ([.ref yw, .int (nI ux), .int (nI L), .int (nI i), .ref w]) ++ List.replicate (7 - (lg_sl ([.ref yw, .int (nI ux), .int (nI L), .int (nI i), .ref w])).length) Slot.unset).toArray = ls at hl ⊢
  have hl : lv_has ls 7 [(0, .ref yw), (1, .int (nI ux)), (2, .int (nI L)), (3, .int (nI i)), (4, .ref w)] := hl
  refine lv_iload_n hx hb d_Wy_placeOnFirst_0 rfl (lv_at hl 1 rfl) ?_
  refine lv_istore hx hb d_Wy_placeOnFirst_1 hl (by decide) rfl (fun ls hl => ?_)
  have hl : lv_has ls 7 [(5, .int (nI ux)), (0, .ref yw), (1, .int (nI ux)), (2, .int (nI L)), (3, .int (nI i)), (4, .ref w)] := hl
  refine lv_iconst (v := nI 1) hx hb d_Wy_placeOnFirst_3 (by decide) ?_
  refine lv_istore hx hb d_Wy_placeOnFirst_4 hl (by decide) rfl (fun ls hl => ?_)
  have hl : lv_has ls 7 [(6, .int (nI 1)), (5, .int (nI ux)), (0, .ref yw), (1, .int (nI ux)), (2, .int (nI L)), (3, .int (nI i)), (4, .ref w)] := hl
  refine xl_r (fun (k : Nat) ls => (k ≤ i ∧ pw h lf L ux k < 16) ∧ lv_has ls 7 [(6, .int (nI (k + 1))), (5, .int (nI (pw h lf L ux k))), (0, .ref yw), (1, .int (nI ux)), (2, .int (nI L)), (3, .int (nI i)), (4, .ref w)]) (fun k => i - k) (fun k ls hI ih6 => ?_) 0 _ ⟨⟨Nat.zero_le _, hux⟩, hl⟩
  obtain ⟨hI, hl⟩ := hI
  obtain ⟨hk, hq⟩ := hI
  refine lv_iload hx hb d_Wy_placeOnFirst_6 (lv_at hl 0 rfl) ?_
  refine lv_iload_n hx hb d_Wy_placeOnFirst_8 rfl (lv_at hl 5 rfl) ?_
  refine lv_icmp_gt (tgt := 46) hx hb d_Wy_placeOnFirst_9 rfl (fun hc9 => ?_) (fun hc9 => ?_)
  · have hc9 : i < (k + 1) := (nI_ltI (by omega) (by omega)).mp hc9
    refine lv_iload hx hb d_Wy_placeOnFirst_46 (lv_at hl 1 rfl) ?_
    refine xv_top (x' := nI (pw h lf L ux i)) (by rw [show k = i by omega]) ?_
    exact W.iret (v := nI (pw h lf L ux i)) hx hb hr (fun t ht hW => ⟨rfl, ht⟩) (fun _ h => by cases h) d_Wy_placeOnFirst_48
  · have hc9 : ¬ (i < (k + 1)) := fun q9 => hc9 ((nI_ltI (by omega) (by omega)).mpr q9)
    refine lv_iload hx hb d_Wy_placeOnFirst_12 (lv_at hl 0 rfl) ?_
    refine lv_iload_n hx hb d_Wy_placeOnFirst_14 rfl (lv_at hl 4 rfl) ?_
    refine lv_icmp_gt (tgt := 46) hx hb d_Wy_placeOnFirst_15 rfl (fun hc15 => ?_) (fun hc15 => ?_)
    · have hc15 : L < (k + 1) := (nI_ltI (by omega) (by omega)).mp hc15
      exact absurd hc15 (by omega)
    · have hc15 : ¬ (L < (k + 1)) := fun q9 => hc15 ((nI_ltI (by omega) (by omega)).mpr q9)
      refine lv_aload hx hb d_Wy_placeOnFirst_18 (lv_at hl 6 rfl) ?_
      refine lv_iload hx hb d_Wy_placeOnFirst_20 (lv_at hl 1 rfl) ?_
      refine xr_cal (va_runV (As := [.int (nI (pw h lf L ux k))]) (rest := []) ⟨hx, hb, hml, hown, hB⟩ (k_Web_headsOf l D w hd cA ct h (pw h lf L ux k) (by omega)) ⟨callB_of 1 hB (xg0 mc_Web_headsOf) rfl rfl rfl (hB _ mz_Web) (hB _ ml_Wy_27) (by decide +kernel) ⟨Nat.le_of_ble_eq_true rfl, Nat.le_of_ble_eq_true rfl⟩, hB _ mi_Web_headsOf, hB _ me_Web_headsOf⟩ (xpV (ws := [(w, .inr (1, [.ref hd, .int ct])), (hd, .inl (cA, 16, .inl h))]) (tys := [(cA, .int)]) (hP.sub [2, 3] rfl) (hK.sub [1] rfl) hN (va_recv (ci := 1) (q0 := 2) (q := (R_Web, F_Web, 2)) hK hP rfl rfl)) rfl rfl hl.1 rfl (lv_room (Nat.le_of_ble_eq_true rfl)) d_Wy_placeOnFirst_22 ⟨Nat.le_of_ble_eq_true rfl, Nat.le_of_ble_eq_true rfl⟩) ?_
      refine lv_aload_n hx hb d_Wy_placeOnFirst_25 rfl (lv_at hl 2 rfl) ?_
      refine va_get (D := D) (ci := 3) (v := .ref la) (C := R_Wy) (T := F_Wy) (N := 1) hx hb hB in_Wy hown hK hP 0 rfl rfl 0 (by decide) (hB _ mf_Wy_9) (fun _ h9 => h9) rfl d_Wy_placeOnFirst_26 ?_
      refine lv_iload_n hx hb d_Wy_placeOnFirst_29 rfl (lv_at hl 4 rfl) ?_
      refine lv_iload hx hb d_Wy_placeOnFirst_30 (lv_at hl 0 rfl) ?_
      refine lv_isub hx hb d_Wy_placeOnFirst_32 ?_
      refine xv_top (x' := nI (L - (k + 1))) (pk_sub (by omega)) ?_
      refine xa_ld (u := (L - (k + 1))) hx hb hK hP 1 0 rfl rfl (by omega) (by decide) d_Wy_placeOnFirst_33 ?_
      refine lv_iand hx hb d_Wy_placeOnFirst_34 ?_
      refine xr_cal (va_runS (As := [.int ((h (pw h lf L ux k)) &&& (lf (L - (k + 1))))]) (rest := []) ⟨hx, hb, hml, hown, hB⟩ (k_Wy_least l D  ((h (pw h lf L ux k)) &&& (lf (L - (k + 1))))) ⟨callB_of 1 hB (xg0 mc_Wy_least) rfl rfl rfl (hB _ mz_Wy) (hB _ ml_Wy_32) (by decide +kernel) ⟨Nat.le_of_ble_eq_true rfl, Nat.le_of_ble_eq_true rfl⟩, hB _ ms_Wy_least⟩ (xpS (ws := []) (tys := []) (hP.sub [] rfl) (hK.sub [] rfl) hN) rfl rfl hl.1 rfl (lv_room (Nat.le_of_ble_eq_true rfl)) d_Wy_placeOnFirst_35 ⟨Nat.le_of_ble_eq_true rfl, Nat.le_of_ble_eq_true rfl⟩) ?_
      refine lv_istore hx hb d_Wy_placeOnFirst_38 hl (by decide) rfl (fun ls hl => ?_)
      have hl : lv_has ls 7 [(5, .int (nI (first (fun i => bt ((h (pw h lf L ux k)) &&& (lf (L - (k + 1)))) i) 0 16))), (6, .int (nI (k + 1))), (0, .ref yw), (1, .int (nI ux)), (2, .int (nI L)), (3, .int (nI i)), (4, .ref w)] := hl
      have hl : lv_has ls 7 [(5, .int (nI (pw h lf L ux (k + 1)))), (6, .int (nI (k + 1))), (0, .ref yw), (1, .int (nI ux)), (2, .int (nI L)), (3, .int (nI i)), (4, .ref w)] := by
        have hz : (nI (first (fun i => bt ((h (pw h lf L ux k)) &&& (lf (L - (k + 1)))) i) 0 16)) = nI (pw h lf L ux (k + 1)) := rfl
        rw [← hz]; exact hl
      refine lv_iinc hx hb d_Wy_placeOnFirst_40 hl (k := 1) rfl (v := nI ((k + 1) + 1)) (nI_1 (k + 1)) (by decide) rfl (fun ls hl => ?_)
      have hl : lv_has ls 7 [(6, .int (nI ((k + 1) + 1))), (5, .int (nI (pw h lf L ux (k + 1)))), (0, .ref yw), (1, .int (nI ux)), (2, .int (nI L)), (3, .int (nI i)), (4, .ref w)] := hl
      refine lv_goto (tgt := 6) hx hb d_Wy_placeOnFirst_43 rfl ?_
      exact ih6 (k + 1) _ ⟨⟨by omega, pw_lt hux (k + 1)⟩, lv_sub hl [0, 1, 2, 3, 4, 5, 6] rfl⟩ (by omega)
set_option maxHeartbeats 4000000 in
set_option maxRecDepth 100000 in
theorem k_Gr_count (l : Launch) (D : va_G) (g g0 g1 g2 g3 g4 g5 : Nat) (k0 k1 k2 k3 k4 k5 : ClassId) (gc : Int32) (rE nM lD bF oR cH : Nat → Int32)  : Met l y_Gr_count (Cond.code y_Gr_count c_Gr_count 1 (some .int) :: BS) { frames := 0, cells := 0, slots := 0, locals := 0 } (va_Pc [.ref g] (xR D [(g, .inr (2, [.ref g0, .ref g1, .ref g2, .ref g3, .ref g4, .ref g5, .int gc])), (g0, .inl (k0, 16, .inl rE)), (g1, .inl (k1, 16, .inl nM)), (g2, .inl (k2, 16, .inl lD)), (g3, .inl (k3, 16, .inl bF)), (g4, .inl (k4, 16, .inl oR)), (g5, .inl (k5, 16, .inl cH))] [(k0, .int), (k1, .int), (k2, .int), (k3, .int), (k4, .int), (k5, .int)])) (QcRead (gc)) 0 0 (fun _ => False) := by
  refine Met.ofW (cc := c_Gr_count) (maxL := 1) (ret := (some .int)) (by decide) rfl ?_
  intro p e s m args below meth c s₁ B hml hv
  obtain ⟨rfl, hP, hK, hN⟩ := hv
  have hx := B.exec
  have hb := B.bytes
  have hr := B.returns
  have hB := xB B.pre
  have hown : s.vm.findClass R_Gr = some m.cls := findClass_of_methodNamed B.named
  have hlocks := B.notSynchronized
  have hl := lv_entry ([.ref g]) (n := 1) (Nat.le_of_ble_eq_true rfl)
  rw [lg_entry_eq]
  generalize (lg_sl ([.ref g]) ++ List.replicate (1 - (lg_sl ([.ref g])).length) Slot.unset).toArray = ls at hl ⊢
  have hl : lv_has ls 1 [(0, .ref g)] := hl
  refine lv_aload_n hx hb d_Gr_count_0 rfl (lv_at hl 0 rfl) ?_
  refine va_get (D := D) (ci := 2) (v := .int gc) (C := R_Gr) (T := F_Gr) (N := 7) hx hb hB in_Gr hown hK hP 0 rfl rfl 6 (by decide) (hB _ mf_Gr_30) (fun _ h9 => h9) rfl d_Gr_count_1 ?_
  exact W.iret (v := gc) hx hb hr (fun t ht hW => ⟨rfl, ht⟩) (fun _ h => by cases h) d_Gr_count_4
set_option maxHeartbeats 4000000 in
set_option maxRecDepth 100000 in
theorem k_Gr_nameOf (l : Launch) (D : va_G) (g g0 g1 g2 g3 g4 g5 : Nat) (k0 k1 k2 k3 k4 k5 : ClassId) (gc : Int32) (rE nM lD bF oR cH : Nat → Int32) (v : Nat) (hv : v < 16) : Met l y_Gr_nameOf (Cond.code y_Gr_nameOf c_Gr_nameOf 2 (some .int) :: BS) { frames := 0, cells := 0, slots := 0, locals := 0 } (va_Pc [.ref g, .int (nI v)] (xR D [(g, .inr (2, [.ref g0, .ref g1, .ref g2, .ref g3, .ref g4, .ref g5, .int gc])), (g0, .inl (k0, 16, .inl rE)), (g1, .inl (k1, 16, .inl nM)), (g2, .inl (k2, 16, .inl lD)), (g3, .inl (k3, 16, .inl bF)), (g4, .inl (k4, 16, .inl oR)), (g5, .inl (k5, 16, .inl cH))] [(k0, .int), (k1, .int), (k2, .int), (k3, .int), (k4, .int), (k5, .int)])) (QcRead (nM v)) 0 0 (fun _ => False) := by
  refine Met.ofW (cc := c_Gr_nameOf) (maxL := 2) (ret := (some .int)) (by decide) rfl ?_
  intro p e s m args below meth c s₁ B hml hv
  obtain ⟨rfl, hP, hK, hN⟩ := hv
  have hx := B.exec
  have hb := B.bytes
  have hr := B.returns
  have hB := xB B.pre
  have hown : s.vm.findClass R_Gr = some m.cls := findClass_of_methodNamed B.named
  have hlocks := B.notSynchronized
  have hl := lv_entry ([.ref g, .int (nI v)]) (n := 2) (Nat.le_of_ble_eq_true rfl)
  rw [lg_entry_eq]
  generalize (lg_sl ([.ref g, .int (nI v)]) ++ List.replicate (2 - (lg_sl ([.ref g, .int (nI v)])).length) Slot.unset).toArray = ls at hl ⊢
  have hl : lv_has ls 2 [(0, .ref g), (1, .int (nI v))] := hl
  refine lv_aload_n hx hb d_Gr_nameOf_0 rfl (lv_at hl 0 rfl) ?_
  refine va_get (D := D) (ci := 2) (v := .ref g1) (C := R_Gr) (T := F_Gr) (N := 7) hx hb hB in_Gr hown hK hP 0 rfl rfl 1 (by decide) (hB _ mf_Gr_15) (fun _ h9 => h9) rfl d_Gr_nameOf_1 ?_
  refine lv_iload_n hx hb d_Gr_nameOf_4 rfl (lv_at hl 1 rfl) ?_
  refine xa_ld (u := v) hx hb hK hP 2 1 rfl rfl (by omega) (by decide) d_Gr_nameOf_5 ?_
  exact W.iret (v := nM v) hx hb hr (fun t ht hW => ⟨rfl, ht⟩) (fun _ h => by cases h) d_Gr_nameOf_6
set_option maxHeartbeats 4000000 in
set_option maxRecDepth 100000 in
theorem k_Gr_nameAt (l : Launch) (D : va_G) (g g0 g1 g2 g3 g4 g5 : Nat) (k0 k1 k2 k3 k4 k5 : ClassId) (gc : Int32) (rE nM lD bF oR cH : Nat → Int32) (v : Nat) (hv : v < 16) : Met l y_Gr_nameAt (Cond.code y_Gr_nameAt c_Gr_nameAt 2 (some .int) :: BS) { frames := 0, cells := 0, slots := 0, locals := 0 } (va_Pc [.ref g, .int (nI v)] (xR D [(g, .inr (2, [.ref g0, .ref g1, .ref g2, .ref g3, .ref g4, .ref g5, .int gc])), (g0, .inl (k0, 16, .inl rE)), (g1, .inl (k1, 16, .inl nM)), (g2, .inl (k2, 16, .inl lD)), (g3, .inl (k3, 16, .inl bF)), (g4, .inl (k4, 16, .inl oR)), (g5, .inl (k5, 16, .inl cH))] [(k0, .int), (k1, .int), (k2, .int), (k3, .int), (k4, .int), (k5, .int)])) (QcRead (oR v)) 0 0 (fun _ => False) := by
  refine Met.ofW (cc := c_Gr_nameAt) (maxL := 2) (ret := (some .int)) (by decide) rfl ?_
  intro p e s m args below meth c s₁ B hml hv
  obtain ⟨rfl, hP, hK, hN⟩ := hv
  have hx := B.exec
  have hb := B.bytes
  have hr := B.returns
  have hB := xB B.pre
  have hown : s.vm.findClass R_Gr = some m.cls := findClass_of_methodNamed B.named
  have hlocks := B.notSynchronized
  have hl := lv_entry ([.ref g, .int (nI v)]) (n := 2) (Nat.le_of_ble_eq_true rfl)
  rw [lg_entry_eq]
  generalize (lg_sl ([.ref g, .int (nI v)]) ++ List.replicate (2 - (lg_sl ([.ref g, .int (nI v)])).length) Slot.unset).toArray = ls at hl ⊢
  have hl : lv_has ls 2 [(0, .ref g), (1, .int (nI v))] := hl
  refine lv_aload_n hx hb d_Gr_nameAt_0 rfl (lv_at hl 0 rfl) ?_
  refine va_get (D := D) (ci := 2) (v := .ref g4) (C := R_Gr) (T := F_Gr) (N := 7) hx hb hB in_Gr hown hK hP 0 rfl rfl 4 (by decide) (hB _ mf_Gr_24) (fun _ h9 => h9) rfl d_Gr_nameAt_1 ?_
  refine lv_iload_n hx hb d_Gr_nameAt_4 rfl (lv_at hl 1 rfl) ?_
  refine xa_ld (u := v) hx hb hK hP 5 4 rfl rfl (by omega) (by decide) d_Gr_nameAt_5 ?_
  exact W.iret (v := oR v) hx hb hr (fun t ht hW => ⟨rfl, ht⟩) (fun _ h => by cases h) d_Gr_nameAt_6
set_option maxHeartbeats 4000000 in
set_option maxRecDepth 100000 in
theorem k_Gr_sizeOf (l : Launch) (D : va_G) (g g0 g1 g2 g3 g4 g5 : Nat) (k0 k1 k2 k3 k4 k5 : ClassId) (gc : Int32) (rE nM lD bF oR cH : Nat → Int32) (v : Nat) (hv : v < 16) : Met l y_Gr_sizeOf (Cond.code y_Gr_sizeOf c_Gr_sizeOf 4 (some .int) :: BS) { frames := 0, cells := 0, slots := 0, locals := 0 } (va_Pc [.ref g, .int (nI v)] (xR D [(g, .inr (2, [.ref g0, .ref g1, .ref g2, .ref g3, .ref g4, .ref g5, .int gc])), (g0, .inl (k0, 16, .inl rE)), (g1, .inl (k1, 16, .inl nM)), (g2, .inl (k2, 16, .inl lD)), (g3, .inl (k3, 16, .inl bF)), (g4, .inl (k4, 16, .inl oR)), (g5, .inl (k5, 16, .inl cH))] [(k0, .int), (k1, .int), (k2, .int), (k3, .int), (k4, .int), (k5, .int)])) (QcRead (nI (cq (fun u => decide (nM u = nM v)) 16))) 0 0 (fun _ => False) := by
  refine Met.ofW (cc := c_Gr_sizeOf) (maxL := 4) (ret := (some .int)) (by decide) rfl ?_
  intro p e s m args below meth c s₁ B hml hv
  obtain ⟨rfl, hP, hK, hN⟩ := hv
  have hx := B.exec
  have hb := B.bytes
  have hr := B.returns
  have hB := xB B.pre
  have hown : s.vm.findClass R_Gr = some m.cls := findClass_of_methodNamed B.named
  have hlocks := B.notSynchronized
  have hl := lv_entry ([.ref g, .int (nI v)]) (n := 4) (Nat.le_of_ble_eq_true rfl)
  rw [lg_entry_eq]
  generalize (lg_sl ([.ref g, .int (nI v)]) ++ List.replicate (4 - (lg_sl ([.ref g, .int (nI v)])).length) Slot.unset).toArray = ls at hl ⊢
  have hl : lv_has ls 4 [(0, .ref g), (1, .int (nI v))] := hl
  refine lv_iconst (v := nI 0) hx hb d_Gr_sizeOf_0 (by decide) ?_
  refine lv_istore_n hx hb d_Gr_sizeOf_1 rfl hl (by decide) rfl (fun ls hl => ?_)
  have hl : lv_has ls 4 [(2, .int (nI 0)), (0, .ref g), (1, .int (nI v))] := hl
  refine lv_iconst (v := nI 0) hx hb d_Gr_sizeOf_2 (by decide) ?_
  refine lv_istore_n hx hb d_Gr_sizeOf_3 rfl hl (by decide) rfl (fun ls hl => ?_)
  have hl : lv_has ls 4 [(3, .int (nI 0)), (2, .int (nI 0)), (0, .ref g), (1, .int (nI v))] := hl
  refine xl_r (fun (u : Nat) ls => (u ≤ 16) ∧ lv_has ls 4 [(3, .int (nI u)), (2, .int (nI (cq (fun u => decide (nM u = nM v)) u))), (0, .ref g), (1, .int (nI v))]) (fun u => 16 - u) (fun u ls hI ih4 => ?_) 0 _ ⟨Nat.zero_le _, hl⟩
  obtain ⟨hI, hl⟩ := hI
  have hu_u := hI
  refine lv_iload_n hx hb d_Gr_sizeOf_4 rfl (lv_at hl 0 rfl) ?_
  refine lv_bipush (v := nI 16) hx hb d_Gr_sizeOf_5 (by decide) ?_
  refine lv_icmp_ge (tgt := 34) hx hb d_Gr_sizeOf_7 rfl (fun hc7 => ?_) (fun hc7 => ?_)
  · have hc7 : 16 ≤ u := (nI_leI (by omega) (by omega)).mp hc7
    refine lv_iload_n hx hb d_Gr_sizeOf_34 rfl (lv_at hl 1 rfl) ?_
    refine xv_top (x' := nI (cq (fun u => decide (nM u = nM v)) 16)) (by rw [show u = 16 by omega]) ?_
    exact W.iret (v := nI (cq (fun u => decide (nM u = nM v)) 16)) hx hb hr (fun t ht hW => ⟨rfl, ht⟩) (fun _ h => by cases h) d_Gr_sizeOf_35
  · have hc7 : ¬ (16 ≤ u) := fun q9 => hc7 ((nI_leI (by omega) (by omega)).mpr q9)
    refine lv_aload_n hx hb d_Gr_sizeOf_10 rfl (lv_at hl 2 rfl) ?_
    refine va_get (D := D) (ci := 2) (v := .ref g1) (C := R_Gr) (T := F_Gr) (N := 7) hx hb hB in_Gr hown hK hP 0 rfl rfl 1 (by decide) (hB _ mf_Gr_15) (fun _ h9 => h9) rfl d_Gr_sizeOf_11 ?_
    refine lv_iload_n hx hb d_Gr_sizeOf_14 rfl (lv_at hl 0 rfl) ?_
    refine xa_ld (u := u) hx hb hK hP 2 1 rfl rfl (by omega) (by decide) d_Gr_sizeOf_15 ?_
    refine lv_aload_n hx hb d_Gr_sizeOf_16 rfl (lv_at hl 2 rfl) ?_
    refine va_get (D := D) (ci := 2) (v := .ref g1) (C := R_Gr) (T := F_Gr) (N := 7) hx hb hB in_Gr hown hK hP 0 rfl rfl 1 (by decide) (hB _ mf_Gr_15) (fun _ h9 => h9) rfl d_Gr_sizeOf_17 ?_
    refine lv_iload_n hx hb d_Gr_sizeOf_20 rfl (lv_at hl 3 rfl) ?_
    refine xa_ld (u := v) hx hb hK hP 2 1 rfl rfl (by omega) (by decide) d_Gr_sizeOf_21 ?_
    refine lv_icmp_ne (tgt := 28) hx hb d_Gr_sizeOf_22 rfl (fun hc22 => ?_) (fun hc22 => ?_)
    · have hl : lv_has ls 4 [(3, .int (nI u)), (2, .int (nI (cq (fun u => decide (nM u = nM v)) (u + 1)))), (0, .ref g), (1, .int (nI v))] := by
        have hz : (nI (cq (fun u => decide (nM u = nM v)) u)) = nI (cq (fun u => decide (nM u = nM v)) (u + 1)) := by rw [cq_f (decide_eq_false hc22)]
        rw [← hz]; exact hl
      refine lv_iinc hx hb d_Gr_sizeOf_28 hl (k := 0) rfl (v := nI (u + 1)) (nI_1 u) (by decide) rfl (fun ls hl => ?_)
      have hl : lv_has ls 4 [(3, .int (nI (u + 1))), (2, .int (nI (cq (fun u => decide (nM u = nM v)) (u + 1)))), (0, .ref g), (1, .int (nI v))] := hl
      refine lv_goto (tgt := 4) hx hb d_Gr_sizeOf_31 rfl ?_
      exact ih4 (u + 1) _ ⟨by omega, lv_sub hl [0, 1, 2, 3] rfl⟩ (by omega)
    · refine lv_iinc hx hb d_Gr_sizeOf_25 hl (k := 1) rfl (v := nI ((cq (fun u => decide (nM u = nM v)) u) + 1)) (nI_1 (cq (fun u => decide (nM u = nM v)) u)) (by decide) rfl (fun ls hl => ?_)
      have hl : lv_has ls 4 [(2, .int (nI ((cq (fun u => decide (nM u = nM v)) u) + 1))), (3, .int (nI u)), (0, .ref g), (1, .int (nI v))] := hl
      have hl : lv_has ls 4 [(2, .int (nI (cq (fun u => decide (nM u = nM v)) (u + 1)))), (3, .int (nI u)), (0, .ref g), (1, .int (nI v))] := by
        have hz : (nI ((cq (fun u => decide (nM u = nM v)) u) + 1)) = nI (cq (fun u => decide (nM u = nM v)) (u + 1)) := by rw [cq_t (decide_eq_true hc22)]
        rw [← hz]; exact hl
      refine lv_iinc hx hb d_Gr_sizeOf_28 hl (k := 1) rfl (v := nI (u + 1)) (nI_1 u) (by decide) rfl (fun ls hl => ?_)
      have hl : lv_has ls 4 [(3, .int (nI (u + 1))), (2, .int (nI (cq (fun u => decide (nM u = nM v)) (u + 1)))), (0, .ref g), (1, .int (nI v))] := hl
      refine lv_goto (tgt := 4) hx hb d_Gr_sizeOf_31 rfl ?_
      exact ih4 (u + 1) _ ⟨by omega, lv_sub hl [0, 1, 2, 3] rfl⟩ (by omega)
set_option maxHeartbeats 4000000 in
set_option maxRecDepth 100000 in
theorem k_Gr_positionOf (l : Launch) (D : va_G) (g g0 g1 g2 g3 g4 g5 : Nat) (k0 k1 k2 k3 k4 k5 : ClassId) (gc : Int32) (rE nM lD bF oR cH : Nat → Int32) (v : Nat) (hv : v < 16) (cn9 : Nat) (hcn : cn9 ≤ 16) (hgc : gc = nI cn9) : Met l y_Gr_positionOf (Cond.code y_Gr_positionOf c_Gr_positionOf 4 (some .int) :: BS) { frames := 0, cells := 0, slots := 0, locals := 0 } (va_Pc [.ref g, .int (nI v)] (xR D [(g, .inr (2, [.ref g0, .ref g1, .ref g2, .ref g3, .ref g4, .ref g5, .int gc])), (g0, .inl (k0, 16, .inl rE)), (g1, .inl (k1, 16, .inl nM)), (g2, .inl (k2, 16, .inl lD)), (g3, .inl (k3, 16, .inl bF)), (g4, .inl (k4, 16, .inl oR)), (g5, .inl (k5, 16, .inl cH))] [(k0, .int), (k1, .int), (k2, .int), (k3, .int), (k4, .int), (k5, .int)])) (QcRead (nI (lastq (fun u => decide (oR u = nM v)) cn9))) 0 0 (fun _ => False) := by
  refine Met.ofW (cc := c_Gr_positionOf) (maxL := 4) (ret := (some .int)) (by decide) rfl ?_
  intro p e s m args below meth c s₁ B hml hv
  obtain ⟨rfl, hP, hK, hN⟩ := hv
  have hx := B.exec
  have hb := B.bytes
  have hr := B.returns
  have hB := xB B.pre
  have hown : s.vm.findClass R_Gr = some m.cls := findClass_of_methodNamed B.named
  have hlocks := B.notSynchronized
  have hl := lv_entry ([.ref g, .int (nI v)]) (n := 4) (Nat.le_of_ble_eq_true rfl)
  rw [lg_entry_eq]
  generalize (lg_sl ([.ref g, .int (nI v)]) ++ List.replicate (4 - (lg_sl ([.ref g, .int (nI v)])).length) Slot.unset).toArray = ls at hl ⊢
  have hl : lv_has ls 4 [(0, .ref g), (1, .int (nI v))] := hl
  refine lv_iconst (v := nI 0) hx hb d_Gr_positionOf_0 (by decide) ?_
  refine lv_istore_n hx hb d_Gr_positionOf_1 rfl hl (by decide) rfl (fun ls hl => ?_)
  have hl : lv_has ls 4 [(2, .int (nI 0)), (0, .ref g), (1, .int (nI v))] := hl
  refine lv_iconst (v := nI 0) hx hb d_Gr_positionOf_2 (by decide) ?_
  refine lv_istore_n hx hb d_Gr_positionOf_3 rfl hl (by decide) rfl (fun ls hl => ?_)
  have hl : lv_has ls 4 [(3, .int (nI 0)), (2, .int (nI 0)), (0, .ref g), (1, .int (nI v))] := hl
  refine xl_r (fun (u : Nat) ls => (u ≤ cn9) ∧ lv_has ls 4 [(3, .int (nI u)), (2, .int (nI (lastq (fun u => decide (oR u = nM v)) u))), (0, .ref g), (1, .int (nI v))]) (fun u => cn9 - u) (fun u ls hI ih4 => ?_) 0 _ ⟨Nat.zero_le _, hl⟩
  obtain ⟨hI, hl⟩ := hI
  have hu_u := hI
  refine lv_iload_n hx hb d_Gr_positionOf_4 rfl (lv_at hl 0 rfl) ?_
  refine lv_aload_n hx hb d_Gr_positionOf_5 rfl (lv_at hl 2 rfl) ?_
  refine va_get (D := D) (ci := 2) (v := .int gc) (C := R_Gr) (T := F_Gr) (N := 7) hx hb hB in_Gr hown hK hP 0 rfl rfl 6 (by decide) (hB _ mf_Gr_30) (fun _ h9 => h9) rfl d_Gr_positionOf_6 ?_
  refine xv_top (x' := nI cn9) (hgc) ?_
  refine lv_icmp_ge (tgt := 35) hx hb d_Gr_positionOf_9 rfl (fun hc9 => ?_) (fun hc9 => ?_)
  · have hc9 : cn9 ≤ u := (nI_leI (by omega) (by omega)).mp hc9
    refine lv_iload_n hx hb d_Gr_positionOf_35 rfl (lv_at hl 1 rfl) ?_
    refine xv_top (x' := nI (lastq (fun u => decide (oR u = nM v)) cn9)) (by rw [show u = cn9 by omega]) ?_
    exact W.iret (v := nI (lastq (fun u => decide (oR u = nM v)) cn9)) hx hb hr (fun t ht hW => ⟨rfl, ht⟩) (fun _ h => by cases h) d_Gr_positionOf_36
  · have hc9 : ¬ (cn9 ≤ u) := fun q9 => hc9 ((nI_leI (by omega) (by omega)).mpr q9)
    refine lv_aload_n hx hb d_Gr_positionOf_12 rfl (lv_at hl 2 rfl) ?_
    refine va_get (D := D) (ci := 2) (v := .ref g4) (C := R_Gr) (T := F_Gr) (N := 7) hx hb hB in_Gr hown hK hP 0 rfl rfl 4 (by decide) (hB _ mf_Gr_24) (fun _ h9 => h9) rfl d_Gr_positionOf_13 ?_
    refine lv_iload_n hx hb d_Gr_positionOf_16 rfl (lv_at hl 0 rfl) ?_
    refine xa_ld (u := u) hx hb hK hP 5 4 rfl rfl (by omega) (by decide) d_Gr_positionOf_17 ?_
    refine lv_aload_n hx hb d_Gr_positionOf_18 rfl (lv_at hl 2 rfl) ?_
    refine va_get (D := D) (ci := 2) (v := .ref g1) (C := R_Gr) (T := F_Gr) (N := 7) hx hb hB in_Gr hown hK hP 0 rfl rfl 1 (by decide) (hB _ mf_Gr_15) (fun _ h9 => h9) rfl d_Gr_positionOf_19 ?_
    refine lv_iload_n hx hb d_Gr_positionOf_22 rfl (lv_at hl 3 rfl) ?_
    refine xa_ld (u := v) hx hb hK hP 2 1 rfl rfl (by omega) (by decide) d_Gr_positionOf_23 ?_
    refine lv_icmp_ne (tgt := 29) hx hb d_Gr_positionOf_24 rfl (fun hc24 => ?_) (fun hc24 => ?_)
    · have hl : lv_has ls 4 [(3, .int (nI u)), (2, .int (nI (lastq (fun u => decide (oR u = nM v)) (u + 1)))), (0, .ref g), (1, .int (nI v))] := by
        have hz : (nI (lastq (fun u => decide (oR u = nM v)) u)) = nI (lastq (fun u => decide (oR u = nM v)) (u + 1)) := by rw [lastq_f (decide_eq_false hc24)]
        rw [← hz]; exact hl
      refine lv_iinc hx hb d_Gr_positionOf_29 hl (k := 0) rfl (v := nI (u + 1)) (nI_1 u) (by decide) rfl (fun ls hl => ?_)
      have hl : lv_has ls 4 [(3, .int (nI (u + 1))), (2, .int (nI (lastq (fun u => decide (oR u = nM v)) (u + 1)))), (0, .ref g), (1, .int (nI v))] := hl
      refine lv_goto (tgt := 4) hx hb d_Gr_positionOf_32 rfl ?_
      exact ih4 (u + 1) _ ⟨by omega, lv_sub hl [0, 1, 2, 3] rfl⟩ (by omega)
    · refine lv_iload_n hx hb d_Gr_positionOf_27 rfl (lv_at hl 0 rfl) ?_
      refine lv_istore_n hx hb d_Gr_positionOf_28 rfl hl (by decide) rfl (fun ls hl => ?_)
      have hl : lv_has ls 4 [(2, .int (nI u)), (3, .int (nI u)), (0, .ref g), (1, .int (nI v))] := hl
      have hl : lv_has ls 4 [(2, .int (nI (lastq (fun u => decide (oR u = nM v)) (u + 1)))), (3, .int (nI u)), (0, .ref g), (1, .int (nI v))] := by
        have hz : (nI u) = nI (lastq (fun u => decide (oR u = nM v)) (u + 1)) := by rw [lastq_t (decide_eq_true hc24)]
        rw [← hz]; exact hl
      refine lv_iinc hx hb d_Gr_positionOf_29 hl (k := 1) rfl (v := nI (u + 1)) (nI_1 u) (by decide) rfl (fun ls hl => ?_)
      have hl : lv_has ls 4 [(3, .int (nI (u + 1))), (2, .int (nI (lastq (fun u => decide (oR u = nM v)) (u + 1)))), (0, .ref g), (1, .int (nI v))] := hl
      refine lv_goto (tgt := 4) hx hb d_Gr_positionOf_32 rfl ?_
      exact ih4 (u + 1) _ ⟨by omega, lv_sub hl [0, 1, 2, 3] rfl⟩ (by omega)
set_option maxHeartbeats 4000000 in
set_option maxRecDepth 100000 in
theorem k_Gr_longestOf (l : Launch) (D : va_G) (g g0 g1 g2 g3 g4 g5 : Nat) (k0 k1 k2 k3 k4 k5 : ClassId) (gc : Int32) (rE nM lD bF oR cH : Nat → Int32) (x : Int32) : Met l y_Gr_longestOf (Cond.code y_Gr_longestOf c_Gr_longestOf 4 (some .int) :: BS) { frames := 1, cells := 0, slots := 0, locals := 40 } (va_Pc [.ref g, .int x] (xR D [(g, .inr (2, [.ref g0, .ref g1, .ref g2, .ref g3, .ref g4, .ref g5, .int gc])), (g0, .inl (k0, 16, .inl rE)), (g1, .inl (k1, 16, .inl nM)), (g2, .inl (k2, 16, .inl lD)), (g3, .inl (k3, 16, .inl bF)), (g4, .inl (k4, 16, .inl oR)), (g5, .inl (k5, 16, .inl cH))] [(k0, .int), (k1, .int), (k2, .int), (k3, .int), (k4, .int), (k5, .int)])) (QcRead (mxq x cH 16)) 0 0 (fun _ => False) := by
  refine Met.ofW (cc := c_Gr_longestOf) (maxL := 4) (ret := (some .int)) (by decide) rfl ?_
  intro p e s m args below meth c s₁ B hml hv
  obtain ⟨rfl, hP, hK, hN⟩ := hv
  have hx := B.exec
  have hb := B.bytes
  have hr := B.returns
  have hB := xB B.pre
  have hown : s.vm.findClass R_Gr = some m.cls := findClass_of_methodNamed B.named
  have hlocks := B.notSynchronized
  have hl := lv_entry ([.ref g, .int x]) (n := 4) (Nat.le_of_ble_eq_true rfl)
  rw [lg_entry_eq]
  generalize (lg_sl ([.ref g, .int x]) ++ List.replicate (4 - (lg_sl ([.ref g, .int x])).length) Slot.unset).toArray = ls at hl ⊢
  have hl : lv_has ls 4 [(0, .ref g), (1, .int x)] := hl
  refine lv_iconst (v := nI 0) hx hb d_Gr_longestOf_0 (by decide) ?_
  refine lv_istore_n hx hb d_Gr_longestOf_1 rfl hl (by decide) rfl (fun ls hl => ?_)
  have hl : lv_has ls 4 [(2, .int (nI 0)), (0, .ref g), (1, .int x)] := hl
  refine lv_iconst (v := nI 0) hx hb d_Gr_longestOf_2 (by decide) ?_
  refine lv_istore_n hx hb d_Gr_longestOf_3 rfl hl (by decide) rfl (fun ls hl => ?_)
  have hl : lv_has ls 4 [(3, .int (nI 0)), (2, .int (nI 0)), (0, .ref g), (1, .int x)] := hl
  refine xl_r (fun (u : Nat) ls => (u ≤ 16) ∧ lv_has ls 4 [(3, .int (nI u)), (2, .int (mxq x cH u)), (0, .ref g), (1, .int x)]) (fun u => 16 - u) (fun u ls hI ih4 => ?_) 0 _ ⟨Nat.zero_le _, hl⟩
  obtain ⟨hI, hl⟩ := hI
  have hu_u := hI
  refine lv_iload_n hx hb d_Gr_longestOf_4 rfl (lv_at hl 0 rfl) ?_
  refine lv_bipush (v := nI 16) hx hb d_Gr_longestOf_5 (by decide) ?_
  refine lv_icmp_ge (tgt := 35) hx hb d_Gr_longestOf_7 rfl (fun hc7 => ?_) (fun hc7 => ?_)
  · have hc7 : 16 ≤ u := (nI_leI (by omega) (by omega)).mp hc7
    refine lv_iload_n hx hb d_Gr_longestOf_35 rfl (lv_at hl 1 rfl) ?_
    refine xv_top (x' := mxq x cH 16) (by rw [show u = 16 by omega]) ?_
    exact W.iret (v := mxq x cH 16) hx hb hr (fun t ht hW => ⟨rfl, ht⟩) (fun _ h => by cases h) d_Gr_longestOf_36
  · have hc7 : ¬ (16 ≤ u) := fun q9 => hc7 ((nI_leI (by omega) (by omega)).mpr q9)
    refine lv_iload_n hx hb d_Gr_longestOf_10 rfl (lv_at hl 3 rfl) ?_
    refine lv_iload_n hx hb d_Gr_longestOf_11 rfl (lv_at hl 0 rfl) ?_
    refine xr_cal (va_runSN (As := [.int x, .int (nI u)]) (rest := []) ⟨hx, hb, hml, hown, hB⟩ (k_A_has l D x u (by omega)) ⟨va_cnB 2 hB (xg0 mc_A_has) rfl rfl rfl (xn_Gr_53 hN) (hB _ mz_A) (by decide +kernel) ⟨Nat.le_of_ble_eq_true rfl, Nat.le_of_ble_eq_true rfl⟩, hB _ ms_A_has, trivial⟩ (xpS (ws := []) (tys := []) (hP.sub [] rfl) (hK.sub [] rfl) hN) rfl rfl hl.1 rfl (lv_room (Nat.le_of_ble_eq_true rfl)) d_Gr_longestOf_12 ⟨Nat.le_of_ble_eq_true rfl, Nat.le_of_ble_eq_true rfl⟩) ?_
    refine lv_if_eq (tgt := 29) hx hb d_Gr_longestOf_15 rfl (fun hc15 => ?_) (fun hc15 => ?_)
    · have hc15 := b2i_0.mp hc15
      have hl : lv_has ls 4 [(3, .int (nI u)), (2, .int (mxq x cH (u + 1))), (0, .ref g), (1, .int x)] := by
        have hz : (mxq x cH u) = mxq x cH (u + 1) := (if_neg (by rw [hc15]; decide)).symm
        rw [← hz]; exact hl
      refine lv_iinc hx hb d_Gr_longestOf_29 hl (k := 0) rfl (v := nI (u + 1)) (nI_1 u) (by decide) rfl (fun ls hl => ?_)
      have hl : lv_has ls 4 [(3, .int (nI (u + 1))), (2, .int (mxq x cH (u + 1))), (0, .ref g), (1, .int x)] := hl
      refine lv_goto (tgt := 4) hx hb d_Gr_longestOf_32 rfl ?_
      exact ih4 (u + 1) _ ⟨by omega, lv_sub hl [0, 1, 2, 3] rfl⟩ (by omega)
    · have hc15 := b2i_n.mp hc15
      refine lv_iload_n hx hb d_Gr_longestOf_18 rfl (lv_at hl 1 rfl) ?_
      refine lv_aload_n hx hb d_Gr_longestOf_19 rfl (lv_at hl 2 rfl) ?_
      refine va_get (D := D) (ci := 2) (v := .ref g5) (C := R_Gr) (T := F_Gr) (N := 7) hx hb hB in_Gr hown hK hP 0 rfl rfl 5 (by decide) (hB _ mf_Gr_27) (fun _ h9 => h9) rfl d_Gr_longestOf_20 ?_
      refine lv_iload_n hx hb d_Gr_longestOf_23 rfl (lv_at hl 0 rfl) ?_
      refine xa_ld (u := u) hx hb hK hP 6 5 rfl rfl (by omega) (by decide) d_Gr_longestOf_24 ?_
      refine va_mmax hx hb (hml.trans hl.1.symm) hown (hB _ ml_Gr_66) (hB _ ms_Ma_max) (hB _ mz_Ma) (hB _ mc_Ma_max) (by decide) (Nat.le_of_ble_eq_true rfl) (by decide) (by decide) d_Gr_longestOf_25 ?_
      refine lv_istore_n hx hb d_Gr_longestOf_28 rfl hl (by decide) rfl (fun ls hl => ?_)
      have hl : lv_has ls 4 [(2, .int (if mxq x cH u < cH u then cH u else mxq x cH u)), (3, .int (nI u)), (0, .ref g), (1, .int x)] := hl
      have hl : lv_has ls 4 [(2, .int (mxq x cH (u + 1))), (3, .int (nI u)), (0, .ref g), (1, .int x)] := by
        have hz : (if mxq x cH u < cH u then cH u else mxq x cH u) = mxq x cH (u + 1) := (if_pos hc15).symm
        rw [← hz]; exact hl
      refine lv_iinc hx hb d_Gr_longestOf_29 hl (k := 1) rfl (v := nI (u + 1)) (nI_1 u) (by decide) rfl (fun ls hl => ?_)
      have hl : lv_has ls 4 [(3, .int (nI (u + 1))), (2, .int (mxq x cH (u + 1))), (0, .ref g), (1, .int x)] := hl
      refine lv_goto (tgt := 4) hx hb d_Gr_longestOf_32 rfl ?_
      exact ih4 (u + 1) _ ⟨by omega, lv_sub hl [0, 1, 2, 3] rfl⟩ (by omega)
set_option maxHeartbeats 4000000 in
set_option maxRecDepth 100000 in
theorem k_Gr_reachedFromOneOf (l : Launch) (D : va_G) (g g0 g1 g2 g3 g4 g5 : Nat) (k0 k1 k2 k3 k4 k5 : ClassId) (gc : Int32) (rE nM lD bF oR cH : Nat → Int32) (x : Int32) (hx9 : Nat) (hh9 : hx9 < 32) : Met l y_Gr_reachedFromOneOf (Cond.code y_Gr_reachedFromOneOf c_Gr_reachedFromOneOf 4 (some .boolean) :: BS) { frames := 1, cells := 0, slots := 0, locals := 21 } (va_Pc [.ref g, .int x, .int (nI hx9)] (xR D [(g, .inr (2, [.ref g0, .ref g1, .ref g2, .ref g3, .ref g4, .ref g5, .int gc])), (g0, .inl (k0, 16, .inl rE)), (g1, .inl (k1, 16, .inl nM)), (g2, .inl (k2, 16, .inl lD)), (g3, .inl (k3, 16, .inl bF)), (g4, .inl (k4, 16, .inl oR)), (g5, .inl (k5, 16, .inl cH))] [(k0, .int), (k1, .int), (k2, .int), (k3, .int), (k4, .int), (k5, .int)])) (QcRead (b2i (anyq (fun u => bt x u && bt (rE u) hx9) 16))) 0 0 (fun _ => False) := by
  refine Met.ofW (cc := c_Gr_reachedFromOneOf) (maxL := 4) (ret := (some .boolean)) (by decide) rfl ?_
  intro p e s m args below meth c s₁ B hml hv
  obtain ⟨rfl, hP, hK, hN⟩ := hv
  have hx := B.exec
  have hb := B.bytes
  have hr := B.returns
  have hB := xB B.pre
  have hown : s.vm.findClass R_Gr = some m.cls := findClass_of_methodNamed B.named
  have hlocks := B.notSynchronized
  have hl := lv_entry ([.ref g, .int x, .int (nI hx9)]) (n := 4) (Nat.le_of_ble_eq_true rfl)
  rw [lg_entry_eq]
  generalize (lg_sl ([.ref g, .int x, .int (nI hx9)]) ++ List.replicate (4 - (lg_sl ([.ref g, .int x, .int (nI hx9)])).length) Slot.unset).toArray = ls at hl ⊢
  have hl : lv_has ls 4 [(0, .ref g), (1, .int x), (2, .int (nI hx9))] := hl
  refine lv_iconst (v := nI 0) hx hb d_Gr_reachedFromOneOf_0 (by decide) ?_
  refine lv_istore_n hx hb d_Gr_reachedFromOneOf_1 rfl hl (by decide) rfl (fun ls hl => ?_)
  have hl : lv_has ls 4 [(3, .int (nI 0)), (0, .ref g), (1, .int x), (2, .int (nI hx9))] := hl
  refine xl_r (fun (u : Nat) ls => (u ≤ 16 ∧ ∀ k9, k9 < u → (fun u => bt x u && bt (rE u) hx9) k9 = false) ∧ lv_has ls 4 [(3, .int (nI u)), (0, .ref g), (1, .int x), (2, .int (nI hx9))]) (fun u => 16 - u) (fun u ls hI ih2 => ?_) 0 _ ⟨⟨Nat.zero_le _, lt_0⟩, hl⟩
  obtain ⟨hI, hl⟩ := hI
  obtain ⟨hu_u, hm⟩ := hI
  refine lv_iload_n hx hb d_Gr_reachedFromOneOf_2 rfl (lv_at hl 0 rfl) ?_
  refine lv_bipush (v := nI 16) hx hb d_Gr_reachedFromOneOf_3 (by decide) ?_
  refine lv_icmp_ge (tgt := 37) hx hb d_Gr_reachedFromOneOf_5 rfl (fun hc5 => ?_) (fun hc5 => ?_)
  · have hc5 : 16 ≤ u := (nI_leI (by omega) (by omega)).mp hc5
    refine lv_iconst (v := nI 0) hx hb d_Gr_reachedFromOneOf_37 (by decide) ?_
    refine xv_top (x' := b2i (anyq (fun u => bt x u && bt (rE u) hx9) 16)) (by first | rw [anyq_t (p := (fun u => bt x u && bt (rE u) hx9)) (i := u) (by simp [hc13, hc26]) 16 (by omega)]; rfl | rw [anyq_f (p := (fun u => bt x u && bt (rE u) hx9)) 16 (fun k9 hk9 => hm k9 (by omega))]; rfl) ?_
    exact W.zret (v := b2i (anyq (fun u => bt x u && bt (rE u) hx9) 16)) hx hb hr (b2i_nar _) (fun t ht hW => ⟨rfl, ht⟩) (fun _ h => by cases h) d_Gr_reachedFromOneOf_38
  · have hc5 : ¬ (16 ≤ u) := fun q9 => hc5 ((nI_leI (by omega) (by omega)).mpr q9)
    refine lv_iload_n hx hb d_Gr_reachedFromOneOf_8 rfl (lv_at hl 2 rfl) ?_
    refine lv_iload_n hx hb d_Gr_reachedFromOneOf_9 rfl (lv_at hl 0 rfl) ?_
    refine xr_cal (va_runSN (As := [.int x, .int (nI u)]) (rest := []) ⟨hx, hb, hml, hown, hB⟩ (k_A_has l D x u (by omega)) ⟨va_cnB 2 hB (xg0 mc_A_has) rfl rfl rfl (xn_Gr_53 hN) (hB _ mz_A) (by decide +kernel) ⟨Nat.le_of_ble_eq_true rfl, Nat.le_of_ble_eq_true rfl⟩, hB _ ms_A_has, trivial⟩ (xpS (ws := []) (tys := []) (hP.sub [] rfl) (hK.sub [] rfl) hN) rfl rfl hl.1 rfl (lv_room (Nat.le_of_ble_eq_true rfl)) d_Gr_reachedFromOneOf_10 ⟨Nat.le_of_ble_eq_true rfl, Nat.le_of_ble_eq_true rfl⟩) ?_
    refine lv_if_eq (tgt := 31) hx hb d_Gr_reachedFromOneOf_13 rfl (fun hc13 => ?_) (fun hc13 => ?_)
    · have hc13 := b2i_0.mp hc13
      refine lv_iinc hx hb d_Gr_reachedFromOneOf_31 hl (k := 0) rfl (v := nI (u + 1)) (nI_1 u) (by decide) rfl (fun ls hl => ?_)
      have hl : lv_has ls 4 [(3, .int (nI (u + 1))), (0, .ref g), (1, .int x), (2, .int (nI hx9))] := hl
      refine lv_goto (tgt := 2) hx hb d_Gr_reachedFromOneOf_34 rfl ?_
      exact ih2 (u + 1) _ ⟨⟨by omega, lt_s hm (by first | (simp [hc13]; done) | (simp [hc26]; done))⟩, lv_sub hl [0, 1, 2, 3] rfl⟩ (by omega)
    · have hc13 := b2i_n.mp hc13
      refine lv_aload_n hx hb d_Gr_reachedFromOneOf_16 rfl (lv_at hl 1 rfl) ?_
      refine va_get (D := D) (ci := 2) (v := .ref g0) (C := R_Gr) (T := F_Gr) (N := 7) hx hb hB in_Gr hown hK hP 0 rfl rfl 0 (by decide) (hB _ mf_Gr_9) (fun _ h9 => h9) rfl d_Gr_reachedFromOneOf_17 ?_
      refine lv_iload_n hx hb d_Gr_reachedFromOneOf_20 rfl (lv_at hl 0 rfl) ?_
      refine xa_ld (u := u) hx hb hK hP 1 0 rfl rfl (by omega) (by decide) d_Gr_reachedFromOneOf_21 ?_
      refine lv_iload_n hx hb d_Gr_reachedFromOneOf_22 rfl (lv_at hl 3 rfl) ?_
      refine xr_cal (va_runSN (As := [.int (rE u), .int (nI hx9)]) (rest := []) ⟨hx, hb, hml, hown, hB⟩ (k_A_has l D (rE u) hx9 (by omega)) ⟨va_cnB 2 hB (xg0 mc_A_has) rfl rfl rfl (xn_Gr_53 hN) (hB _ mz_A) (by decide +kernel) ⟨Nat.le_of_ble_eq_true rfl, Nat.le_of_ble_eq_true rfl⟩, hB _ ms_A_has, trivial⟩ (xpS (ws := []) (tys := []) (hP.sub [] rfl) (hK.sub [] rfl) hN) rfl rfl hl.1 rfl (lv_room (Nat.le_of_ble_eq_true rfl)) d_Gr_reachedFromOneOf_23 ⟨Nat.le_of_ble_eq_true rfl, Nat.le_of_ble_eq_true rfl⟩) ?_
      refine lv_if_eq (tgt := 31) hx hb d_Gr_reachedFromOneOf_26 rfl (fun hc26 => ?_) (fun hc26 => ?_)
      · have hc26 := b2i_0.mp hc26
        refine lv_iinc hx hb d_Gr_reachedFromOneOf_31 hl (k := 0) rfl (v := nI (u + 1)) (nI_1 u) (by decide) rfl (fun ls hl => ?_)
        have hl : lv_has ls 4 [(3, .int (nI (u + 1))), (0, .ref g), (1, .int x), (2, .int (nI hx9))] := hl
        refine lv_goto (tgt := 2) hx hb d_Gr_reachedFromOneOf_34 rfl ?_
        exact ih2 (u + 1) _ ⟨⟨by omega, lt_s hm (by first | (simp [hc13]; done) | (simp [hc26]; done))⟩, lv_sub hl [0, 1, 2, 3] rfl⟩ (by omega)
      · have hc26 := b2i_n.mp hc26
        refine lv_iconst (v := nI 1) hx hb d_Gr_reachedFromOneOf_29 (by decide) ?_
        refine xv_top (x' := b2i (anyq (fun u => bt x u && bt (rE u) hx9) 16)) (by first | rw [anyq_t (p := (fun u => bt x u && bt (rE u) hx9)) (i := u) (by simp [hc13, hc26]) 16 (by omega)]; rfl | rw [anyq_f (p := (fun u => bt x u && bt (rE u) hx9)) 16 (fun k9 hk9 => hm k9 (by omega))]; rfl) ?_
        exact W.zret (v := b2i (anyq (fun u => bt x u && bt (rE u) hx9) 16)) hx hb hr (b2i_nar _) (fun t ht hW => ⟨rfl, ht⟩) (fun _ h => by cases h) d_Gr_reachedFromOneOf_30
set_option maxHeartbeats 4000000 in
set_option maxRecDepth 100000 in
theorem k_Gr_leastWith (l : Launch) (D : va_G) (g g0 g1 g2 g3 g4 g5 : Nat) (k0 k1 k2 k3 k4 k5 : ClassId) (gc : Int32) (rE nM lD bF oR cH : Nat → Int32) (v : Nat) (hv : v < 16) : Met l y_Gr_leastWith (Cond.code y_Gr_leastWith c_Gr_leastWith 3 (some .int) :: BS) { frames := 1, cells := 0, slots := 0, locals := 21 } (va_Pc [.ref g, .int (nI v)] (xR D [(g, .inr (2, [.ref g0, .ref g1, .ref g2, .ref g3, .ref g4, .ref g5, .int gc])), (g0, .inl (k0, 16, .inl rE)), (g1, .inl (k1, 16, .inl nM)), (g2, .inl (k2, 16, .inl lD)), (g3, .inl (k3, 16, .inl bF)), (g4, .inl (k4, 16, .inl oR)), (g5, .inl (k5, 16, .inl cH))] [(k0, .int), (k1, .int), (k2, .int), (k3, .int), (k4, .int), (k5, .int)])) (QcRead (nI (first (fun u => bt (rE v) u && bt (rE u) v) v v))) 0 0 (fun _ => False) := by
  refine Met.ofW (cc := c_Gr_leastWith) (maxL := 3) (ret := (some .int)) (by decide) rfl ?_
  intro p e s m args below meth c s₁ B hml hv
  obtain ⟨rfl, hP, hK, hN⟩ := hv
  have hx := B.exec
  have hb := B.bytes
  have hr := B.returns
  have hB := xB B.pre
  have hown : s.vm.findClass R_Gr = some m.cls := findClass_of_methodNamed B.named
  have hlocks := B.notSynchronized
  have hl := lv_entry ([.ref g, .int (nI v)]) (n := 3) (Nat.le_of_ble_eq_true rfl)
  rw [lg_entry_eq]
  generalize (lg_sl ([.ref g, .int (nI v)]) ++ List.replicate (3 - (lg_sl ([.ref g, .int (nI v)])).length) Slot.unset).toArray = ls at hl ⊢
  have hl : lv_has ls 3 [(0, .ref g), (1, .int (nI v))] := hl
  refine lv_iconst (v := nI 0) hx hb d_Gr_leastWith_0 (by decide) ?_
  refine lv_istore_n hx hb d_Gr_leastWith_1 rfl hl (by decide) rfl (fun ls hl => ?_)
  have hl : lv_has ls 3 [(2, .int (nI 0)), (0, .ref g), (1, .int (nI v))] := hl
  refine xl_r (fun (u : Nat) ls => (u ≤ v ∧ ∀ k9, k9 < u → (fun u => bt (rE v) u && bt (rE u) v) k9 = false) ∧ lv_has ls 3 [(2, .int (nI u)), (0, .ref g), (1, .int (nI v))]) (fun u => v - u) (fun u ls hI ih2 => ?_) 0 _ ⟨⟨Nat.zero_le _, lt_0⟩, hl⟩
  obtain ⟨hI, hl⟩ := hI
  obtain ⟨hu_u, hm⟩ := hI
  refine lv_iload_n hx hb d_Gr_leastWith_2 rfl (lv_at hl 0 rfl) ?_
  refine lv_iload_n hx hb d_Gr_leastWith_3 rfl (lv_at hl 2 rfl) ?_
  refine lv_icmp_ge (tgt := 41) hx hb d_Gr_leastWith_4 rfl (fun hc4 => ?_) (fun hc4 => ?_)
  · have hc4 : v ≤ u := (nI_leI (by omega) (by omega)).mp hc4
    refine lv_iload_n hx hb d_Gr_leastWith_41 rfl (lv_at hl 2 rfl) ?_
    refine xv_top (x' := nI (first (fun u => bt (rE v) u && bt (rE u) v) v v)) (by first | rw [first_eq (p := (fun u => bt (rE v) u && bt (rE u) v)) (j := u) (by simp [hc17, hc30]) (by omega) hm] | rw [first_none (p := (fun u => bt (rE v) u && bt (rE u) v)) (fun k9 hk9 => hm k9 (by omega))]) ?_
    exact W.iret (v := nI (first (fun u => bt (rE v) u && bt (rE u) v) v v)) hx hb hr (fun t ht hW => ⟨rfl, ht⟩) (fun _ h => by cases h) d_Gr_leastWith_42
  · have hc4 : ¬ (v ≤ u) := fun q9 => hc4 ((nI_leI (by omega) (by omega)).mpr q9)
    refine lv_aload_n hx hb d_Gr_leastWith_7 rfl (lv_at hl 1 rfl) ?_
    refine va_get (D := D) (ci := 2) (v := .ref g0) (C := R_Gr) (T := F_Gr) (N := 7) hx hb hB in_Gr hown hK hP 0 rfl rfl 0 (by decide) (hB _ mf_Gr_9) (fun _ h9 => h9) rfl d_Gr_leastWith_8 ?_
    refine lv_iload_n hx hb d_Gr_leastWith_11 rfl (lv_at hl 2 rfl) ?_
    refine xa_ld (u := v) hx hb hK hP 1 0 rfl rfl (by omega) (by decide) d_Gr_leastWith_12 ?_
    refine lv_iload_n hx hb d_Gr_leastWith_13 rfl (lv_at hl 0 rfl) ?_
    refine xr_cal (va_runSN (As := [.int (rE v), .int (nI u)]) (rest := []) ⟨hx, hb, hml, hown, hB⟩ (k_A_has l D (rE v) u (by omega)) ⟨va_cnB 2 hB (xg0 mc_A_has) rfl rfl rfl (xn_Gr_53 hN) (hB _ mz_A) (by decide +kernel) ⟨Nat.le_of_ble_eq_true rfl, Nat.le_of_ble_eq_true rfl⟩, hB _ ms_A_has, trivial⟩ (xpS (ws := []) (tys := []) (hP.sub [] rfl) (hK.sub [] rfl) hN) rfl rfl hl.1 rfl (lv_room (Nat.le_of_ble_eq_true rfl)) d_Gr_leastWith_14 ⟨Nat.le_of_ble_eq_true rfl, Nat.le_of_ble_eq_true rfl⟩) ?_
    refine lv_if_eq (tgt := 35) hx hb d_Gr_leastWith_17 rfl (fun hc17 => ?_) (fun hc17 => ?_)
    · have hc17 := b2i_0.mp hc17
      refine lv_iinc hx hb d_Gr_leastWith_35 hl (k := 0) rfl (v := nI (u + 1)) (nI_1 u) (by decide) rfl (fun ls hl => ?_)
      have hl : lv_has ls 3 [(2, .int (nI (u + 1))), (0, .ref g), (1, .int (nI v))] := hl
      refine lv_goto (tgt := 2) hx hb d_Gr_leastWith_38 rfl ?_
      exact ih2 (u + 1) _ ⟨⟨by omega, lt_s hm (by first | (simp [hc17]; done) | (simp [hc30]; done))⟩, lv_sub hl [0, 1, 2] rfl⟩ (by omega)
    · have hc17 := b2i_n.mp hc17
      refine lv_aload_n hx hb d_Gr_leastWith_20 rfl (lv_at hl 1 rfl) ?_
      refine va_get (D := D) (ci := 2) (v := .ref g0) (C := R_Gr) (T := F_Gr) (N := 7) hx hb hB in_Gr hown hK hP 0 rfl rfl 0 (by decide) (hB _ mf_Gr_9) (fun _ h9 => h9) rfl d_Gr_leastWith_21 ?_
      refine lv_iload_n hx hb d_Gr_leastWith_24 rfl (lv_at hl 0 rfl) ?_
      refine xa_ld (u := u) hx hb hK hP 1 0 rfl rfl (by omega) (by decide) d_Gr_leastWith_25 ?_
      refine lv_iload_n hx hb d_Gr_leastWith_26 rfl (lv_at hl 2 rfl) ?_
      refine xr_cal (va_runSN (As := [.int (rE u), .int (nI v)]) (rest := []) ⟨hx, hb, hml, hown, hB⟩ (k_A_has l D (rE u) v (by omega)) ⟨va_cnB 2 hB (xg0 mc_A_has) rfl rfl rfl (xn_Gr_53 hN) (hB _ mz_A) (by decide +kernel) ⟨Nat.le_of_ble_eq_true rfl, Nat.le_of_ble_eq_true rfl⟩, hB _ ms_A_has, trivial⟩ (xpS (ws := []) (tys := []) (hP.sub [] rfl) (hK.sub [] rfl) hN) rfl rfl hl.1 rfl (lv_room (Nat.le_of_ble_eq_true rfl)) d_Gr_leastWith_27 ⟨Nat.le_of_ble_eq_true rfl, Nat.le_of_ble_eq_true rfl⟩) ?_
      refine lv_if_eq (tgt := 35) hx hb d_Gr_leastWith_30 rfl (fun hc30 => ?_) (fun hc30 => ?_)
      · have hc30 := b2i_0.mp hc30
        refine lv_iinc hx hb d_Gr_leastWith_35 hl (k := 0) rfl (v := nI (u + 1)) (nI_1 u) (by decide) rfl (fun ls hl => ?_)
        have hl : lv_has ls 3 [(2, .int (nI (u + 1))), (0, .ref g), (1, .int (nI v))] := hl
        refine lv_goto (tgt := 2) hx hb d_Gr_leastWith_38 rfl ?_
        exact ih2 (u + 1) _ ⟨⟨by omega, lt_s hm (by first | (simp [hc17]; done) | (simp [hc30]; done))⟩, lv_sub hl [0, 1, 2] rfl⟩ (by omega)
      · have hc30 := b2i_n.mp hc30
        refine lv_iload_n hx hb d_Gr_leastWith_33 rfl (lv_at hl 0 rfl) ?_
        refine xv_top (x' := nI (first (fun u => bt (rE v) u && bt (rE u) v) v v)) (by first | rw [first_eq (p := (fun u => bt (rE v) u && bt (rE u) v)) (j := u) (by simp [hc17, hc30]) (by omega) hm] | rw [first_none (p := (fun u => bt (rE v) u && bt (rE u) v)) (fun k9 hk9 => hm k9 (by omega))]) ?_
        exact W.iret (v := nI (first (fun u => bt (rE v) u && bt (rE u) v) v v)) hx hb hr (fun t ht hW => ⟨rfl, ht⟩) (fun _ h => by cases h) d_Gr_leastWith_34
set_option maxHeartbeats 4000000 in
set_option maxRecDepth 100000 in
theorem k_Gr_leastFree (l : Launch) (D : va_G) (g g0 g1 g2 g3 g4 g5 : Nat) (k0 k1 k2 k3 k4 k5 : ClassId) (gc : Int32) (rE nM lD bF oR cH : Nat → Int32) (x : Int32) : Met l y_Gr_leastFree (Cond.code y_Gr_leastFree c_Gr_leastFree 3 (some .int) :: BS) { frames := 1, cells := 0, slots := 0, locals := 21 } (va_Pc [.ref g, .int x] (xR D [(g, .inr (2, [.ref g0, .ref g1, .ref g2, .ref g3, .ref g4, .ref g5, .int gc])), (g0, .inl (k0, 16, .inl rE)), (g1, .inl (k1, 16, .inl nM)), (g2, .inl (k2, 16, .inl lD)), (g3, .inl (k3, 16, .inl bF)), (g4, .inl (k4, 16, .inl oR)), (g5, .inl (k5, 16, .inl cH))] [(k0, .int), (k1, .int), (k2, .int), (k3, .int), (k4, .int), (k5, .int)])) (QcRead (nI (first (fun u => decide (nM u = nI u) && !(bt x u) && decide (bF u &&& (x ^^^ (-1)) = 0)) 0 16))) 0 0 (fun _ => False) := by
  refine Met.ofW (cc := c_Gr_leastFree) (maxL := 3) (ret := (some .int)) (by decide) rfl ?_
  intro p e s m args below meth c s₁ B hml hv
  obtain ⟨rfl, hP, hK, hN⟩ := hv
  have hx := B.exec
  have hb := B.bytes
  have hr := B.returns
  have hB := xB B.pre
  have hown : s.vm.findClass R_Gr = some m.cls := findClass_of_methodNamed B.named
  have hlocks := B.notSynchronized
  have hl := lv_entry ([.ref g, .int x]) (n := 3) (Nat.le_of_ble_eq_true rfl)
  rw [lg_entry_eq]
  generalize (lg_sl ([.ref g, .int x]) ++ List.replicate (3 - (lg_sl ([.ref g, .int x])).length) Slot.unset).toArray = ls at hl ⊢
  have hl : lv_has ls 3 [(0, .ref g), (1, .int x)] := hl
  refine lv_iconst (v := nI 0) hx hb d_Gr_leastFree_0 (by decide) ?_
  refine lv_istore_n hx hb d_Gr_leastFree_1 rfl hl (by decide) rfl (fun ls hl => ?_)
  have hl : lv_has ls 3 [(2, .int (nI 0)), (0, .ref g), (1, .int x)] := hl
  refine xl_r (fun (u : Nat) ls => (u ≤ 16 ∧ ∀ k9, k9 < u → (fun u => decide (nM u = nI u) && !(bt x u) && decide (bF u &&& (x ^^^ (-1)) = 0)) k9 = false) ∧ lv_has ls 3 [(2, .int (nI u)), (0, .ref g), (1, .int x)]) (fun u => 16 - u) (fun u ls hI ih2 => ?_) 0 _ ⟨⟨Nat.zero_le _, lt_0⟩, hl⟩
  obtain ⟨hI, hl⟩ := hI
  obtain ⟨hu_u, hm⟩ := hI
  refine lv_iload_n hx hb d_Gr_leastFree_2 rfl (lv_at hl 0 rfl) ?_
  refine lv_bipush (v := nI 16) hx hb d_Gr_leastFree_3 (by decide) ?_
  refine lv_icmp_ge (tgt := 47) hx hb d_Gr_leastFree_5 rfl (fun hc5 => ?_) (fun hc5 => ?_)
  · have hc5 : 16 ≤ u := (nI_leI (by omega) (by omega)).mp hc5
    refine lv_iconst (v := nI 0) hx hb d_Gr_leastFree_47 (by decide) ?_
    refine xv_top (x' := nI (first (fun u => decide (nM u = nI u) && !(bt x u) && decide (bF u &&& (x ^^^ (-1)) = 0)) 0 16)) (by first | rw [first_eq (p := (fun u => decide (nM u = nI u) && !(bt x u) && decide (bF u &&& (x ^^^ (-1)) = 0))) (j := u) (by (try dsimp only); rw [decide_eq_true hc15, hc23, decide_eq_true hc36]; rfl) (by omega) hm] | rw [first_none (p := (fun u => decide (nM u = nI u) && !(bt x u) && decide (bF u &&& (x ^^^ (-1)) = 0))) (fun k9 hk9 => hm k9 (by omega))]) ?_
    exact W.iret (v := nI (first (fun u => decide (nM u = nI u) && !(bt x u) && decide (bF u &&& (x ^^^ (-1)) = 0)) 0 16)) hx hb hr (fun t ht hW => ⟨rfl, ht⟩) (fun _ h => by cases h) d_Gr_leastFree_48
  · have hc5 : ¬ (16 ≤ u) := fun q9 => hc5 ((nI_leI (by omega) (by omega)).mpr q9)
    refine lv_aload_n hx hb d_Gr_leastFree_8 rfl (lv_at hl 1 rfl) ?_
    refine va_get (D := D) (ci := 2) (v := .ref g1) (C := R_Gr) (T := F_Gr) (N := 7) hx hb hB in_Gr hown hK hP 0 rfl rfl 1 (by decide) (hB _ mf_Gr_15) (fun _ h9 => h9) rfl d_Gr_leastFree_9 ?_
    refine lv_iload_n hx hb d_Gr_leastFree_12 rfl (lv_at hl 0 rfl) ?_
    refine xa_ld (u := u) hx hb hK hP 2 1 rfl rfl (by omega) (by decide) d_Gr_leastFree_13 ?_
    refine lv_iload_n hx hb d_Gr_leastFree_14 rfl (lv_at hl 0 rfl) ?_
    refine lv_icmp_ne (tgt := 41) hx hb d_Gr_leastFree_15 rfl (fun hc15 => ?_) (fun hc15 => ?_)
    · refine lv_iinc hx hb d_Gr_leastFree_41 hl (k := 0) rfl (v := nI (u + 1)) (nI_1 u) (by decide) rfl (fun ls hl => ?_)
      have hl : lv_has ls 3 [(2, .int (nI (u + 1))), (0, .ref g), (1, .int x)] := hl
      refine lv_goto (tgt := 2) hx hb d_Gr_leastFree_44 rfl ?_
      exact ih2 (u + 1) _ ⟨⟨by omega, lt_s hm (by (try dsimp only); first | (rw [decide_eq_false hc36, Bool.and_false]; done) | (rw [hc23]; simp; done) | (rw [decide_eq_false hc15]; rfl))⟩, lv_sub hl [0, 1, 2] rfl⟩ (by omega)
    · refine lv_iload_n hx hb d_Gr_leastFree_18 rfl (lv_at hl 2 rfl) ?_
      refine lv_iload_n hx hb d_Gr_leastFree_19 rfl (lv_at hl 0 rfl) ?_
      refine xr_cal (va_runSN (As := [.int x, .int (nI u)]) (rest := []) ⟨hx, hb, hml, hown, hB⟩ (k_A_has l D x u (by omega)) ⟨va_cnB 2 hB (xg0 mc_A_has) rfl rfl rfl (xn_Gr_53 hN) (hB _ mz_A) (by decide +kernel) ⟨Nat.le_of_ble_eq_true rfl, Nat.le_of_ble_eq_true rfl⟩, hB _ ms_A_has, trivial⟩ (xpS (ws := []) (tys := []) (hP.sub [] rfl) (hK.sub [] rfl) hN) rfl rfl hl.1 rfl (lv_room (Nat.le_of_ble_eq_true rfl)) d_Gr_leastFree_20 ⟨Nat.le_of_ble_eq_true rfl, Nat.le_of_ble_eq_true rfl⟩) ?_
      refine lv_if_ne (tgt := 41) hx hb d_Gr_leastFree_23 rfl (fun hc23 => ?_) (fun hc23 => ?_)
      · have hc23 := b2i_n.mp hc23
        refine lv_iinc hx hb d_Gr_leastFree_41 hl (k := 0) rfl (v := nI (u + 1)) (nI_1 u) (by decide) rfl (fun ls hl => ?_)
        have hl : lv_has ls 3 [(2, .int (nI (u + 1))), (0, .ref g), (1, .int x)] := hl
        refine lv_goto (tgt := 2) hx hb d_Gr_leastFree_44 rfl ?_
        exact ih2 (u + 1) _ ⟨⟨by omega, lt_s hm (by (try dsimp only); first | (rw [decide_eq_false hc36, Bool.and_false]; done) | (rw [hc23]; simp; done) | (rw [decide_eq_false hc15]; rfl))⟩, lv_sub hl [0, 1, 2] rfl⟩ (by omega)
      · have hc23 := b2i_0.mp hc23
        refine lv_aload_n hx hb d_Gr_leastFree_26 rfl (lv_at hl 1 rfl) ?_
        refine va_get (D := D) (ci := 2) (v := .ref g3) (C := R_Gr) (T := F_Gr) (N := 7) hx hb hB in_Gr hown hK hP 0 rfl rfl 3 (by decide) (hB _ mf_Gr_21) (fun _ h9 => h9) rfl d_Gr_leastFree_27 ?_
        refine lv_iload_n hx hb d_Gr_leastFree_30 rfl (lv_at hl 0 rfl) ?_
        refine xa_ld (u := u) hx hb hK hP 4 3 rfl rfl (by omega) (by decide) d_Gr_leastFree_31 ?_
        refine lv_iload_n hx hb d_Gr_leastFree_32 rfl (lv_at hl 2 rfl) ?_
        refine lv_iconst (v := -1) hx hb d_Gr_leastFree_33 (by decide) ?_
        refine lv_ixor hx hb d_Gr_leastFree_34 ?_
        refine lv_iand hx hb d_Gr_leastFree_35 ?_
        refine lv_if_ne (tgt := 41) hx hb d_Gr_leastFree_36 rfl (fun hc36 => ?_) (fun hc36 => ?_)
        · refine lv_iinc hx hb d_Gr_leastFree_41 hl (k := 0) rfl (v := nI (u + 1)) (nI_1 u) (by decide) rfl (fun ls hl => ?_)
          have hl : lv_has ls 3 [(2, .int (nI (u + 1))), (0, .ref g), (1, .int x)] := hl
          refine lv_goto (tgt := 2) hx hb d_Gr_leastFree_44 rfl ?_
          exact ih2 (u + 1) _ ⟨⟨by omega, lt_s hm (by (try dsimp only); first | (rw [decide_eq_false hc36, Bool.and_false]; done) | (rw [hc23]; simp; done) | (rw [decide_eq_false hc15]; rfl))⟩, lv_sub hl [0, 1, 2] rfl⟩ (by omega)
        · refine lv_iload_n hx hb d_Gr_leastFree_39 rfl (lv_at hl 0 rfl) ?_
          refine xv_top (x' := nI (first (fun u => decide (nM u = nI u) && !(bt x u) && decide (bF u &&& (x ^^^ (-1)) = 0)) 0 16)) (by first | rw [first_eq (p := (fun u => decide (nM u = nI u) && !(bt x u) && decide (bF u &&& (x ^^^ (-1)) = 0))) (j := u) (by (try dsimp only); rw [decide_eq_true hc15, hc23, decide_eq_true hc36]; rfl) (by omega) hm] | rw [first_none (p := (fun u => decide (nM u = nI u) && !(bt x u) && decide (bF u &&& (x ^^^ (-1)) = 0))) (fun k9 hk9 => hm k9 (by omega))]) ?_
          exact W.iret (v := nI (first (fun u => decide (nM u = nI u) && !(bt x u) && decide (bF u &&& (x ^^^ (-1)) = 0)) 0 16)) hx hb hr (fun t ht hW => ⟨rfl, ht⟩) (fun _ h => by cases h) d_Gr_leastFree_40
set_option maxHeartbeats 4000000 in
set_option maxRecDepth 100000 in
theorem k_Gr_pairsWithoutDetour (l : Launch) (D : va_G) (g g0 g1 g2 g3 g4 g5 : Nat) (k0 k1 k2 k3 k4 k5 : ClassId) (gc : Int32) (rE nM lD bF oR cH : Nat → Int32)  : Met l y_Gr_pairsWithoutDetour (Cond.code y_Gr_pairsWithoutDetour c_Gr_pairsWithoutDetour 4 (some .int) :: BS) { frames := 2, cells := 0, slots := 0, locals := 44 } (va_Pc [.ref g] (xR D [(g, .inr (2, [.ref g0, .ref g1, .ref g2, .ref g3, .ref g4, .ref g5, .int gc])), (g0, .inl (k0, 16, .inl rE)), (g1, .inl (k1, 16, .inl nM)), (g2, .inl (k2, 16, .inl lD)), (g3, .inl (k3, 16, .inl bF)), (g4, .inl (k4, 16, .inl oR)), (g5, .inl (k5, 16, .inl cH))] [(k0, .int), (k1, .int), (k2, .int), (k3, .int), (k4, .int), (k5, .int)])) (QcRead (nI (sq (fun a9 => cq ((fun u v => bt (lD u) v && !(anyq (fun k => bt (lD u &&& (bit v ^^^ (-1))) k && bt (rE k) v) 16)) a9) 16) 16))) 0 0 (fun _ => False) := by
  refine Met.ofW (cc := c_Gr_pairsWithoutDetour) (maxL := 4) (ret := (some .int)) (by decide) rfl ?_
  intro p e s m args below meth c s₁ B hml hv
  obtain ⟨rfl, hP, hK, hN⟩ := hv
  have hx := B.exec
  have hb := B.bytes
  have hr := B.returns
  have hB := xB B.pre
  have hown : s.vm.findClass R_Gr = some m.cls := findClass_of_methodNamed B.named
  have hlocks := B.notSynchronized
  have hl := lv_entry ([.ref g]) (n := 4) (Nat.le_of_ble_eq_true rfl)
  rw [lg_entry_eq]
  generalize (lg_sl ([.ref g]) ++ List.replicate (4 - (lg_sl ([.ref g])).length) Slot.unset).toArray = ls at hl ⊢
  have hl : lv_has ls 4 [(0, .ref g)] := hl
  refine lv_iconst (v := nI 0) hx hb d_Gr_pairsWithoutDetour_0 (by decide) ?_
  refine lv_istore_n hx hb d_Gr_pairsWithoutDetour_1 rfl hl (by decide) rfl (fun ls hl => ?_)
  have hl : lv_has ls 4 [(1, .int (nI 0)), (0, .ref g)] := hl
  refine lv_iconst (v := nI 0) hx hb d_Gr_pairsWithoutDetour_2 (by decide) ?_
  refine lv_istore_n hx hb d_Gr_pairsWithoutDetour_3 rfl hl (by decide) rfl (fun ls hl => ?_)
  have hl : lv_has ls 4 [(2, .int (nI 0)), (1, .int (nI 0)), (0, .ref g)] := hl
  refine xl_r (fun (u : Nat) ls => (u ≤ 16) ∧ lv_has ls 4 [(2, .int (nI u)), (1, .int (nI (sq (fun a9 => cq ((fun u v => bt (lD u) v && !(anyq (fun k => bt (lD u &&& (bit v ^^^ (-1))) k && bt (rE k) v) 16)) a9) 16) u))), (0, .ref g)]) (fun u => 16 - u) (fun u ls hI ih4 => ?_) 0 _ ⟨Nat.zero_le _, hl⟩
  obtain ⟨hI, hl⟩ := hI
  have hu_u := hI
  refine lv_iload_n hx hb d_Gr_pairsWithoutDetour_4 rfl (lv_at hl 0 rfl) ?_
  refine lv_bipush (v := nI 16) hx hb d_Gr_pairsWithoutDetour_5 (by decide) ?_
  refine lv_icmp_ge (tgt := 67) hx hb d_Gr_pairsWithoutDetour_7 rfl (fun hc7 => ?_) (fun hc7 => ?_)
  · have hc7 : 16 ≤ u := (nI_leI (by omega) (by omega)).mp hc7
    refine lv_iload_n hx hb d_Gr_pairsWithoutDetour_67 rfl (lv_at hl 1 rfl) ?_
    refine xv_top (x' := nI (sq (fun a9 => cq ((fun u v => bt (lD u) v && !(anyq (fun k => bt (lD u &&& (bit v ^^^ (-1))) k && bt (rE k) v) 16)) a9) 16) 16)) (by rw [show u = 16 by omega]) ?_
    exact W.iret (v := nI (sq (fun a9 => cq ((fun u v => bt (lD u) v && !(anyq (fun k => bt (lD u &&& (bit v ^^^ (-1))) k && bt (rE k) v) 16)) a9) 16) 16)) hx hb hr (fun t ht hW => ⟨rfl, ht⟩) (fun _ h => by cases h) d_Gr_pairsWithoutDetour_68
  · have hc7 : ¬ (16 ≤ u) := fun q9 => hc7 ((nI_leI (by omega) (by omega)).mpr q9)
    refine lv_iconst (v := nI 0) hx hb d_Gr_pairsWithoutDetour_10 (by decide) ?_
    refine lv_istore_n hx hb d_Gr_pairsWithoutDetour_11 rfl hl (by decide) rfl (fun ls hl => ?_)
    have hl : lv_has ls 4 [(3, .int (nI 0)), (2, .int (nI u)), (1, .int (nI (sq (fun a9 => cq ((fun u v => bt (lD u) v && !(anyq (fun k => bt (lD u &&& (bit v ^^^ (-1))) k && bt (rE k) v) 16)) a9) 16) u))), (0, .ref g)] := hl
    refine xl_r (fun (v : Nat) ls => (v ≤ 16) ∧ lv_has ls 4 [(3, .int (nI v)), (2, .int (nI u)), (1, .int (nI (sq (fun a9 => cq ((fun u v => bt (lD u) v && !(anyq (fun k => bt (lD u &&& (bit v ^^^ (-1))) k && bt (rE k) v) 16)) a9) 16) u + cq ((fun u v => bt (lD u) v && !(anyq (fun k => bt (lD u &&& (bit v ^^^ (-1))) k && bt (rE k) v) 16)) u) v))), (0, .ref g)]) (fun v => 16 - v) (fun v ls hI ih12 => ?_) 0 _ ⟨Nat.zero_le _, hl⟩
    obtain ⟨hI, hl⟩ := hI
    have hu_v := hI
    refine lv_iload_n hx hb d_Gr_pairsWithoutDetour_12 rfl (lv_at hl 0 rfl) ?_
    refine lv_bipush (v := nI 16) hx hb d_Gr_pairsWithoutDetour_13 (by decide) ?_
    refine lv_icmp_ge (tgt := 61) hx hb d_Gr_pairsWithoutDetour_15 rfl (fun hc15 => ?_) (fun hc15 => ?_)
    · have hc15 : 16 ≤ v := (nI_leI (by omega) (by omega)).mp hc15
      have hl : lv_has ls 4 [(3, .int (nI v)), (2, .int (nI u)), (1, .int (nI (sq (fun a9 => cq ((fun u v => bt (lD u) v && !(anyq (fun k => bt (lD u &&& (bit v ^^^ (-1))) k && bt (rE k) v) 16)) a9) 16) (u + 1)))), (0, .ref g)] := by
        have hz : (nI (sq (fun a9 => cq ((fun u v => bt (lD u) v && !(anyq (fun k => bt (lD u &&& (bit v ^^^ (-1))) k && bt (rE k) v) 16)) a9) 16) u + cq ((fun u v => bt (lD u) v && !(anyq (fun k => bt (lD u &&& (bit v ^^^ (-1))) k && bt (rE k) v) 16)) u) v)) = nI (sq (fun a9 => cq ((fun u v => bt (lD u) v && !(anyq (fun k => bt (lD u &&& (bit v ^^^ (-1))) k && bt (rE k) v) 16)) a9) 16) (u + 1)) := by rw [show v = 16 by omega]; rfl
        rw [← hz]; exact hl
      refine lv_iinc hx hb d_Gr_pairsWithoutDetour_61 hl (k := 1) rfl (v := nI (u + 1)) (nI_1 u) (by decide) rfl (fun ls hl => ?_)
      have hl : lv_has ls 4 [(2, .int (nI (u + 1))), (3, .int (nI v)), (1, .int (nI (sq (fun a9 => cq ((fun u v => bt (lD u) v && !(anyq (fun k => bt (lD u &&& (bit v ^^^ (-1))) k && bt (rE k) v) 16)) a9) 16) (u + 1)))), (0, .ref g)] := hl
      refine lv_goto (tgt := 4) hx hb d_Gr_pairsWithoutDetour_64 rfl ?_
      exact ih4 (u + 1) _ ⟨by omega, lv_sub hl [0, 2, 3] rfl⟩ (by omega)
    · have hc15 : ¬ (16 ≤ v) := fun q9 => hc15 ((nI_leI (by omega) (by omega)).mpr q9)
      refine lv_aload_n hx hb d_Gr_pairsWithoutDetour_18 rfl (lv_at hl 3 rfl) ?_
      refine va_get (D := D) (ci := 2) (v := .ref g2) (C := R_Gr) (T := F_Gr) (N := 7) hx hb hB in_Gr hown hK hP 0 rfl rfl 2 (by decide) (hB _ mf_Gr_18) (fun _ h9 => h9) rfl d_Gr_pairsWithoutDetour_19 ?_
      refine lv_iload_n hx hb d_Gr_pairsWithoutDetour_22 rfl (lv_at hl 1 rfl) ?_
      refine xa_ld (u := u) hx hb hK hP 3 2 rfl rfl (by omega) (by decide) d_Gr_pairsWithoutDetour_23 ?_
      refine lv_iload_n hx hb d_Gr_pairsWithoutDetour_24 rfl (lv_at hl 0 rfl) ?_
      refine xr_cal (va_runSN (As := [.int (lD u), .int (nI v)]) (rest := []) ⟨hx, hb, hml, hown, hB⟩ (k_A_has l D (lD u) v (by omega)) ⟨va_cnB 2 hB (xg0 mc_A_has) rfl rfl rfl (xn_Gr_53 hN) (hB _ mz_A) (by decide +kernel) ⟨Nat.le_of_ble_eq_true rfl, Nat.le_of_ble_eq_true rfl⟩, hB _ ms_A_has, trivial⟩ (xpS (ws := []) (tys := []) (hP.sub [] rfl) (hK.sub [] rfl) hN) rfl rfl hl.1 rfl (lv_room (Nat.le_of_ble_eq_true rfl)) d_Gr_pairsWithoutDetour_25 ⟨Nat.le_of_ble_eq_true rfl, Nat.le_of_ble_eq_true rfl⟩) ?_
      refine lv_if_eq (tgt := 55) hx hb d_Gr_pairsWithoutDetour_28 rfl (fun hc28 => ?_) (fun hc28 => ?_)
      · have hc28 := b2i_0.mp hc28
        have hl : lv_has ls 4 [(3, .int (nI v)), (2, .int (nI u)), (1, .int (nI (sq (fun a9 => cq ((fun u v => bt (lD u) v && !(anyq (fun k => bt (lD u &&& (bit v ^^^ (-1))) k && bt (rE k) v) 16)) a9) 16) u + cq ((fun u v => bt (lD u) v && !(anyq (fun k => bt (lD u &&& (bit v ^^^ (-1))) k && bt (rE k) v) 16)) u) (v + 1)))), (0, .ref g)] := by
          have hz : (nI (sq (fun a9 => cq ((fun u v => bt (lD u) v && !(anyq (fun k => bt (lD u &&& (bit v ^^^ (-1))) k && bt (rE k) v) 16)) a9) 16) u + cq ((fun u v => bt (lD u) v && !(anyq (fun k => bt (lD u &&& (bit v ^^^ (-1))) k && bt (rE k) v) 16)) u) v)) = nI (sq (fun a9 => cq ((fun u v => bt (lD u) v && !(anyq (fun k => bt (lD u &&& (bit v ^^^ (-1))) k && bt (rE k) v) 16)) a9) 16) u + cq ((fun u v => bt (lD u) v && !(anyq (fun k => bt (lD u &&& (bit v ^^^ (-1))) k && bt (rE k) v) 16)) u) (v + 1)) := by rw [cq_f (p := (fun u v => bt (lD u) v && !(anyq (fun k => bt (lD u &&& (bit v ^^^ (-1))) k && bt (rE k) v) 16)) u) (k := v) (by (try dsimp only); first | (rw [hc49]; simp; done) | (rw [hc28]; rfl))]
          rw [← hz]; exact hl
        refine lv_iinc hx hb d_Gr_pairsWithoutDetour_55 hl (k := 0) rfl (v := nI (v + 1)) (nI_1 v) (by decide) rfl (fun ls hl => ?_)
        have hl : lv_has ls 4 [(3, .int (nI (v + 1))), (2, .int (nI u)), (1, .int (nI (sq (fun a9 => cq ((fun u v => bt (lD u) v && !(anyq (fun k => bt (lD u &&& (bit v ^^^ (-1))) k && bt (rE k) v) 16)) a9) 16) u + cq ((fun u v => bt (lD u) v && !(anyq (fun k => bt (lD u &&& (bit v ^^^ (-1))) k && bt (rE k) v) 16)) u) (v + 1)))), (0, .ref g)] := hl
        refine lv_goto (tgt := 12) hx hb d_Gr_pairsWithoutDetour_58 rfl ?_
        exact ih12 (v + 1) _ ⟨by omega, lv_sub hl [0, 1, 2, 3] rfl⟩ (by omega)
      · have hc28 := b2i_n.mp hc28
        refine lv_aload_n hx hb d_Gr_pairsWithoutDetour_31 rfl (lv_at hl 3 rfl) ?_
        refine lv_aload_n hx hb d_Gr_pairsWithoutDetour_32 rfl (lv_at hl 3 rfl) ?_
        refine va_get (D := D) (ci := 2) (v := .ref g2) (C := R_Gr) (T := F_Gr) (N := 7) hx hb hB in_Gr hown hK hP 0 rfl rfl 2 (by decide) (hB _ mf_Gr_18) (fun _ h9 => h9) rfl d_Gr_pairsWithoutDetour_33 ?_
        refine lv_iload_n hx hb d_Gr_pairsWithoutDetour_36 rfl (lv_at hl 1 rfl) ?_
        refine xa_ld (u := u) hx hb hK hP 3 2 rfl rfl (by omega) (by decide) d_Gr_pairsWithoutDetour_37 ?_
        refine lv_iload_n hx hb d_Gr_pairsWithoutDetour_38 rfl (lv_at hl 0 rfl) ?_
        refine xr_cal (va_runSN (As := [.int (nI v)]) (rest := [.int (lD u), .ref g]) ⟨hx, hb, hml, hown, hB⟩ (k_A_only l D v) ⟨va_cnB 1 hB (xg0 mc_A_only) rfl rfl rfl (xn_Gr_57 hN) (hB _ mz_A) (by decide +kernel) ⟨Nat.le_of_ble_eq_true rfl, Nat.le_of_ble_eq_true rfl⟩, hB _ ms_A_only, trivial⟩ (xpS (ws := []) (tys := []) (hP.sub [] rfl) (hK.sub [] rfl) hN) rfl rfl hl.1 rfl (lv_room (Nat.le_of_ble_eq_true rfl)) d_Gr_pairsWithoutDetour_39 ⟨Nat.le_of_ble_eq_true rfl, Nat.le_of_ble_eq_true rfl⟩) ?_
        refine lv_iconst (v := -1) hx hb d_Gr_pairsWithoutDetour_42 (by decide) ?_
        refine lv_ixor hx hb d_Gr_pairsWithoutDetour_43 ?_
        refine lv_iand hx hb d_Gr_pairsWithoutDetour_44 ?_
        refine lv_iload_n hx hb d_Gr_pairsWithoutDetour_45 rfl (lv_at hl 0 rfl) ?_
        refine xr_cal (va_runV (As := [.int ((lD u) &&& ((bit v) ^^^ (-1))), .int (nI v)]) (rest := []) ⟨hx, hb, hml, hown, hB⟩ (k_Gr_reachedFromOneOf l D g g0 g1 g2 g3 g4 g5 k0 k1 k2 k3 k4 k5 gc rE nM lD bF oR cH ((lD u) &&& ((bit v) ^^^ (-1))) v (by omega)) ⟨callB_of 2 hB (xg0 mc_Gr_reachedFromOneOf) rfl rfl rfl (hB _ mz_Gr) (hB _ ml_Gr_60) (by decide +kernel) ⟨Nat.le_of_ble_eq_true rfl, Nat.le_of_ble_eq_true rfl⟩, hB _ mi_Gr_reachedFromOneOf, hB _ me_Gr_reachedFromOneOf⟩ (xpV (ws := [(g, .inr (2, [.ref g0, .ref g1, .ref g2, .ref g3, .ref g4, .ref g5, .int gc])), (g0, .inl (k0, 16, .inl rE)), (g1, .inl (k1, 16, .inl nM)), (g2, .inl (k2, 16, .inl lD)), (g3, .inl (k3, 16, .inl bF)), (g4, .inl (k4, 16, .inl oR)), (g5, .inl (k5, 16, .inl cH))]) (tys := [(k0, .int), (k1, .int), (k2, .int), (k3, .int), (k4, .int), (k5, .int)]) (hP.sub [0, 1, 2, 3, 4, 5, 6] rfl) (hK.sub [0, 1, 2, 3, 4, 5] rfl) hN (va_recv (ci := 2) (q0 := 0) (q := (R_Gr, F_Gr, 7)) hK hP rfl rfl)) rfl rfl hl.1 rfl (lv_room (Nat.le_of_ble_eq_true rfl)) d_Gr_pairsWithoutDetour_46 ⟨Nat.le_of_ble_eq_true rfl, Nat.le_of_ble_eq_true rfl⟩) ?_
        refine lv_if_ne (tgt := 55) hx hb d_Gr_pairsWithoutDetour_49 rfl (fun hc49 => ?_) (fun hc49 => ?_)
        · have hc49 := b2i_n.mp hc49
          have hl : lv_has ls 4 [(3, .int (nI v)), (2, .int (nI u)), (1, .int (nI (sq (fun a9 => cq ((fun u v => bt (lD u) v && !(anyq (fun k => bt (lD u &&& (bit v ^^^ (-1))) k && bt (rE k) v) 16)) a9) 16) u + cq ((fun u v => bt (lD u) v && !(anyq (fun k => bt (lD u &&& (bit v ^^^ (-1))) k && bt (rE k) v) 16)) u) (v + 1)))), (0, .ref g)] := by
            have hz : (nI (sq (fun a9 => cq ((fun u v => bt (lD u) v && !(anyq (fun k => bt (lD u &&& (bit v ^^^ (-1))) k && bt (rE k) v) 16)) a9) 16) u + cq ((fun u v => bt (lD u) v && !(anyq (fun k => bt (lD u &&& (bit v ^^^ (-1))) k && bt (rE k) v) 16)) u) v)) = nI (sq (fun a9 => cq ((fun u v => bt (lD u) v && !(anyq (fun k => bt (lD u &&& (bit v ^^^ (-1))) k && bt (rE k) v) 16)) a9) 16) u + cq ((fun u v => bt (lD u) v && !(anyq (fun k => bt (lD u &&& (bit v ^^^ (-1))) k && bt (rE k) v) 16)) u) (v + 1)) := by rw [cq_f (p := (fun u v => bt (lD u) v && !(anyq (fun k => bt (lD u &&& (bit v ^^^ (-1))) k && bt (rE k) v) 16)) u) (k := v) (by (try dsimp only); first | (rw [hc49]; simp; done) | (rw [hc28]; rfl))]
            rw [← hz]; exact hl
          refine lv_iinc hx hb d_Gr_pairsWithoutDetour_55 hl (k := 0) rfl (v := nI (v + 1)) (nI_1 v) (by decide) rfl (fun ls hl => ?_)
          have hl : lv_has ls 4 [(3, .int (nI (v + 1))), (2, .int (nI u)), (1, .int (nI (sq (fun a9 => cq ((fun u v => bt (lD u) v && !(anyq (fun k => bt (lD u &&& (bit v ^^^ (-1))) k && bt (rE k) v) 16)) a9) 16) u + cq ((fun u v => bt (lD u) v && !(anyq (fun k => bt (lD u &&& (bit v ^^^ (-1))) k && bt (rE k) v) 16)) u) (v + 1)))), (0, .ref g)] := hl
          refine lv_goto (tgt := 12) hx hb d_Gr_pairsWithoutDetour_58 rfl ?_
          exact ih12 (v + 1) _ ⟨by omega, lv_sub hl [0, 1, 2, 3] rfl⟩ (by omega)
        · have hc49 := b2i_0.mp hc49
          refine lv_iinc hx hb d_Gr_pairsWithoutDetour_52 hl (k := 2) rfl (v := nI ((sq (fun a9 => cq ((fun u v => bt (lD u) v && !(anyq (fun k => bt (lD u &&& (bit v ^^^ (-1))) k && bt (rE k) v) 16)) a9) 16) u + cq ((fun u v => bt (lD u) v && !(anyq (fun k => bt (lD u &&& (bit v ^^^ (-1))) k && bt (rE k) v) 16)) u) v) + 1)) (nI_1 (sq (fun a9 => cq ((fun u v => bt (lD u) v && !(anyq (fun k => bt (lD u &&& (bit v ^^^ (-1))) k && bt (rE k) v) 16)) a9) 16) u + cq ((fun u v => bt (lD u) v && !(anyq (fun k => bt (lD u &&& (bit v ^^^ (-1))) k && bt (rE k) v) 16)) u) v)) (by decide) rfl (fun ls hl => ?_)
          have hl : lv_has ls 4 [(1, .int (nI ((sq (fun a9 => cq ((fun u v => bt (lD u) v && !(anyq (fun k => bt (lD u &&& (bit v ^^^ (-1))) k && bt (rE k) v) 16)) a9) 16) u + cq ((fun u v => bt (lD u) v && !(anyq (fun k => bt (lD u &&& (bit v ^^^ (-1))) k && bt (rE k) v) 16)) u) v) + 1))), (3, .int (nI v)), (2, .int (nI u)), (0, .ref g)] := hl
          have hl : lv_has ls 4 [(1, .int (nI (sq (fun a9 => cq ((fun u v => bt (lD u) v && !(anyq (fun k => bt (lD u &&& (bit v ^^^ (-1))) k && bt (rE k) v) 16)) a9) 16) u + cq ((fun u v => bt (lD u) v && !(anyq (fun k => bt (lD u &&& (bit v ^^^ (-1))) k && bt (rE k) v) 16)) u) (v + 1)))), (3, .int (nI v)), (2, .int (nI u)), (0, .ref g)] := by
            have hz : (nI ((sq (fun a9 => cq ((fun u v => bt (lD u) v && !(anyq (fun k => bt (lD u &&& (bit v ^^^ (-1))) k && bt (rE k) v) 16)) a9) 16) u + cq ((fun u v => bt (lD u) v && !(anyq (fun k => bt (lD u &&& (bit v ^^^ (-1))) k && bt (rE k) v) 16)) u) v) + 1)) = nI (sq (fun a9 => cq ((fun u v => bt (lD u) v && !(anyq (fun k => bt (lD u &&& (bit v ^^^ (-1))) k && bt (rE k) v) 16)) a9) 16) u + cq ((fun u v => bt (lD u) v && !(anyq (fun k => bt (lD u &&& (bit v ^^^ (-1))) k && bt (rE k) v) 16)) u) (v + 1)) := by rw [cq_t (p := (fun u v => bt (lD u) v && !(anyq (fun k => bt (lD u &&& (bit v ^^^ (-1))) k && bt (rE k) v) 16)) u) (k := v) (by (try dsimp only); rw [hc28, hc49]; rfl)]; rfl
            rw [← hz]; exact hl
          refine lv_iinc hx hb d_Gr_pairsWithoutDetour_55 hl (k := 1) rfl (v := nI (v + 1)) (nI_1 v) (by decide) rfl (fun ls hl => ?_)
          have hl : lv_has ls 4 [(3, .int (nI (v + 1))), (1, .int (nI (sq (fun a9 => cq ((fun u v => bt (lD u) v && !(anyq (fun k => bt (lD u &&& (bit v ^^^ (-1))) k && bt (rE k) v) 16)) a9) 16) u + cq ((fun u v => bt (lD u) v && !(anyq (fun k => bt (lD u &&& (bit v ^^^ (-1))) k && bt (rE k) v) 16)) u) (v + 1)))), (2, .int (nI u)), (0, .ref g)] := hl
          refine lv_goto (tgt := 12) hx hb d_Gr_pairsWithoutDetour_58 rfl ?_
          exact ih12 (v + 1) _ ⟨by omega, lv_sub hl [0, 2, 1, 3] rfl⟩ (by omega)
