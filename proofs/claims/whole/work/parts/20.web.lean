set_option maxHeartbeats 4000000 in
set_option maxRecDepth 100000 in
theorem k_A_has (l : Launch) (D : va_G) (x : Int32) (n : Nat) (hn : n < 32) : Met l y_A_has (Cond.code y_A_has c_A_has 2 (some .boolean) :: BS) { frames := 0, cells := 0, slots := 0, locals := 0 } (va_Pc [.int x, .int (nI n)] (xR D [] [])) (QcRead (b2i (bt x n))) 0 0 (fun _ => False) := by
  refine Met.ofW (cc := c_A_has) (maxL := 2) (ret := (some .boolean)) (by decide) rfl ?_
  intro p e s m args below meth c s₁ B hml hv
  obtain ⟨rfl, hP, hK, hN⟩ := hv
  have hx := B.exec
  have hb := B.bytes
  have hr := B.returns
  have hB := xB B.pre
  have hown : s.vm.findClass R_A = some m.cls := findClass_of_methodNamed B.named
  have hlocks := B.notSynchronized
  have hl := lv_entry ([.int x, .int (nI n)]) (n := 2) (Nat.le_of_ble_eq_true rfl)
  rw [lg_entry_eq]
  generalize (lg_sl ([.int x, .int (nI n)]) ++ List.replicate (2 - (lg_sl ([.int x, .int (nI n)])).length) Slot.unset).toArray = ls at hl ⊢
  have hl : lv_has ls 2 [(0, .int x), (1, .int (nI n))] := hl
  refine lv_iload_n hx hb d_A_has_0 rfl (lv_at hl 0 rfl) ?_
  refine lv_iload_n hx hb d_A_has_1 rfl (lv_at hl 1 rfl) ?_
  refine lv_iushr hx hb d_A_has_2 rfl ?_
  refine lv_iconst (v := nI 1) hx hb d_A_has_3 (by decide) ?_
  refine lv_iand hx hb d_A_has_4 ?_
  refine lv_if_eq (tgt := 12) hx hb d_A_has_5 rfl (fun hc5 => ?_) (fun hc5 => ?_)
  · have hc5 : bt x n = false := (has_u hn).mp hc5
    refine lv_iconst (v := nI 0) hx hb d_A_has_12 (by decide) ?_
    refine xv_top (x' := b2i (bt x n)) (by rw [hc5]; rfl) ?_
    exact W.zret (v := b2i (bt x n)) hx hb hr (b2i_nar _) (fun t ht hW => ⟨rfl, ht⟩) (fun _ h => by cases h) d_A_has_13
  · have hc5 : bt x n = true := by cases hq : bt x n with | true => rfl | false => exact absurd ((has_u hn).mpr hq) hc5
    refine lv_iconst (v := nI 1) hx hb d_A_has_8 (by decide) ?_
    refine lv_goto (tgt := 13) hx hb d_A_has_9 rfl ?_
    refine xv_top (x' := b2i (bt x n)) (by rw [hc5]; rfl) ?_
    exact W.zret (v := b2i (bt x n)) hx hb hr (b2i_nar _) (fun t ht hW => ⟨rfl, ht⟩) (fun _ h => by cases h) d_A_has_13
set_option maxHeartbeats 4000000 in
set_option maxRecDepth 100000 in
theorem k_A_only (l : Launch) (D : va_G) (n : Nat) : Met l y_A_only (Cond.code y_A_only c_A_only 1 (some .int) :: BS) { frames := 0, cells := 0, slots := 0, locals := 0 } (va_Pc [.int (nI n)] (xR D [] [])) (QcRead (bit n)) 0 0 (fun _ => False) := by
  refine Met.ofW (cc := c_A_only) (maxL := 1) (ret := (some .int)) (by decide) rfl ?_
  intro p e s m args below meth c s₁ B hml hv
  obtain ⟨rfl, hP, hK, hN⟩ := hv
  have hx := B.exec
  have hb := B.bytes
  have hr := B.returns
  have hB := xB B.pre
  have hown : s.vm.findClass R_A = some m.cls := findClass_of_methodNamed B.named
  have hlocks := B.notSynchronized
  have hl := lv_entry ([.int (nI n)]) (n := 1) (Nat.le_of_ble_eq_true rfl)
  rw [lg_entry_eq]
  generalize (lg_sl ([.int (nI n)]) ++ List.replicate (1 - (lg_sl ([.int (nI n)])).length) Slot.unset).toArray = ls at hl ⊢
  have hl : lv_has ls 1 [(0, .int (nI n))] := hl
  refine lv_iconst (v := nI 1) hx hb d_A_only_0 (by decide) ?_
  refine lv_iload_n hx hb d_A_only_1 rfl (lv_at hl 0 rfl) ?_
  refine lv_ishl hx hb d_A_only_2 ?_
  refine xv_top (x' := bit n) (rfl) ?_
  exact W.iret (v := bit n) hx hb hr (fun t ht hW => ⟨rfl, ht⟩) (fun _ h => by cases h) d_A_only_3
set_option maxHeartbeats 4000000 in
set_option maxRecDepth 100000 in
theorem k_Web_count (l : Launch) (D : va_G) (w hd : Nat) (cA : ClassId) (ct : Int32) (h : Nat → Int32)  : Met l y_Web_count (Cond.code y_Web_count c_Web_count 1 (some .int) :: BS) { frames := 0, cells := 0, slots := 0, locals := 0 } (va_Pc [.ref w] (xR D [(w, .inr (1, [.ref hd, .int ct])), (hd, .inl (cA, 16, .inl h))] [(cA, .int)])) (QcRead (ct)) 0 0 (fun _ => False) := by
  refine Met.ofW (cc := c_Web_count) (maxL := 1) (ret := (some .int)) (by decide) rfl ?_
  intro p e s m args below meth c s₁ B hml hv
  obtain ⟨rfl, hP, hK, hN⟩ := hv
  have hx := B.exec
  have hb := B.bytes
  have hr := B.returns
  have hB := xB B.pre
  have hown : s.vm.findClass R_Web = some m.cls := findClass_of_methodNamed B.named
  have hlocks := B.notSynchronized
  have hl := lv_entry ([.ref w]) (n := 1) (Nat.le_of_ble_eq_true rfl)
  rw [lg_entry_eq]
  generalize (lg_sl ([.ref w]) ++ List.replicate (1 - (lg_sl ([.ref w])).length) Slot.unset).toArray = ls at hl ⊢
  have hl : lv_has ls 1 [(0, .ref w)] := hl
  refine lv_aload_n hx hb d_Web_count_0 rfl (lv_at hl 0 rfl) ?_
  refine va_get (D := D) (ci := 1) (v := .int ct) (C := R_Web) (T := F_Web) (N := 2) hx hb hB in_Web hown hK hP 0 rfl rfl 1 (by decide) (hB _ mf_Web_15) (fun _ h9 => h9) rfl d_Web_count_1 ?_
  exact W.iret (v := ct) hx hb hr (fun t ht hW => ⟨rfl, ht⟩) (fun _ h => by cases h) d_Web_count_4
set_option maxHeartbeats 4000000 in
set_option maxRecDepth 100000 in
theorem k_Web_headsOf (l : Launch) (D : va_G) (w hd : Nat) (cA : ClassId) (ct : Int32) (h : Nat → Int32) (u : Nat) (hu : u < 16) : Met l y_Web_headsOf (Cond.code y_Web_headsOf c_Web_headsOf 2 (some .int) :: BS) { frames := 0, cells := 0, slots := 0, locals := 0 } (va_Pc [.ref w, .int (nI u)] (xR D [(w, .inr (1, [.ref hd, .int ct])), (hd, .inl (cA, 16, .inl h))] [(cA, .int)])) (QcRead (h u)) 0 0 (fun _ => False) := by
  refine Met.ofW (cc := c_Web_headsOf) (maxL := 2) (ret := (some .int)) (by decide) rfl ?_
  intro p e s m args below meth c s₁ B hml hv
  obtain ⟨rfl, hP, hK, hN⟩ := hv
  have hx := B.exec
  have hb := B.bytes
  have hr := B.returns
  have hB := xB B.pre
  have hown : s.vm.findClass R_Web = some m.cls := findClass_of_methodNamed B.named
  have hlocks := B.notSynchronized
  have hl := lv_entry ([.ref w, .int (nI u)]) (n := 2) (Nat.le_of_ble_eq_true rfl)
  rw [lg_entry_eq]
  generalize (lg_sl ([.ref w, .int (nI u)]) ++ List.replicate (2 - (lg_sl ([.ref w, .int (nI u)])).length) Slot.unset).toArray = ls at hl ⊢
  have hl : lv_has ls 2 [(0, .ref w), (1, .int (nI u))] := hl
  refine lv_aload_n hx hb d_Web_headsOf_0 rfl (lv_at hl 0 rfl) ?_
  refine va_get (D := D) (ci := 1) (v := .ref hd) (C := R_Web) (T := F_Web) (N := 2) hx hb hB in_Web hown hK hP 0 rfl rfl 0 (by decide) (hB _ mf_Web_9) (fun _ h9 => h9) rfl d_Web_headsOf_1 ?_
  refine lv_iload_n hx hb d_Web_headsOf_4 rfl (lv_at hl 1 rfl) ?_
  refine xa_ld (u := u) hx hb hK hP 1 0 rfl rfl (by omega) (by decide) d_Web_headsOf_5 ?_
  exact W.iret (v := h u) hx hb hr (fun t ht hW => ⟨rfl, ht⟩) (fun _ h => by cases h) d_Web_headsOf_6
set_option maxHeartbeats 4000000 in
set_option maxRecDepth 100000 in
theorem k_Web_holds (l : Launch) (D : va_G) (w hd : Nat) (cA : ClassId) (ct : Int32) (h : Nat → Int32) (u v : Nat) (hu : u < 16) (hv : v < 16) : Met l y_Web_holds (Cond.code y_Web_holds c_Web_holds 3 (some .boolean) :: BS) { frames := 1, cells := 0, slots := 0, locals := 21 } (va_Pc [.ref w, .int (nI u), .int (nI v)] (xR D [(w, .inr (1, [.ref hd, .int ct])), (hd, .inl (cA, 16, .inl h))] [(cA, .int)])) (QcRead (b2i (bt (h u) v))) 0 0 (fun _ => False) := by
  refine Met.ofW (cc := c_Web_holds) (maxL := 3) (ret := (some .boolean)) (by decide) rfl ?_
  intro p e s m args below meth c s₁ B hml hv
  obtain ⟨rfl, hP, hK, hN⟩ := hv
  have hx := B.exec
  have hb := B.bytes
  have hr := B.returns
  have hB := xB B.pre
  have hown : s.vm.findClass R_Web = some m.cls := findClass_of_methodNamed B.named
  have hlocks := B.notSynchronized
  have hl := lv_entry ([.ref w, .int (nI u), .int (nI v)]) (n := 3) (Nat.le_of_ble_eq_true rfl)
  rw [lg_entry_eq]
  generalize (lg_sl ([.ref w, .int (nI u), .int (nI v)]) ++ List.replicate (3 - (lg_sl ([.ref w, .int (nI u), .int (nI v)])).length) Slot.unset).toArray = ls at hl ⊢
  have hl : lv_has ls 3 [(0, .ref w), (1, .int (nI u)), (2, .int (nI v))] := hl
  refine lv_aload_n hx hb d_Web_holds_0 rfl (lv_at hl 0 rfl) ?_
  refine va_get (D := D) (ci := 1) (v := .ref hd) (C := R_Web) (T := F_Web) (N := 2) hx hb hB in_Web hown hK hP 0 rfl rfl 0 (by decide) (hB _ mf_Web_9) (fun _ h9 => h9) rfl d_Web_holds_1 ?_
  refine lv_iload_n hx hb d_Web_holds_4 rfl (lv_at hl 1 rfl) ?_
  refine xa_ld (u := u) hx hb hK hP 1 0 rfl rfl (by omega) (by decide) d_Web_holds_5 ?_
  refine lv_iload_n hx hb d_Web_holds_6 rfl (lv_at hl 2 rfl) ?_
  refine xr_cal (va_runSN (As := [.int (h u), .int (nI v)]) (rest := []) ⟨hx, hb, hml, hown, hB⟩ (k_A_has l D (h u) v (by omega)) ⟨va_cnB 2 hB (xg0 mc_A_has) rfl rfl rfl (xn_Web_19 hN) (hB _ mz_A) (by decide +kernel) ⟨Nat.le_of_ble_eq_true rfl, Nat.le_of_ble_eq_true rfl⟩, hB _ ms_A_has, trivial⟩ (xpS (ws := []) (tys := []) (hP.sub [] rfl) (hK.sub [] rfl) hN) rfl rfl hl.1 rfl (lv_room (Nat.le_of_ble_eq_true rfl)) d_Web_holds_7 ⟨Nat.le_of_ble_eq_true rfl, Nat.le_of_ble_eq_true rfl⟩) ?_
  exact W.zret (v := b2i (bt (h u) v)) hx hb hr (b2i_nar _) (fun t ht hW => ⟨rfl, ht⟩) (fun _ h => by cases h) d_Web_holds_10
set_option maxHeartbeats 4000000 in
set_option maxRecDepth 100000 in
theorem k_Web_headsOfAll (l : Launch) (D : va_G) (w hd : Nat) (cA : ClassId) (ct : Int32) (h : Nat → Int32) (t : Int32) : Met l y_Web_headsOfAll (Cond.code y_Web_headsOfAll c_Web_headsOfAll 4 (some .int) :: BS) { frames := 1, cells := 0, slots := 0, locals := 21 } (va_Pc [.ref w, .int t] (xR D [(w, .inr (1, [.ref hd, .int ct])), (hd, .inl (cA, 16, .inl h))] [(cA, .int)])) (QcRead (un h t 16)) 0 0 (fun _ => False) := by
  refine Met.ofW (cc := c_Web_headsOfAll) (maxL := 4) (ret := (some .int)) (by decide) rfl ?_
  intro p e s m args below meth c s₁ B hml hv
  obtain ⟨rfl, hP, hK, hN⟩ := hv
  have hx := B.exec
  have hb := B.bytes
  have hr := B.returns
  have hB := xB B.pre
  have hown : s.vm.findClass R_Web = some m.cls := findClass_of_methodNamed B.named
  have hlocks := B.notSynchronized
  have hl := lv_entry ([.ref w, .int t]) (n := 4) (Nat.le_of_ble_eq_true rfl)
  rw [lg_entry_eq]
  generalize (lg_sl ([.ref w, .int t]) ++ List.replicate (4 - (lg_sl ([.ref w, .int t])).length) Slot.unset).toArray = ls at hl ⊢
  have hl : lv_has ls 4 [(0, .ref w), (1, .int t)] := hl
  refine lv_iconst (v := nI 0) hx hb d_Web_headsOfAll_0 (by decide) ?_
  refine lv_istore_n hx hb d_Web_headsOfAll_1 rfl hl (by decide) rfl (fun ls hl => ?_)
  have hl : lv_has ls 4 [(2, .int (nI 0)), (0, .ref w), (1, .int t)] := hl
  refine lv_iconst (v := nI 0) hx hb d_Web_headsOfAll_2 (by decide) ?_
  refine lv_istore_n hx hb d_Web_headsOfAll_3 rfl hl (by decide) rfl (fun ls hl => ?_)
  have hl : lv_has ls 4 [(3, .int (nI 0)), (2, .int (nI 0)), (0, .ref w), (1, .int t)] := hl
  refine xl_r (fun (u : Nat) ls => (u ≤ 16) ∧ lv_has ls 4 [(3, .int (nI u)), (2, .int (un h t u)), (0, .ref w), (1, .int t)]) (fun u => 16 - u) (fun u ls hI ih4 => ?_) 0 _ ⟨Nat.zero_le _, hl⟩
  obtain ⟨hI, hl⟩ := hI
  have hu_u := hI
  refine lv_iload_n hx hb d_Web_headsOfAll_4 rfl (lv_at hl 0 rfl) ?_
  refine lv_bipush (v := nI 16) hx hb d_Web_headsOfAll_5 (by decide) ?_
  refine lv_icmp_ge (tgt := 33) hx hb d_Web_headsOfAll_7 rfl (fun hc7 => ?_) (fun hc7 => ?_)
  · have hc7 : 16 ≤ u := (nI_leI (by omega) (by omega)).mp hc7
    refine lv_iload_n hx hb d_Web_headsOfAll_33 rfl (lv_at hl 1 rfl) ?_
    refine xv_top (x' := un h t 16) (by rw [show u = 16 by omega]) ?_
    exact W.iret (v := un h t 16) hx hb hr (fun t ht hW => ⟨rfl, ht⟩) (fun _ h => by cases h) d_Web_headsOfAll_34
  · have hc7 : ¬ (16 ≤ u) := fun q9 => hc7 ((nI_leI (by omega) (by omega)).mpr q9)
    refine lv_iload_n hx hb d_Web_headsOfAll_10 rfl (lv_at hl 3 rfl) ?_
    refine lv_iload_n hx hb d_Web_headsOfAll_11 rfl (lv_at hl 0 rfl) ?_
    refine xr_cal (va_runSN (As := [.int t, .int (nI u)]) (rest := []) ⟨hx, hb, hml, hown, hB⟩ (k_A_has l D t u (by omega)) ⟨va_cnB 2 hB (xg0 mc_A_has) rfl rfl rfl (xn_Web_19 hN) (hB _ mz_A) (by decide +kernel) ⟨Nat.le_of_ble_eq_true rfl, Nat.le_of_ble_eq_true rfl⟩, hB _ ms_A_has, trivial⟩ (xpS (ws := []) (tys := []) (hP.sub [] rfl) (hK.sub [] rfl) hN) rfl rfl hl.1 rfl (lv_room (Nat.le_of_ble_eq_true rfl)) d_Web_headsOfAll_12 ⟨Nat.le_of_ble_eq_true rfl, Nat.le_of_ble_eq_true rfl⟩) ?_
    refine lv_if_eq (tgt := 27) hx hb d_Web_headsOfAll_15 rfl (fun hc15 => ?_) (fun hc15 => ?_)
    · have hc15 := b2i_0.mp hc15
      have hl : lv_has ls 4 [(3, .int (nI u)), (2, .int (un h t (u + 1))), (0, .ref w), (1, .int t)] := by
        have hz : un h t u = un h t (u + 1) := (if_neg (by rw [hc15]; decide)).symm
        rw [← hz]; exact hl
      refine lv_iinc hx hb d_Web_headsOfAll_27 hl (k := 0) rfl (v := nI (u + 1)) (nI_1 u) (by decide) rfl (fun ls hl => ?_)
      have hl : lv_has ls 4 [(3, .int (nI (u + 1))), (2, .int (un h t (u + 1))), (0, .ref w), (1, .int t)] := hl
      refine lv_goto (tgt := 4) hx hb d_Web_headsOfAll_30 rfl ?_
      exact ih4 (u + 1) _ ⟨by omega, lv_sub hl [0, 1, 2, 3] rfl⟩ (by omega)
    · have hc15 := b2i_n.mp hc15
      refine lv_iload_n hx hb d_Web_headsOfAll_18 rfl (lv_at hl 1 rfl) ?_
      refine lv_aload_n hx hb d_Web_headsOfAll_19 rfl (lv_at hl 2 rfl) ?_
      refine va_get (D := D) (ci := 1) (v := .ref hd) (C := R_Web) (T := F_Web) (N := 2) hx hb hB in_Web hown hK hP 0 rfl rfl 0 (by decide) (hB _ mf_Web_9) (fun _ h9 => h9) rfl d_Web_headsOfAll_20 ?_
      refine lv_iload_n hx hb d_Web_headsOfAll_23 rfl (lv_at hl 0 rfl) ?_
      refine xa_ld (u := u) hx hb hK hP 1 0 rfl rfl (by omega) (by decide) d_Web_headsOfAll_24 ?_
      refine lv_ior hx hb d_Web_headsOfAll_25 ?_
      refine lv_istore_n hx hb d_Web_headsOfAll_26 rfl hl (by decide) rfl (fun ls hl => ?_)
      have hl : lv_has ls 4 [(2, .int ((un h t u) ||| (h u))), (3, .int (nI u)), (0, .ref w), (1, .int t)] := hl
      have hl : lv_has ls 4 [(2, .int (un h t (u + 1))), (3, .int (nI u)), (0, .ref w), (1, .int t)] := by
        have hz : (un h t u) ||| (h u) = un h t (u + 1) := (if_pos hc15).symm
        rw [← hz]; exact hl
      refine lv_iinc hx hb d_Web_headsOfAll_27 hl (k := 1) rfl (v := nI (u + 1)) (nI_1 u) (by decide) rfl (fun ls hl => ?_)
      have hl : lv_has ls 4 [(3, .int (nI (u + 1))), (2, .int (un h t (u + 1))), (0, .ref w), (1, .int t)] := hl
      refine lv_goto (tgt := 4) hx hb d_Web_headsOfAll_30 rfl ?_
      exact ih4 (u + 1) _ ⟨by omega, lv_sub hl [0, 1, 2, 3] rfl⟩ (by omega)
set_option maxHeartbeats 4000000 in
set_option maxRecDepth 100000 in
theorem k_Web_spread (l : Launch) (D : va_G) (w hd : Nat) (cA : ClassId) (ct : Int32) (h : Nat → Int32) (hg : gd h) (sx cx : Int32) (hsx : m16 sx) : Met l y_Web_spread (Cond.code y_Web_spread c_Web_spread 6 (some .int) :: BS) { frames := 2, cells := 0, slots := 0, locals := 44 } (va_Pc [.ref w, .int sx, .int cx] (xR D [(w, .inr (1, [.ref hd, .int ct])), (hd, .inl (cA, 16, .inl h))] [(cA, .int)])) (QcRead (SP h sx cx)) 0 0 (fun _ => False) := by
  refine Met.ofW (cc := c_Web_spread) (maxL := 6) (ret := (some .int)) (by decide) rfl ?_
  intro p e s m args below meth c s₁ B hml hv
  obtain ⟨rfl, hP, hK, hN⟩ := hv
  have hx := B.exec
  have hb := B.bytes
  have hr := B.returns
  have hB := xB B.pre
  have hown : s.vm.findClass R_Web = some m.cls := findClass_of_methodNamed B.named
  have hlocks := B.notSynchronized
  have hl := lv_entry ([.ref w, .int sx, .int cx]) (n := 6) (Nat.le_of_ble_eq_true rfl)
  rw [lg_entry_eq]
  generalize (lg_sl ([.ref w, .int sx, .int cx]) ++ List.replicate (6 - (lg_sl ([.ref w, .int sx, .int cx])).length) Slot.unset).toArray = ls at hl ⊢
  have hl : lv_has ls 6 [(0, .ref w), (1, .int sx), (2, .int cx)] := hl
  refine lv_iload_n hx hb d_Web_spread_0 rfl (lv_at hl 1 rfl) ?_
  refine lv_iload_n hx hb d_Web_spread_1 rfl (lv_at hl 2 rfl) ?_
  refine lv_iconst (v := -1) hx hb d_Web_spread_2 (by decide) ?_
  refine lv_ixor hx hb d_Web_spread_3 ?_
  refine lv_iand hx hb d_Web_spread_4 ?_
  refine lv_istore_n hx hb d_Web_spread_5 rfl hl (by decide) rfl (fun ls hl => ?_)
  have hl : lv_has ls 6 [(3, .int (sx &&& (cx ^^^ (-1)))), (0, .ref w), (1, .int sx), (2, .int cx)] := hl
  refine lv_iconst (v := nI 1) hx hb d_Web_spread_6 (by decide) ?_
  refine lv_istore hx hb d_Web_spread_7 hl (by decide) rfl (fun ls hl => ?_)
  have hl : lv_has ls 6 [(4, .int (nI 1)), (3, .int (sx &&& (cx ^^^ (-1)))), (0, .ref w), (1, .int sx), (2, .int cx)] := hl
  refine xl_r (fun (k : Nat) ls => (k ≤ 15) ∧ lv_has ls 6 [(4, .int (nI (k + 1))), (3, .int (itr h cx k (sx &&& (cx ^^^ (-1))))), (0, .ref w), (1, .int sx), (2, .int cx)]) (fun k => 15 - k) (fun k ls hI ih9 => ?_) 0 _ ⟨Nat.zero_le _, hl⟩
  obtain ⟨hI, hl⟩ := hI
  have hk := hI
  refine lv_iload hx hb d_Web_spread_9 (lv_at hl 0 rfl) ?_
  refine lv_bipush (v := nI 16) hx hb d_Web_spread_11 (by decide) ?_
  refine lv_icmp_ge (tgt := 47) hx hb d_Web_spread_13 rfl (fun hc13 => ?_) (fun hc13 => ?_)
  · have hc13 : 16 ≤ (k + 1) := (nI_leI (by omega) (by omega)).mp hc13
    refine lv_iload_n hx hb d_Web_spread_47 rfl (lv_at hl 1 rfl) ?_
    refine xv_top (x' := SP h sx cx) (by unfold SP; first | rw [itr_at (by omega) hc32] | rw [show k = 15 by omega]) ?_
    exact W.iret (v := SP h sx cx) hx hb hr (fun t ht hW => ⟨rfl, ht⟩) (fun _ h => by cases h) d_Web_spread_48
  · have hc13 : ¬ (16 ≤ (k + 1)) := fun q9 => hc13 ((nI_leI (by omega) (by omega)).mpr q9)
    refine lv_iload_n hx hb d_Web_spread_16 rfl (lv_at hl 1 rfl) ?_
    refine lv_aload_n hx hb d_Web_spread_17 rfl (lv_at hl 2 rfl) ?_
    refine lv_iload_n hx hb d_Web_spread_18 rfl (lv_at hl 1 rfl) ?_
    refine xr_cal (va_runV (As := [.int (itr h cx k (sx &&& (cx ^^^ (-1))))]) (rest := [.int (itr h cx k (sx &&& (cx ^^^ (-1))))]) ⟨hx, hb, hml, hown, hB⟩ (k_Web_headsOfAll l D w hd cA ct h (itr h cx k (sx &&& (cx ^^^ (-1))))) ⟨callB_of 1 hB (xg0 mc_Web_headsOfAll) rfl rfl rfl (hB _ mz_Web) (hB _ ml_Web_33) (by decide +kernel) ⟨Nat.le_of_ble_eq_true rfl, Nat.le_of_ble_eq_true rfl⟩, hB _ mi_Web_headsOfAll, hB _ me_Web_headsOfAll⟩ (xpV (ws := [(w, .inr (1, [.ref hd, .int ct])), (hd, .inl (cA, 16, .inl h))]) (tys := [(cA, .int)]) (hP.sub [0, 1] rfl) (hK.sub [0] rfl) hN (va_recv (ci := 1) (q0 := 0) (q := (R_Web, F_Web, 2)) hK hP rfl rfl)) rfl rfl hl.1 rfl (lv_room (Nat.le_of_ble_eq_true rfl)) d_Web_spread_19 ⟨Nat.le_of_ble_eq_true rfl, Nat.le_of_ble_eq_true rfl⟩) ?_
    refine lv_iload_n hx hb d_Web_spread_22 rfl (lv_at hl 4 rfl) ?_
    refine lv_iconst (v := -1) hx hb d_Web_spread_23 (by decide) ?_
    refine lv_ixor hx hb d_Web_spread_24 ?_
    refine lv_iand hx hb d_Web_spread_25 ?_
    refine lv_ior hx hb d_Web_spread_26 ?_
    refine lv_istore hx hb d_Web_spread_27 hl (by decide) rfl (fun ls hl => ?_)
    have hl : lv_has ls 6 [(5, .int ((itr h cx k (sx &&& (cx ^^^ (-1)))) ||| ((un h (itr h cx k (sx &&& (cx ^^^ (-1)))) 16) &&& (cx ^^^ (-1))))), (4, .int (nI (k + 1))), (3, .int (itr h cx k (sx &&& (cx ^^^ (-1))))), (0, .ref w), (1, .int sx), (2, .int cx)] := hl
    have hl : lv_has ls 6 [(5, .int (stp h cx (itr h cx k (sx &&& (cx ^^^ (-1)))))), (4, .int (nI (k + 1))), (3, .int (itr h cx k (sx &&& (cx ^^^ (-1))))), (0, .ref w), (1, .int sx), (2, .int cx)] := by
      have hz : (itr h cx k (sx &&& (cx ^^^ (-1)))) ||| ((un h (itr h cx k (sx &&& (cx ^^^ (-1)))) 16) &&& (cx ^^^ (-1))) = stp h cx (itr h cx k (sx &&& (cx ^^^ (-1)))) := rfl
      rw [← hz]; exact hl
    refine lv_iload hx hb d_Web_spread_29 (lv_at hl 0 rfl) ?_
    refine lv_iload_n hx hb d_Web_spread_31 rfl (lv_at hl 2 rfl) ?_
    refine lv_icmp_ne (tgt := 38) hx hb d_Web_spread_32 rfl (fun hc32 => ?_) (fun hc32 => ?_)
    · refine lv_iload hx hb d_Web_spread_38 (lv_at hl 0 rfl) ?_
      refine lv_istore_n hx hb d_Web_spread_40 rfl hl (by decide) rfl (fun ls hl => ?_)
      have hl : lv_has ls 6 [(3, .int (stp h cx (itr h cx k (sx &&& (cx ^^^ (-1)))))), (5, .int (stp h cx (itr h cx k (sx &&& (cx ^^^ (-1)))))), (4, .int (nI (k + 1))), (0, .ref w), (1, .int sx), (2, .int cx)] := hl
      have hl : lv_has ls 6 [(3, .int (itr h cx (k + 1) (sx &&& (cx ^^^ (-1))))), (5, .int (stp h cx (itr h cx k (sx &&& (cx ^^^ (-1)))))), (4, .int (nI (k + 1))), (0, .ref w), (1, .int sx), (2, .int cx)] := by
        have hz : stp h cx (itr h cx k (sx &&& (cx ^^^ (-1)))) = itr h cx (k + 1) (sx &&& (cx ^^^ (-1))) := rfl
        rw [← hz]; exact hl
      refine lv_iinc hx hb d_Web_spread_41 hl (k := 2) rfl (v := nI ((k + 1) + 1)) (nI_1 (k + 1)) (by decide) rfl (fun ls hl => ?_)
      have hl : lv_has ls 6 [(4, .int (nI ((k + 1) + 1))), (3, .int (itr h cx (k + 1) (sx &&& (cx ^^^ (-1))))), (5, .int (stp h cx (itr h cx k (sx &&& (cx ^^^ (-1)))))), (0, .ref w), (1, .int sx), (2, .int cx)] := hl
      refine lv_goto (tgt := 9) hx hb d_Web_spread_44 rfl ?_
      exact ih9 (k + 1) _ ⟨by omega, lv_sub hl [0, 1, 3, 4, 5] rfl⟩ (by omega)
    · refine lv_goto (tgt := 47) hx hb d_Web_spread_35 rfl ?_
      refine lv_iload_n hx hb d_Web_spread_47 rfl (lv_at hl 2 rfl) ?_
      refine xv_top (x' := SP h sx cx) (by unfold SP; first | rw [itr_at (by omega) hc32] | rw [show k = 15 by omega]) ?_
      exact W.iret (v := SP h sx cx) hx hb hr (fun t ht hW => ⟨rfl, ht⟩) (fun _ h => by cases h) d_Web_spread_48
