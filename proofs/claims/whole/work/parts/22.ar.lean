set_option maxHeartbeats 4000000 in
set_option maxRecDepth 100000 in
theorem k_A_hasDetour (l : Launch) (D : va_G) (a w g yw f : Nat) (hd : Nat) (cA : ClassId) (ct : Int32) (h : Nat → Int32) (hg : gd h) (u v : Nat) (hu : u < 16) (hv : v < 16) : Met l y_A_hasDetour (Cond.code y_A_hasDetour c_A_hasDetour 3 (some .boolean) :: BS) { frames := 3, cells := 0, slots := 0, locals := 69 } (va_Pc [.ref a, .int (nI u), .int (nI v)] (xR D [(a, .inr (0, [.ref w, .ref g, .ref yw, .ref f])), (w, .inr (1, [.ref hd, .int ct])), (hd, .inl (cA, 16, .inl h))] [(cA, .int)])) (QcRead (b2i (bt (SP h (h u &&& (bit v ^^^ (-1))) (bit u)) v))) 0 0 (fun _ => False) := by
  refine Met.ofW (cc := c_A_hasDetour) (maxL := 3) (ret := (some .boolean)) (by decide) rfl ?_
  intro p e s m args below meth c s₁ B hml hv
  obtain ⟨rfl, hP, hK, hN⟩ := hv
  have hx := B.exec
  have hb := B.bytes
  have hr := B.returns
  have hB := xB B.pre
  have hown : s.vm.findClass R_A = some m.cls := findClass_of_methodNamed B.named
  have hlocks := B.notSynchronized
  have hl := lv_entry ([.ref a, .int (nI u), .int (nI v)]) (n := 3) (Nat.le_of_ble_eq_true rfl)
  rw [lg_entry_eq]
  generalize (lg_sl ([.ref a, .int (nI u), .int (nI v)]) ++ List.replicate (3 - (lg_sl ([.ref a, .int (nI u), .int (nI v)])).length) Slot.unset).toArray = ls at hl ⊢
  have hl : lv_has ls 3 [(0, .ref a), (1, .int (nI u)), (2, .int (nI v))] := hl
  refine lv_aload_n hx hb d_A_hasDetour_0 rfl (lv_at hl 0 rfl) ?_
  refine va_get (D := D) (ci := 0) (v := .ref w) (C := R_A) (T := F_A) (N := 4) hx hb hB in_A hown hK hP 0 rfl rfl 0 (by decide) (hB _ mf_A_10) (fun _ h9 => h9) rfl d_A_hasDetour_1 ?_
  refine lv_aload_n hx hb d_A_hasDetour_4 rfl (lv_at hl 0 rfl) ?_
  refine va_get (D := D) (ci := 0) (v := .ref w) (C := R_A) (T := F_A) (N := 4) hx hb hB in_A hown hK hP 0 rfl rfl 0 (by decide) (hB _ mf_A_10) (fun _ h9 => h9) rfl d_A_hasDetour_5 ?_
  refine lv_iload_n hx hb d_A_hasDetour_8 rfl (lv_at hl 1 rfl) ?_
  refine xr_cal (va_runV (As := [.int (nI u)]) (rest := [.ref w]) ⟨hx, hb, hml, hown, hB⟩ (k_Web_headsOf l D w hd cA ct h u (by omega)) ⟨callB_of 1 hB (xg0 mc_Web_headsOf) rfl rfl rfl (hB _ mz_Web) (hB _ ml_A_168) (by decide +kernel) ⟨Nat.le_of_ble_eq_true rfl, Nat.le_of_ble_eq_true rfl⟩, hB _ mi_Web_headsOf, hB _ me_Web_headsOf⟩ (xpV (ws := [(w, .inr (1, [.ref hd, .int ct])), (hd, .inl (cA, 16, .inl h))]) (tys := [(cA, .int)]) (hP.sub [1, 2] rfl) (hK.sub [0] rfl) hN (va_recv (ci := 1) (q0 := 1) (q := (R_Web, F_Web, 2)) hK hP rfl rfl)) rfl rfl hl.1 rfl (lv_room (Nat.le_of_ble_eq_true rfl)) d_A_hasDetour_9 ⟨Nat.le_of_ble_eq_true rfl, Nat.le_of_ble_eq_true rfl⟩) ?_
  refine lv_iload_n hx hb d_A_hasDetour_12 rfl (lv_at hl 2 rfl) ?_
  refine xr_cal (va_runS (As := [.int (nI v)]) (rest := [.int (h u), .ref w]) ⟨hx, hb, hml, hown, hB⟩ (k_A_only l D v) ⟨callB_of 1 hB (xg0 mc_A_only) rfl rfl rfl (hB _ mz_A) (hB _ ml_A_97) (by decide +kernel) ⟨Nat.le_of_ble_eq_true rfl, Nat.le_of_ble_eq_true rfl⟩, hB _ ms_A_only⟩ (xpS (ws := []) (tys := []) (hP.sub [] rfl) (hK.sub [] rfl) hN) rfl rfl hl.1 rfl (lv_room (Nat.le_of_ble_eq_true rfl)) d_A_hasDetour_13 ⟨Nat.le_of_ble_eq_true rfl, Nat.le_of_ble_eq_true rfl⟩) ?_
  refine lv_iconst (v := -1) hx hb d_A_hasDetour_16 (by decide) ?_
  refine lv_ixor hx hb d_A_hasDetour_17 ?_
  refine lv_iand hx hb d_A_hasDetour_18 ?_
  refine lv_iload_n hx hb d_A_hasDetour_19 rfl (lv_at hl 1 rfl) ?_
  refine xr_cal (va_runS (As := [.int (nI u)]) (rest := [.int ((h u) &&& ((bit v) ^^^ (-1))), .ref w]) ⟨hx, hb, hml, hown, hB⟩ (k_A_only l D u) ⟨callB_of 1 hB (xg0 mc_A_only) rfl rfl rfl (hB _ mz_A) (hB _ ml_A_97) (by decide +kernel) ⟨Nat.le_of_ble_eq_true rfl, Nat.le_of_ble_eq_true rfl⟩, hB _ ms_A_only⟩ (xpS (ws := []) (tys := []) (hP.sub [] rfl) (hK.sub [] rfl) hN) rfl rfl hl.1 rfl (lv_room (Nat.le_of_ble_eq_true rfl)) d_A_hasDetour_20 ⟨Nat.le_of_ble_eq_true rfl, Nat.le_of_ble_eq_true rfl⟩) ?_
  refine xr_cal (va_runV (As := [.int ((h u) &&& ((bit v) ^^^ (-1))), .int (bit u)]) (rest := []) ⟨hx, hb, hml, hown, hB⟩ (k_Web_spread l D w hd cA ct h hg ((h u) &&& ((bit v) ^^^ (-1))) (bit u) (m16_and (hg u hu))) ⟨callB_of 2 hB (xg0 mc_Web_spread) rfl rfl rfl (hB _ mz_Web) (hB _ ml_A_100) (by decide +kernel) ⟨Nat.le_of_ble_eq_true rfl, Nat.le_of_ble_eq_true rfl⟩, hB _ mi_Web_spread, hB _ me_Web_spread⟩ (xpV (ws := [(w, .inr (1, [.ref hd, .int ct])), (hd, .inl (cA, 16, .inl h))]) (tys := [(cA, .int)]) (hP.sub [1, 2] rfl) (hK.sub [0] rfl) hN (va_recv (ci := 1) (q0 := 1) (q := (R_Web, F_Web, 2)) hK hP rfl rfl)) rfl rfl hl.1 rfl (lv_room (Nat.le_of_ble_eq_true rfl)) d_A_hasDetour_23 ⟨Nat.le_of_ble_eq_true rfl, Nat.le_of_ble_eq_true rfl⟩) ?_
  refine lv_iload_n hx hb d_A_hasDetour_26 rfl (lv_at hl 2 rfl) ?_
  refine xr_cal (va_runS (As := [.int (SP h ((h u) &&& ((bit v) ^^^ (-1))) (bit u)), .int (nI v)]) (rest := []) ⟨hx, hb, hml, hown, hB⟩ (k_A_has l D (SP h ((h u) &&& ((bit v) ^^^ (-1))) (bit u)) v (by omega)) ⟨callB_of 2 hB (xg0 mc_A_has) rfl rfl rfl (hB _ mz_A) (hB _ ml_A_104) (by decide +kernel) ⟨Nat.le_of_ble_eq_true rfl, Nat.le_of_ble_eq_true rfl⟩, hB _ ms_A_has⟩ (xpS (ws := []) (tys := []) (hP.sub [] rfl) (hK.sub [] rfl) hN) rfl rfl hl.1 rfl (lv_room (Nat.le_of_ble_eq_true rfl)) d_A_hasDetour_27 ⟨Nat.le_of_ble_eq_true rfl, Nat.le_of_ble_eq_true rfl⟩) ?_
  exact W.zret (v := b2i (bt (SP h ((h u) &&& ((bit v) ^^^ (-1))) (bit u)) v)) hx hb hr (b2i_nar _) (fun t ht hW => ⟨rfl, ht⟩) (fun _ h => by cases h) d_A_hasDetour_30
set_option maxHeartbeats 4000000 in
set_option maxRecDepth 100000 in
theorem k_A_needsAll (l : Launch) (D : va_G) (a w g yw f : Nat) (hd : Nat) (cA : ClassId) (ct : Int32) (h : Nat → Int32) (hg : gd h) (r9 d9 : Nat) (ox : Int32) (hr9 : r9 < 16) (hd9 : d9 < 16) : Met l y_A_needsAll (Cond.code y_A_needsAll c_A_needsAll 5 (some .boolean) :: BS) { frames := 3, cells := 0, slots := 0, locals := 69 } (va_Pc [.ref a, .int (nI r9), .int (nI d9), .int ox] (xR D [(a, .inr (0, [.ref w, .ref g, .ref yw, .ref f])), (w, .inr (1, [.ref hd, .int ct])), (hd, .inl (cA, 16, .inl h))] [(cA, .int)])) (QcRead (b2i (!(anyq (fun e9 => bt ox e9 && bt (SP h (bit r9) (bit e9)) d9) 16)))) 0 0 (fun _ => False) := by
  refine Met.ofW (cc := c_A_needsAll) (maxL := 5) (ret := (some .boolean)) (by decide) rfl ?_
  intro p e s m args below meth c s₁ B hml hv
  obtain ⟨rfl, hP, hK, hN⟩ := hv
  have hx := B.exec
  have hb := B.bytes
  have hr := B.returns
  have hB := xB B.pre
  have hown : s.vm.findClass R_A = some m.cls := findClass_of_methodNamed B.named
  have hlocks := B.notSynchronized
  have hl := lv_entry ([.ref a, .int (nI r9), .int (nI d9), .int ox]) (n := 5) (Nat.le_of_ble_eq_true rfl)
  rw [lg_entry_eq]
  generalize (lg_sl ([.ref a, .int (nI r9), .int (nI d9), .int ox]) ++ List.replicate (5 - (lg_sl ([.ref a, .int (nI r9), .int (nI d9), .int ox])).length) Slot.unset).toArray = ls at hl ⊢
  have hl : lv_has ls 5 [(0, .ref a), (1, .int (nI r9)), (2, .int (nI d9)), (3, .int ox)] := hl
  refine lv_iconst (v := nI 0) hx hb d_A_needsAll_0 (by decide) ?_
  refine lv_istore hx hb d_A_needsAll_1 hl (by decide) rfl (fun ls hl => ?_)
  have hl : lv_has ls 5 [(4, .int (nI 0)), (0, .ref a), (1, .int (nI r9)), (2, .int (nI d9)), (3, .int ox)] := hl
  refine xl_r (fun (u : Nat) ls => (u ≤ 16 ∧ ∀ k9, k9 < u → (fun e9 => bt ox e9 && bt (SP h (bit r9) (bit e9)) d9) k9 = false) ∧ lv_has ls 5 [(4, .int (nI u)), (0, .ref a), (1, .int (nI r9)), (2, .int (nI d9)), (3, .int ox)]) (fun u => 16 - u) (fun u ls hI ih3 => ?_) 0 _ ⟨⟨Nat.zero_le _, lt_0⟩, hl⟩
  obtain ⟨hI, hl⟩ := hI
  obtain ⟨hu_u, hm⟩ := hI
  refine lv_iload hx hb d_A_needsAll_3 (lv_at hl 0 rfl) ?_
  refine lv_bipush (v := nI 16) hx hb d_A_needsAll_5 (by decide) ?_
  refine lv_icmp_ge (tgt := 50) hx hb d_A_needsAll_7 rfl (fun hc7 => ?_) (fun hc7 => ?_)
  · have hc7 : 16 ≤ u := (nI_leI (by omega) (by omega)).mp hc7
    refine lv_iconst (v := nI 1) hx hb d_A_needsAll_50 (by decide) ?_
    refine xv_top (x' := b2i (!(anyq (fun e9 => bt ox e9 && bt (SP h (bit r9) (bit e9)) d9) 16))) (by first | rw [anyq_t (p := (fun e9 => bt ox e9 && bt (SP h (bit r9) (bit e9)) d9)) (i := u) (by (try dsimp only); rw [hc16, hc39]; rfl) 16 (by omega)]; rfl | rw [anyq_f (p := (fun e9 => bt ox e9 && bt (SP h (bit r9) (bit e9)) d9)) 16 (fun k9 hk9 => hm k9 (by omega))]; rfl) ?_
    exact W.zret (v := b2i (!(anyq (fun e9 => bt ox e9 && bt (SP h (bit r9) (bit e9)) d9) 16))) hx hb hr (b2i_nar _) (fun t ht hW => ⟨rfl, ht⟩) (fun _ h => by cases h) d_A_needsAll_51
  · have hc7 : ¬ (16 ≤ u) := fun q9 => hc7 ((nI_leI (by omega) (by omega)).mpr q9)
    refine lv_iload_n hx hb d_A_needsAll_10 rfl (lv_at hl 4 rfl) ?_
    refine lv_iload hx hb d_A_needsAll_11 (lv_at hl 0 rfl) ?_
    refine xr_cal (va_runS (As := [.int ox, .int (nI u)]) (rest := []) ⟨hx, hb, hml, hown, hB⟩ (k_A_has l D ox u (by omega)) ⟨callB_of 2 hB (xg0 mc_A_has) rfl rfl rfl (hB _ mz_A) (hB _ ml_A_104) (by decide +kernel) ⟨Nat.le_of_ble_eq_true rfl, Nat.le_of_ble_eq_true rfl⟩, hB _ ms_A_has⟩ (xpS (ws := []) (tys := []) (hP.sub [] rfl) (hK.sub [] rfl) hN) rfl rfl hl.1 rfl (lv_room (Nat.le_of_ble_eq_true rfl)) d_A_needsAll_13 ⟨Nat.le_of_ble_eq_true rfl, Nat.le_of_ble_eq_true rfl⟩) ?_
    refine lv_if_eq (tgt := 44) hx hb d_A_needsAll_16 rfl (fun hc16 => ?_) (fun hc16 => ?_)
    · have hc16 := b2i_0.mp hc16
      refine lv_iinc hx hb d_A_needsAll_44 hl (k := 0) rfl (v := nI (u + 1)) (nI_1 u) (by decide) rfl (fun ls hl => ?_)
      have hl : lv_has ls 5 [(4, .int (nI (u + 1))), (0, .ref a), (1, .int (nI r9)), (2, .int (nI d9)), (3, .int ox)] := hl
      refine lv_goto (tgt := 3) hx hb d_A_needsAll_47 rfl ?_
      exact ih3 (u + 1) _ ⟨⟨by omega, lt_s hm (by (try dsimp only); first | (rw [hc16]; rfl) | (rw [hc39, Bool.and_false]))⟩, lv_sub hl [0, 1, 2, 3, 4] rfl⟩ (by omega)
    · have hc16 := b2i_n.mp hc16
      refine lv_aload_n hx hb d_A_needsAll_19 rfl (lv_at hl 1 rfl) ?_
      refine va_get (D := D) (ci := 0) (v := .ref w) (C := R_A) (T := F_A) (N := 4) hx hb hB in_A hown hK hP 0 rfl rfl 0 (by decide) (hB _ mf_A_10) (fun _ h9 => h9) rfl d_A_needsAll_20 ?_
      refine lv_iload_n hx hb d_A_needsAll_23 rfl (lv_at hl 2 rfl) ?_
      refine xr_cal (va_runS (As := [.int (nI r9)]) (rest := [.ref w]) ⟨hx, hb, hml, hown, hB⟩ (k_A_only l D r9) ⟨callB_of 1 hB (xg0 mc_A_only) rfl rfl rfl (hB _ mz_A) (hB _ ml_A_97) (by decide +kernel) ⟨Nat.le_of_ble_eq_true rfl, Nat.le_of_ble_eq_true rfl⟩, hB _ ms_A_only⟩ (xpS (ws := []) (tys := []) (hP.sub [] rfl) (hK.sub [] rfl) hN) rfl rfl hl.1 rfl (lv_room (Nat.le_of_ble_eq_true rfl)) d_A_needsAll_24 ⟨Nat.le_of_ble_eq_true rfl, Nat.le_of_ble_eq_true rfl⟩) ?_
      refine lv_iload hx hb d_A_needsAll_27 (lv_at hl 0 rfl) ?_
      refine xr_cal (va_runS (As := [.int (nI u)]) (rest := [.int (bit r9), .ref w]) ⟨hx, hb, hml, hown, hB⟩ (k_A_only l D u) ⟨callB_of 1 hB (xg0 mc_A_only) rfl rfl rfl (hB _ mz_A) (hB _ ml_A_97) (by decide +kernel) ⟨Nat.le_of_ble_eq_true rfl, Nat.le_of_ble_eq_true rfl⟩, hB _ ms_A_only⟩ (xpS (ws := []) (tys := []) (hP.sub [] rfl) (hK.sub [] rfl) hN) rfl rfl hl.1 rfl (lv_room (Nat.le_of_ble_eq_true rfl)) d_A_needsAll_29 ⟨Nat.le_of_ble_eq_true rfl, Nat.le_of_ble_eq_true rfl⟩) ?_
      refine xr_cal (va_runV (As := [.int (bit r9), .int (bit u)]) (rest := []) ⟨hx, hb, hml, hown, hB⟩ (k_Web_spread l D w hd cA ct h hg (bit r9) (bit u) (m16_bit hr9)) ⟨callB_of 2 hB (xg0 mc_Web_spread) rfl rfl rfl (hB _ mz_Web) (hB _ ml_A_100) (by decide +kernel) ⟨Nat.le_of_ble_eq_true rfl, Nat.le_of_ble_eq_true rfl⟩, hB _ mi_Web_spread, hB _ me_Web_spread⟩ (xpV (ws := [(w, .inr (1, [.ref hd, .int ct])), (hd, .inl (cA, 16, .inl h))]) (tys := [(cA, .int)]) (hP.sub [1, 2] rfl) (hK.sub [0] rfl) hN (va_recv (ci := 1) (q0 := 1) (q := (R_Web, F_Web, 2)) hK hP rfl rfl)) rfl rfl hl.1 rfl (lv_room (Nat.le_of_ble_eq_true rfl)) d_A_needsAll_32 ⟨Nat.le_of_ble_eq_true rfl, Nat.le_of_ble_eq_true rfl⟩) ?_
      refine lv_iload_n hx hb d_A_needsAll_35 rfl (lv_at hl 3 rfl) ?_
      refine xr_cal (va_runS (As := [.int (SP h (bit r9) (bit u)), .int (nI d9)]) (rest := []) ⟨hx, hb, hml, hown, hB⟩ (k_A_has l D (SP h (bit r9) (bit u)) d9 (by omega)) ⟨callB_of 2 hB (xg0 mc_A_has) rfl rfl rfl (hB _ mz_A) (hB _ ml_A_104) (by decide +kernel) ⟨Nat.le_of_ble_eq_true rfl, Nat.le_of_ble_eq_true rfl⟩, hB _ ms_A_has⟩ (xpS (ws := []) (tys := []) (hP.sub [] rfl) (hK.sub [] rfl) hN) rfl rfl hl.1 rfl (lv_room (Nat.le_of_ble_eq_true rfl)) d_A_needsAll_36 ⟨Nat.le_of_ble_eq_true rfl, Nat.le_of_ble_eq_true rfl⟩) ?_
      refine lv_if_eq (tgt := 44) hx hb d_A_needsAll_39 rfl (fun hc39 => ?_) (fun hc39 => ?_)
      · have hc39 := b2i_0.mp hc39
        refine lv_iinc hx hb d_A_needsAll_44 hl (k := 0) rfl (v := nI (u + 1)) (nI_1 u) (by decide) rfl (fun ls hl => ?_)
        have hl : lv_has ls 5 [(4, .int (nI (u + 1))), (0, .ref a), (1, .int (nI r9)), (2, .int (nI d9)), (3, .int ox)] := hl
        refine lv_goto (tgt := 3) hx hb d_A_needsAll_47 rfl ?_
        exact ih3 (u + 1) _ ⟨⟨by omega, lt_s hm (by (try dsimp only); first | (rw [hc16]; rfl) | (rw [hc39, Bool.and_false]))⟩, lv_sub hl [0, 1, 2, 3, 4] rfl⟩ (by omega)
      · have hc39 := b2i_n.mp hc39
        refine lv_iconst (v := nI 0) hx hb d_A_needsAll_42 (by decide) ?_
        refine xv_top (x' := b2i (!(anyq (fun e9 => bt ox e9 && bt (SP h (bit r9) (bit e9)) d9) 16))) (by first | rw [anyq_t (p := (fun e9 => bt ox e9 && bt (SP h (bit r9) (bit e9)) d9)) (i := u) (by (try dsimp only); rw [hc16, hc39]; rfl) 16 (by omega)]; rfl | rw [anyq_f (p := (fun e9 => bt ox e9 && bt (SP h (bit r9) (bit e9)) d9)) 16 (fun k9 hk9 => hm k9 (by omega))]; rfl) ?_
        exact W.zret (v := b2i (!(anyq (fun e9 => bt ox e9 && bt (SP h (bit r9) (bit e9)) d9) 16))) hx hb hr (b2i_nar _) (fun t ht hW => ⟨rfl, ht⟩) (fun _ h => by cases h) d_A_needsAll_43
set_option maxHeartbeats 4000000 in
set_option maxRecDepth 100000 in
theorem k_A_lastBefore (l : Launch) (D : va_G) (a w g yw f : Nat) (hd : Nat) (cA : ClassId) (ct : Int32) (h : Nat → Int32) (hg : gd h) (r9 v9 : Nat) (hr9 : r9 < 16) (hv9 : v9 < 16) : Met l y_A_lastBefore (Cond.code y_A_lastBefore c_A_lastBefore 5 (some .int) :: BS) { frames := 4, cells := 0, slots := 0, locals := 93 } (va_Pc [.ref a, .int (nI r9), .int (nI v9)] (xR D [(a, .inr (0, [.ref w, .ref g, .ref yw, .ref f])), (w, .inr (1, [.ref hd, .int ct])), (hd, .inl (cA, 16, .inl h))] [(cA, .int)])) (QcRead (nI (first (fun d9 => bt (mk (fun d9 => decide (¬ d9 = v9) && !(bt (SP h (bit r9) (bit d9)) v9)) 16) d9 && !(anyq (fun e9 => bt ((mk (fun d9 => decide (¬ d9 = v9) && !(bt (SP h (bit r9) (bit d9)) v9)) 16) &&& (bit d9 ^^^ (-1))) e9 && bt (SP h (bit r9) (bit e9)) d9) 16)) r9 16))) 0 0 (fun _ => False) := by
  refine Met.ofW (cc := c_A_lastBefore) (maxL := 5) (ret := (some .int)) (by decide) rfl ?_
  intro p e s m args below meth c s₁ B hml hv
  obtain ⟨rfl, hP, hK, hN⟩ := hv
  have hx := B.exec
  have hb := B.bytes
  have hr := B.returns
  have hB := xB B.pre
  have hown : s.vm.findClass R_A = some m.cls := findClass_of_methodNamed B.named
  have hlocks := B.notSynchronized
  have hl := lv_entry ([.ref a, .int (nI r9), .int (nI v9)]) (n := 5) (Nat.le_of_ble_eq_true rfl)
  rw [lg_entry_eq]
  generalize (lg_sl ([.ref a, .int (nI r9), .int (nI v9)]) ++ List.replicate (5 - (lg_sl ([.ref a, .int (nI r9), .int (nI v9)])).length) Slot.unset).toArray = ls at hl ⊢
  have hl : lv_has ls 5 [(0, .ref a), (1, .int (nI r9)), (2, .int (nI v9))] := hl
  refine lv_iconst (v := nI 0) hx hb d_A_lastBefore_0 (by decide) ?_
  refine lv_istore_n hx hb d_A_lastBefore_1 rfl hl (by decide) rfl (fun ls hl => ?_)
  have hl : lv_has ls 5 [(3, .int (nI 0)), (0, .ref a), (1, .int (nI r9)), (2, .int (nI v9))] := hl
  refine lv_iconst (v := nI 0) hx hb d_A_lastBefore_2 (by decide) ?_
  refine lv_istore hx hb d_A_lastBefore_3 hl (by decide) rfl (fun ls hl => ?_)
  have hl : lv_has ls 5 [(4, .int (nI 0)), (3, .int (nI 0)), (0, .ref a), (1, .int (nI r9)), (2, .int (nI v9))] := hl
  refine xl_r (fun (u : Nat) ls => (u ≤ 16) ∧ lv_has ls 5 [(4, .int (nI u)), (3, .int (mk (fun d9 => decide (¬ d9 = v9) && !(bt (SP h (bit r9) (bit d9)) v9)) u)), (0, .ref a), (1, .int (nI r9)), (2, .int (nI v9))]) (fun u => 16 - u) (fun u ls hI ih5 => ?_) 0 _ ⟨Nat.zero_le _, hl⟩
  obtain ⟨hI, hl⟩ := hI
  have hu_u := hI
  refine lv_iload hx hb d_A_lastBefore_5 (lv_at hl 0 rfl) ?_
  refine lv_bipush (v := nI 16) hx hb d_A_lastBefore_7 (by decide) ?_
  refine lv_icmp_ge (tgt := 55) hx hb d_A_lastBefore_9 rfl (fun hc9 => ?_) (fun hc9 => ?_)
  · have hc9 : 16 ≤ u := (nI_leI (by omega) (by omega)).mp hc9
    have hl : lv_has ls 5 [(4, .int (nI u)), (3, .int (mk (fun d9 => decide (¬ d9 = v9) && !(bt (SP h (bit r9) (bit d9)) v9)) 16)), (0, .ref a), (1, .int (nI r9)), (2, .int (nI v9))] := by
      have hz : (mk (fun d9 => decide (¬ d9 = v9) && !(bt (SP h (bit r9) (bit d9)) v9)) u) = (mk (fun d9 => decide (¬ d9 = v9) && !(bt (SP h (bit r9) (bit d9)) v9)) 16) := by rw [show u = 16 by omega]
      rw [← hz]; exact hl
    refine lv_iconst (v := nI 0) hx hb d_A_lastBefore_55 (by decide) ?_
    refine lv_istore hx hb d_A_lastBefore_56 hl (by decide) rfl (fun ls hl => ?_)
    have hl : lv_has ls 5 [(4, .int (nI 0)), (3, .int (mk (fun d9 => decide (¬ d9 = v9) && !(bt (SP h (bit r9) (bit d9)) v9)) 16)), (0, .ref a), (1, .int (nI r9)), (2, .int (nI v9))] := hl
    refine xl_r (fun (d : Nat) ls => (d ≤ 16 ∧ ∀ k9, k9 < d → (fun d9 => bt (mk (fun d9 => decide (¬ d9 = v9) && !(bt (SP h (bit r9) (bit d9)) v9)) 16) d9 && !(anyq (fun e9 => bt ((mk (fun d9 => decide (¬ d9 = v9) && !(bt (SP h (bit r9) (bit d9)) v9)) 16) &&& (bit d9 ^^^ (-1))) e9 && bt (SP h (bit r9) (bit e9)) d9) 16)) k9 = false) ∧ lv_has ls 5 [(4, .int (nI d)), (3, .int (mk (fun d9 => decide (¬ d9 = v9) && !(bt (SP h (bit r9) (bit d9)) v9)) 16)), (0, .ref a), (1, .int (nI r9)), (2, .int (nI v9))]) (fun d => 16 - d) (fun d ls hI ih58 => ?_) 0 _ ⟨⟨Nat.zero_le _, lt_0⟩, hl⟩
    obtain ⟨hI, hl⟩ := hI
    obtain ⟨hu_d, hm⟩ := hI
    refine lv_iload hx hb d_A_lastBefore_58 (lv_at hl 0 rfl) ?_
    refine lv_bipush (v := nI 16) hx hb d_A_lastBefore_60 (by decide) ?_
    refine lv_icmp_ge (tgt := 102) hx hb d_A_lastBefore_62 rfl (fun hc62 => ?_) (fun hc62 => ?_)
    · have hc62 : 16 ≤ d := (nI_leI (by omega) (by omega)).mp hc62
      refine lv_iload_n hx hb d_A_lastBefore_102 rfl (lv_at hl 3 rfl) ?_
      refine xv_top (x' := nI (first (fun d9 => bt (mk (fun d9 => decide (¬ d9 = v9) && !(bt (SP h (bit r9) (bit d9)) v9)) 16) d9 && !(anyq (fun e9 => bt ((mk (fun d9 => decide (¬ d9 = v9) && !(bt (SP h (bit r9) (bit d9)) v9)) 16) &&& (bit d9 ^^^ (-1))) e9 && bt (SP h (bit r9) (bit e9)) d9) 16)) r9 16)) (by first | rw [first_eq (p := (fun d9 => bt (mk (fun d9 => decide (¬ d9 = v9) && !(bt (SP h (bit r9) (bit d9)) v9)) 16) d9 && !(anyq (fun e9 => bt ((mk (fun d9 => decide (¬ d9 = v9) && !(bt (SP h (bit r9) (bit d9)) v9)) 16) &&& (bit d9 ^^^ (-1))) e9 && bt (SP h (bit r9) (bit e9)) d9) 16))) (j := d) (by (try dsimp only); rw [hc71, hc90]; rfl) (by omega) hm] | rw [first_none (p := (fun d9 => bt (mk (fun d9 => decide (¬ d9 = v9) && !(bt (SP h (bit r9) (bit d9)) v9)) 16) d9 && !(anyq (fun e9 => bt ((mk (fun d9 => decide (¬ d9 = v9) && !(bt (SP h (bit r9) (bit d9)) v9)) 16) &&& (bit d9 ^^^ (-1))) e9 && bt (SP h (bit r9) (bit e9)) d9) 16))) (fun k9 hk9 => hm k9 (by omega))]) ?_
      exact W.iret (v := nI (first (fun d9 => bt (mk (fun d9 => decide (¬ d9 = v9) && !(bt (SP h (bit r9) (bit d9)) v9)) 16) d9 && !(anyq (fun e9 => bt ((mk (fun d9 => decide (¬ d9 = v9) && !(bt (SP h (bit r9) (bit d9)) v9)) 16) &&& (bit d9 ^^^ (-1))) e9 && bt (SP h (bit r9) (bit e9)) d9) 16)) r9 16)) hx hb hr (fun t ht hW => ⟨rfl, ht⟩) (fun _ h => by cases h) d_A_lastBefore_103
    · have hc62 : ¬ (16 ≤ d) := fun q9 => hc62 ((nI_leI (by omega) (by omega)).mpr q9)
      refine lv_iload_n hx hb d_A_lastBefore_65 rfl (lv_at hl 1 rfl) ?_
      refine lv_iload hx hb d_A_lastBefore_66 (lv_at hl 0 rfl) ?_
      refine xr_cal (va_runS (As := [.int (mk (fun d9 => decide (¬ d9 = v9) && !(bt (SP h (bit r9) (bit d9)) v9)) 16), .int (nI d)]) (rest := []) ⟨hx, hb, hml, hown, hB⟩ (k_A_has l D (mk (fun d9 => decide (¬ d9 = v9) && !(bt (SP h (bit r9) (bit d9)) v9)) 16) d (by omega)) ⟨callB_of 2 hB (xg0 mc_A_has) rfl rfl rfl (hB _ mz_A) (hB _ ml_A_104) (by decide +kernel) ⟨Nat.le_of_ble_eq_true rfl, Nat.le_of_ble_eq_true rfl⟩, hB _ ms_A_has⟩ (xpS (ws := []) (tys := []) (hP.sub [] rfl) (hK.sub [] rfl) hN) rfl rfl hl.1 rfl (lv_room (Nat.le_of_ble_eq_true rfl)) d_A_lastBefore_68 ⟨Nat.le_of_ble_eq_true rfl, Nat.le_of_ble_eq_true rfl⟩) ?_
      refine lv_if_eq (tgt := 96) hx hb d_A_lastBefore_71 rfl (fun hc71 => ?_) (fun hc71 => ?_)
      · have hc71 := b2i_0.mp hc71
        refine lv_iinc hx hb d_A_lastBefore_96 hl (k := 0) rfl (v := nI (d + 1)) (nI_1 d) (by decide) rfl (fun ls hl => ?_)
        have hl : lv_has ls 5 [(4, .int (nI (d + 1))), (3, .int (mk (fun d9 => decide (¬ d9 = v9) && !(bt (SP h (bit r9) (bit d9)) v9)) 16)), (0, .ref a), (1, .int (nI r9)), (2, .int (nI v9))] := hl
        refine lv_goto (tgt := 58) hx hb d_A_lastBefore_99 rfl ?_
        exact ih58 (d + 1) _ ⟨⟨by omega, lt_s hm (by (try dsimp only); first | (rw [hc71]; rfl) | (rw [hc90, Bool.and_false]))⟩, lv_sub hl [0, 1, 2, 3, 4] rfl⟩ (by omega)
      · have hc71 := b2i_n.mp hc71
        refine lv_aload_n hx hb d_A_lastBefore_74 rfl (lv_at hl 2 rfl) ?_
        refine lv_iload_n hx hb d_A_lastBefore_75 rfl (lv_at hl 3 rfl) ?_
        refine lv_iload hx hb d_A_lastBefore_76 (lv_at hl 0 rfl) ?_
        refine lv_iload_n hx hb d_A_lastBefore_78 rfl (lv_at hl 1 rfl) ?_
        refine lv_iload hx hb d_A_lastBefore_79 (lv_at hl 0 rfl) ?_
        refine xr_cal (va_runS (As := [.int (nI d)]) (rest := [.int (mk (fun d9 => decide (¬ d9 = v9) && !(bt (SP h (bit r9) (bit d9)) v9)) 16), .int (nI d), .int (nI r9), .ref a]) ⟨hx, hb, hml, hown, hB⟩ (k_A_only l D d) ⟨callB_of 1 hB (xg0 mc_A_only) rfl rfl rfl (hB _ mz_A) (hB _ ml_A_97) (by decide +kernel) ⟨Nat.le_of_ble_eq_true rfl, Nat.le_of_ble_eq_true rfl⟩, hB _ ms_A_only⟩ (xpS (ws := []) (tys := []) (hP.sub [] rfl) (hK.sub [] rfl) hN) rfl rfl hl.1 rfl (lv_room (Nat.le_of_ble_eq_true rfl)) d_A_lastBefore_81 ⟨Nat.le_of_ble_eq_true rfl, Nat.le_of_ble_eq_true rfl⟩) ?_
        refine lv_iconst (v := -1) hx hb d_A_lastBefore_84 (by decide) ?_
        refine lv_ixor hx hb d_A_lastBefore_85 ?_
        refine lv_iand hx hb d_A_lastBefore_86 ?_
        refine xr_cal (va_runV (As := [.int (nI r9), .int (nI d), .int ((mk (fun d9 => decide (¬ d9 = v9) && !(bt (SP h (bit r9) (bit d9)) v9)) 16) &&& ((bit d) ^^^ (-1)))]) (rest := []) ⟨hx, hb, hml, hown, hB⟩ (k_A_needsAll l D a w g yw f hd cA ct h hg r9 d ((mk (fun d9 => decide (¬ d9 = v9) && !(bt (SP h (bit r9) (bit d9)) v9)) 16) &&& ((bit d) ^^^ (-1))) (by omega) (by omega)) ⟨callB_of 3 hB (xg0 mc_A_needsAll) rfl rfl rfl (hB _ mz_A) (hB _ ml_A_161) (by decide +kernel) ⟨Nat.le_of_ble_eq_true rfl, Nat.le_of_ble_eq_true rfl⟩, hB _ mi_A_needsAll, hB _ me_A_needsAll⟩ (xpV (ws := [(a, .inr (0, [.ref w, .ref g, .ref yw, .ref f])), (w, .inr (1, [.ref hd, .int ct])), (hd, .inl (cA, 16, .inl h))]) (tys := [(cA, .int)]) (hP.sub [0, 1, 2] rfl) (hK.sub [0] rfl) hN (va_recv (ci := 0) (q0 := 0) (q := (R_A, F_A, 4)) hK hP rfl rfl)) rfl rfl hl.1 rfl (lv_room (Nat.le_of_ble_eq_true rfl)) d_A_lastBefore_87 ⟨Nat.le_of_ble_eq_true rfl, Nat.le_of_ble_eq_true rfl⟩) ?_
        refine lv_if_eq (tgt := 96) hx hb d_A_lastBefore_90 rfl (fun hc90 => ?_) (fun hc90 => ?_)
        · have hc90 := b2i_0.mp hc90
          refine lv_iinc hx hb d_A_lastBefore_96 hl (k := 0) rfl (v := nI (d + 1)) (nI_1 d) (by decide) rfl (fun ls hl => ?_)
          have hl : lv_has ls 5 [(4, .int (nI (d + 1))), (3, .int (mk (fun d9 => decide (¬ d9 = v9) && !(bt (SP h (bit r9) (bit d9)) v9)) 16)), (0, .ref a), (1, .int (nI r9)), (2, .int (nI v9))] := hl
          refine lv_goto (tgt := 58) hx hb d_A_lastBefore_99 rfl ?_
          exact ih58 (d + 1) _ ⟨⟨by omega, lt_s hm (by (try dsimp only); first | (rw [hc71]; rfl) | (rw [hc90, Bool.and_false]))⟩, lv_sub hl [0, 1, 2, 3, 4] rfl⟩ (by omega)
        · have hc90 := b2i_n.mp hc90
          refine lv_iload hx hb d_A_lastBefore_93 (lv_at hl 0 rfl) ?_
          refine xv_top (x' := nI (first (fun d9 => bt (mk (fun d9 => decide (¬ d9 = v9) && !(bt (SP h (bit r9) (bit d9)) v9)) 16) d9 && !(anyq (fun e9 => bt ((mk (fun d9 => decide (¬ d9 = v9) && !(bt (SP h (bit r9) (bit d9)) v9)) 16) &&& (bit d9 ^^^ (-1))) e9 && bt (SP h (bit r9) (bit e9)) d9) 16)) r9 16)) (by first | rw [first_eq (p := (fun d9 => bt (mk (fun d9 => decide (¬ d9 = v9) && !(bt (SP h (bit r9) (bit d9)) v9)) 16) d9 && !(anyq (fun e9 => bt ((mk (fun d9 => decide (¬ d9 = v9) && !(bt (SP h (bit r9) (bit d9)) v9)) 16) &&& (bit d9 ^^^ (-1))) e9 && bt (SP h (bit r9) (bit e9)) d9) 16))) (j := d) (by (try dsimp only); rw [hc71, hc90]; rfl) (by omega) hm] | rw [first_none (p := (fun d9 => bt (mk (fun d9 => decide (¬ d9 = v9) && !(bt (SP h (bit r9) (bit d9)) v9)) 16) d9 && !(anyq (fun e9 => bt ((mk (fun d9 => decide (¬ d9 = v9) && !(bt (SP h (bit r9) (bit d9)) v9)) 16) &&& (bit d9 ^^^ (-1))) e9 && bt (SP h (bit r9) (bit e9)) d9) 16))) (fun k9 hk9 => hm k9 (by omega))]) ?_
          exact W.iret (v := nI (first (fun d9 => bt (mk (fun d9 => decide (¬ d9 = v9) && !(bt (SP h (bit r9) (bit d9)) v9)) 16) d9 && !(anyq (fun e9 => bt ((mk (fun d9 => decide (¬ d9 = v9) && !(bt (SP h (bit r9) (bit d9)) v9)) 16) &&& (bit d9 ^^^ (-1))) e9 && bt (SP h (bit r9) (bit e9)) d9) 16)) r9 16)) hx hb hr (fun t ht hW => ⟨rfl, ht⟩) (fun _ h => by cases h) d_A_lastBefore_95
  · have hc9 : ¬ (16 ≤ u) := fun q9 => hc9 ((nI_leI (by omega) (by omega)).mpr q9)
    refine lv_iload hx hb d_A_lastBefore_12 (lv_at hl 0 rfl) ?_
    refine lv_iload_n hx hb d_A_lastBefore_14 rfl (lv_at hl 4 rfl) ?_
    refine lv_icmp_eq (tgt := 49) hx hb d_A_lastBefore_15 rfl (fun hc15 => ?_) (fun hc15 => ?_)
    · have hc15 : u = v9 := (nI_eq (by omega) (by omega)).mp hc15
      have hl : lv_has ls 5 [(4, .int (nI u)), (3, .int (mk (fun d9 => decide (¬ d9 = v9) && !(bt (SP h (bit r9) (bit d9)) v9)) (u + 1))), (0, .ref a), (1, .int (nI r9)), (2, .int (nI v9))] := by
        have hz : (mk (fun d9 => decide (¬ d9 = v9) && !(bt (SP h (bit r9) (bit d9)) v9)) u) = mk (fun d9 => decide (¬ d9 = v9) && !(bt (SP h (bit r9) (bit d9)) v9)) (u + 1) := (if_neg (by (try dsimp only); first | (rw [hc38, Bool.not_true, Bool.and_false]; decide) | (rw [decide_eq_false (fun q9 => q9 hc15)]; simp))).symm
        rw [← hz]; exact hl
      refine lv_iinc hx hb d_A_lastBefore_49 hl (k := 0) rfl (v := nI (u + 1)) (nI_1 u) (by decide) rfl (fun ls hl => ?_)
      have hl : lv_has ls 5 [(4, .int (nI (u + 1))), (3, .int (mk (fun d9 => decide (¬ d9 = v9) && !(bt (SP h (bit r9) (bit d9)) v9)) (u + 1))), (0, .ref a), (1, .int (nI r9)), (2, .int (nI v9))] := hl
      refine lv_goto (tgt := 5) hx hb d_A_lastBefore_52 rfl ?_
      exact ih5 (u + 1) _ ⟨by omega, lv_sub hl [0, 1, 2, 3, 4] rfl⟩ (by omega)
    · have hc15 : ¬ (u = v9) := fun q9 => hc15 ((nI_eq (by omega) (by omega)).mpr q9)
      refine lv_aload_n hx hb d_A_lastBefore_18 rfl (lv_at hl 2 rfl) ?_
      refine va_get (D := D) (ci := 0) (v := .ref w) (C := R_A) (T := F_A) (N := 4) hx hb hB in_A hown hK hP 0 rfl rfl 0 (by decide) (hB _ mf_A_10) (fun _ h9 => h9) rfl d_A_lastBefore_19 ?_
      refine lv_iload_n hx hb d_A_lastBefore_22 rfl (lv_at hl 3 rfl) ?_
      refine xr_cal (va_runS (As := [.int (nI r9)]) (rest := [.ref w]) ⟨hx, hb, hml, hown, hB⟩ (k_A_only l D r9) ⟨callB_of 1 hB (xg0 mc_A_only) rfl rfl rfl (hB _ mz_A) (hB _ ml_A_97) (by decide +kernel) ⟨Nat.le_of_ble_eq_true rfl, Nat.le_of_ble_eq_true rfl⟩, hB _ ms_A_only⟩ (xpS (ws := []) (tys := []) (hP.sub [] rfl) (hK.sub [] rfl) hN) rfl rfl hl.1 rfl (lv_room (Nat.le_of_ble_eq_true rfl)) d_A_lastBefore_23 ⟨Nat.le_of_ble_eq_true rfl, Nat.le_of_ble_eq_true rfl⟩) ?_
      refine lv_iload hx hb d_A_lastBefore_26 (lv_at hl 0 rfl) ?_
      refine xr_cal (va_runS (As := [.int (nI u)]) (rest := [.int (bit r9), .ref w]) ⟨hx, hb, hml, hown, hB⟩ (k_A_only l D u) ⟨callB_of 1 hB (xg0 mc_A_only) rfl rfl rfl (hB _ mz_A) (hB _ ml_A_97) (by decide +kernel) ⟨Nat.le_of_ble_eq_true rfl, Nat.le_of_ble_eq_true rfl⟩, hB _ ms_A_only⟩ (xpS (ws := []) (tys := []) (hP.sub [] rfl) (hK.sub [] rfl) hN) rfl rfl hl.1 rfl (lv_room (Nat.le_of_ble_eq_true rfl)) d_A_lastBefore_28 ⟨Nat.le_of_ble_eq_true rfl, Nat.le_of_ble_eq_true rfl⟩) ?_
      refine xr_cal (va_runV (As := [.int (bit r9), .int (bit u)]) (rest := []) ⟨hx, hb, hml, hown, hB⟩ (k_Web_spread l D w hd cA ct h hg (bit r9) (bit u) (m16_bit hr9)) ⟨callB_of 2 hB (xg0 mc_Web_spread) rfl rfl rfl (hB _ mz_Web) (hB _ ml_A_100) (by decide +kernel) ⟨Nat.le_of_ble_eq_true rfl, Nat.le_of_ble_eq_true rfl⟩, hB _ mi_Web_spread, hB _ me_Web_spread⟩ (xpV (ws := [(w, .inr (1, [.ref hd, .int ct])), (hd, .inl (cA, 16, .inl h))]) (tys := [(cA, .int)]) (hP.sub [1, 2] rfl) (hK.sub [0] rfl) hN (va_recv (ci := 1) (q0 := 1) (q := (R_Web, F_Web, 2)) hK hP rfl rfl)) rfl rfl hl.1 rfl (lv_room (Nat.le_of_ble_eq_true rfl)) d_A_lastBefore_31 ⟨Nat.le_of_ble_eq_true rfl, Nat.le_of_ble_eq_true rfl⟩) ?_
      refine lv_iload_n hx hb d_A_lastBefore_34 rfl (lv_at hl 4 rfl) ?_
      refine xr_cal (va_runS (As := [.int (SP h (bit r9) (bit u)), .int (nI v9)]) (rest := []) ⟨hx, hb, hml, hown, hB⟩ (k_A_has l D (SP h (bit r9) (bit u)) v9 (by omega)) ⟨callB_of 2 hB (xg0 mc_A_has) rfl rfl rfl (hB _ mz_A) (hB _ ml_A_104) (by decide +kernel) ⟨Nat.le_of_ble_eq_true rfl, Nat.le_of_ble_eq_true rfl⟩, hB _ ms_A_has⟩ (xpS (ws := []) (tys := []) (hP.sub [] rfl) (hK.sub [] rfl) hN) rfl rfl hl.1 rfl (lv_room (Nat.le_of_ble_eq_true rfl)) d_A_lastBefore_35 ⟨Nat.le_of_ble_eq_true rfl, Nat.le_of_ble_eq_true rfl⟩) ?_
      refine lv_if_ne (tgt := 49) hx hb d_A_lastBefore_38 rfl (fun hc38 => ?_) (fun hc38 => ?_)
      · have hc38 := b2i_n.mp hc38
        have hl : lv_has ls 5 [(4, .int (nI u)), (3, .int (mk (fun d9 => decide (¬ d9 = v9) && !(bt (SP h (bit r9) (bit d9)) v9)) (u + 1))), (0, .ref a), (1, .int (nI r9)), (2, .int (nI v9))] := by
          have hz : (mk (fun d9 => decide (¬ d9 = v9) && !(bt (SP h (bit r9) (bit d9)) v9)) u) = mk (fun d9 => decide (¬ d9 = v9) && !(bt (SP h (bit r9) (bit d9)) v9)) (u + 1) := (if_neg (by (try dsimp only); first | (rw [hc38, Bool.not_true, Bool.and_false]; decide) | (rw [decide_eq_false (fun q9 => q9 hc15)]; simp))).symm
          rw [← hz]; exact hl
        refine lv_iinc hx hb d_A_lastBefore_49 hl (k := 0) rfl (v := nI (u + 1)) (nI_1 u) (by decide) rfl (fun ls hl => ?_)
        have hl : lv_has ls 5 [(4, .int (nI (u + 1))), (3, .int (mk (fun d9 => decide (¬ d9 = v9) && !(bt (SP h (bit r9) (bit d9)) v9)) (u + 1))), (0, .ref a), (1, .int (nI r9)), (2, .int (nI v9))] := hl
        refine lv_goto (tgt := 5) hx hb d_A_lastBefore_52 rfl ?_
        exact ih5 (u + 1) _ ⟨by omega, lv_sub hl [0, 1, 2, 3, 4] rfl⟩ (by omega)
      · have hc38 := b2i_0.mp hc38
        refine lv_iload_n hx hb d_A_lastBefore_41 rfl (lv_at hl 1 rfl) ?_
        refine lv_iload hx hb d_A_lastBefore_42 (lv_at hl 0 rfl) ?_
        refine xr_cal (va_runS (As := [.int (nI u)]) (rest := [.int (mk (fun d9 => decide (¬ d9 = v9) && !(bt (SP h (bit r9) (bit d9)) v9)) u)]) ⟨hx, hb, hml, hown, hB⟩ (k_A_only l D u) ⟨callB_of 1 hB (xg0 mc_A_only) rfl rfl rfl (hB _ mz_A) (hB _ ml_A_97) (by decide +kernel) ⟨Nat.le_of_ble_eq_true rfl, Nat.le_of_ble_eq_true rfl⟩, hB _ ms_A_only⟩ (xpS (ws := []) (tys := []) (hP.sub [] rfl) (hK.sub [] rfl) hN) rfl rfl hl.1 rfl (lv_room (Nat.le_of_ble_eq_true rfl)) d_A_lastBefore_44 ⟨Nat.le_of_ble_eq_true rfl, Nat.le_of_ble_eq_true rfl⟩) ?_
        refine lv_ior hx hb d_A_lastBefore_47 ?_
        refine lv_istore_n hx hb d_A_lastBefore_48 rfl hl (by decide) rfl (fun ls hl => ?_)
        have hl : lv_has ls 5 [(3, .int ((mk (fun d9 => decide (¬ d9 = v9) && !(bt (SP h (bit r9) (bit d9)) v9)) u) ||| (bit u))), (4, .int (nI u)), (0, .ref a), (1, .int (nI r9)), (2, .int (nI v9))] := hl
        have hl : lv_has ls 5 [(3, .int (mk (fun d9 => decide (¬ d9 = v9) && !(bt (SP h (bit r9) (bit d9)) v9)) (u + 1))), (4, .int (nI u)), (0, .ref a), (1, .int (nI r9)), (2, .int (nI v9))] := by
          have hz : ((mk (fun d9 => decide (¬ d9 = v9) && !(bt (SP h (bit r9) (bit d9)) v9)) u) ||| (bit u)) = mk (fun d9 => decide (¬ d9 = v9) && !(bt (SP h (bit r9) (bit d9)) v9)) (u + 1) := (if_pos (by (try dsimp only); rw [decide_eq_true hc15, hc38]; rfl)).symm
          rw [← hz]; exact hl
        refine lv_iinc hx hb d_A_lastBefore_49 hl (k := 1) rfl (v := nI (u + 1)) (nI_1 u) (by decide) rfl (fun ls hl => ?_)
        have hl : lv_has ls 5 [(4, .int (nI (u + 1))), (3, .int (mk (fun d9 => decide (¬ d9 = v9) && !(bt (SP h (bit r9) (bit d9)) v9)) (u + 1))), (0, .ref a), (1, .int (nI r9)), (2, .int (nI v9))] := hl
        refine lv_goto (tgt := 5) hx hb d_A_lastBefore_52 rfl ?_
        exact ih5 (u + 1) _ ⟨by omega, lv_sub hl [0, 1, 2, 3, 4] rfl⟩ (by omega)
set_option maxHeartbeats 4000000 in
set_option maxRecDepth 100000 in
theorem k_A_neededArrows (l : Launch) (D : va_G) (a w g yw f : Nat) (hd : Nat) (cA : ClassId) (ct : Int32) (h : Nat → Int32) (hg : gd h) : Met l y_A_neededArrows (Cond.code y_A_neededArrows c_A_neededArrows 4 (some .int) :: BS) { frames := 4, cells := 0, slots := 0, locals := 91 } (va_Pc [.ref a] (xR D [(a, .inr (0, [.ref w, .ref g, .ref yw, .ref f])), (w, .inr (1, [.ref hd, .int ct])), (hd, .inl (cA, 16, .inl h))] [(cA, .int)])) (QcRead (nI (sq (fun a9 => cq ((fun u v => bt (h u) v && !(bt (SP h (h u &&& (bit v ^^^ (-1))) (bit u)) v)) a9) 16) 16))) 0 0 (fun _ => False) := by
  refine Met.ofW (cc := c_A_neededArrows) (maxL := 4) (ret := (some .int)) (by decide) rfl ?_
  intro p e s m args below meth c s₁ B hml hv
  obtain ⟨rfl, hP, hK, hN⟩ := hv
  have hx := B.exec
  have hb := B.bytes
  have hr := B.returns
  have hB := xB B.pre
  have hown : s.vm.findClass R_A = some m.cls := findClass_of_methodNamed B.named
  have hlocks := B.notSynchronized
  have hl := lv_entry ([.ref a]) (n := 4) (Nat.le_of_ble_eq_true rfl)
  rw [lg_entry_eq]
  generalize (lg_sl ([.ref a]) ++ List.replicate (4 - (lg_sl ([.ref a])).length) Slot.unset).toArray = ls at hl ⊢
  have hl : lv_has ls 4 [(0, .ref a)] := hl
  refine lv_iconst (v := nI 0) hx hb d_A_neededArrows_0 (by decide) ?_
  refine lv_istore_n hx hb d_A_neededArrows_1 rfl hl (by decide) rfl (fun ls hl => ?_)
  have hl : lv_has ls 4 [(1, .int (nI 0)), (0, .ref a)] := hl
  refine lv_iconst (v := nI 0) hx hb d_A_neededArrows_2 (by decide) ?_
  refine lv_istore_n hx hb d_A_neededArrows_3 rfl hl (by decide) rfl (fun ls hl => ?_)
  have hl : lv_has ls 4 [(2, .int (nI 0)), (1, .int (nI 0)), (0, .ref a)] := hl
  refine xl_r (fun (u : Nat) ls => (u ≤ 16) ∧ lv_has ls 4 [(2, .int (nI u)), (1, .int (nI (sq (fun a9 => cq ((fun u v => bt (h u) v && !(bt (SP h (h u &&& (bit v ^^^ (-1))) (bit u)) v)) a9) 16) u))), (0, .ref a)]) (fun u => 16 - u) (fun u ls hI ih4 => ?_) 0 _ ⟨Nat.zero_le _, hl⟩
  obtain ⟨hI, hl⟩ := hI
  have hu_u := hI
  refine lv_iload_n hx hb d_A_neededArrows_4 rfl (lv_at hl 0 rfl) ?_
  refine lv_bipush (v := nI 16) hx hb d_A_neededArrows_5 (by decide) ?_
  refine lv_icmp_ge (tgt := 54) hx hb d_A_neededArrows_7 rfl (fun hc7 => ?_) (fun hc7 => ?_)
  · have hc7 : 16 ≤ u := (nI_leI (by omega) (by omega)).mp hc7
    refine lv_iload_n hx hb d_A_neededArrows_54 rfl (lv_at hl 1 rfl) ?_
    refine xv_top (x' := nI (sq (fun a9 => cq ((fun u v => bt (h u) v && !(bt (SP h (h u &&& (bit v ^^^ (-1))) (bit u)) v)) a9) 16) 16)) (by rw [show u = 16 by omega]) ?_
    exact W.iret (v := nI (sq (fun a9 => cq ((fun u v => bt (h u) v && !(bt (SP h (h u &&& (bit v ^^^ (-1))) (bit u)) v)) a9) 16) 16)) hx hb hr (fun t ht hW => ⟨rfl, ht⟩) (fun _ h => by cases h) d_A_neededArrows_55
  · have hc7 : ¬ (16 ≤ u) := fun q9 => hc7 ((nI_leI (by omega) (by omega)).mpr q9)
    refine lv_iconst (v := nI 0) hx hb d_A_neededArrows_10 (by decide) ?_
    refine lv_istore_n hx hb d_A_neededArrows_11 rfl hl (by decide) rfl (fun ls hl => ?_)
    have hl : lv_has ls 4 [(3, .int (nI 0)), (2, .int (nI u)), (1, .int (nI (sq (fun a9 => cq ((fun u v => bt (h u) v && !(bt (SP h (h u &&& (bit v ^^^ (-1))) (bit u)) v)) a9) 16) u))), (0, .ref a)] := hl
    refine xl_r (fun (v : Nat) ls => (v ≤ 16) ∧ lv_has ls 4 [(3, .int (nI v)), (2, .int (nI u)), (1, .int (nI (sq (fun a9 => cq ((fun u v => bt (h u) v && !(bt (SP h (h u &&& (bit v ^^^ (-1))) (bit u)) v)) a9) 16) u + cq ((fun u v => bt (h u) v && !(bt (SP h (h u &&& (bit v ^^^ (-1))) (bit u)) v)) u) v))), (0, .ref a)]) (fun v => 16 - v) (fun v ls hI ih12 => ?_) 0 _ ⟨Nat.zero_le _, hl⟩
    obtain ⟨hI, hl⟩ := hI
    have hu_v := hI
    refine lv_iload_n hx hb d_A_neededArrows_12 rfl (lv_at hl 0 rfl) ?_
    refine lv_bipush (v := nI 16) hx hb d_A_neededArrows_13 (by decide) ?_
    refine lv_icmp_ge (tgt := 48) hx hb d_A_neededArrows_15 rfl (fun hc15 => ?_) (fun hc15 => ?_)
    · have hc15 : 16 ≤ v := (nI_leI (by omega) (by omega)).mp hc15
      have hl : lv_has ls 4 [(3, .int (nI v)), (2, .int (nI u)), (1, .int (nI (sq (fun a9 => cq ((fun u v => bt (h u) v && !(bt (SP h (h u &&& (bit v ^^^ (-1))) (bit u)) v)) a9) 16) (u + 1)))), (0, .ref a)] := by
        have hz : (nI (sq (fun a9 => cq ((fun u v => bt (h u) v && !(bt (SP h (h u &&& (bit v ^^^ (-1))) (bit u)) v)) a9) 16) u + cq ((fun u v => bt (h u) v && !(bt (SP h (h u &&& (bit v ^^^ (-1))) (bit u)) v)) u) v)) = nI (sq (fun a9 => cq ((fun u v => bt (h u) v && !(bt (SP h (h u &&& (bit v ^^^ (-1))) (bit u)) v)) a9) 16) (u + 1)) := by rw [show v = 16 by omega]; rfl
        rw [← hz]; exact hl
      refine lv_iinc hx hb d_A_neededArrows_48 hl (k := 1) rfl (v := nI (u + 1)) (nI_1 u) (by decide) rfl (fun ls hl => ?_)
      have hl : lv_has ls 4 [(2, .int (nI (u + 1))), (3, .int (nI v)), (1, .int (nI (sq (fun a9 => cq ((fun u v => bt (h u) v && !(bt (SP h (h u &&& (bit v ^^^ (-1))) (bit u)) v)) a9) 16) (u + 1)))), (0, .ref a)] := hl
      refine lv_goto (tgt := 4) hx hb d_A_neededArrows_51 rfl ?_
      exact ih4 (u + 1) _ ⟨by omega, lv_sub hl [0, 2, 3] rfl⟩ (by omega)
    · have hc15 : ¬ (16 ≤ v) := fun q9 => hc15 ((nI_leI (by omega) (by omega)).mpr q9)
      refine lv_aload_n hx hb d_A_neededArrows_18 rfl (lv_at hl 3 rfl) ?_
      refine va_get (D := D) (ci := 0) (v := .ref w) (C := R_A) (T := F_A) (N := 4) hx hb hB in_A hown hK hP 0 rfl rfl 0 (by decide) (hB _ mf_A_10) (fun _ h9 => h9) rfl d_A_neededArrows_19 ?_
      refine lv_iload_n hx hb d_A_neededArrows_22 rfl (lv_at hl 1 rfl) ?_
      refine lv_iload_n hx hb d_A_neededArrows_23 rfl (lv_at hl 0 rfl) ?_
      refine xr_cal (va_runV (As := [.int (nI u), .int (nI v)]) (rest := []) ⟨hx, hb, hml, hown, hB⟩ (k_Web_holds l D w hd cA ct h u v (by omega) (by omega)) ⟨callB_of 2 hB (xg0 mc_Web_holds) rfl rfl rfl (hB _ mz_Web) (hB _ ml_A_48) (by decide +kernel) ⟨Nat.le_of_ble_eq_true rfl, Nat.le_of_ble_eq_true rfl⟩, hB _ mi_Web_holds, hB _ me_Web_holds⟩ (xpV (ws := [(w, .inr (1, [.ref hd, .int ct])), (hd, .inl (cA, 16, .inl h))]) (tys := [(cA, .int)]) (hP.sub [1, 2] rfl) (hK.sub [0] rfl) hN (va_recv (ci := 1) (q0 := 1) (q := (R_Web, F_Web, 2)) hK hP rfl rfl)) rfl rfl hl.1 rfl (lv_room (Nat.le_of_ble_eq_true rfl)) d_A_neededArrows_24 ⟨Nat.le_of_ble_eq_true rfl, Nat.le_of_ble_eq_true rfl⟩) ?_
      refine lv_if_eq (tgt := 42) hx hb d_A_neededArrows_27 rfl (fun hc27 => ?_) (fun hc27 => ?_)
      · have hc27 := b2i_0.mp hc27
        have hl : lv_has ls 4 [(3, .int (nI v)), (2, .int (nI u)), (1, .int (nI (sq (fun a9 => cq ((fun u v => bt (h u) v && !(bt (SP h (h u &&& (bit v ^^^ (-1))) (bit u)) v)) a9) 16) u + cq ((fun u v => bt (h u) v && !(bt (SP h (h u &&& (bit v ^^^ (-1))) (bit u)) v)) u) (v + 1)))), (0, .ref a)] := by
          have hz : (nI (sq (fun a9 => cq ((fun u v => bt (h u) v && !(bt (SP h (h u &&& (bit v ^^^ (-1))) (bit u)) v)) a9) 16) u + cq ((fun u v => bt (h u) v && !(bt (SP h (h u &&& (bit v ^^^ (-1))) (bit u)) v)) u) v)) = nI (sq (fun a9 => cq ((fun u v => bt (h u) v && !(bt (SP h (h u &&& (bit v ^^^ (-1))) (bit u)) v)) a9) 16) u + cq ((fun u v => bt (h u) v && !(bt (SP h (h u &&& (bit v ^^^ (-1))) (bit u)) v)) u) (v + 1)) := by rw [cq_f (p := (fun u v => bt (h u) v && !(bt (SP h (h u &&& (bit v ^^^ (-1))) (bit u)) v)) u) (k := v) (by (try dsimp only); first | (rw [hc36, Bool.not_true, Bool.and_false]; done) | (rw [hc27]; rfl))]
          rw [← hz]; exact hl
        refine lv_iinc hx hb d_A_neededArrows_42 hl (k := 0) rfl (v := nI (v + 1)) (nI_1 v) (by decide) rfl (fun ls hl => ?_)
        have hl : lv_has ls 4 [(3, .int (nI (v + 1))), (2, .int (nI u)), (1, .int (nI (sq (fun a9 => cq ((fun u v => bt (h u) v && !(bt (SP h (h u &&& (bit v ^^^ (-1))) (bit u)) v)) a9) 16) u + cq ((fun u v => bt (h u) v && !(bt (SP h (h u &&& (bit v ^^^ (-1))) (bit u)) v)) u) (v + 1)))), (0, .ref a)] := hl
        refine lv_goto (tgt := 12) hx hb d_A_neededArrows_45 rfl ?_
        exact ih12 (v + 1) _ ⟨by omega, lv_sub hl [0, 1, 2, 3] rfl⟩ (by omega)
      · have hc27 := b2i_n.mp hc27
        refine lv_aload_n hx hb d_A_neededArrows_30 rfl (lv_at hl 3 rfl) ?_
        refine lv_iload_n hx hb d_A_neededArrows_31 rfl (lv_at hl 1 rfl) ?_
        refine lv_iload_n hx hb d_A_neededArrows_32 rfl (lv_at hl 0 rfl) ?_
        refine xr_cal (va_runV (As := [.int (nI u), .int (nI v)]) (rest := []) ⟨hx, hb, hml, hown, hB⟩ (k_A_hasDetour l D a w g yw f hd cA ct h hg u v (by omega) (by omega)) ⟨callB_of 2 hB (xg0 mc_A_hasDetour) rfl rfl rfl (hB _ mz_A) (hB _ ml_A_165) (by decide +kernel) ⟨Nat.le_of_ble_eq_true rfl, Nat.le_of_ble_eq_true rfl⟩, hB _ mi_A_hasDetour, hB _ me_A_hasDetour⟩ (xpV (ws := [(a, .inr (0, [.ref w, .ref g, .ref yw, .ref f])), (w, .inr (1, [.ref hd, .int ct])), (hd, .inl (cA, 16, .inl h))]) (tys := [(cA, .int)]) (hP.sub [0, 1, 2] rfl) (hK.sub [0] rfl) hN (va_recv (ci := 0) (q0 := 0) (q := (R_A, F_A, 4)) hK hP rfl rfl)) rfl rfl hl.1 rfl (lv_room (Nat.le_of_ble_eq_true rfl)) d_A_neededArrows_33 ⟨Nat.le_of_ble_eq_true rfl, Nat.le_of_ble_eq_true rfl⟩) ?_
        refine lv_if_ne (tgt := 42) hx hb d_A_neededArrows_36 rfl (fun hc36 => ?_) (fun hc36 => ?_)
        · have hc36 := b2i_n.mp hc36
          have hl : lv_has ls 4 [(3, .int (nI v)), (2, .int (nI u)), (1, .int (nI (sq (fun a9 => cq ((fun u v => bt (h u) v && !(bt (SP h (h u &&& (bit v ^^^ (-1))) (bit u)) v)) a9) 16) u + cq ((fun u v => bt (h u) v && !(bt (SP h (h u &&& (bit v ^^^ (-1))) (bit u)) v)) u) (v + 1)))), (0, .ref a)] := by
            have hz : (nI (sq (fun a9 => cq ((fun u v => bt (h u) v && !(bt (SP h (h u &&& (bit v ^^^ (-1))) (bit u)) v)) a9) 16) u + cq ((fun u v => bt (h u) v && !(bt (SP h (h u &&& (bit v ^^^ (-1))) (bit u)) v)) u) v)) = nI (sq (fun a9 => cq ((fun u v => bt (h u) v && !(bt (SP h (h u &&& (bit v ^^^ (-1))) (bit u)) v)) a9) 16) u + cq ((fun u v => bt (h u) v && !(bt (SP h (h u &&& (bit v ^^^ (-1))) (bit u)) v)) u) (v + 1)) := by rw [cq_f (p := (fun u v => bt (h u) v && !(bt (SP h (h u &&& (bit v ^^^ (-1))) (bit u)) v)) u) (k := v) (by (try dsimp only); first | (rw [hc36, Bool.not_true, Bool.and_false]; done) | (rw [hc27]; rfl))]
            rw [← hz]; exact hl
          refine lv_iinc hx hb d_A_neededArrows_42 hl (k := 0) rfl (v := nI (v + 1)) (nI_1 v) (by decide) rfl (fun ls hl => ?_)
          have hl : lv_has ls 4 [(3, .int (nI (v + 1))), (2, .int (nI u)), (1, .int (nI (sq (fun a9 => cq ((fun u v => bt (h u) v && !(bt (SP h (h u &&& (bit v ^^^ (-1))) (bit u)) v)) a9) 16) u + cq ((fun u v => bt (h u) v && !(bt (SP h (h u &&& (bit v ^^^ (-1))) (bit u)) v)) u) (v + 1)))), (0, .ref a)] := hl
          refine lv_goto (tgt := 12) hx hb d_A_neededArrows_45 rfl ?_
          exact ih12 (v + 1) _ ⟨by omega, lv_sub hl [0, 1, 2, 3] rfl⟩ (by omega)
        · have hc36 := b2i_0.mp hc36
          refine lv_iinc hx hb d_A_neededArrows_39 hl (k := 2) rfl (v := nI ((sq (fun a9 => cq ((fun u v => bt (h u) v && !(bt (SP h (h u &&& (bit v ^^^ (-1))) (bit u)) v)) a9) 16) u + cq ((fun u v => bt (h u) v && !(bt (SP h (h u &&& (bit v ^^^ (-1))) (bit u)) v)) u) v) + 1)) (nI_1 (sq (fun a9 => cq ((fun u v => bt (h u) v && !(bt (SP h (h u &&& (bit v ^^^ (-1))) (bit u)) v)) a9) 16) u + cq ((fun u v => bt (h u) v && !(bt (SP h (h u &&& (bit v ^^^ (-1))) (bit u)) v)) u) v)) (by decide) rfl (fun ls hl => ?_)
          have hl : lv_has ls 4 [(1, .int (nI ((sq (fun a9 => cq ((fun u v => bt (h u) v && !(bt (SP h (h u &&& (bit v ^^^ (-1))) (bit u)) v)) a9) 16) u + cq ((fun u v => bt (h u) v && !(bt (SP h (h u &&& (bit v ^^^ (-1))) (bit u)) v)) u) v) + 1))), (3, .int (nI v)), (2, .int (nI u)), (0, .ref a)] := hl
          have hl : lv_has ls 4 [(1, .int (nI (sq (fun a9 => cq ((fun u v => bt (h u) v && !(bt (SP h (h u &&& (bit v ^^^ (-1))) (bit u)) v)) a9) 16) u + cq ((fun u v => bt (h u) v && !(bt (SP h (h u &&& (bit v ^^^ (-1))) (bit u)) v)) u) (v + 1)))), (3, .int (nI v)), (2, .int (nI u)), (0, .ref a)] := by
            have hz : (nI ((sq (fun a9 => cq ((fun u v => bt (h u) v && !(bt (SP h (h u &&& (bit v ^^^ (-1))) (bit u)) v)) a9) 16) u + cq ((fun u v => bt (h u) v && !(bt (SP h (h u &&& (bit v ^^^ (-1))) (bit u)) v)) u) v) + 1)) = nI (sq (fun a9 => cq ((fun u v => bt (h u) v && !(bt (SP h (h u &&& (bit v ^^^ (-1))) (bit u)) v)) a9) 16) u + cq ((fun u v => bt (h u) v && !(bt (SP h (h u &&& (bit v ^^^ (-1))) (bit u)) v)) u) (v + 1)) := by rw [cq_t (p := (fun u v => bt (h u) v && !(bt (SP h (h u &&& (bit v ^^^ (-1))) (bit u)) v)) u) (k := v) (by (try dsimp only); rw [hc27, hc36]; rfl)]; rfl
            rw [← hz]; exact hl
          refine lv_iinc hx hb d_A_neededArrows_42 hl (k := 1) rfl (v := nI (v + 1)) (nI_1 v) (by decide) rfl (fun ls hl => ?_)
          have hl : lv_has ls 4 [(3, .int (nI (v + 1))), (1, .int (nI (sq (fun a9 => cq ((fun u v => bt (h u) v && !(bt (SP h (h u &&& (bit v ^^^ (-1))) (bit u)) v)) a9) 16) u + cq ((fun u v => bt (h u) v && !(bt (SP h (h u &&& (bit v ^^^ (-1))) (bit u)) v)) u) (v + 1)))), (2, .int (nI u)), (0, .ref a)] := hl
          refine lv_goto (tgt := 12) hx hb d_A_neededArrows_45 rfl ?_
          exact ih12 (v + 1) _ ⟨by omega, lv_sub hl [0, 2, 1, 3] rfl⟩ (by omega)
set_option maxHeartbeats 4000000 in
set_option maxRecDepth 100000 in
theorem k_Fl_exitOf (l : Launch) (D : va_G) (n : Nat) : Met l y_Fl_exitOf (Cond.code y_Fl_exitOf c_Fl_exitOf 1 (some .int) :: BS) { frames := 0, cells := 0, slots := 0, locals := 0 } (va_Pc [.int (nI n)] (xR D [] [])) (QcRead (nI (n + 16))) 0 0 (fun _ => False) := by
  refine Met.ofW (cc := c_Fl_exitOf) (maxL := 1) (ret := (some .int)) (by decide) rfl ?_
  intro p e s m args below meth c s₁ B hml hv
  obtain ⟨rfl, hP, hK, hN⟩ := hv
  have hx := B.exec
  have hb := B.bytes
  have hr := B.returns
  have hB := xB B.pre
  have hown : s.vm.findClass R_Fl = some m.cls := findClass_of_methodNamed B.named
  have hlocks := B.notSynchronized
  have hl := lv_entry ([.int (nI n)]) (n := 1) (Nat.le_of_ble_eq_true rfl)
  rw [lg_entry_eq]
  generalize (lg_sl ([.int (nI n)]) ++ List.replicate (1 - (lg_sl ([.int (nI n)])).length) Slot.unset).toArray = ls at hl ⊢
  have hl : lv_has ls 1 [(0, .int (nI n))] := hl
  refine lv_iload_n hx hb d_Fl_exitOf_0 rfl (lv_at hl 0 rfl) ?_
  refine lv_bipush (v := nI 16) hx hb d_Fl_exitOf_1 (by decide) ?_
  refine lv_iadd hx hb d_Fl_exitOf_3 ?_
  refine xv_top (x' := nI (n + 16)) (nI_add n 16) ?_
  exact W.iret (v := nI (n + 16)) hx hb hr (fun t ht hW => ⟨rfl, ht⟩) (fun _ h => by cases h) d_Fl_exitOf_4
