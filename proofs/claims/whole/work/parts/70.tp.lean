set_option maxHeartbeats 4000000 in
set_option maxRecDepth 100000 in
theorem t_A_group (l : Launch) (hlt : l.stackTraces = false) (a : Nat) (x : Int32) (hb9 : isP x = false) (sz : Nat) : vx_Met l y_A_group (Cond.code y_A_group c_A_group 2 (some .int) :: BS) { frames := 7, cells := 1, slots := 6, locals := 120 } (va_Pc [.ref a, .int x] (xTe sz)) (fun _ _ _ _ => False) (xXf eIA sz) 1 6 (fun q => sz ≤ q) := by
  refine vx_ofW (cc := c_A_group) (maxL := 2) (ret := (some .int)) (by decide) rfl ?_
  intro p e s m args below meth c s₁ B hml hnt hv
  obtain ⟨rfl, hsz, hz, hsr, hat⟩ := hv
  have hx := B.exec
  have hb := B.bytes
  have hB := xB B.pre
  have hown : s.vm.findClass R_A = some m.cls := findClass_of_methodNamed B.named
  have hlocks := B.notSynchronized
  subst hsz
  have hS : va_S (fun q => s.heap.size ≤ q) s.heap s.heap [] := va_S.rf
  have hl := lv_entry ([.ref a, .int x]) (n := 2) (Nat.le_of_ble_eq_true rfl)
  rw [lg_entry_eq]
  generalize (lg_sl ([.ref a, .int x]) ++ List.replicate (2 - (lg_sl ([.ref a, .int x])).length) Slot.unset).toArray = ls at hl ⊢
  have hl : lv_has ls 2 [(0, .ref a), (1, .int x)] := hl
  refine lv_iload_n hx hb d_A_group_0 rfl (lv_at hl 1 rfl) ?_
  refine xt_call (vx_runS (As := [.int x]) (rest := []) ⟨hx, hb, hml, hown, hB⟩ (t_A_requirePlace l hlt x hb9 s.heap.size) (xcS (n := 1) hB mc_A_requirePlace mz_A ml_A_70 ms_A_requirePlace rfl rfl (by decide +kernel) ⟨Nat.le_of_ble_eq_true rfl, Nat.le_of_ble_eq_true rfl⟩) (xTe_preS hz (fun q h => h) hS hsr hat) rfl rfl hl.1 rfl (lv_room (Nat.le_of_ble_eq_true rfl)) d_A_group_1 ⟨Nat.le_of_ble_eq_true rfl, Nat.le_of_ble_eq_true rfl⟩) hS (fun q h => h) (fun q h => h) (fun ce q9 H1 locs1 h1 h2 hS1 hce hcv hcl => ?_)
  exact vx_out (fun x hx => (hnt x hx).elim) hlocks hce hcv hcl (fun t ht _ => ⟨(), trivial, rfl, by rw [ht]; exact h1, fun q hq _ => by rw [ht]; exact h2 q hq⟩) hS1.2.2 (Nat.le_refl _) (Nat.le_refl _)
set_option maxHeartbeats 4000000 in
set_option maxRecDepth 100000 in
theorem t_A_members (l : Launch) (hlt : l.stackTraces = false) (a : Nat) (x : Int32) (hb9 : isP x = false) (sz : Nat) : vx_Met l y_A_members (Cond.code y_A_members c_A_members 2 (some .int) :: BS) { frames := 7, cells := 1, slots := 6, locals := 120 } (va_Pc [.ref a, .int x] (xTe sz)) (fun _ _ _ _ => False) (xXf eIA sz) 1 6 (fun q => sz ≤ q) := by
  refine vx_ofW (cc := c_A_members) (maxL := 2) (ret := (some .int)) (by decide) rfl ?_
  intro p e s m args below meth c s₁ B hml hnt hv
  obtain ⟨rfl, hsz, hz, hsr, hat⟩ := hv
  have hx := B.exec
  have hb := B.bytes
  have hB := xB B.pre
  have hown : s.vm.findClass R_A = some m.cls := findClass_of_methodNamed B.named
  have hlocks := B.notSynchronized
  subst hsz
  have hS : va_S (fun q => s.heap.size ≤ q) s.heap s.heap [] := va_S.rf
  have hl := lv_entry ([.ref a, .int x]) (n := 2) (Nat.le_of_ble_eq_true rfl)
  rw [lg_entry_eq]
  generalize (lg_sl ([.ref a, .int x]) ++ List.replicate (2 - (lg_sl ([.ref a, .int x])).length) Slot.unset).toArray = ls at hl ⊢
  have hl : lv_has ls 2 [(0, .ref a), (1, .int x)] := hl
  refine lv_iload_n hx hb d_A_members_0 rfl (lv_at hl 1 rfl) ?_
  refine xt_call (vx_runS (As := [.int x]) (rest := []) ⟨hx, hb, hml, hown, hB⟩ (t_A_requirePlace l hlt x hb9 s.heap.size) (xcS (n := 1) hB mc_A_requirePlace mz_A ml_A_70 ms_A_requirePlace rfl rfl (by decide +kernel) ⟨Nat.le_of_ble_eq_true rfl, Nat.le_of_ble_eq_true rfl⟩) (xTe_preS hz (fun q h => h) hS hsr hat) rfl rfl hl.1 rfl (lv_room (Nat.le_of_ble_eq_true rfl)) d_A_members_1 ⟨Nat.le_of_ble_eq_true rfl, Nat.le_of_ble_eq_true rfl⟩) hS (fun q h => h) (fun q h => h) (fun ce q9 H1 locs1 h1 h2 hS1 hce hcv hcl => ?_)
  exact vx_out (fun x hx => (hnt x hx).elim) hlocks hce hcv hcl (fun t ht _ => ⟨(), trivial, rfl, by rw [ht]; exact h1, fun q hq _ => by rw [ht]; exact h2 q hq⟩) hS1.2.2 (Nat.le_refl _) (Nat.le_refl _)
set_option maxHeartbeats 4000000 in
set_option maxRecDepth 100000 in
theorem t_A_rank (l : Launch) (hlt : l.stackTraces = false) (a : Nat) (x : Int32) (hb9 : isP x = false) (sz : Nat) : vx_Met l y_A_rank (Cond.code y_A_rank c_A_rank 2 (some .int) :: BS) { frames := 7, cells := 1, slots := 6, locals := 120 } (va_Pc [.ref a, .int x] (xTe sz)) (fun _ _ _ _ => False) (xXf eIA sz) 1 6 (fun q => sz ≤ q) := by
  refine vx_ofW (cc := c_A_rank) (maxL := 2) (ret := (some .int)) (by decide) rfl ?_
  intro p e s m args below meth c s₁ B hml hnt hv
  obtain ⟨rfl, hsz, hz, hsr, hat⟩ := hv
  have hx := B.exec
  have hb := B.bytes
  have hB := xB B.pre
  have hown : s.vm.findClass R_A = some m.cls := findClass_of_methodNamed B.named
  have hlocks := B.notSynchronized
  subst hsz
  have hS : va_S (fun q => s.heap.size ≤ q) s.heap s.heap [] := va_S.rf
  have hl := lv_entry ([.ref a, .int x]) (n := 2) (Nat.le_of_ble_eq_true rfl)
  rw [lg_entry_eq]
  generalize (lg_sl ([.ref a, .int x]) ++ List.replicate (2 - (lg_sl ([.ref a, .int x])).length) Slot.unset).toArray = ls at hl ⊢
  have hl : lv_has ls 2 [(0, .ref a), (1, .int x)] := hl
  refine lv_iload_n hx hb d_A_rank_0 rfl (lv_at hl 1 rfl) ?_
  refine xt_call (vx_runS (As := [.int x]) (rest := []) ⟨hx, hb, hml, hown, hB⟩ (t_A_requirePlace l hlt x hb9 s.heap.size) (xcS (n := 1) hB mc_A_requirePlace mz_A ml_A_70 ms_A_requirePlace rfl rfl (by decide +kernel) ⟨Nat.le_of_ble_eq_true rfl, Nat.le_of_ble_eq_true rfl⟩) (xTe_preS hz (fun q h => h) hS hsr hat) rfl rfl hl.1 rfl (lv_room (Nat.le_of_ble_eq_true rfl)) d_A_rank_1 ⟨Nat.le_of_ble_eq_true rfl, Nat.le_of_ble_eq_true rfl⟩) hS (fun q h => h) (fun q h => h) (fun ce q9 H1 locs1 h1 h2 hS1 hce hcv hcl => ?_)
  exact vx_out (fun x hx => (hnt x hx).elim) hlocks hce hcv hcl (fun t ht _ => ⟨(), trivial, rfl, by rw [ht]; exact h1, fun q hq _ => by rw [ht]; exact h2 q hq⟩) hS1.2.2 (Nat.le_refl _) (Nat.le_refl _)
set_option maxHeartbeats 4000000 in
set_option maxRecDepth 100000 in
theorem t_A_add (l : Launch) (hlt : l.stackTraces = false) (a : Nat) (x y : Int32) (hb9 : (isP x && isP y) = false) (sz : Nat) : vx_Met l y_A_add (Cond.code y_A_add c_A_add 3 (some .boolean) :: BS) { frames := 8, cells := 1, slots := 6, locals := 141 } (va_Pc [.ref a, .int x, .int y] (xTe sz)) (fun _ _ _ _ => False) (xXf eIA sz) 1 6 (fun q => sz ≤ q) := by
  refine vx_ofW (cc := c_A_add) (maxL := 3) (ret := (some .boolean)) (by decide) rfl ?_
  intro p e s m args below meth c s₁ B hml hnt hv
  obtain ⟨rfl, hsz, hz, hsr, hat⟩ := hv
  have hx := B.exec
  have hb := B.bytes
  have hB := xB B.pre
  have hown : s.vm.findClass R_A = some m.cls := findClass_of_methodNamed B.named
  have hlocks := B.notSynchronized
  subst hsz
  have hS : va_S (fun q => s.heap.size ≤ q) s.heap s.heap [] := va_S.rf
  have hl := lv_entry ([.ref a, .int x, .int y]) (n := 3) (Nat.le_of_ble_eq_true rfl)
  rw [lg_entry_eq]
  generalize (lg_sl ([.ref a, .int x, .int y]) ++ List.replicate (3 - (lg_sl ([.ref a, .int x, .int y])).length) Slot.unset).toArray = ls at hl ⊢
  have hl : lv_has ls 3 [(0, .ref a), (1, .int x), (2, .int y)] := hl
  refine lv_iload_n hx hb d_A_add_0 rfl (lv_at hl 1 rfl) ?_
  refine lv_iload_n hx hb d_A_add_1 rfl (lv_at hl 2 rfl) ?_
  refine xt_call (vx_runS (As := [.int x, .int y]) (rest := []) ⟨hx, hb, hml, hown, hB⟩ (t_A_requirePlaces l hlt x y hb9 s.heap.size) (xcS (n := 2) hB mc_A_requirePlaces mz_A ml_A_37 ms_A_requirePlaces rfl rfl (by decide +kernel) ⟨Nat.le_of_ble_eq_true rfl, Nat.le_of_ble_eq_true rfl⟩) (xTe_preS hz (fun q h => h) hS hsr hat) rfl rfl hl.1 rfl (lv_room (Nat.le_of_ble_eq_true rfl)) d_A_add_2 ⟨Nat.le_of_ble_eq_true rfl, Nat.le_of_ble_eq_true rfl⟩) hS (fun q h => h) (fun q h => h) (fun ce q9 H1 locs1 h1 h2 hS1 hce hcv hcl => ?_)
  exact vx_out (fun x hx => (hnt x hx).elim) hlocks hce hcv hcl (fun t ht _ => ⟨(), trivial, rfl, by rw [ht]; exact h1, fun q hq _ => by rw [ht]; exact h2 q hq⟩) hS1.2.2 (Nat.le_refl _) (Nat.le_refl _)
set_option maxHeartbeats 4000000 in
set_option maxRecDepth 100000 in
theorem t_A_remove (l : Launch) (hlt : l.stackTraces = false) (a : Nat) (x y : Int32) (hb9 : (isP x && isP y) = false) (sz : Nat) : vx_Met l y_A_remove (Cond.code y_A_remove c_A_remove 3 (some .boolean) :: BS) { frames := 8, cells := 1, slots := 6, locals := 141 } (va_Pc [.ref a, .int x, .int y] (xTe sz)) (fun _ _ _ _ => False) (xXf eIA sz) 1 6 (fun q => sz ≤ q) := by
  refine vx_ofW (cc := c_A_remove) (maxL := 3) (ret := (some .boolean)) (by decide) rfl ?_
  intro p e s m args below meth c s₁ B hml hnt hv
  obtain ⟨rfl, hsz, hz, hsr, hat⟩ := hv
  have hx := B.exec
  have hb := B.bytes
  have hB := xB B.pre
  have hown : s.vm.findClass R_A = some m.cls := findClass_of_methodNamed B.named
  have hlocks := B.notSynchronized
  subst hsz
  have hS : va_S (fun q => s.heap.size ≤ q) s.heap s.heap [] := va_S.rf
  have hl := lv_entry ([.ref a, .int x, .int y]) (n := 3) (Nat.le_of_ble_eq_true rfl)
  rw [lg_entry_eq]
  generalize (lg_sl ([.ref a, .int x, .int y]) ++ List.replicate (3 - (lg_sl ([.ref a, .int x, .int y])).length) Slot.unset).toArray = ls at hl ⊢
  have hl : lv_has ls 3 [(0, .ref a), (1, .int x), (2, .int y)] := hl
  refine lv_iload_n hx hb d_A_remove_0 rfl (lv_at hl 1 rfl) ?_
  refine lv_iload_n hx hb d_A_remove_1 rfl (lv_at hl 2 rfl) ?_
  refine xt_call (vx_runS (As := [.int x, .int y]) (rest := []) ⟨hx, hb, hml, hown, hB⟩ (t_A_requirePlaces l hlt x y hb9 s.heap.size) (xcS (n := 2) hB mc_A_requirePlaces mz_A ml_A_37 ms_A_requirePlaces rfl rfl (by decide +kernel) ⟨Nat.le_of_ble_eq_true rfl, Nat.le_of_ble_eq_true rfl⟩) (xTe_preS hz (fun q h => h) hS hsr hat) rfl rfl hl.1 rfl (lv_room (Nat.le_of_ble_eq_true rfl)) d_A_remove_2 ⟨Nat.le_of_ble_eq_true rfl, Nat.le_of_ble_eq_true rfl⟩) hS (fun q h => h) (fun q h => h) (fun ce q9 H1 locs1 h1 h2 hS1 hce hcv hcl => ?_)
  exact vx_out (fun x hx => (hnt x hx).elim) hlocks hce hcv hcl (fun t ht _ => ⟨(), trivial, rfl, by rw [ht]; exact h1, fun q hq _ => by rw [ht]; exact h2 q hq⟩) hS1.2.2 (Nat.le_refl _) (Nat.le_refl _)
set_option maxHeartbeats 4000000 in
set_option maxRecDepth 100000 in
theorem t_A_reaches (l : Launch) (hlt : l.stackTraces = false) (a : Nat) (x y : Int32) (hb9 : (isP x && isP y) = false) (sz : Nat) : vx_Met l y_A_reaches (Cond.code y_A_reaches c_A_reaches 3 (some .boolean) :: BS) { frames := 8, cells := 1, slots := 6, locals := 141 } (va_Pc [.ref a, .int x, .int y] (xTe sz)) (fun _ _ _ _ => False) (xXf eIA sz) 1 6 (fun q => sz ≤ q) := by
  refine vx_ofW (cc := c_A_reaches) (maxL := 3) (ret := (some .boolean)) (by decide) rfl ?_
  intro p e s m args below meth c s₁ B hml hnt hv
  obtain ⟨rfl, hsz, hz, hsr, hat⟩ := hv
  have hx := B.exec
  have hb := B.bytes
  have hB := xB B.pre
  have hown : s.vm.findClass R_A = some m.cls := findClass_of_methodNamed B.named
  have hlocks := B.notSynchronized
  subst hsz
  have hS : va_S (fun q => s.heap.size ≤ q) s.heap s.heap [] := va_S.rf
  have hl := lv_entry ([.ref a, .int x, .int y]) (n := 3) (Nat.le_of_ble_eq_true rfl)
  rw [lg_entry_eq]
  generalize (lg_sl ([.ref a, .int x, .int y]) ++ List.replicate (3 - (lg_sl ([.ref a, .int x, .int y])).length) Slot.unset).toArray = ls at hl ⊢
  have hl : lv_has ls 3 [(0, .ref a), (1, .int x), (2, .int y)] := hl
  refine lv_iload_n hx hb d_A_reaches_0 rfl (lv_at hl 1 rfl) ?_
  refine lv_iload_n hx hb d_A_reaches_1 rfl (lv_at hl 2 rfl) ?_
  refine xt_call (vx_runS (As := [.int x, .int y]) (rest := []) ⟨hx, hb, hml, hown, hB⟩ (t_A_requirePlaces l hlt x y hb9 s.heap.size) (xcS (n := 2) hB mc_A_requirePlaces mz_A ml_A_37 ms_A_requirePlaces rfl rfl (by decide +kernel) ⟨Nat.le_of_ble_eq_true rfl, Nat.le_of_ble_eq_true rfl⟩) (xTe_preS hz (fun q h => h) hS hsr hat) rfl rfl hl.1 rfl (lv_room (Nat.le_of_ble_eq_true rfl)) d_A_reaches_2 ⟨Nat.le_of_ble_eq_true rfl, Nat.le_of_ble_eq_true rfl⟩) hS (fun q h => h) (fun q h => h) (fun ce q9 H1 locs1 h1 h2 hS1 hce hcv hcl => ?_)
  exact vx_out (fun x hx => (hnt x hx).elim) hlocks hce hcv hcl (fun t ht _ => ⟨(), trivial, rfl, by rw [ht]; exact h1, fun q hq _ => by rw [ht]; exact h2 q hq⟩) hS1.2.2 (Nat.le_refl _) (Nat.le_refl _)
set_option maxHeartbeats 4000000 in
set_option maxRecDepth 100000 in
theorem t_A_distance (l : Launch) (hlt : l.stackTraces = false) (a : Nat) (x y : Int32) (hb9 : (isP x && isP y) = false) (sz : Nat) : vx_Met l y_A_distance (Cond.code y_A_distance c_A_distance 3 (some .int) :: BS) { frames := 8, cells := 1, slots := 6, locals := 141 } (va_Pc [.ref a, .int x, .int y] (xTe sz)) (fun _ _ _ _ => False) (xXf eIA sz) 1 6 (fun q => sz ≤ q) := by
  refine vx_ofW (cc := c_A_distance) (maxL := 3) (ret := (some .int)) (by decide) rfl ?_
  intro p e s m args below meth c s₁ B hml hnt hv
  obtain ⟨rfl, hsz, hz, hsr, hat⟩ := hv
  have hx := B.exec
  have hb := B.bytes
  have hB := xB B.pre
  have hown : s.vm.findClass R_A = some m.cls := findClass_of_methodNamed B.named
  have hlocks := B.notSynchronized
  subst hsz
  have hS : va_S (fun q => s.heap.size ≤ q) s.heap s.heap [] := va_S.rf
  have hl := lv_entry ([.ref a, .int x, .int y]) (n := 3) (Nat.le_of_ble_eq_true rfl)
  rw [lg_entry_eq]
  generalize (lg_sl ([.ref a, .int x, .int y]) ++ List.replicate (3 - (lg_sl ([.ref a, .int x, .int y])).length) Slot.unset).toArray = ls at hl ⊢
  have hl : lv_has ls 3 [(0, .ref a), (1, .int x), (2, .int y)] := hl
  refine lv_iload_n hx hb d_A_distance_0 rfl (lv_at hl 1 rfl) ?_
  refine lv_iload_n hx hb d_A_distance_1 rfl (lv_at hl 2 rfl) ?_
  refine xt_call (vx_runS (As := [.int x, .int y]) (rest := []) ⟨hx, hb, hml, hown, hB⟩ (t_A_requirePlaces l hlt x y hb9 s.heap.size) (xcS (n := 2) hB mc_A_requirePlaces mz_A ml_A_37 ms_A_requirePlaces rfl rfl (by decide +kernel) ⟨Nat.le_of_ble_eq_true rfl, Nat.le_of_ble_eq_true rfl⟩) (xTe_preS hz (fun q h => h) hS hsr hat) rfl rfl hl.1 rfl (lv_room (Nat.le_of_ble_eq_true rfl)) d_A_distance_2 ⟨Nat.le_of_ble_eq_true rfl, Nat.le_of_ble_eq_true rfl⟩) hS (fun q h => h) (fun q h => h) (fun ce q9 H1 locs1 h1 h2 hS1 hce hcv hcl => ?_)
  exact vx_out (fun x hx => (hnt x hx).elim) hlocks hce hcv hcl (fun t ht _ => ⟨(), trivial, rfl, by rw [ht]; exact h1, fun q hq _ => by rw [ht]; exact h2 q hq⟩) hS1.2.2 (Nat.le_refl _) (Nat.le_refl _)
set_option maxHeartbeats 4000000 in
set_option maxRecDepth 100000 in
theorem t_A_gate (l : Launch) (hlt : l.stackTraces = false) (a : Nat) (x y : Int32) (hb9 : (isP x && isP y) = false) (sz : Nat) : vx_Met l y_A_gate (Cond.code y_A_gate c_A_gate 3 (some .int) :: BS) { frames := 8, cells := 1, slots := 6, locals := 141 } (va_Pc [.ref a, .int x, .int y] (xTe sz)) (fun _ _ _ _ => False) (xXf eIA sz) 1 6 (fun q => sz ≤ q) := by
  refine vx_ofW (cc := c_A_gate) (maxL := 3) (ret := (some .int)) (by decide) rfl ?_
  intro p e s m args below meth c s₁ B hml hnt hv
  obtain ⟨rfl, hsz, hz, hsr, hat⟩ := hv
  have hx := B.exec
  have hb := B.bytes
  have hB := xB B.pre
  have hown : s.vm.findClass R_A = some m.cls := findClass_of_methodNamed B.named
  have hlocks := B.notSynchronized
  subst hsz
  have hS : va_S (fun q => s.heap.size ≤ q) s.heap s.heap [] := va_S.rf
  have hl := lv_entry ([.ref a, .int x, .int y]) (n := 3) (Nat.le_of_ble_eq_true rfl)
  rw [lg_entry_eq]
  generalize (lg_sl ([.ref a, .int x, .int y]) ++ List.replicate (3 - (lg_sl ([.ref a, .int x, .int y])).length) Slot.unset).toArray = ls at hl ⊢
  have hl : lv_has ls 3 [(0, .ref a), (1, .int x), (2, .int y)] := hl
  refine lv_iload_n hx hb d_A_gate_0 rfl (lv_at hl 1 rfl) ?_
  refine lv_iload_n hx hb d_A_gate_1 rfl (lv_at hl 2 rfl) ?_
  refine xt_call (vx_runS (As := [.int x, .int y]) (rest := []) ⟨hx, hb, hml, hown, hB⟩ (t_A_requirePlaces l hlt x y hb9 s.heap.size) (xcS (n := 2) hB mc_A_requirePlaces mz_A ml_A_37 ms_A_requirePlaces rfl rfl (by decide +kernel) ⟨Nat.le_of_ble_eq_true rfl, Nat.le_of_ble_eq_true rfl⟩) (xTe_preS hz (fun q h => h) hS hsr hat) rfl rfl hl.1 rfl (lv_room (Nat.le_of_ble_eq_true rfl)) d_A_gate_2 ⟨Nat.le_of_ble_eq_true rfl, Nat.le_of_ble_eq_true rfl⟩) hS (fun q h => h) (fun q h => h) (fun ce q9 H1 locs1 h1 h2 hS1 hce hcv hcl => ?_)
  exact vx_out (fun x hx => (hnt x hx).elim) hlocks hce hcv hcl (fun t ht _ => ⟨(), trivial, rfl, by rw [ht]; exact h1, fun q hq _ => by rw [ht]; exact h2 q hq⟩) hS1.2.2 (Nat.le_refl _) (Nat.le_refl _)
set_option maxHeartbeats 4000000 in
set_option maxRecDepth 100000 in
theorem t_A_gated (l : Launch) (hlt : l.stackTraces = false) (a : Nat) (x y : Int32) (hb9 : (isP x && isP y) = false) (sz : Nat) : vx_Met l y_A_gated (Cond.code y_A_gated c_A_gated 5 (some .int) :: BS) { frames := 8, cells := 1, slots := 6, locals := 141 } (va_Pc [.ref a, .int x, .int y] (xTe sz)) (fun _ _ _ _ => False) (xXf eIA sz) 1 6 (fun q => sz ≤ q) := by
  refine vx_ofW (cc := c_A_gated) (maxL := 5) (ret := (some .int)) (by decide) rfl ?_
  intro p e s m args below meth c s₁ B hml hnt hv
  obtain ⟨rfl, hsz, hz, hsr, hat⟩ := hv
  have hx := B.exec
  have hb := B.bytes
  have hB := xB B.pre
  have hown : s.vm.findClass R_A = some m.cls := findClass_of_methodNamed B.named
  have hlocks := B.notSynchronized
  subst hsz
  have hS : va_S (fun q => s.heap.size ≤ q) s.heap s.heap [] := va_S.rf
  have hl := lv_entry ([.ref a, .int x, .int y]) (n := 5) (Nat.le_of_ble_eq_true rfl)
  rw [lg_entry_eq]
  generalize (lg_sl ([.ref a, .int x, .int y]) ++ List.replicate (5 - (lg_sl ([.ref a, .int x, .int y])).length) Slot.unset).toArray = ls at hl ⊢
  have hl : lv_has ls 5 [(0, .ref a), (1, .int x), (2, .int y)] := hl
  refine lv_iload_n hx hb d_A_gated_0 rfl (lv_at hl 1 rfl) ?_
  refine lv_iload_n hx hb d_A_gated_1 rfl (lv_at hl 2 rfl) ?_
  refine xt_call (vx_runS (As := [.int x, .int y]) (rest := []) ⟨hx, hb, hml, hown, hB⟩ (t_A_requirePlaces l hlt x y hb9 s.heap.size) (xcS (n := 2) hB mc_A_requirePlaces mz_A ml_A_37 ms_A_requirePlaces rfl rfl (by decide +kernel) ⟨Nat.le_of_ble_eq_true rfl, Nat.le_of_ble_eq_true rfl⟩) (xTe_preS hz (fun q h => h) hS hsr hat) rfl rfl hl.1 rfl (lv_room (Nat.le_of_ble_eq_true rfl)) d_A_gated_2 ⟨Nat.le_of_ble_eq_true rfl, Nat.le_of_ble_eq_true rfl⟩) hS (fun q h => h) (fun q h => h) (fun ce q9 H1 locs1 h1 h2 hS1 hce hcv hcl => ?_)
  exact vx_out (fun x hx => (hnt x hx).elim) hlocks hce hcv hcl (fun t ht _ => ⟨(), trivial, rfl, by rw [ht]; exact h1, fun q hq _ => by rw [ht]; exact h2 q hq⟩) hS1.2.2 (Nat.le_refl _) (Nat.le_refl _)
set_option maxHeartbeats 4000000 in
set_option maxRecDepth 100000 in
theorem t_A_places (l : Launch) (hlt : l.stackTraces = false) (a : Nat) (x y : Int32) (hb9 : (isP x && isP y) = false) (sz : Nat) : vx_Met l y_A_places (Cond.code y_A_places c_A_places 3 (some .int) :: BS) { frames := 8, cells := 1, slots := 6, locals := 141 } (va_Pc [.ref a, .int x, .int y] (xTe sz)) (fun _ _ _ _ => False) (xXf eIA sz) 1 6 (fun q => sz ≤ q) := by
  refine vx_ofW (cc := c_A_places) (maxL := 3) (ret := (some .int)) (by decide) rfl ?_
  intro p e s m args below meth c s₁ B hml hnt hv
  obtain ⟨rfl, hsz, hz, hsr, hat⟩ := hv
  have hx := B.exec
  have hb := B.bytes
  have hB := xB B.pre
  have hown : s.vm.findClass R_A = some m.cls := findClass_of_methodNamed B.named
  have hlocks := B.notSynchronized
  subst hsz
  have hS : va_S (fun q => s.heap.size ≤ q) s.heap s.heap [] := va_S.rf
  have hl := lv_entry ([.ref a, .int x, .int y]) (n := 3) (Nat.le_of_ble_eq_true rfl)
  rw [lg_entry_eq]
  generalize (lg_sl ([.ref a, .int x, .int y]) ++ List.replicate (3 - (lg_sl ([.ref a, .int x, .int y])).length) Slot.unset).toArray = ls at hl ⊢
  have hl : lv_has ls 3 [(0, .ref a), (1, .int x), (2, .int y)] := hl
  refine lv_iload_n hx hb d_A_places_0 rfl (lv_at hl 1 rfl) ?_
  refine lv_iload_n hx hb d_A_places_1 rfl (lv_at hl 2 rfl) ?_
  refine xt_call (vx_runS (As := [.int x, .int y]) (rest := []) ⟨hx, hb, hml, hown, hB⟩ (t_A_requirePlaces l hlt x y hb9 s.heap.size) (xcS (n := 2) hB mc_A_requirePlaces mz_A ml_A_37 ms_A_requirePlaces rfl rfl (by decide +kernel) ⟨Nat.le_of_ble_eq_true rfl, Nat.le_of_ble_eq_true rfl⟩) (xTe_preS hz (fun q h => h) hS hsr hat) rfl rfl hl.1 rfl (lv_room (Nat.le_of_ble_eq_true rfl)) d_A_places_2 ⟨Nat.le_of_ble_eq_true rfl, Nat.le_of_ble_eq_true rfl⟩) hS (fun q h => h) (fun q h => h) (fun ce q9 H1 locs1 h1 h2 hS1 hce hcv hcl => ?_)
  exact vx_out (fun x hx => (hnt x hx).elim) hlocks hce hcv hcl (fun t ht _ => ⟨(), trivial, rfl, by rw [ht]; exact h1, fun q hq _ => by rw [ht]; exact h2 q hq⟩) hS1.2.2 (Nat.le_refl _) (Nat.le_refl _)
set_option maxHeartbeats 4000000 in
set_option maxRecDepth 100000 in
theorem t_A_arrows (l : Launch) (hlt : l.stackTraces = false) (a : Nat) (x y : Int32) (hb9 : (isP x && isP y) = false) (sz : Nat) : vx_Met l y_A_arrows (Cond.code y_A_arrows c_A_arrows 3 (some .int) :: BS) { frames := 8, cells := 1, slots := 6, locals := 141 } (va_Pc [.ref a, .int x, .int y] (xTe sz)) (fun _ _ _ _ => False) (xXf eIA sz) 1 6 (fun q => sz ≤ q) := by
  refine vx_ofW (cc := c_A_arrows) (maxL := 3) (ret := (some .int)) (by decide) rfl ?_
  intro p e s m args below meth c s₁ B hml hnt hv
  obtain ⟨rfl, hsz, hz, hsr, hat⟩ := hv
  have hx := B.exec
  have hb := B.bytes
  have hB := xB B.pre
  have hown : s.vm.findClass R_A = some m.cls := findClass_of_methodNamed B.named
  have hlocks := B.notSynchronized
  subst hsz
  have hS : va_S (fun q => s.heap.size ≤ q) s.heap s.heap [] := va_S.rf
  have hl := lv_entry ([.ref a, .int x, .int y]) (n := 3) (Nat.le_of_ble_eq_true rfl)
  rw [lg_entry_eq]
  generalize (lg_sl ([.ref a, .int x, .int y]) ++ List.replicate (3 - (lg_sl ([.ref a, .int x, .int y])).length) Slot.unset).toArray = ls at hl ⊢
  have hl : lv_has ls 3 [(0, .ref a), (1, .int x), (2, .int y)] := hl
  refine lv_iload_n hx hb d_A_arrows_0 rfl (lv_at hl 1 rfl) ?_
  refine lv_iload_n hx hb d_A_arrows_1 rfl (lv_at hl 2 rfl) ?_
  refine xt_call (vx_runS (As := [.int x, .int y]) (rest := []) ⟨hx, hb, hml, hown, hB⟩ (t_A_requirePlaces l hlt x y hb9 s.heap.size) (xcS (n := 2) hB mc_A_requirePlaces mz_A ml_A_37 ms_A_requirePlaces rfl rfl (by decide +kernel) ⟨Nat.le_of_ble_eq_true rfl, Nat.le_of_ble_eq_true rfl⟩) (xTe_preS hz (fun q h => h) hS hsr hat) rfl rfl hl.1 rfl (lv_room (Nat.le_of_ble_eq_true rfl)) d_A_arrows_2 ⟨Nat.le_of_ble_eq_true rfl, Nat.le_of_ble_eq_true rfl⟩) hS (fun q h => h) (fun q h => h) (fun ce q9 H1 locs1 h1 h2 hS1 hce hcv hcl => ?_)
  exact vx_out (fun x hx => (hnt x hx).elim) hlocks hce hcv hcl (fun t ht _ => ⟨(), trivial, rfl, by rw [ht]; exact h1, fun q hq _ => by rw [ht]; exact h2 q hq⟩) hS1.2.2 (Nat.le_refl _) (Nat.le_refl _)
set_option maxHeartbeats 4000000 in
set_option maxRecDepth 100000 in
theorem t_A_way (l : Launch) (hlt : l.stackTraces = false) (a : Nat) (x y z : Int32) (hb9 : (isP x && isP y) = false) (sz : Nat) : vx_Met l y_A_way (Cond.code y_A_way c_A_way 5 (some .int) :: BS) { frames := 8, cells := 1, slots := 6, locals := 141 } (va_Pc [.ref a, .int x, .int y, .int z] (xTe sz)) (fun _ _ _ _ => False) (xXf eIA sz) 1 6 (fun q => sz ≤ q) := by
  refine vx_ofW (cc := c_A_way) (maxL := 5) (ret := (some .int)) (by decide) rfl ?_
  intro p e s m args below meth c s₁ B hml hnt hv
  obtain ⟨rfl, hsz, hz, hsr, hat⟩ := hv
  have hx := B.exec
  have hb := B.bytes
  have hB := xB B.pre
  have hown : s.vm.findClass R_A = some m.cls := findClass_of_methodNamed B.named
  have hlocks := B.notSynchronized
  subst hsz
  have hS : va_S (fun q => s.heap.size ≤ q) s.heap s.heap [] := va_S.rf
  have hl := lv_entry ([.ref a, .int x, .int y, .int z]) (n := 5) (Nat.le_of_ble_eq_true rfl)
  rw [lg_entry_eq]
  generalize (lg_sl ([.ref a, .int x, .int y, .int z]) ++ List.replicate (5 - (lg_sl ([.ref a, .int x, .int y, .int z])).length) Slot.unset).toArray = ls at hl ⊢
  have hl : lv_has ls 5 [(0, .ref a), (1, .int x), (2, .int y), (3, .int z)] := hl
  refine lv_iload_n hx hb d_A_way_0 rfl (lv_at hl 1 rfl) ?_
  refine lv_iload_n hx hb d_A_way_1 rfl (lv_at hl 2 rfl) ?_
  refine xt_call (vx_runS (As := [.int x, .int y]) (rest := []) ⟨hx, hb, hml, hown, hB⟩ (t_A_requirePlaces l hlt x y hb9 s.heap.size) (xcS (n := 2) hB mc_A_requirePlaces mz_A ml_A_37 ms_A_requirePlaces rfl rfl (by decide +kernel) ⟨Nat.le_of_ble_eq_true rfl, Nat.le_of_ble_eq_true rfl⟩) (xTe_preS hz (fun q h => h) hS hsr hat) rfl rfl hl.1 rfl (lv_room (Nat.le_of_ble_eq_true rfl)) d_A_way_2 ⟨Nat.le_of_ble_eq_true rfl, Nat.le_of_ble_eq_true rfl⟩) hS (fun q h => h) (fun q h => h) (fun ce q9 H1 locs1 h1 h2 hS1 hce hcv hcl => ?_)
  exact vx_out (fun x hx => (hnt x hx).elim) hlocks hce hcv hcl (fun t ht _ => ⟨(), trivial, rfl, by rw [ht]; exact h1, fun q hq _ => by rw [ht]; exact h2 q hq⟩) hS1.2.2 (Nat.le_refl _) (Nat.le_refl _)
