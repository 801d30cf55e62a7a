set_option maxHeartbeats 4000000 in
set_option maxRecDepth 100000 in
theorem k_M_apart (l : Launch) (D : va_G) (mo m0 m1 m2 m3 m4 m5 m6 : Nat) (o0 o1 o2 o3 o4 o5 o6 : ClassId) (mc : Int32) (mn : Int32) (mg : Int32) (h : Nat → Int32) (mO : Nat → Int32) (mG : Nat → Int32) (mF : Nat → Int32) (mA : Nat → Int32) (mU : Nat → Int32) (mR : Nat → Int32) (s9 t9 : Nat) (hs9 : s9 < 32) (ht9 : t9 < 32) (hst : s9 ≠ t9) (sz : Nat) : Met l y_M_apart (Cond.code y_M_apart c_M_apart 6 (some .int) :: BS) { frames := 2, cells := 0, slots := 0, locals := 47 } (va_Pc [.ref mo, .int (nI s9), .int (nI t9)] (xWp D [(mo, .inr (5, [.int mc, .int mn, .ref m0, .int mg, .ref m1, .ref m2, .ref m3, .ref m4, .ref m5, .ref m6])), (m0, .inl (o0, 16, .inl h)), (m1, .inl (o1, 16, .inl mO)), (m2, .inl (o2, 16, .inl mG)), (m3, .inl (o3, 16, .inl mF)), (m4, .inl (o4, 32, .inl mA)), (m5, .inl (o5, 32, .inl mU)), (m6, .inl (o6, 32, .inl mR))] [(o0, .int), (o1, .int), (o2, .int), (o3, .int), (o4, .int), (o5, .int), (o6, .int)] sz)) (xQi D [(mo, .inr (5, [.int mc, .int mn, .ref m0, .int mg, .ref m1, .ref m2, .ref m3, .ref m4, .ref m5, .ref m6])), (m0, .inl (o0, 16, .inl h)), (m1, .inl (o1, 16, .inl mO)), (m2, .inl (o2, 16, .inl mG)), (m3, .inl (o3, 16, .inl mF)), (m4, .inl (o4, 32, .inl mA)), (m5, .inl (o5, 32, .inl mU)), (m6, .inl (o6, 32, .inl mR))] [(mo, .inr (5, [.int mc, .int mn, .ref m0, .int mg, .ref m1, .ref m2, .ref m3, .ref m4, .ref m5, .ref m6])), (m0, .inl (o0, 16, .inl h)), (m1, .inl (o1, 16, .inl mO)), (m2, .inl (o2, 16, .inl mG)), (m3, .inl (o3, 16, .inl mF)), (m4, .inl (o4, 32, .inl mA)), (m5, .inl (o5, 32, .inl (apS mA s9 t9 (apN mA s9 t9)))), (m6, .inl (o6, 32, .inl (fun k => oI ((fdS mA (apS mA s9 t9 (apN mA s9 t9)) s9 t9 33).1 k))))] [(o0, .int), (o1, .int), (o2, .int), (o3, .int), (o4, .int), (o5, .int), (o6, .int)] sz (nI (apN mA s9 t9))) 0 0 (va_A [(mo, .inr (5, [.int mc, .int mn, .ref m0, .int mg, .ref m1, .ref m2, .ref m3, .ref m4, .ref m5, .ref m6])), (m0, .inl (o0, 16, .inl h)), (m1, .inl (o1, 16, .inl mO)), (m2, .inl (o2, 16, .inl mG)), (m3, .inl (o3, 16, .inl mF)), (m4, .inl (o4, 32, .inl mA)), (m5, .inl (o5, 32, .inl mU)), (m6, .inl (o6, 32, .inl mR))] sz) := by
  refine Met.ofW (cc := c_M_apart) (maxL := 6) (ret := (some .int)) (by decide) rfl ?_
  intro p e s m args below meth c s₁ B hml hv
  obtain ⟨rfl, hsz, hP, hK, hD0, hN⟩ := hv
  have hx := B.exec
  have hb := B.bytes
  have hr := B.returns
  have hB := xB B.pre
  have hown : s.vm.findClass R_M = some m.cls := findClass_of_methodNamed B.named
  have hlocks := B.notSynchronized
  subst hsz
  have hD := hD0.self (sz := s.heap.size)
  obtain ⟨A, hAe⟩ : ∃ A, A = va_A [(mo, .inr (5, [.int mc, .int mn, .ref m0, .int mg, .ref m1, .ref m2, .ref m3, .ref m4, .ref m5, .ref m6])), (m0, .inl (o0, 16, .inl h)), (m1, .inl (o1, 16, .inl mO)), (m2, .inl (o2, 16, .inl mG)), (m3, .inl (o3, 16, .inl mF)), (m4, .inl (o4, 32, .inl mA)), (m5, .inl (o5, 32, .inl mU)), (m6, .inl (o6, 32, .inl mR))] s.heap.size := ⟨_, rfl⟩
  rw [← hAe] at hD
  have hA : ∀ q : Nat, s.heap.size ≤ q → A q := fun q h => by rw [hAe]; exact Or.inr h
  have hS : va_S A s.heap s.heap [] := va_S.rf
  have hl := lv_entry ([.ref mo, .int (nI s9), .int (nI t9)]) (n := 6) (Nat.le_of_ble_eq_true rfl)
  rw [lg_entry_eq]
  generalize (lg_sl ([.ref mo, .int (nI s9), .int (nI t9)]) ++ List.replicate (6 - (lg_sl ([.ref mo, .int (nI s9), .int (nI t9)])).length) Slot.unset).toArray = ls at hl ⊢
  have hl : lv_has ls 6 [(0, .ref mo), (1, .int (nI s9)), (2, .int (nI t9))] := hl
  refine lv_iconst (v := nI 0) hx hb d_M_apart_0 (by decide) ?_
  refine lv_istore_n hx hb d_M_apart_1 rfl hl (by decide) rfl (fun ls hl => ?_)
  have hl : lv_has ls 6 [(3, .int (nI 0)), (0, .ref mo), (1, .int (nI s9)), (2, .int (nI t9))] := hl
  refine lv_iconst (v := nI 0) hx hb d_M_apart_2 (by decide) ?_
  refine lv_istore hx hb d_M_apart_3 hl (by decide) rfl (fun ls hl => ?_)
  have hl : lv_has ls 6 [(4, .int (nI 0)), (3, .int (nI 0)), (0, .ref mo), (1, .int (nI s9)), (2, .int (nI t9))] := hl
  have hP := xP_ext hP 6 (fun k => if k < 0 then nI 0 else mU k) rfl (fun j9 hj9 => (if_neg (Nat.not_lt_zero _)).symm)
  have hD := xD_ext hD 6 (y := .inl (o5, 32, .inl (fun k => if k < 0 then nI 0 else mU k))) rfl
  have hP : va_P D cls [(mo, .inr (5, [.int mc, .int mn, .ref m0, .int mg, .ref m1, .ref m2, .ref m3, .ref m4, .ref m5, .ref m6])), (m0, .inl (o0, 16, .inl h)), (m1, .inl (o1, 16, .inl mO)), (m2, .inl (o2, 16, .inl mG)), (m3, .inl (o3, 16, .inl mF)), (m4, .inl (o4, 32, .inl mA)), (m5, .inl (o5, 32, .inl (fun k => if k < 0 then nI 0 else mU k))), (m6, .inl (o6, 32, .inl mR))] _ := hP
  have hD : va_D A [(mo, .inr (5, [.int mc, .int mn, .ref m0, .int mg, .ref m1, .ref m2, .ref m3, .ref m4, .ref m5, .ref m6])), (m0, .inl (o0, 16, .inl h)), (m1, .inl (o1, 16, .inl mO)), (m2, .inl (o2, 16, .inl mG)), (m3, .inl (o3, 16, .inl mF)), (m4, .inl (o4, 32, .inl mA)), (m5, .inl (o5, 32, .inl (fun k => if k < 0 then nI 0 else mU k))), (m6, .inl (o6, 32, .inl mR))] := hD
  refine xl_w (fun (x : Nat) ls H locs => ((x ≤ 32)) ∧ lv_has ls 6 [(4, .int (nI x)), (3, .int (nI 0)), (0, .ref mo), (1, .int (nI s9)), (2, .int (nI t9))] ∧ va_P D cls [(mo, .inr (5, [.int mc, .int mn, .ref m0, .int mg, .ref m1, .ref m2, .ref m3, .ref m4, .ref m5, .ref m6])), (m0, .inl (o0, 16, .inl h)), (m1, .inl (o1, 16, .inl mO)), (m2, .inl (o2, 16, .inl mG)), (m3, .inl (o3, 16, .inl mF)), (m4, .inl (o4, 32, .inl mA)), (m5, .inl (o5, 32, .inl (fun k => if k < x then nI 0 else mU k))), (m6, .inl (o6, 32, .inl mR))] H ∧ va_D A [(mo, .inr (5, [.int mc, .int mn, .ref m0, .int mg, .ref m1, .ref m2, .ref m3, .ref m4, .ref m5, .ref m6])), (m0, .inl (o0, 16, .inl h)), (m1, .inl (o1, 16, .inl mO)), (m2, .inl (o2, 16, .inl mG)), (m3, .inl (o3, 16, .inl mF)), (m4, .inl (o4, 32, .inl mA)), (m5, .inl (o5, 32, .inl (fun k => if k < x then nI 0 else mU k))), (m6, .inl (o6, 32, .inl mR))] ∧ va_S A s.heap H locs) (fun x => 32 - x) (fun x ls H locs hI ih5 => ?_) 0 _ ⟨Nat.zero_le _, hl, hP, hD, hS⟩
  obtain ⟨hI, hl, hP, hD, hS⟩ := hI
  have hx9 := hI
  refine lv_iload hx hb d_M_apart_5 (lv_at hl 0 rfl) ?_
  refine lv_bipush (v := nI 32) hx hb d_M_apart_7 (by decide) ?_
  refine lv_icmp_ge (tgt := 26) hx hb d_M_apart_9 rfl (fun hc9 => ?_) (fun hc9 => ?_)
  · have hc9 : 32 ≤ x := (nI_leI (by omega) (by omega)).mp hc9
    have hP := xP_ext hP 6 (apS mA s9 t9 0) rfl (fun j9 hj9 => if_pos (by omega))
    have hD := xD_ext hD 6 (y := .inl (o5, 32, .inl (apS mA s9 t9 0))) rfl
    have hP : va_P D cls [(mo, .inr (5, [.int mc, .int mn, .ref m0, .int mg, .ref m1, .ref m2, .ref m3, .ref m4, .ref m5, .ref m6])), (m0, .inl (o0, 16, .inl h)), (m1, .inl (o1, 16, .inl mO)), (m2, .inl (o2, 16, .inl mG)), (m3, .inl (o3, 16, .inl mF)), (m4, .inl (o4, 32, .inl mA)), (m5, .inl (o5, 32, .inl (apS mA s9 t9 0))), (m6, .inl (o6, 32, .inl mR))] _ := hP
    have hD : va_D A [(mo, .inr (5, [.int mc, .int mn, .ref m0, .int mg, .ref m1, .ref m2, .ref m3, .ref m4, .ref m5, .ref m6])), (m0, .inl (o0, 16, .inl h)), (m1, .inl (o1, 16, .inl mO)), (m2, .inl (o2, 16, .inl mG)), (m3, .inl (o3, 16, .inl mF)), (m4, .inl (o4, 32, .inl mA)), (m5, .inl (o5, 32, .inl (apS mA s9 t9 0))), (m6, .inl (o6, 32, .inl mR))] := hD
    have hP := xP_ext hP 7 (apF mA s9 t9 mR 0) rfl (fun j9 hj9 => rfl)
    have hD := xD_ext hD 7 (y := .inl (o6, 32, .inl (apF mA s9 t9 mR 0))) rfl
    have hP : va_P D cls [(mo, .inr (5, [.int mc, .int mn, .ref m0, .int mg, .ref m1, .ref m2, .ref m3, .ref m4, .ref m5, .ref m6])), (m0, .inl (o0, 16, .inl h)), (m1, .inl (o1, 16, .inl mO)), (m2, .inl (o2, 16, .inl mG)), (m3, .inl (o3, 16, .inl mF)), (m4, .inl (o4, 32, .inl mA)), (m5, .inl (o5, 32, .inl (apS mA s9 t9 0))), (m6, .inl (o6, 32, .inl (apF mA s9 t9 mR 0)))] _ := hP
    have hD : va_D A [(mo, .inr (5, [.int mc, .int mn, .ref m0, .int mg, .ref m1, .ref m2, .ref m3, .ref m4, .ref m5, .ref m6])), (m0, .inl (o0, 16, .inl h)), (m1, .inl (o1, 16, .inl mO)), (m2, .inl (o2, 16, .inl mG)), (m3, .inl (o3, 16, .inl mF)), (m4, .inl (o4, 32, .inl mA)), (m5, .inl (o5, 32, .inl (apS mA s9 t9 0))), (m6, .inl (o6, 32, .inl (apF mA s9 t9 mR 0)))] := hD
    refine xl_w (fun (r : Nat) ls H locs => ((r ≤ 32) ∧ (∀ j9, j9 < r → fnd mA s9 t9 j9 = true)) ∧ lv_has ls 6 [(3, .int (nI r)), (0, .ref mo), (1, .int (nI s9)), (2, .int (nI t9))] ∧ va_P D cls [(mo, .inr (5, [.int mc, .int mn, .ref m0, .int mg, .ref m1, .ref m2, .ref m3, .ref m4, .ref m5, .ref m6])), (m0, .inl (o0, 16, .inl h)), (m1, .inl (o1, 16, .inl mO)), (m2, .inl (o2, 16, .inl mG)), (m3, .inl (o3, 16, .inl mF)), (m4, .inl (o4, 32, .inl mA)), (m5, .inl (o5, 32, .inl (apS mA s9 t9 r))), (m6, .inl (o6, 32, .inl (apF mA s9 t9 mR r)))] H ∧ va_D A [(mo, .inr (5, [.int mc, .int mn, .ref m0, .int mg, .ref m1, .ref m2, .ref m3, .ref m4, .ref m5, .ref m6])), (m0, .inl (o0, 16, .inl h)), (m1, .inl (o1, 16, .inl mO)), (m2, .inl (o2, 16, .inl mG)), (m3, .inl (o3, 16, .inl mF)), (m4, .inl (o4, 32, .inl mA)), (m5, .inl (o5, 32, .inl (apS mA s9 t9 r))), (m6, .inl (o6, 32, .inl (apF mA s9 t9 mR r)))] ∧ va_S A s.heap H locs) (fun r => 33 - r) (fun r ls H locs hI ih26 => ?_) 0 _ ⟨⟨Nat.zero_le _, lt_0⟩, lv_sub hl [1, 2, 3, 4] rfl, hP, hD, hS⟩
    obtain ⟨hI, hl, hP, hD, hS⟩ := hI
    obtain ⟨hr9, hj⟩ := hI
    refine lv_aload_n hx hb d_M_apart_26 rfl (lv_at hl 1 rfl) ?_
    refine lv_iload_n hx hb d_M_apart_27 rfl (lv_at hl 2 rfl) ?_
    refine lv_iload_n hx hb d_M_apart_28 rfl (lv_at hl 3 rfl) ?_
    refine xw_i (wc := [(mo, .inr (5, [.int mc, .int mn, .ref m0, .int mg, .ref m1, .ref m2, .ref m3, .ref m4, .ref m5, .ref m6])), (m0, .inl (o0, 16, .inl h)), (m1, .inl (o1, 16, .inl mO)), (m2, .inl (o2, 16, .inl mG)), (m3, .inl (o3, 16, .inl mF)), (m4, .inl (o4, 32, .inl mA)), (m5, .inl (o5, 32, .inl (apS mA s9 t9 r))), (m6, .inl (o6, 32, .inl (apF mA s9 t9 mR r)))]) (wr := []) (w1 := [(mo, .inr (5, [.int mc, .int mn, .ref m0, .int mg, .ref m1, .ref m2, .ref m3, .ref m4, .ref m5, .ref m6])), (m0, .inl (o0, 16, .inl h)), (m1, .inl (o1, 16, .inl mO)), (m2, .inl (o2, 16, .inl mG)), (m3, .inl (o3, 16, .inl mF)), (m4, .inl (o4, 32, .inl mA)), (m5, .inl (o5, 32, .inl (apS mA s9 t9 r))), (m6, .inl (o6, 32, .inl (fun k => oI ((fdS mA (apS mA s9 t9 r) s9 t9 33).1 k))))]) (va_runV (As := [.int (nI s9), .int (nI t9)]) (rest := []) ⟨hx, hb, hml, hown, hB⟩ (k_M_finds l D mo m0 m1 m2 m3 m4 m5 m6 o0 o1 o2 o3 o4 o5 o6 mc mn mg h mO mG mF mA (apS mA s9 t9 r) (apF mA s9 t9 mR r) s9 t9 (by omega) (by omega) _) ⟨callB_of 2 hB (xg0 mc_M_finds) rfl rfl rfl (hB _ mz_M) (hB _ ml_M_87) (by decide +kernel) ⟨Nat.le_of_ble_eq_true rfl, Nat.le_of_ble_eq_true rfl⟩, hB _ mi_M_finds, hB _ me_M_finds⟩ (xqV (ws := [(mo, .inr (5, [.int mc, .int mn, .ref m0, .int mg, .ref m1, .ref m2, .ref m3, .ref m4, .ref m5, .ref m6])), (m0, .inl (o0, 16, .inl h)), (m1, .inl (o1, 16, .inl mO)), (m2, .inl (o2, 16, .inl mG)), (m3, .inl (o3, 16, .inl mF)), (m4, .inl (o4, 32, .inl mA)), (m5, .inl (o5, 32, .inl (apS mA s9 t9 r))), (m6, .inl (o6, 32, .inl (apF mA s9 t9 mR r)))]) (tys := [(o0, .int), (o1, .int), (o2, .int), (o3, .int), (o4, .int), (o5, .int), (o6, .int)]) (hP.sub [0, 1, 2, 3, 4, 5, 6, 7] rfl) (hD.sub [0, 1, 2, 3, 4, 5, 6, 7] (by decide) rfl) (hK.sub [0, 1, 2, 3, 4, 5, 6] rfl) hN (va_recv (ci := 5) (q0 := 0) (q := (R_M, F_M, 10)) hK hP rfl rfl)) rfl rfl hl.1 rfl (lv_room (Nat.le_of_ble_eq_true rfl)) d_M_apart_29 ⟨Nat.le_of_ble_eq_true rfl, Nat.le_of_ble_eq_true rfl⟩) hP hD hS hA [0, 1, 2, 3, 4, 5, 6, 7] [] rfl rfl (by decide) (by decide) (fun H locs hP hD hS => ?_)
    have hP : va_P D cls [(mo, .inr (5, [.int mc, .int mn, .ref m0, .int mg, .ref m1, .ref m2, .ref m3, .ref m4, .ref m5, .ref m6])), (m0, .inl (o0, 16, .inl h)), (m1, .inl (o1, 16, .inl mO)), (m2, .inl (o2, 16, .inl mG)), (m3, .inl (o3, 16, .inl mF)), (m4, .inl (o4, 32, .inl mA)), (m5, .inl (o5, 32, .inl (apS mA s9 t9 r))), (m6, .inl (o6, 32, .inl (fun k => oI ((fdS mA (apS mA s9 t9 r) s9 t9 33).1 k))))] H := hP
    have hD : va_D A [(mo, .inr (5, [.int mc, .int mn, .ref m0, .int mg, .ref m1, .ref m2, .ref m3, .ref m4, .ref m5, .ref m6])), (m0, .inl (o0, 16, .inl h)), (m1, .inl (o1, 16, .inl mO)), (m2, .inl (o2, 16, .inl mG)), (m3, .inl (o3, 16, .inl mF)), (m4, .inl (o4, 32, .inl mA)), (m5, .inl (o5, 32, .inl (apS mA s9 t9 r))), (m6, .inl (o6, 32, .inl (fun k => oI ((fdS mA (apS mA s9 t9 r) s9 t9 33).1 k))))] := hD
    refine lv_if_eq (tgt := 114) hx hb d_M_apart_32 rfl (fun hc32 => ?_) (fun hc32 => ?_)
    · have hc32 := b2i_0.mp hc32
      have hN9 := apN_eq hr9 hj (show fnd mA s9 t9 r = false from hc32)
      have hz : (fun k => oI ((fdS mA (apS mA s9 t9 r) s9 t9 33).1 k)) = (fun k => oI ((fdS mA (apS mA s9 t9 (apN mA s9 t9)) s9 t9 33).1 k)) := by rw [hN9]
      rw [hz] at hP hD
      have hz : (apS mA s9 t9 r) = (apS mA s9 t9 (apN mA s9 t9)) := by rw [hN9]
      rw [hz] at hP hD
      refine lv_iload_n hx hb d_M_apart_114 rfl (lv_at hl 0 rfl) ?_
      have hP9 := hP.sub (ws' := [(mo, .inr (5, [.int mc, .int mn, .ref m0, .int mg, .ref m1, .ref m2, .ref m3, .ref m4, .ref m5, .ref m6])), (m0, .inl (o0, 16, .inl h)), (m1, .inl (o1, 16, .inl mO)), (m2, .inl (o2, 16, .inl mG)), (m3, .inl (o3, 16, .inl mF)), (m4, .inl (o4, 32, .inl mA)), (m5, .inl (o5, 32, .inl (apS mA s9 t9 (apN mA s9 t9)))), (m6, .inl (o6, 32, .inl (fun k => oI ((fdS mA (apS mA s9 t9 (apN mA s9 t9)) s9 t9 33).1 k))))]) [0, 1, 2, 3, 4, 5, 6, 7] rfl
      have hD9 := hD.sub (ws' := [(mo, .inr (5, [.int mc, .int mn, .ref m0, .int mg, .ref m1, .ref m2, .ref m3, .ref m4, .ref m5, .ref m6])), (m0, .inl (o0, 16, .inl h)), (m1, .inl (o1, 16, .inl mO)), (m2, .inl (o2, 16, .inl mG)), (m3, .inl (o3, 16, .inl mF)), (m4, .inl (o4, 32, .inl mA)), (m5, .inl (o5, 32, .inl (apS mA s9 t9 (apN mA s9 t9)))), (m6, .inl (o6, 32, .inl (fun k => oI ((fdS mA (apS mA s9 t9 (apN mA s9 t9)) s9 t9 33).1 k))))]) [0, 1, 2, 3, 4, 5, 6, 7] (by decide) rfl
      subst hAe
      refine xv_top (x' := nI (apN mA s9 t9)) (by rw [hN9]) ?_
      exact W.iret (v := nI (apN mA s9 t9)) hx hb hr (fun t ht hW => ⟨⟨_, (), rfl, rfl, by rw [ht]; exact hP9, va_K.moved hW.alike hK, hD9⟩, hS.F ht⟩) hS.2.2 d_M_apart_115
    · have hc32 := b2i_n.mp hc32
      have hc32 := of_decide_eq_true hc32
      obtain ⟨ρ, hT, hρ⟩ := fd_trk hs9 ht9 hc32
      have hj1 := lt_s hj (show fnd mA s9 t9 r = true from decide_eq_true hc32)
      refine lv_iload_n hx hb d_M_apart_35 rfl (lv_at hl 3 rfl) ?_
      refine lv_istore hx hb d_M_apart_36 hl (by decide) rfl (fun ls hl => ?_)
      have hl : lv_has ls 6 [(4, .int (nI t9)), (3, .int (nI r)), (0, .ref mo), (1, .int (nI s9)), (2, .int (nI t9))] := hl
      have hl : lv_has ls 6 [(4, .int (nI (ph3 ((fdS mA (apS mA s9 t9 r) s9 t9 33).1) s9 (apS mA s9 t9 r) t9 0).1)), (3, .int (nI r)), (0, .ref mo), (1, .int (nI s9)), (2, .int (nI t9))] := by
        have hz : (nI t9) = nI (ph3 ((fdS mA (apS mA s9 t9 r) s9 t9 33).1) s9 (apS mA s9 t9 r) t9 0).1 := rfl
        rw [← hz]; exact hl
      have hz : (apS mA s9 t9 r) = (ph3 ((fdS mA (apS mA s9 t9 r) s9 t9 33).1) s9 (apS mA s9 t9 r) t9 0).2 := rfl
      rw [hz] at hP hD
      refine xl_w (fun (k : Nat) ls H locs => ((k + ρ (ph3 ((fdS mA (apS mA s9 t9 r) s9 t9 33).1) s9 (apS mA s9 t9 r) t9 k).1 ≤ ρ t9)) ∧ lv_has ls 6 [(4, .int (nI (ph3 ((fdS mA (apS mA s9 t9 r) s9 t9 33).1) s9 (apS mA s9 t9 r) t9 k).1)), (3, .int (nI r)), (0, .ref mo), (1, .int (nI s9)), (2, .int (nI t9))] ∧ va_P D cls [(mo, .inr (5, [.int mc, .int mn, .ref m0, .int mg, .ref m1, .ref m2, .ref m3, .ref m4, .ref m5, .ref m6])), (m0, .inl (o0, 16, .inl h)), (m1, .inl (o1, 16, .inl mO)), (m2, .inl (o2, 16, .inl mG)), (m3, .inl (o3, 16, .inl mF)), (m4, .inl (o4, 32, .inl mA)), (m5, .inl (o5, 32, .inl (ph3 ((fdS mA (apS mA s9 t9 r) s9 t9 33).1) s9 (apS mA s9 t9 r) t9 k).2)), (m6, .inl (o6, 32, .inl (fun k => oI ((fdS mA (apS mA s9 t9 r) s9 t9 33).1 k))))] H ∧ va_D A [(mo, .inr (5, [.int mc, .int mn, .ref m0, .int mg, .ref m1, .ref m2, .ref m3, .ref m4, .ref m5, .ref m6])), (m0, .inl (o0, 16, .inl h)), (m1, .inl (o1, 16, .inl mO)), (m2, .inl (o2, 16, .inl mG)), (m3, .inl (o3, 16, .inl mF)), (m4, .inl (o4, 32, .inl mA)), (m5, .inl (o5, 32, .inl (ph3 ((fdS mA (apS mA s9 t9 r) s9 t9 33).1) s9 (apS mA s9 t9 r) t9 k).2)), (m6, .inl (o6, 32, .inl (fun k => oI ((fdS mA (apS mA s9 t9 r) s9 t9 33).1 k))))] ∧ va_S A s.heap H locs) (fun k => ρ t9 - k) (fun k ls H locs hI ih38 => ?_) 0 _ ⟨by show 0 + ρ t9 ≤ ρ t9; omega, hl, hP, hD, hS⟩
      obtain ⟨hI, hl, hP, hD, hS⟩ := hI
      have hk9 := hI
      have hy9 := (ph3_inv (apS_inv hs9 ht9 hst r hj).1 hT ht9 hc32 k).1
      refine lv_iload hx hb d_M_apart_38 (lv_at hl 0 rfl) ?_
      refine lv_iload_n hx hb d_M_apart_40 rfl (lv_at hl 3 rfl) ?_
      refine lv_icmp_eq (tgt := 108) hx hb d_M_apart_41 rfl (fun hc41 => ?_) (fun hc41 => ?_)
      · have hc41 : (ph3 ((fdS mA (apS mA s9 t9 r) s9 t9 33).1) s9 (apS mA s9 t9 r) t9 k).1 = s9 := (nI_eq (by omega) (by omega)).mp hc41
        have hz : (ph3 ((fdS mA (apS mA s9 t9 r) s9 t9 33).1) s9 (apS mA s9 t9 r) t9 k).2 = (apS mA s9 t9 (r + 1)) := congrArg Prod.snd (ph3_end (by omega) hc41).symm
        rw [hz] at hP hD
        have hz : (fun k => oI ((fdS mA (apS mA s9 t9 r) s9 t9 33).1 k)) = (apF mA s9 t9 mR (r + 1)) := rfl
        rw [hz] at hP hD
        refine lv_iinc hx hb d_M_apart_108 hl (k := 1) rfl (v := nI (r + 1)) (nI_1 r) (by decide) rfl (fun ls hl => ?_)
        have hl : lv_has ls 6 [(3, .int (nI (r + 1))), (4, .int (nI (ph3 ((fdS mA (apS mA s9 t9 r) s9 t9 33).1) s9 (apS mA s9 t9 r) t9 k).1)), (0, .ref mo), (1, .int (nI s9)), (2, .int (nI t9))] := hl
        refine lv_goto (tgt := 26) hx hb d_M_apart_111 rfl ?_
        exact ih26 (r + 1) _ H locs ⟨⟨ap_le hs9 ht9 hst hj1, hj1⟩, lv_sub hl [0, 2, 3, 4] rfl, hP, hD, hS⟩ (by omega)
      · have hc41 : ¬ ((ph3 ((fdS mA (apS mA s9 t9 r) s9 t9 33).1) s9 (apS mA s9 t9 r) t9 k).1 = s9) := fun q9 => hc41 ((nI_eq (by omega) (by omega)).mpr q9)
        refine lv_aload_n hx hb d_M_apart_44 rfl (lv_at hl 2 rfl) ?_
        refine va_get (D := D) (ci := 5) (v := .ref m6) (C := R_M) (T := F_M) (N := 10) hx hb hB in_M hown hK hP 0 rfl rfl 9 (by decide) (hB _ mf_M_28) (fun _ h9 => h9) rfl d_M_apart_45 ?_
        refine lv_iload hx hb d_M_apart_48 (lv_at hl 0 rfl) ?_
        refine xa_ld (u := (ph3 ((fdS mA (apS mA s9 t9 r) s9 t9 33).1) s9 (apS mA s9 t9 r) t9 k).1) hx hb hK hP 7 6 rfl rfl (by omega) (by decide) d_M_apart_50 ?_
        have hg9 : (fdS mA (apS mA s9 t9 r) s9 t9 33).1 (ph3 ((fdS mA (apS mA s9 t9 r) s9 t9 33).1) s9 (apS mA s9 t9 r) t9 k).1 < 32 := (ph3_inv (apS_inv hs9 ht9 hst r hj).1 hT ht9 hc32 k).2.1
        refine xv_top (x' := nI ((fdS mA (apS mA s9 t9 r) s9 t9 33).1 (ph3 ((fdS mA (apS mA s9 t9 r) s9 t9 33).1) s9 (apS mA s9 t9 r) t9 k).1)) (oI_t hg9) ?_
        refine lv_istore hx hb d_M_apart_51 hl (by decide) rfl (fun ls hl => ?_)
        have hl : lv_has ls 6 [(5, .int (nI ((fdS mA (apS mA s9 t9 r) s9 t9 33).1 (ph3 ((fdS mA (apS mA s9 t9 r) s9 t9 33).1) s9 (apS mA s9 t9 r) t9 k).1))), (4, .int (nI (ph3 ((fdS mA (apS mA s9 t9 r) s9 t9 33).1) s9 (apS mA s9 t9 r) t9 k).1)), (3, .int (nI r)), (0, .ref mo), (1, .int (nI s9)), (2, .int (nI t9))] := hl
        refine lv_aload_n hx hb d_M_apart_53 rfl (lv_at hl 3 rfl) ?_
        refine va_get (D := D) (ci := 5) (v := .ref m5) (C := R_M) (T := F_M) (N := 10) hx hb hB in_M hown hK hP 0 rfl rfl 8 (by decide) (hB _ mf_M_25) (fun _ h9 => h9) rfl d_M_apart_54 ?_
        refine lv_iload hx hb d_M_apart_57 (lv_at hl 1 rfl) ?_
        refine xa_ld (u := (ph3 ((fdS mA (apS mA s9 t9 r) s9 t9 33).1) s9 (apS mA s9 t9 r) t9 k).1) hx hb hK hP 6 5 rfl rfl (by omega) (by decide) d_M_apart_59 ?_
        refine lv_iload hx hb d_M_apart_60 (lv_at hl 0 rfl) ?_
        refine xr_cal (va_runS (As := [.int ((ph3 ((fdS mA (apS mA s9 t9 r) s9 t9 33).1) s9 (apS mA s9 t9 r) t9 k).2 (ph3 ((fdS mA (apS mA s9 t9 r) s9 t9 33).1) s9 (apS mA s9 t9 r) t9 k).1), .int (nI ((fdS mA (apS mA s9 t9 r) s9 t9 33).1 (ph3 ((fdS mA (apS mA s9 t9 r) s9 t9 33).1) s9 (apS mA s9 t9 r) t9 k).1))]) (rest := []) ⟨hx, hb, hml, hown, hB⟩ (k_M_at l D  ((ph3 ((fdS mA (apS mA s9 t9 r) s9 t9 33).1) s9 (apS mA s9 t9 r) t9 k).2 (ph3 ((fdS mA (apS mA s9 t9 r) s9 t9 33).1) s9 (apS mA s9 t9 r) t9 k).1) ((fdS mA (apS mA s9 t9 r) s9 t9 33).1 (ph3 ((fdS mA (apS mA s9 t9 r) s9 t9 33).1) s9 (apS mA s9 t9 r) t9 k).1) (by omega)) ⟨callB_of 2 hB (xg0 mc_M_at) rfl rfl rfl (hB _ mz_M) (hB _ ml_M_84) (by decide +kernel) ⟨Nat.le_of_ble_eq_true rfl, Nat.le_of_ble_eq_true rfl⟩, hB _ ms_M_at⟩ (xpS (ws := []) (tys := []) (hP.sub [] rfl) (hK.sub [] rfl) hN) rfl rfl hl.1 rfl (lv_room (Nat.le_of_ble_eq_true rfl)) d_M_apart_62 ⟨Nat.le_of_ble_eq_true rfl, Nat.le_of_ble_eq_true rfl⟩) ?_
        refine lv_if_eq (tgt := 87) hx hb d_M_apart_65 rfl (fun hc65 => ?_) (fun hc65 => ?_)
        · have hc65 := b2i_0.mp hc65
          refine lv_aload_n hx hb d_M_apart_87 rfl (lv_at hl 3 rfl) ?_
          refine va_get (D := D) (ci := 5) (v := .ref m5) (C := R_M) (T := F_M) (N := 10) hx hb hB in_M hown hK hP 0 rfl rfl 8 (by decide) (hB _ mf_M_25) (fun _ h9 => h9) rfl d_M_apart_88 ?_
          refine lv_iload hx hb d_M_apart_91 (lv_at hl 0 rfl) ?_
          refine lv_dup2_11 hx hb d_M_apart_93 rfl rfl ?_
          refine xa_ld (u := ((fdS mA (apS mA s9 t9 r) s9 t9 33).1 (ph3 ((fdS mA (apS mA s9 t9 r) s9 t9 33).1) s9 (apS mA s9 t9 r) t9 k).1)) hx hb hK hP 6 5 rfl rfl (by omega) (by decide) d_M_apart_94 ?_
          refine lv_iconst (v := nI 1) hx hb d_M_apart_95 (by decide) ?_
          refine lv_iload hx hb d_M_apart_96 (lv_at hl 1 rfl) ?_
          refine lv_ishl hx hb d_M_apart_98 ?_
          refine lv_ior hx hb d_M_apart_99 ?_
          refine xa_st (u := ((fdS mA (apS mA s9 t9 r) s9 t9 33).1 (ph3 ((fdS mA (apS mA s9 t9 r) s9 t9 33).1) s9 (apS mA s9 t9 r) t9 k).1)) hx hb hK hP hD hS 6 5 rfl rfl (by omega) (by decide) d_M_apart_100 (fun H locs hP hD hS => ?_)
          have hP : va_P D cls [(mo, .inr (5, [.int mc, .int mn, .ref m0, .int mg, .ref m1, .ref m2, .ref m3, .ref m4, .ref m5, .ref m6])), (m0, .inl (o0, 16, .inl h)), (m1, .inl (o1, 16, .inl mO)), (m2, .inl (o2, 16, .inl mG)), (m3, .inl (o3, 16, .inl mF)), (m4, .inl (o4, 32, .inl mA)), (m5, .inl (o5, 32, .inl (upd (ph3 ((fdS mA (apS mA s9 t9 r) s9 t9 33).1) s9 (apS mA s9 t9 r) t9 k).2 ((fdS mA (apS mA s9 t9 r) s9 t9 33).1 (ph3 ((fdS mA (apS mA s9 t9 r) s9 t9 33).1) s9 (apS mA s9 t9 r) t9 k).1) (((ph3 ((fdS mA (apS mA s9 t9 r) s9 t9 33).1) s9 (apS mA s9 t9 r) t9 k).2 ((fdS mA (apS mA s9 t9 r) s9 t9 33).1 (ph3 ((fdS mA (apS mA s9 t9 r) s9 t9 33).1) s9 (apS mA s9 t9 r) t9 k).1)) ||| ((nI 1) <<< (nI (ph3 ((fdS mA (apS mA s9 t9 r) s9 t9 33).1) s9 (apS mA s9 t9 r) t9 k).1 &&& 31)))))), (m6, .inl (o6, 32, .inl (fun k => oI ((fdS mA (apS mA s9 t9 r) s9 t9 33).1 k))))] H := hP
          have hD : va_D A [(mo, .inr (5, [.int mc, .int mn, .ref m0, .int mg, .ref m1, .ref m2, .ref m3, .ref m4, .ref m5, .ref m6])), (m0, .inl (o0, 16, .inl h)), (m1, .inl (o1, 16, .inl mO)), (m2, .inl (o2, 16, .inl mG)), (m3, .inl (o3, 16, .inl mF)), (m4, .inl (o4, 32, .inl mA)), (m5, .inl (o5, 32, .inl (upd (ph3 ((fdS mA (apS mA s9 t9 r) s9 t9 33).1) s9 (apS mA s9 t9 r) t9 k).2 ((fdS mA (apS mA s9 t9 r) s9 t9 33).1 (ph3 ((fdS mA (apS mA s9 t9 r) s9 t9 33).1) s9 (apS mA s9 t9 r) t9 k).1) (((ph3 ((fdS mA (apS mA s9 t9 r) s9 t9 33).1) s9 (apS mA s9 t9 r) t9 k).2 ((fdS mA (apS mA s9 t9 r) s9 t9 33).1 (ph3 ((fdS mA (apS mA s9 t9 r) s9 t9 33).1) s9 (apS mA s9 t9 r) t9 k).1)) ||| ((nI 1) <<< (nI (ph3 ((fdS mA (apS mA s9 t9 r) s9 t9 33).1) s9 (apS mA s9 t9 r) t9 k).1 &&& 31)))))), (m6, .inl (o6, 32, .inl (fun k => oI ((fdS mA (apS mA s9 t9 r) s9 t9 33).1 k))))] := hD
          have hz : (upd (ph3 ((fdS mA (apS mA s9 t9 r) s9 t9 33).1) s9 (apS mA s9 t9 r) t9 k).2 ((fdS mA (apS mA s9 t9 r) s9 t9 33).1 (ph3 ((fdS mA (apS mA s9 t9 r) s9 t9 33).1) s9 (apS mA s9 t9 r) t9 k).1) (((ph3 ((fdS mA (apS mA s9 t9 r) s9 t9 33).1) s9 (apS mA s9 t9 r) t9 k).2 ((fdS mA (apS mA s9 t9 r) s9 t9 33).1 (ph3 ((fdS mA (apS mA s9 t9 r) s9 t9 33).1) s9 (apS mA s9 t9 r) t9 k).1)) ||| ((nI 1) <<< (nI (ph3 ((fdS mA (apS mA s9 t9 r) s9 t9 33).1) s9 (apS mA s9 t9 r) t9 k).1 &&& 31)))) = (ph3 ((fdS mA (apS mA s9 t9 r) s9 t9 33).1) s9 (apS mA s9 t9 r) t9 (k + 1)).2 := by rw [ph3_go hc41]; exact (if_neg (by rw [hc65]; decide)).symm
          rw [hz] at hP hD
          refine lv_iload hx hb d_M_apart_101 (lv_at hl 0 rfl) ?_
          refine lv_istore hx hb d_M_apart_103 hl (by decide) rfl (fun ls hl => ?_)
          have hl : lv_has ls 6 [(4, .int (nI ((fdS mA (apS mA s9 t9 r) s9 t9 33).1 (ph3 ((fdS mA (apS mA s9 t9 r) s9 t9 33).1) s9 (apS mA s9 t9 r) t9 k).1))), (5, .int (nI ((fdS mA (apS mA s9 t9 r) s9 t9 33).1 (ph3 ((fdS mA (apS mA s9 t9 r) s9 t9 33).1) s9 (apS mA s9 t9 r) t9 k).1))), (3, .int (nI r)), (0, .ref mo), (1, .int (nI s9)), (2, .int (nI t9))] := hl
          have hl : lv_has ls 6 [(4, .int (nI (ph3 ((fdS mA (apS mA s9 t9 r) s9 t9 33).1) s9 (apS mA s9 t9 r) t9 (k + 1)).1)), (5, .int (nI ((fdS mA (apS mA s9 t9 r) s9 t9 33).1 (ph3 ((fdS mA (apS mA s9 t9 r) s9 t9 33).1) s9 (apS mA s9 t9 r) t9 k).1))), (3, .int (nI r)), (0, .ref mo), (1, .int (nI s9)), (2, .int (nI t9))] := by
            have hz : (nI ((fdS mA (apS mA s9 t9 r) s9 t9 33).1 (ph3 ((fdS mA (apS mA s9 t9 r) s9 t9 33).1) s9 (apS mA s9 t9 r) t9 k).1)) = nI (ph3 ((fdS mA (apS mA s9 t9 r) s9 t9 33).1) s9 (apS mA s9 t9 r) t9 (k + 1)).1 := by rw [ph3_go hc41]
            rw [← hz]; exact hl
          refine lv_goto (tgt := 38) hx hb d_M_apart_105 rfl ?_
          exact ih38 (k + 1) _ H locs ⟨by have := (hT _ hy9 hg9 hc41).2.1; rw [ph3_go hc41]; show k + 1 + ρ ((fdS mA (apS mA s9 t9 r) s9 t9 33).1 (ph3 ((fdS mA (apS mA s9 t9 r) s9 t9 33).1) s9 (apS mA s9 t9 r) t9 k).1) ≤ ρ t9; omega, lv_sub hl [0, 2, 3, 4, 5] rfl, hP, hD, hS⟩ (by have := (hT _ hy9 hg9 hc41).2.1; omega)
        · have hc65 := b2i_n.mp hc65
          refine lv_aload_n hx hb d_M_apart_68 rfl (lv_at hl 3 rfl) ?_
          refine va_get (D := D) (ci := 5) (v := .ref m5) (C := R_M) (T := F_M) (N := 10) hx hb hB in_M hown hK hP 0 rfl rfl 8 (by decide) (hB _ mf_M_25) (fun _ h9 => h9) rfl d_M_apart_69 ?_
          refine lv_iload hx hb d_M_apart_72 (lv_at hl 1 rfl) ?_
          refine lv_dup2_11 hx hb d_M_apart_74 rfl rfl ?_
          refine xa_ld (u := (ph3 ((fdS mA (apS mA s9 t9 r) s9 t9 33).1) s9 (apS mA s9 t9 r) t9 k).1) hx hb hK hP 6 5 rfl rfl (by omega) (by decide) d_M_apart_75 ?_
          refine lv_iconst (v := nI 1) hx hb d_M_apart_76 (by decide) ?_
          refine lv_iload hx hb d_M_apart_77 (lv_at hl 0 rfl) ?_
          refine lv_ishl hx hb d_M_apart_79 ?_
          refine lv_iconst (v := -1) hx hb d_M_apart_80 (by decide) ?_
          refine lv_ixor hx hb d_M_apart_81 ?_
          refine lv_iand hx hb d_M_apart_82 ?_
          refine xa_st (u := (ph3 ((fdS mA (apS mA s9 t9 r) s9 t9 33).1) s9 (apS mA s9 t9 r) t9 k).1) hx hb hK hP hD hS 6 5 rfl rfl (by omega) (by decide) d_M_apart_83 (fun H locs hP hD hS => ?_)
          have hP : va_P D cls [(mo, .inr (5, [.int mc, .int mn, .ref m0, .int mg, .ref m1, .ref m2, .ref m3, .ref m4, .ref m5, .ref m6])), (m0, .inl (o0, 16, .inl h)), (m1, .inl (o1, 16, .inl mO)), (m2, .inl (o2, 16, .inl mG)), (m3, .inl (o3, 16, .inl mF)), (m4, .inl (o4, 32, .inl mA)), (m5, .inl (o5, 32, .inl (upd (ph3 ((fdS mA (apS mA s9 t9 r) s9 t9 33).1) s9 (apS mA s9 t9 r) t9 k).2 (ph3 ((fdS mA (apS mA s9 t9 r) s9 t9 33).1) s9 (apS mA s9 t9 r) t9 k).1 (((ph3 ((fdS mA (apS mA s9 t9 r) s9 t9 33).1) s9 (apS mA s9 t9 r) t9 k).2 (ph3 ((fdS mA (apS mA s9 t9 r) s9 t9 33).1) s9 (apS mA s9 t9 r) t9 k).1) &&& (((nI 1) <<< (nI ((fdS mA (apS mA s9 t9 r) s9 t9 33).1 (ph3 ((fdS mA (apS mA s9 t9 r) s9 t9 33).1) s9 (apS mA s9 t9 r) t9 k).1) &&& 31)) ^^^ (-1)))))), (m6, .inl (o6, 32, .inl (fun k => oI ((fdS mA (apS mA s9 t9 r) s9 t9 33).1 k))))] H := hP
          have hD : va_D A [(mo, .inr (5, [.int mc, .int mn, .ref m0, .int mg, .ref m1, .ref m2, .ref m3, .ref m4, .ref m5, .ref m6])), (m0, .inl (o0, 16, .inl h)), (m1, .inl (o1, 16, .inl mO)), (m2, .inl (o2, 16, .inl mG)), (m3, .inl (o3, 16, .inl mF)), (m4, .inl (o4, 32, .inl mA)), (m5, .inl (o5, 32, .inl (upd (ph3 ((fdS mA (apS mA s9 t9 r) s9 t9 33).1) s9 (apS mA s9 t9 r) t9 k).2 (ph3 ((fdS mA (apS mA s9 t9 r) s9 t9 33).1) s9 (apS mA s9 t9 r) t9 k).1 (((ph3 ((fdS mA (apS mA s9 t9 r) s9 t9 33).1) s9 (apS mA s9 t9 r) t9 k).2 (ph3 ((fdS mA (apS mA s9 t9 r) s9 t9 33).1) s9 (apS mA s9 t9 r) t9 k).1) &&& (((nI 1) <<< (nI ((fdS mA (apS mA s9 t9 r) s9 t9 33).1 (ph3 ((fdS mA (apS mA s9 t9 r) s9 t9 33).1) s9 (apS mA s9 t9 r) t9 k).1) &&& 31)) ^^^ (-1)))))), (m6, .inl (o6, 32, .inl (fun k => oI ((fdS mA (apS mA s9 t9 r) s9 t9 33).1 k))))] := hD
          refine lv_goto (tgt := 101) hx hb d_M_apart_84 rfl ?_
          have hz : (upd (ph3 ((fdS mA (apS mA s9 t9 r) s9 t9 33).1) s9 (apS mA s9 t9 r) t9 k).2 (ph3 ((fdS mA (apS mA s9 t9 r) s9 t9 33).1) s9 (apS mA s9 t9 r) t9 k).1 (((ph3 ((fdS mA (apS mA s9 t9 r) s9 t9 33).1) s9 (apS mA s9 t9 r) t9 k).2 (ph3 ((fdS mA (apS mA s9 t9 r) s9 t9 33).1) s9 (apS mA s9 t9 r) t9 k).1) &&& (((nI 1) <<< (nI ((fdS mA (apS mA s9 t9 r) s9 t9 33).1 (ph3 ((fdS mA (apS mA s9 t9 r) s9 t9 33).1) s9 (apS mA s9 t9 r) t9 k).1) &&& 31)) ^^^ (-1)))) = (ph3 ((fdS mA (apS mA s9 t9 r) s9 t9 33).1) s9 (apS mA s9 t9 r) t9 (k + 1)).2 := by rw [ph3_go hc41]; exact (if_pos hc65).symm
          rw [hz] at hP hD
          refine lv_iload hx hb d_M_apart_101 (lv_at hl 0 rfl) ?_
          refine lv_istore hx hb d_M_apart_103 hl (by decide) rfl (fun ls hl => ?_)
          have hl : lv_has ls 6 [(4, .int (nI ((fdS mA (apS mA s9 t9 r) s9 t9 33).1 (ph3 ((fdS mA (apS mA s9 t9 r) s9 t9 33).1) s9 (apS mA s9 t9 r) t9 k).1))), (5, .int (nI ((fdS mA (apS mA s9 t9 r) s9 t9 33).1 (ph3 ((fdS mA (apS mA s9 t9 r) s9 t9 33).1) s9 (apS mA s9 t9 r) t9 k).1))), (3, .int (nI r)), (0, .ref mo), (1, .int (nI s9)), (2, .int (nI t9))] := hl
          have hl : lv_has ls 6 [(4, .int (nI (ph3 ((fdS mA (apS mA s9 t9 r) s9 t9 33).1) s9 (apS mA s9 t9 r) t9 (k + 1)).1)), (5, .int (nI ((fdS mA (apS mA s9 t9 r) s9 t9 33).1 (ph3 ((fdS mA (apS mA s9 t9 r) s9 t9 33).1) s9 (apS mA s9 t9 r) t9 k).1))), (3, .int (nI r)), (0, .ref mo), (1, .int (nI s9)), (2, .int (nI t9))] := by
            have hz : (nI ((fdS mA (apS mA s9 t9 r) s9 t9 33).1 (ph3 ((fdS mA (apS mA s9 t9 r) s9 t9 33).1) s9 (apS mA s9 t9 r) t9 k).1)) = nI (ph3 ((fdS mA (apS mA s9 t9 r) s9 t9 33).1) s9 (apS mA s9 t9 r) t9 (k + 1)).1 := by rw [ph3_go hc41]
            rw [← hz]; exact hl
          refine lv_goto (tgt := 38) hx hb d_M_apart_105 rfl ?_
          exact ih38 (k + 1) _ H locs ⟨by have := (hT _ hy9 hg9 hc41).2.1; rw [ph3_go hc41]; show k + 1 + ρ ((fdS mA (apS mA s9 t9 r) s9 t9 33).1 (ph3 ((fdS mA (apS mA s9 t9 r) s9 t9 33).1) s9 (apS mA s9 t9 r) t9 k).1) ≤ ρ t9; omega, lv_sub hl [0, 2, 3, 4, 5] rfl, hP, hD, hS⟩ (by have := (hT _ hy9 hg9 hc41).2.1; omega)
  · have hc9 : ¬ (32 ≤ x) := fun q9 => hc9 ((nI_leI (by omega) (by omega)).mpr q9)
    refine lv_aload_n hx hb d_M_apart_12 rfl (lv_at hl 2 rfl) ?_
    refine va_get (D := D) (ci := 5) (v := .ref m5) (C := R_M) (T := F_M) (N := 10) hx hb hB in_M hown hK hP 0 rfl rfl 8 (by decide) (hB _ mf_M_25) (fun _ h9 => h9) rfl d_M_apart_13 ?_
    refine lv_iload hx hb d_M_apart_16 (lv_at hl 0 rfl) ?_
    refine lv_iconst (v := nI 0) hx hb d_M_apart_18 (by decide) ?_
    refine xa_st (u := x) hx hb hK hP hD hS 6 5 rfl rfl (by omega) (by decide) d_M_apart_19 (fun H locs hP hD hS => ?_)
    have hP : va_P D cls [(mo, .inr (5, [.int mc, .int mn, .ref m0, .int mg, .ref m1, .ref m2, .ref m3, .ref m4, .ref m5, .ref m6])), (m0, .inl (o0, 16, .inl h)), (m1, .inl (o1, 16, .inl mO)), (m2, .inl (o2, 16, .inl mG)), (m3, .inl (o3, 16, .inl mF)), (m4, .inl (o4, 32, .inl mA)), (m5, .inl (o5, 32, .inl (upd (fun k => if k < x then nI 0 else mU k) x (nI 0)))), (m6, .inl (o6, 32, .inl mR))] H := hP
    have hD : va_D A [(mo, .inr (5, [.int mc, .int mn, .ref m0, .int mg, .ref m1, .ref m2, .ref m3, .ref m4, .ref m5, .ref m6])), (m0, .inl (o0, 16, .inl h)), (m1, .inl (o1, 16, .inl mO)), (m2, .inl (o2, 16, .inl mG)), (m3, .inl (o3, 16, .inl mF)), (m4, .inl (o4, 32, .inl mA)), (m5, .inl (o5, 32, .inl (upd (fun k => if k < x then nI 0 else mU k) x (nI 0)))), (m6, .inl (o6, 32, .inl mR))] := hD
    have hz : (upd (fun k => if k < x then nI 0 else mU k) x (nI 0)) = (fun k => if k < x + 1 then nI 0 else mU k) := upd_lt
    rw [hz] at hP hD
    refine lv_iinc hx hb d_M_apart_20 hl (k := 0) rfl (v := nI (x + 1)) (nI_1 x) (by decide) rfl (fun ls hl => ?_)
    have hl : lv_has ls 6 [(4, .int (nI (x + 1))), (3, .int (nI 0)), (0, .ref mo), (1, .int (nI s9)), (2, .int (nI t9))] := hl
    refine lv_goto (tgt := 5) hx hb d_M_apart_23 rfl ?_
    exact ih5 (x + 1) _ H locs ⟨by omega, lv_sub hl [0, 1, 2, 3, 4] rfl, hP, hD, hS⟩ (by omega)
set_option maxHeartbeats 4000000 in
set_option maxRecDepth 100000 in
theorem k_M_places_none (l : Launch) (D : va_G) (mo m0 m1 m2 m3 m4 m5 m6 : Nat) (o0 o1 o2 o3 o4 o5 o6 : ClassId) (mc : Int32) (mn : Int32) (mg : Int32) (h : Nat → Int32) (mO : Nat → Int32) (mG : Nat → Int32) (mF : Nat → Int32) (mA : Nat → Int32) (mU : Nat → Int32) (mR : Nat → Int32) (hg : gd h) (u v : Nat) (hu : u < 16) (hv : v < 16) (huv : u = v ∨ bt (h u) v = true) (sz : Nat) : Met l y_M_places (Cond.code y_M_places c_M_places 4 (some .int) :: BS) { frames := 2, cells := 0, slots := 0, locals := 42 } (va_Pc [.ref mo, .int (nI u), .int (nI v)] (xWp D [(mo, .inr (5, [.int mc, .int mn, .ref m0, .int mg, .ref m1, .ref m2, .ref m3, .ref m4, .ref m5, .ref m6])), (m0, .inl (o0, 16, .inl h)), (m1, .inl (o1, 16, .inl mO)), (m2, .inl (o2, 16, .inl mG)), (m3, .inl (o3, 16, .inl mF)), (m4, .inl (o4, 32, .inl mA)), (m5, .inl (o5, 32, .inl mU)), (m6, .inl (o6, 32, .inl mR))] [(o0, .int), (o1, .int), (o2, .int), (o3, .int), (o4, .int), (o5, .int), (o6, .int)] sz)) (xQi D [(mo, .inr (5, [.int mc, .int mn, .ref m0, .int mg, .ref m1, .ref m2, .ref m3, .ref m4, .ref m5, .ref m6])), (m0, .inl (o0, 16, .inl h)), (m1, .inl (o1, 16, .inl mO)), (m2, .inl (o2, 16, .inl mG)), (m3, .inl (o3, 16, .inl mF)), (m4, .inl (o4, 32, .inl mA)), (m5, .inl (o5, 32, .inl mU)), (m6, .inl (o6, 32, .inl mR))] [(mo, .inr (5, [.int (nI 0), .int mn, .ref m0, .int mg, .ref m1, .ref m2, .ref m3, .ref m4, .ref m5, .ref m6])), (m0, .inl (o0, 16, .inl h)), (m1, .inl (o1, 16, .inl mO)), (m2, .inl (o2, 16, .inl mG)), (m3, .inl (o3, 16, .inl mF)), (m4, .inl (o4, 32, .inl mA)), (m5, .inl (o5, 32, .inl mU)), (m6, .inl (o6, 32, .inl mR))] [(o0, .int), (o1, .int), (o2, .int), (o3, .int), (o4, .int), (o5, .int), (o6, .int)] sz (-1)) 0 0 (va_A [(mo, .inr (5, [.int mc, .int mn, .ref m0, .int mg, .ref m1, .ref m2, .ref m3, .ref m4, .ref m5, .ref m6])), (m0, .inl (o0, 16, .inl h)), (m1, .inl (o1, 16, .inl mO)), (m2, .inl (o2, 16, .inl mG)), (m3, .inl (o3, 16, .inl mF)), (m4, .inl (o4, 32, .inl mA)), (m5, .inl (o5, 32, .inl mU)), (m6, .inl (o6, 32, .inl mR))] sz) := by
  refine Met.ofW (cc := c_M_places) (maxL := 4) (ret := (some .int)) (by decide) rfl ?_
  intro p e s m args below meth c s₁ B hml hv
  obtain ⟨rfl, hsz, hP, hK, hD0, hN⟩ := hv
  have hx := B.exec
  have hb := B.bytes
  have hr := B.returns
  have hB := xB B.pre
  have hown : s.vm.findClass R_M = some m.cls := findClass_of_methodNamed B.named
  have hlocks := B.notSynchronized
  subst hsz
  have hD := hD0.self (sz := s.heap.size)
  obtain ⟨A, hAe⟩ : ∃ A, A = va_A [(mo, .inr (5, [.int mc, .int mn, .ref m0, .int mg, .ref m1, .ref m2, .ref m3, .ref m4, .ref m5, .ref m6])), (m0, .inl (o0, 16, .inl h)), (m1, .inl (o1, 16, .inl mO)), (m2, .inl (o2, 16, .inl mG)), (m3, .inl (o3, 16, .inl mF)), (m4, .inl (o4, 32, .inl mA)), (m5, .inl (o5, 32, .inl mU)), (m6, .inl (o6, 32, .inl mR))] s.heap.size := ⟨_, rfl⟩
  rw [← hAe] at hD
  have hA : ∀ q : Nat, s.heap.size ≤ q → A q := fun q h => by rw [hAe]; exact Or.inr h
  have hS : va_S A s.heap s.heap [] := va_S.rf
  have hl := lv_entry ([.ref mo, .int (nI u), .int (nI v)]) (n := 4) (Nat.le_of_ble_eq_true rfl)
  rw [lg_entry_eq]
  generalize (lg_sl ([.ref mo, .int (nI u), .int (nI v)]) ++ List.replicate (4 - (lg_sl ([.ref mo, .int (nI u), .int (nI v)])).length) Slot.unset).toArray = ls at hl ⊢
  have hl : lv_has ls 4 [(0, .ref mo), (1, .int (nI u)), (2, .int (nI v))] := hl
  refine lv_aload_n hx hb d_M_places_0 rfl (lv_at hl 0 rfl) ?_
  refine lv_iload_n hx hb d_M_places_1 rfl (lv_at hl 1 rfl) ?_
  refine lv_iload_n hx hb d_M_places_2 rfl (lv_at hl 2 rfl) ?_
  refine xw_i (wc := [(mo, .inr (5, [.int mc, .int mn, .ref m0, .int mg, .ref m1, .ref m2, .ref m3, .ref m4, .ref m5, .ref m6])), (m0, .inl (o0, 16, .inl h)), (m1, .inl (o1, 16, .inl mO)), (m2, .inl (o2, 16, .inl mG)), (m3, .inl (o3, 16, .inl mF)), (m4, .inl (o4, 32, .inl mA)), (m5, .inl (o5, 32, .inl mU)), (m6, .inl (o6, 32, .inl mR))]) (wr := []) (w1 := [(mo, .inr (5, [.int (b2i (!(isP (nI u) && isP (nI v)))), .int mn, .ref m0, .int mg, .ref m1, .ref m2, .ref m3, .ref m4, .ref m5, .ref m6])), (m0, .inl (o0, 16, .inl h)), (m1, .inl (o1, 16, .inl mO)), (m2, .inl (o2, 16, .inl mG)), (m3, .inl (o3, 16, .inl mF)), (m4, .inl (o4, 32, .inl mA)), (m5, .inl (o5, 32, .inl mU)), (m6, .inl (o6, 32, .inl mR))]) (va_runV (As := [.int (nI u), .int (nI v)]) (rest := []) ⟨hx, hb, hml, hown, hB⟩ (k_M_lacks l D mo m0 m1 m2 m3 m4 m5 m6 o0 o1 o2 o3 o4 o5 o6 mc mn mg h mO mG mF mA mU mR (nI u) (nI v) _) ⟨callB_of 2 hB (xg0 mc_M_lacks) rfl rfl rfl (hB _ mz_M) (hB _ ml_M_67) (by decide +kernel) ⟨Nat.le_of_ble_eq_true rfl, Nat.le_of_ble_eq_true rfl⟩, hB _ mi_M_lacks, hB _ me_M_lacks⟩ (xqV (ws := [(mo, .inr (5, [.int mc, .int mn, .ref m0, .int mg, .ref m1, .ref m2, .ref m3, .ref m4, .ref m5, .ref m6])), (m0, .inl (o0, 16, .inl h)), (m1, .inl (o1, 16, .inl mO)), (m2, .inl (o2, 16, .inl mG)), (m3, .inl (o3, 16, .inl mF)), (m4, .inl (o4, 32, .inl mA)), (m5, .inl (o5, 32, .inl mU)), (m6, .inl (o6, 32, .inl mR))]) (tys := [(o0, .int), (o1, .int), (o2, .int), (o3, .int), (o4, .int), (o5, .int), (o6, .int)]) (hP.sub [0, 1, 2, 3, 4, 5, 6, 7] rfl) (hD.sub [0, 1, 2, 3, 4, 5, 6, 7] (by decide) rfl) (hK.sub [0, 1, 2, 3, 4, 5, 6] rfl) hN (va_recv (ci := 5) (q0 := 0) (q := (R_M, F_M, 10)) hK hP rfl rfl)) rfl rfl hl.1 rfl (lv_room (Nat.le_of_ble_eq_true rfl)) d_M_places_3 ⟨Nat.le_of_ble_eq_true rfl, Nat.le_of_ble_eq_true rfl⟩) hP hD hS hA [0, 1, 2, 3, 4, 5, 6, 7] [] rfl rfl (by decide) (by decide) (fun H locs hP hD hS => ?_)
  have hP : va_P D cls [(mo, .inr (5, [.int (b2i (!(isP (nI u) && isP (nI v)))), .int mn, .ref m0, .int mg, .ref m1, .ref m2, .ref m3, .ref m4, .ref m5, .ref m6])), (m0, .inl (o0, 16, .inl h)), (m1, .inl (o1, 16, .inl mO)), (m2, .inl (o2, 16, .inl mG)), (m3, .inl (o3, 16, .inl mF)), (m4, .inl (o4, 32, .inl mA)), (m5, .inl (o5, 32, .inl mU)), (m6, .inl (o6, 32, .inl mR))] H := hP
  have hD : va_D A [(mo, .inr (5, [.int (b2i (!(isP (nI u) && isP (nI v)))), .int mn, .ref m0, .int mg, .ref m1, .ref m2, .ref m3, .ref m4, .ref m5, .ref m6])), (m0, .inl (o0, 16, .inl h)), (m1, .inl (o1, 16, .inl mO)), (m2, .inl (o2, 16, .inl mG)), (m3, .inl (o3, 16, .inl mF)), (m4, .inl (o4, 32, .inl mA)), (m5, .inl (o5, 32, .inl mU)), (m6, .inl (o6, 32, .inl mR))] := hD
  have hz : (b2i (!(isP (nI u) && isP (nI v)))) = nI 0 := by rw [isP2 (by omega) (by omega)]; rfl
  rw [hz] at hP hD
  refine lv_if_eq (tgt := 11) hx hb d_M_places_6 rfl (fun hc6 => ?_) (fun hc6 => ?_)
  · have hc6 := b2i_0.mp hc6
    refine lv_iload_n hx hb d_M_places_11 rfl (lv_at hl 1 rfl) ?_
    refine lv_iload_n hx hb d_M_places_12 rfl (lv_at hl 2 rfl) ?_
    refine lv_icmp_eq (tgt := 29) hx hb d_M_places_13 rfl (fun hc13 => ?_) (fun hc13 => ?_)
    · have hc13 : u = v := (nI_eq (by omega) (by omega)).mp hc13
      refine lv_iconst (v := -1) hx hb d_M_places_29 (by decide) ?_
      have hP9 := hP.sub (ws' := [(mo, .inr (5, [.int (nI 0), .int mn, .ref m0, .int mg, .ref m1, .ref m2, .ref m3, .ref m4, .ref m5, .ref m6])), (m0, .inl (o0, 16, .inl h)), (m1, .inl (o1, 16, .inl mO)), (m2, .inl (o2, 16, .inl mG)), (m3, .inl (o3, 16, .inl mF)), (m4, .inl (o4, 32, .inl mA)), (m5, .inl (o5, 32, .inl mU)), (m6, .inl (o6, 32, .inl mR))]) [0, 1, 2, 3, 4, 5, 6, 7] rfl
      have hD9 := hD.sub (ws' := [(mo, .inr (5, [.int (nI 0), .int mn, .ref m0, .int mg, .ref m1, .ref m2, .ref m3, .ref m4, .ref m5, .ref m6])), (m0, .inl (o0, 16, .inl h)), (m1, .inl (o1, 16, .inl mO)), (m2, .inl (o2, 16, .inl mG)), (m3, .inl (o3, 16, .inl mF)), (m4, .inl (o4, 32, .inl mA)), (m5, .inl (o5, 32, .inl mU)), (m6, .inl (o6, 32, .inl mR))]) [0, 1, 2, 3, 4, 5, 6, 7] (by decide) rfl
      subst hAe
      exact W.iret (v := -1) hx hb hr (fun t ht hW => ⟨⟨_, (), rfl, rfl, by rw [ht]; exact hP9, va_K.moved hW.alike hK, hD9⟩, hS.F ht⟩) hS.2.2 d_M_places_30
    · have hc13 : ¬ (u = v) := fun q9 => hc13 ((nI_eq (by omega) (by omega)).mpr q9)
      refine lv_aload_n hx hb d_M_places_16 rfl (lv_at hl 0 rfl) ?_
      refine va_get (D := D) (ci := 5) (v := .ref m0) (C := R_M) (T := F_M) (N := 10) hx hb hB in_M hown hK hP 0 rfl rfl 2 (by decide) (hB _ mf_M_7) (fun _ h9 => h9) rfl d_M_places_17 ?_
      refine lv_iload_n hx hb d_M_places_20 rfl (lv_at hl 1 rfl) ?_
      refine xa_ld (u := u) hx hb hK hP 1 0 rfl rfl (by omega) (by decide) d_M_places_21 ?_
      refine lv_iload_n hx hb d_M_places_22 rfl (lv_at hl 2 rfl) ?_
      refine xr_cal (va_runS (As := [.int (h u), .int (nI v)]) (rest := []) ⟨hx, hb, hml, hown, hB⟩ (k_M_has l D  (h u) v (by omega)) ⟨callB_of 2 hB (xg0 mc_M_has) rfl rfl rfl (hB _ mz_M) (hB _ ml_M_35) (by decide +kernel) ⟨Nat.le_of_ble_eq_true rfl, Nat.le_of_ble_eq_true rfl⟩, hB _ ms_M_has⟩ (xpS (ws := []) (tys := []) (hP.sub [] rfl) (hK.sub [] rfl) hN) rfl rfl hl.1 rfl (lv_room (Nat.le_of_ble_eq_true rfl)) d_M_places_23 ⟨Nat.le_of_ble_eq_true rfl, Nat.le_of_ble_eq_true rfl⟩) ?_
      refine lv_if_eq (tgt := 31) hx hb d_M_places_26 rfl (fun hc26 => ?_) (fun hc26 => ?_)
      · have hc26 := b2i_0.mp hc26
        exact (huv.elim (fun q9 => absurd q9 hc13) (fun q9 => absurd q9 (by rw [hc26]; decide)))
      · have hc26 := b2i_n.mp hc26
        refine lv_iconst (v := -1) hx hb d_M_places_29 (by decide) ?_
        have hP9 := hP.sub (ws' := [(mo, .inr (5, [.int (nI 0), .int mn, .ref m0, .int mg, .ref m1, .ref m2, .ref m3, .ref m4, .ref m5, .ref m6])), (m0, .inl (o0, 16, .inl h)), (m1, .inl (o1, 16, .inl mO)), (m2, .inl (o2, 16, .inl mG)), (m3, .inl (o3, 16, .inl mF)), (m4, .inl (o4, 32, .inl mA)), (m5, .inl (o5, 32, .inl mU)), (m6, .inl (o6, 32, .inl mR))]) [0, 1, 2, 3, 4, 5, 6, 7] rfl
        have hD9 := hD.sub (ws' := [(mo, .inr (5, [.int (nI 0), .int mn, .ref m0, .int mg, .ref m1, .ref m2, .ref m3, .ref m4, .ref m5, .ref m6])), (m0, .inl (o0, 16, .inl h)), (m1, .inl (o1, 16, .inl mO)), (m2, .inl (o2, 16, .inl mG)), (m3, .inl (o3, 16, .inl mF)), (m4, .inl (o4, 32, .inl mA)), (m5, .inl (o5, 32, .inl mU)), (m6, .inl (o6, 32, .inl mR))]) [0, 1, 2, 3, 4, 5, 6, 7] (by decide) rfl
        subst hAe
        exact W.iret (v := -1) hx hb hr (fun t ht hW => ⟨⟨_, (), rfl, rfl, by rw [ht]; exact hP9, va_K.moved hW.alike hK, hD9⟩, hS.F ht⟩) hS.2.2 d_M_places_30
  · have hc6 := b2i_n.mp hc6
    exact absurd hc6 (by rw [isP2 (by omega) (by omega)]; decide)
set_option maxHeartbeats 4000000 in
set_option maxRecDepth 100000 in
theorem k_M_places_ok (l : Launch) (D : va_G) (mo m0 m1 m2 m3 m4 m5 m6 : Nat) (o0 o1 o2 o3 o4 o5 o6 : ClassId) (mc : Int32) (mn : Int32) (mg : Int32) (h : Nat → Int32) (mO : Nat → Int32) (mG : Nat → Int32) (mF : Nat → Int32) (mA : Nat → Int32) (mU : Nat → Int32) (mR : Nat → Int32) (hg : gd h) (u v : Nat) (hu : u < 16) (hv : v < 16) (huv : ¬ u = v) (hb9 : bt (h u) v = false) (sz : Nat) : Met l y_M_places (Cond.code y_M_places c_M_places 4 (some .int) :: BS) { frames := 3, cells := 0, slots := 0, locals := 72 } (va_Pc [.ref mo, .int (nI u), .int (nI v)] (xWp D [(mo, .inr (5, [.int mc, .int mn, .ref m0, .int mg, .ref m1, .ref m2, .ref m3, .ref m4, .ref m5, .ref m6])), (m0, .inl (o0, 16, .inl h)), (m1, .inl (o1, 16, .inl mO)), (m2, .inl (o2, 16, .inl mG)), (m3, .inl (o3, 16, .inl mF)), (m4, .inl (o4, 32, .inl mA)), (m5, .inl (o5, 32, .inl mU)), (m6, .inl (o6, 32, .inl mR))] [(o0, .int), (o1, .int), (o2, .int), (o3, .int), (o4, .int), (o5, .int), (o6, .int)] sz)) (xQi D [(mo, .inr (5, [.int mc, .int mn, .ref m0, .int mg, .ref m1, .ref m2, .ref m3, .ref m4, .ref m5, .ref m6])), (m0, .inl (o0, 16, .inl h)), (m1, .inl (o1, 16, .inl mO)), (m2, .inl (o2, 16, .inl mG)), (m3, .inl (o3, 16, .inl mF)), (m4, .inl (o4, 32, .inl mA)), (m5, .inl (o5, 32, .inl mU)), (m6, .inl (o6, 32, .inl mR))] [(mo, .inr (5, [.int (nI 0), .int mn, .ref m0, .int mg, .ref m1, .ref m2, .ref m3, .ref m4, .ref m5, .ref m6])), (m0, .inl (o0, 16, .inl h)), (m1, .inl (o1, 16, .inl mO)), (m2, .inl (o2, 16, .inl mG)), (m3, .inl (o3, 16, .inl mF)), (m4, .inl (o4, 32, .inl (mpL h u v))), (m5, .inl (o5, 32, .inl (apS (mpL h u v) (16 + u) v (apN (mpL h u v) (16 + u) v)))), (m6, .inl (o6, 32, .inl (fun k => oI ((fdS (mpL h u v) (apS (mpL h u v) (16 + u) v (apN (mpL h u v) (16 + u) v)) (16 + u) v 33).1 k))))] [(o0, .int), (o1, .int), (o2, .int), (o3, .int), (o4, .int), (o5, .int), (o6, .int)] sz (nI (apN (mpL h u v) (16 + u) v))) 0 0 (va_A [(mo, .inr (5, [.int mc, .int mn, .ref m0, .int mg, .ref m1, .ref m2, .ref m3, .ref m4, .ref m5, .ref m6])), (m0, .inl (o0, 16, .inl h)), (m1, .inl (o1, 16, .inl mO)), (m2, .inl (o2, 16, .inl mG)), (m3, .inl (o3, 16, .inl mF)), (m4, .inl (o4, 32, .inl mA)), (m5, .inl (o5, 32, .inl mU)), (m6, .inl (o6, 32, .inl mR))] sz) := by
  refine Met.ofW (cc := c_M_places) (maxL := 4) (ret := (some .int)) (by decide) rfl ?_
  intro p e s m args below meth c s₁ B hml hv
  obtain ⟨rfl, hsz, hP, hK, hD0, hN⟩ := hv
  have hx := B.exec
  have hb := B.bytes
  have hr := B.returns
  have hB := xB B.pre
  have hown : s.vm.findClass R_M = some m.cls := findClass_of_methodNamed B.named
  have hlocks := B.notSynchronized
  subst hsz
  have hD := hD0.self (sz := s.heap.size)
  obtain ⟨A, hAe⟩ : ∃ A, A = va_A [(mo, .inr (5, [.int mc, .int mn, .ref m0, .int mg, .ref m1, .ref m2, .ref m3, .ref m4, .ref m5, .ref m6])), (m0, .inl (o0, 16, .inl h)), (m1, .inl (o1, 16, .inl mO)), (m2, .inl (o2, 16, .inl mG)), (m3, .inl (o3, 16, .inl mF)), (m4, .inl (o4, 32, .inl mA)), (m5, .inl (o5, 32, .inl mU)), (m6, .inl (o6, 32, .inl mR))] s.heap.size := ⟨_, rfl⟩
  rw [← hAe] at hD
  have hA : ∀ q : Nat, s.heap.size ≤ q → A q := fun q h => by rw [hAe]; exact Or.inr h
  have hS : va_S A s.heap s.heap [] := va_S.rf
  have hl := lv_entry ([.ref mo, .int (nI u), .int (nI v)]) (n := 4) (Nat.le_of_ble_eq_true rfl)
  rw [lg_entry_eq]
  generalize (lg_sl ([.ref mo, .int (nI u), .int (nI v)]) ++ List.replicate (4 - (lg_sl ([.ref mo, .int (nI u), .int (nI v)])).length) Slot.unset).toArray = ls at hl ⊢
  have hl : lv_has ls 4 [(0, .ref mo), (1, .int (nI u)), (2, .int (nI v))] := hl
  refine lv_aload_n hx hb d_M_places_0 rfl (lv_at hl 0 rfl) ?_
  refine lv_iload_n hx hb d_M_places_1 rfl (lv_at hl 1 rfl) ?_
  refine lv_iload_n hx hb d_M_places_2 rfl (lv_at hl 2 rfl) ?_
  refine xw_i (wc := [(mo, .inr (5, [.int mc, .int mn, .ref m0, .int mg, .ref m1, .ref m2, .ref m3, .ref m4, .ref m5, .ref m6])), (m0, .inl (o0, 16, .inl h)), (m1, .inl (o1, 16, .inl mO)), (m2, .inl (o2, 16, .inl mG)), (m3, .inl (o3, 16, .inl mF)), (m4, .inl (o4, 32, .inl mA)), (m5, .inl (o5, 32, .inl mU)), (m6, .inl (o6, 32, .inl mR))]) (wr := []) (w1 := [(mo, .inr (5, [.int (b2i (!(isP (nI u) && isP (nI v)))), .int mn, .ref m0, .int mg, .ref m1, .ref m2, .ref m3, .ref m4, .ref m5, .ref m6])), (m0, .inl (o0, 16, .inl h)), (m1, .inl (o1, 16, .inl mO)), (m2, .inl (o2, 16, .inl mG)), (m3, .inl (o3, 16, .inl mF)), (m4, .inl (o4, 32, .inl mA)), (m5, .inl (o5, 32, .inl mU)), (m6, .inl (o6, 32, .inl mR))]) (va_runV (As := [.int (nI u), .int (nI v)]) (rest := []) ⟨hx, hb, hml, hown, hB⟩ (k_M_lacks l D mo m0 m1 m2 m3 m4 m5 m6 o0 o1 o2 o3 o4 o5 o6 mc mn mg h mO mG mF mA mU mR (nI u) (nI v) _) ⟨callB_of 2 hB (xg0 mc_M_lacks) rfl rfl rfl (hB _ mz_M) (hB _ ml_M_67) (by decide +kernel) ⟨Nat.le_of_ble_eq_true rfl, Nat.le_of_ble_eq_true rfl⟩, hB _ mi_M_lacks, hB _ me_M_lacks⟩ (xqV (ws := [(mo, .inr (5, [.int mc, .int mn, .ref m0, .int mg, .ref m1, .ref m2, .ref m3, .ref m4, .ref m5, .ref m6])), (m0, .inl (o0, 16, .inl h)), (m1, .inl (o1, 16, .inl mO)), (m2, .inl (o2, 16, .inl mG)), (m3, .inl (o3, 16, .inl mF)), (m4, .inl (o4, 32, .inl mA)), (m5, .inl (o5, 32, .inl mU)), (m6, .inl (o6, 32, .inl mR))]) (tys := [(o0, .int), (o1, .int), (o2, .int), (o3, .int), (o4, .int), (o5, .int), (o6, .int)]) (hP.sub [0, 1, 2, 3, 4, 5, 6, 7] rfl) (hD.sub [0, 1, 2, 3, 4, 5, 6, 7] (by decide) rfl) (hK.sub [0, 1, 2, 3, 4, 5, 6] rfl) hN (va_recv (ci := 5) (q0 := 0) (q := (R_M, F_M, 10)) hK hP rfl rfl)) rfl rfl hl.1 rfl (lv_room (Nat.le_of_ble_eq_true rfl)) d_M_places_3 ⟨Nat.le_of_ble_eq_true rfl, Nat.le_of_ble_eq_true rfl⟩) hP hD hS hA [0, 1, 2, 3, 4, 5, 6, 7] [] rfl rfl (by decide) (by decide) (fun H locs hP hD hS => ?_)
  have hP : va_P D cls [(mo, .inr (5, [.int (b2i (!(isP (nI u) && isP (nI v)))), .int mn, .ref m0, .int mg, .ref m1, .ref m2, .ref m3, .ref m4, .ref m5, .ref m6])), (m0, .inl (o0, 16, .inl h)), (m1, .inl (o1, 16, .inl mO)), (m2, .inl (o2, 16, .inl mG)), (m3, .inl (o3, 16, .inl mF)), (m4, .inl (o4, 32, .inl mA)), (m5, .inl (o5, 32, .inl mU)), (m6, .inl (o6, 32, .inl mR))] H := hP
  have hD : va_D A [(mo, .inr (5, [.int (b2i (!(isP (nI u) && isP (nI v)))), .int mn, .ref m0, .int mg, .ref m1, .ref m2, .ref m3, .ref m4, .ref m5, .ref m6])), (m0, .inl (o0, 16, .inl h)), (m1, .inl (o1, 16, .inl mO)), (m2, .inl (o2, 16, .inl mG)), (m3, .inl (o3, 16, .inl mF)), (m4, .inl (o4, 32, .inl mA)), (m5, .inl (o5, 32, .inl mU)), (m6, .inl (o6, 32, .inl mR))] := hD
  have hz : (b2i (!(isP (nI u) && isP (nI v)))) = nI 0 := by rw [isP2 (by omega) (by omega)]; rfl
  rw [hz] at hP hD
  refine lv_if_eq (tgt := 11) hx hb d_M_places_6 rfl (fun hc6 => ?_) (fun hc6 => ?_)
  · have hc6 := b2i_0.mp hc6
    refine lv_iload_n hx hb d_M_places_11 rfl (lv_at hl 1 rfl) ?_
    refine lv_iload_n hx hb d_M_places_12 rfl (lv_at hl 2 rfl) ?_
    refine lv_icmp_eq (tgt := 29) hx hb d_M_places_13 rfl (fun hc13 => ?_) (fun hc13 => ?_)
    · have hc13 : u = v := (nI_eq (by omega) (by omega)).mp hc13
      exact absurd hc13 huv
    · have hc13 : ¬ (u = v) := fun q9 => hc13 ((nI_eq (by omega) (by omega)).mpr q9)
      refine lv_aload_n hx hb d_M_places_16 rfl (lv_at hl 0 rfl) ?_
      refine va_get (D := D) (ci := 5) (v := .ref m0) (C := R_M) (T := F_M) (N := 10) hx hb hB in_M hown hK hP 0 rfl rfl 2 (by decide) (hB _ mf_M_7) (fun _ h9 => h9) rfl d_M_places_17 ?_
      refine lv_iload_n hx hb d_M_places_20 rfl (lv_at hl 1 rfl) ?_
      refine xa_ld (u := u) hx hb hK hP 1 0 rfl rfl (by omega) (by decide) d_M_places_21 ?_
      refine lv_iload_n hx hb d_M_places_22 rfl (lv_at hl 2 rfl) ?_
      refine xr_cal (va_runS (As := [.int (h u), .int (nI v)]) (rest := []) ⟨hx, hb, hml, hown, hB⟩ (k_M_has l D  (h u) v (by omega)) ⟨callB_of 2 hB (xg0 mc_M_has) rfl rfl rfl (hB _ mz_M) (hB _ ml_M_35) (by decide +kernel) ⟨Nat.le_of_ble_eq_true rfl, Nat.le_of_ble_eq_true rfl⟩, hB _ ms_M_has⟩ (xpS (ws := []) (tys := []) (hP.sub [] rfl) (hK.sub [] rfl) hN) rfl rfl hl.1 rfl (lv_room (Nat.le_of_ble_eq_true rfl)) d_M_places_23 ⟨Nat.le_of_ble_eq_true rfl, Nat.le_of_ble_eq_true rfl⟩) ?_
      refine lv_if_eq (tgt := 31) hx hb d_M_places_26 rfl (fun hc26 => ?_) (fun hc26 => ?_)
      · have hc26 := b2i_0.mp hc26
        refine lv_iconst (v := nI 0) hx hb d_M_places_31 (by decide) ?_
        refine lv_istore_n hx hb d_M_places_32 rfl hl (by decide) rfl (fun ls hl => ?_)
        have hl : lv_has ls 4 [(3, .int (nI 0)), (0, .ref mo), (1, .int (nI u)), (2, .int (nI v))] := hl
        have hz : mA = (mpl h u v mA 0) := mpl_0
        rw [hz] at hP hD
        refine xl_w (fun (w9 : Nat) ls H locs => ((w9 ≤ 16)) ∧ lv_has ls 4 [(3, .int (nI w9)), (0, .ref mo), (1, .int (nI u)), (2, .int (nI v))] ∧ va_P D cls [(mo, .inr (5, [.int (nI 0), .int mn, .ref m0, .int mg, .ref m1, .ref m2, .ref m3, .ref m4, .ref m5, .ref m6])), (m0, .inl (o0, 16, .inl h)), (m1, .inl (o1, 16, .inl mO)), (m2, .inl (o2, 16, .inl mG)), (m3, .inl (o3, 16, .inl mF)), (m4, .inl (o4, 32, .inl (mpl h u v mA w9))), (m5, .inl (o5, 32, .inl mU)), (m6, .inl (o6, 32, .inl mR))] H ∧ va_D A [(mo, .inr (5, [.int (nI 0), .int mn, .ref m0, .int mg, .ref m1, .ref m2, .ref m3, .ref m4, .ref m5, .ref m6])), (m0, .inl (o0, 16, .inl h)), (m1, .inl (o1, 16, .inl mO)), (m2, .inl (o2, 16, .inl mG)), (m3, .inl (o3, 16, .inl mF)), (m4, .inl (o4, 32, .inl (mpl h u v mA w9))), (m5, .inl (o5, 32, .inl mU)), (m6, .inl (o6, 32, .inl mR))] ∧ va_S A s.heap H locs) (fun w9 => 16 - w9) (fun w9 ls H locs hI ih33 => ?_) 0 _ ⟨Nat.zero_le _, hl, hP, hD, hS⟩
        obtain ⟨hI, hl, hP, hD, hS⟩ := hI
        have hw9 := hI
        refine lv_iload_n hx hb d_M_places_33 rfl (lv_at hl 0 rfl) ?_
        refine lv_bipush (v := nI 16) hx hb d_M_places_34 (by decide) ?_
        refine lv_icmp_ge (tgt := 86) hx hb d_M_places_36 rfl (fun hc36 => ?_) (fun hc36 => ?_)
        · have hc36 : 16 ≤ w9 := (nI_leI (by omega) (by omega)).mp hc36
          have hP := xP_ext hP 5 (mpL h u v) rfl (fun j9 hj9 => by rw [show w9 = 16 by omega]; exact mpl_16 hj9)
          have hD := xD_ext hD 5 (y := .inl (o4, 32, .inl (mpL h u v))) rfl
          have hP : va_P D cls [(mo, .inr (5, [.int (nI 0), .int mn, .ref m0, .int mg, .ref m1, .ref m2, .ref m3, .ref m4, .ref m5, .ref m6])), (m0, .inl (o0, 16, .inl h)), (m1, .inl (o1, 16, .inl mO)), (m2, .inl (o2, 16, .inl mG)), (m3, .inl (o3, 16, .inl mF)), (m4, .inl (o4, 32, .inl (mpL h u v))), (m5, .inl (o5, 32, .inl mU)), (m6, .inl (o6, 32, .inl mR))] _ := hP
          have hD : va_D A [(mo, .inr (5, [.int (nI 0), .int mn, .ref m0, .int mg, .ref m1, .ref m2, .ref m3, .ref m4, .ref m5, .ref m6])), (m0, .inl (o0, 16, .inl h)), (m1, .inl (o1, 16, .inl mO)), (m2, .inl (o2, 16, .inl mG)), (m3, .inl (o3, 16, .inl mF)), (m4, .inl (o4, 32, .inl (mpL h u v))), (m5, .inl (o5, 32, .inl mU)), (m6, .inl (o6, 32, .inl mR))] := hD
          refine lv_aload_n hx hb d_M_places_86 rfl (lv_at hl 1 rfl) ?_
          refine lv_bipush (v := nI 16) hx hb d_M_places_87 (by decide) ?_
          refine lv_iload_n hx hb d_M_places_89 rfl (lv_at hl 2 rfl) ?_
          refine lv_iadd hx hb d_M_places_90 ?_
          refine xv_top (x' := nI (16 + u)) (nI_add 16 u) ?_
          refine lv_iload_n hx hb d_M_places_91 rfl (lv_at hl 3 rfl) ?_
          refine xw_i (wc := [(mo, .inr (5, [.int (nI 0), .int mn, .ref m0, .int mg, .ref m1, .ref m2, .ref m3, .ref m4, .ref m5, .ref m6])), (m0, .inl (o0, 16, .inl h)), (m1, .inl (o1, 16, .inl mO)), (m2, .inl (o2, 16, .inl mG)), (m3, .inl (o3, 16, .inl mF)), (m4, .inl (o4, 32, .inl (mpL h u v))), (m5, .inl (o5, 32, .inl mU)), (m6, .inl (o6, 32, .inl mR))]) (wr := []) (w1 := [(mo, .inr (5, [.int (nI 0), .int mn, .ref m0, .int mg, .ref m1, .ref m2, .ref m3, .ref m4, .ref m5, .ref m6])), (m0, .inl (o0, 16, .inl h)), (m1, .inl (o1, 16, .inl mO)), (m2, .inl (o2, 16, .inl mG)), (m3, .inl (o3, 16, .inl mF)), (m4, .inl (o4, 32, .inl (mpL h u v))), (m5, .inl (o5, 32, .inl (apS (mpL h u v) (16 + u) v (apN (mpL h u v) (16 + u) v)))), (m6, .inl (o6, 32, .inl (fun k => oI ((fdS (mpL h u v) (apS (mpL h u v) (16 + u) v (apN (mpL h u v) (16 + u) v)) (16 + u) v 33).1 k))))]) (va_runV (As := [.int (nI (16 + u)), .int (nI v)]) (rest := []) ⟨hx, hb, hml, hown, hB⟩ (k_M_apart l D mo m0 m1 m2 m3 m4 m5 m6 o0 o1 o2 o3 o4 o5 o6 (nI 0) mn mg h mO mG mF (mpL h u v) mU mR (16 + u) v (by omega) (by omega) (by omega) _) ⟨callB_of 2 hB (xg0 mc_M_apart) rfl rfl rfl (hB _ mz_M) (hB _ ml_M_90) (by decide +kernel) ⟨Nat.le_of_ble_eq_true rfl, Nat.le_of_ble_eq_true rfl⟩, hB _ mi_M_apart, hB _ me_M_apart⟩ (xqV (ws := [(mo, .inr (5, [.int (nI 0), .int mn, .ref m0, .int mg, .ref m1, .ref m2, .ref m3, .ref m4, .ref m5, .ref m6])), (m0, .inl (o0, 16, .inl h)), (m1, .inl (o1, 16, .inl mO)), (m2, .inl (o2, 16, .inl mG)), (m3, .inl (o3, 16, .inl mF)), (m4, .inl (o4, 32, .inl (mpL h u v))), (m5, .inl (o5, 32, .inl mU)), (m6, .inl (o6, 32, .inl mR))]) (tys := [(o0, .int), (o1, .int), (o2, .int), (o3, .int), (o4, .int), (o5, .int), (o6, .int)]) (hP.sub [0, 1, 2, 3, 4, 5, 6, 7] rfl) (hD.sub [0, 1, 2, 3, 4, 5, 6, 7] (by decide) rfl) (hK.sub [0, 1, 2, 3, 4, 5, 6] rfl) hN (va_recv (ci := 5) (q0 := 0) (q := (R_M, F_M, 10)) hK hP rfl rfl)) rfl rfl hl.1 rfl (lv_room (Nat.le_of_ble_eq_true rfl)) d_M_places_92 ⟨Nat.le_of_ble_eq_true rfl, Nat.le_of_ble_eq_true rfl⟩) hP hD hS hA [0, 1, 2, 3, 4, 5, 6, 7] [] rfl rfl (by decide) (by decide) (fun H locs hP hD hS => ?_)
          have hP : va_P D cls [(mo, .inr (5, [.int (nI 0), .int mn, .ref m0, .int mg, .ref m1, .ref m2, .ref m3, .ref m4, .ref m5, .ref m6])), (m0, .inl (o0, 16, .inl h)), (m1, .inl (o1, 16, .inl mO)), (m2, .inl (o2, 16, .inl mG)), (m3, .inl (o3, 16, .inl mF)), (m4, .inl (o4, 32, .inl (mpL h u v))), (m5, .inl (o5, 32, .inl (apS (mpL h u v) (16 + u) v (apN (mpL h u v) (16 + u) v)))), (m6, .inl (o6, 32, .inl (fun k => oI ((fdS (mpL h u v) (apS (mpL h u v) (16 + u) v (apN (mpL h u v) (16 + u) v)) (16 + u) v 33).1 k))))] H := hP
          have hD : va_D A [(mo, .inr (5, [.int (nI 0), .int mn, .ref m0, .int mg, .ref m1, .ref m2, .ref m3, .ref m4, .ref m5, .ref m6])), (m0, .inl (o0, 16, .inl h)), (m1, .inl (o1, 16, .inl mO)), (m2, .inl (o2, 16, .inl mG)), (m3, .inl (o3, 16, .inl mF)), (m4, .inl (o4, 32, .inl (mpL h u v))), (m5, .inl (o5, 32, .inl (apS (mpL h u v) (16 + u) v (apN (mpL h u v) (16 + u) v)))), (m6, .inl (o6, 32, .inl (fun k => oI ((fdS (mpL h u v) (apS (mpL h u v) (16 + u) v (apN (mpL h u v) (16 + u) v)) (16 + u) v 33).1 k))))] := hD
          have hP9 := hP.sub (ws' := [(mo, .inr (5, [.int (nI 0), .int mn, .ref m0, .int mg, .ref m1, .ref m2, .ref m3, .ref m4, .ref m5, .ref m6])), (m0, .inl (o0, 16, .inl h)), (m1, .inl (o1, 16, .inl mO)), (m2, .inl (o2, 16, .inl mG)), (m3, .inl (o3, 16, .inl mF)), (m4, .inl (o4, 32, .inl (mpL h u v))), (m5, .inl (o5, 32, .inl (apS (mpL h u v) (16 + u) v (apN (mpL h u v) (16 + u) v)))), (m6, .inl (o6, 32, .inl (fun k => oI ((fdS (mpL h u v) (apS (mpL h u v) (16 + u) v (apN (mpL h u v) (16 + u) v)) (16 + u) v 33).1 k))))]) [0, 1, 2, 3, 4, 5, 6, 7] rfl
          have hD9 := hD.sub (ws' := [(mo, .inr (5, [.int (nI 0), .int mn, .ref m0, .int mg, .ref m1, .ref m2, .ref m3, .ref m4, .ref m5, .ref m6])), (m0, .inl (o0, 16, .inl h)), (m1, .inl (o1, 16, .inl mO)), (m2, .inl (o2, 16, .inl mG)), (m3, .inl (o3, 16, .inl mF)), (m4, .inl (o4, 32, .inl (mpL h u v))), (m5, .inl (o5, 32, .inl (apS (mpL h u v) (16 + u) v (apN (mpL h u v) (16 + u) v)))), (m6, .inl (o6, 32, .inl (fun k => oI ((fdS (mpL h u v) (apS (mpL h u v) (16 + u) v (apN (mpL h u v) (16 + u) v)) (16 + u) v 33).1 k))))]) [0, 1, 2, 3, 4, 5, 6, 7] (by decide) rfl
          subst hAe
          exact W.iret (v := nI (apN (mpL h u v) (16 + u) v)) hx hb hr (fun t ht hW => ⟨⟨_, (), rfl, rfl, by rw [ht]; exact hP9, va_K.moved hW.alike hK, hD9⟩, hS.F ht⟩) hS.2.2 d_M_places_95
        · have hc36 : ¬ (16 ≤ w9) := fun q9 => hc36 ((nI_leI (by omega) (by omega)).mpr q9)
          refine lv_aload_n hx hb d_M_places_39 rfl (lv_at hl 1 rfl) ?_
          refine va_get (D := D) (ci := 5) (v := .ref m4) (C := R_M) (T := F_M) (N := 10) hx hb hB in_M hown hK hP 0 rfl rfl 7 (by decide) (hB _ mf_M_22) (fun _ h9 => h9) rfl d_M_places_40 ?_
          refine lv_iload_n hx hb d_M_places_43 rfl (lv_at hl 0 rfl) ?_
          refine lv_iload_n hx hb d_M_places_44 rfl (lv_at hl 0 rfl) ?_
          refine lv_iload_n hx hb d_M_places_45 rfl (lv_at hl 2 rfl) ?_
          refine lv_icmp_eq (tgt := 54) hx hb d_M_places_46 rfl (fun hc46 => ?_) (fun hc46 => ?_)
          · have hc46 : w9 = u := (nI_eq (by omega) (by omega)).mp hc46
            refine lv_iconst (v := nI 0) hx hb d_M_places_54 (by decide) ?_
            refine lv_goto (tgt := 64) hx hb d_M_places_55 rfl ?_
            refine xv_top (x' := if w9 = u ∨ w9 = v then nI 0 else bit (16 + w9)) (by first | exact (if_pos (Or.inl hc46)).symm | exact (if_pos (Or.inr hc51)).symm) ?_
            refine xa_st (u := w9) hx hb hK hP hD hS 5 4 rfl rfl (by omega) (by decide) d_M_places_64 (fun H locs hP hD hS => ?_)
            have hP : va_P D cls [(mo, .inr (5, [.int (nI 0), .int mn, .ref m0, .int mg, .ref m1, .ref m2, .ref m3, .ref m4, .ref m5, .ref m6])), (m0, .inl (o0, 16, .inl h)), (m1, .inl (o1, 16, .inl mO)), (m2, .inl (o2, 16, .inl mG)), (m3, .inl (o3, 16, .inl mF)), (m4, .inl (o4, 32, .inl (upd (mpl h u v mA w9) w9 (if w9 = u ∨ w9 = v then nI 0 else bit (16 + w9))))), (m5, .inl (o5, 32, .inl mU)), (m6, .inl (o6, 32, .inl mR))] H := hP
            have hD : va_D A [(mo, .inr (5, [.int (nI 0), .int mn, .ref m0, .int mg, .ref m1, .ref m2, .ref m3, .ref m4, .ref m5, .ref m6])), (m0, .inl (o0, 16, .inl h)), (m1, .inl (o1, 16, .inl mO)), (m2, .inl (o2, 16, .inl mG)), (m3, .inl (o3, 16, .inl mF)), (m4, .inl (o4, 32, .inl (upd (mpl h u v mA w9) w9 (if w9 = u ∨ w9 = v then nI 0 else bit (16 + w9))))), (m5, .inl (o5, 32, .inl mU)), (m6, .inl (o6, 32, .inl mR))] := hD
            refine lv_aload_n hx hb d_M_places_65 rfl (lv_at hl 1 rfl) ?_
            refine va_get (D := D) (ci := 5) (v := .ref m4) (C := R_M) (T := F_M) (N := 10) hx hb hB in_M hown hK hP 0 rfl rfl 7 (by decide) (hB _ mf_M_22) (fun _ h9 => h9) rfl d_M_places_66 ?_
            refine lv_bipush (v := nI 16) hx hb d_M_places_69 (by decide) ?_
            refine lv_iload_n hx hb d_M_places_71 rfl (lv_at hl 0 rfl) ?_
            refine lv_iadd hx hb d_M_places_72 ?_
            refine xv_top (x' := nI (16 + w9)) (nI_add 16 w9) ?_
            refine lv_aload_n hx hb d_M_places_73 rfl (lv_at hl 1 rfl) ?_
            refine va_get (D := D) (ci := 5) (v := .ref m0) (C := R_M) (T := F_M) (N := 10) hx hb hB in_M hown hK hP 0 rfl rfl 2 (by decide) (hB _ mf_M_7) (fun _ h9 => h9) rfl d_M_places_74 ?_
            refine lv_iload_n hx hb d_M_places_77 rfl (lv_at hl 0 rfl) ?_
            refine xa_ld (u := w9) hx hb hK hP 1 0 rfl rfl (by omega) (by decide) d_M_places_78 ?_
            refine xa_st (u := (16 + w9)) hx hb hK hP hD hS 5 4 rfl rfl (by omega) (by decide) d_M_places_79 (fun H locs hP hD hS => ?_)
            have hP : va_P D cls [(mo, .inr (5, [.int (nI 0), .int mn, .ref m0, .int mg, .ref m1, .ref m2, .ref m3, .ref m4, .ref m5, .ref m6])), (m0, .inl (o0, 16, .inl h)), (m1, .inl (o1, 16, .inl mO)), (m2, .inl (o2, 16, .inl mG)), (m3, .inl (o3, 16, .inl mF)), (m4, .inl (o4, 32, .inl (upd (upd (mpl h u v mA w9) w9 (if w9 = u ∨ w9 = v then nI 0 else bit (16 + w9))) (16 + w9) (h w9)))), (m5, .inl (o5, 32, .inl mU)), (m6, .inl (o6, 32, .inl mR))] H := hP
            have hD : va_D A [(mo, .inr (5, [.int (nI 0), .int mn, .ref m0, .int mg, .ref m1, .ref m2, .ref m3, .ref m4, .ref m5, .ref m6])), (m0, .inl (o0, 16, .inl h)), (m1, .inl (o1, 16, .inl mO)), (m2, .inl (o2, 16, .inl mG)), (m3, .inl (o3, 16, .inl mF)), (m4, .inl (o4, 32, .inl (upd (upd (mpl h u v mA w9) w9 (if w9 = u ∨ w9 = v then nI 0 else bit (16 + w9))) (16 + w9) (h w9)))), (m5, .inl (o5, 32, .inl mU)), (m6, .inl (o6, 32, .inl mR))] := hD
            have hz : (upd (upd (mpl h u v mA w9) w9 (if w9 = u ∨ w9 = v then nI 0 else bit (16 + w9))) (16 + w9) (h w9)) = (mpl h u v mA (w9 + 1)) := mpl_st (by omega) rfl
            rw [hz] at hP hD
            refine lv_iinc hx hb d_M_places_80 hl (k := 0) rfl (v := nI (w9 + 1)) (nI_1 w9) (by decide) rfl (fun ls hl => ?_)
            have hl : lv_has ls 4 [(3, .int (nI (w9 + 1))), (0, .ref mo), (1, .int (nI u)), (2, .int (nI v))] := hl
            refine lv_goto (tgt := 33) hx hb d_M_places_83 rfl ?_
            exact ih33 (w9 + 1) _ H locs ⟨by omega, lv_sub hl [0, 1, 2, 3] rfl, hP, hD, hS⟩ (by omega)
          · have hc46 : ¬ (w9 = u) := fun q9 => hc46 ((nI_eq (by omega) (by omega)).mpr q9)
            refine lv_iload_n hx hb d_M_places_49 rfl (lv_at hl 0 rfl) ?_
            refine lv_iload_n hx hb d_M_places_50 rfl (lv_at hl 3 rfl) ?_
            refine lv_icmp_ne (tgt := 58) hx hb d_M_places_51 rfl (fun hc51 => ?_) (fun hc51 => ?_)
            · have hc51 : ¬ (w9 = v) := fun q9 => hc51 ((nI_eq (by omega) (by omega)).mpr q9)
              refine lv_iconst (v := nI 1) hx hb d_M_places_58 (by decide) ?_
              refine lv_bipush (v := nI 16) hx hb d_M_places_59 (by decide) ?_
              refine lv_iload_n hx hb d_M_places_61 rfl (lv_at hl 0 rfl) ?_
              refine lv_iadd hx hb d_M_places_62 ?_
              refine lv_ishl hx hb d_M_places_63 ?_
              refine xv_top (x' := if w9 = u ∨ w9 = v then nI 0 else bit (16 + w9)) (by rw [if_neg (fun q9 => q9.elim hc46 hc51), nI_add]; rfl) ?_
              refine xa_st (u := w9) hx hb hK hP hD hS 5 4 rfl rfl (by omega) (by decide) d_M_places_64 (fun H locs hP hD hS => ?_)
              have hP : va_P D cls [(mo, .inr (5, [.int (nI 0), .int mn, .ref m0, .int mg, .ref m1, .ref m2, .ref m3, .ref m4, .ref m5, .ref m6])), (m0, .inl (o0, 16, .inl h)), (m1, .inl (o1, 16, .inl mO)), (m2, .inl (o2, 16, .inl mG)), (m3, .inl (o3, 16, .inl mF)), (m4, .inl (o4, 32, .inl (upd (mpl h u v mA w9) w9 (if w9 = u ∨ w9 = v then nI 0 else bit (16 + w9))))), (m5, .inl (o5, 32, .inl mU)), (m6, .inl (o6, 32, .inl mR))] H := hP
              have hD : va_D A [(mo, .inr (5, [.int (nI 0), .int mn, .ref m0, .int mg, .ref m1, .ref m2, .ref m3, .ref m4, .ref m5, .ref m6])), (m0, .inl (o0, 16, .inl h)), (m1, .inl (o1, 16, .inl mO)), (m2, .inl (o2, 16, .inl mG)), (m3, .inl (o3, 16, .inl mF)), (m4, .inl (o4, 32, .inl (upd (mpl h u v mA w9) w9 (if w9 = u ∨ w9 = v then nI 0 else bit (16 + w9))))), (m5, .inl (o5, 32, .inl mU)), (m6, .inl (o6, 32, .inl mR))] := hD
              refine lv_aload_n hx hb d_M_places_65 rfl (lv_at hl 1 rfl) ?_
              refine va_get (D := D) (ci := 5) (v := .ref m4) (C := R_M) (T := F_M) (N := 10) hx hb hB in_M hown hK hP 0 rfl rfl 7 (by decide) (hB _ mf_M_22) (fun _ h9 => h9) rfl d_M_places_66 ?_
              refine lv_bipush (v := nI 16) hx hb d_M_places_69 (by decide) ?_
              refine lv_iload_n hx hb d_M_places_71 rfl (lv_at hl 0 rfl) ?_
              refine lv_iadd hx hb d_M_places_72 ?_
              refine xv_top (x' := nI (16 + w9)) (nI_add 16 w9) ?_
              refine lv_aload_n hx hb d_M_places_73 rfl (lv_at hl 1 rfl) ?_
              refine va_get (D := D) (ci := 5) (v := .ref m0) (C := R_M) (T := F_M) (N := 10) hx hb hB in_M hown hK hP 0 rfl rfl 2 (by decide) (hB _ mf_M_7) (fun _ h9 => h9) rfl d_M_places_74 ?_
              refine lv_iload_n hx hb d_M_places_77 rfl (lv_at hl 0 rfl) ?_
              refine xa_ld (u := w9) hx hb hK hP 1 0 rfl rfl (by omega) (by decide) d_M_places_78 ?_
              refine xa_st (u := (16 + w9)) hx hb hK hP hD hS 5 4 rfl rfl (by omega) (by decide) d_M_places_79 (fun H locs hP hD hS => ?_)
              have hP : va_P D cls [(mo, .inr (5, [.int (nI 0), .int mn, .ref m0, .int mg, .ref m1, .ref m2, .ref m3, .ref m4, .ref m5, .ref m6])), (m0, .inl (o0, 16, .inl h)), (m1, .inl (o1, 16, .inl mO)), (m2, .inl (o2, 16, .inl mG)), (m3, .inl (o3, 16, .inl mF)), (m4, .inl (o4, 32, .inl (upd (upd (mpl h u v mA w9) w9 (if w9 = u ∨ w9 = v then nI 0 else bit (16 + w9))) (16 + w9) (h w9)))), (m5, .inl (o5, 32, .inl mU)), (m6, .inl (o6, 32, .inl mR))] H := hP
              have hD : va_D A [(mo, .inr (5, [.int (nI 0), .int mn, .ref m0, .int mg, .ref m1, .ref m2, .ref m3, .ref m4, .ref m5, .ref m6])), (m0, .inl (o0, 16, .inl h)), (m1, .inl (o1, 16, .inl mO)), (m2, .inl (o2, 16, .inl mG)), (m3, .inl (o3, 16, .inl mF)), (m4, .inl (o4, 32, .inl (upd (upd (mpl h u v mA w9) w9 (if w9 = u ∨ w9 = v then nI 0 else bit (16 + w9))) (16 + w9) (h w9)))), (m5, .inl (o5, 32, .inl mU)), (m6, .inl (o6, 32, .inl mR))] := hD
              have hz : (upd (upd (mpl h u v mA w9) w9 (if w9 = u ∨ w9 = v then nI 0 else bit (16 + w9))) (16 + w9) (h w9)) = (mpl h u v mA (w9 + 1)) := mpl_st (by omega) rfl
              rw [hz] at hP hD
              refine lv_iinc hx hb d_M_places_80 hl (k := 0) rfl (v := nI (w9 + 1)) (nI_1 w9) (by decide) rfl (fun ls hl => ?_)
              have hl : lv_has ls 4 [(3, .int (nI (w9 + 1))), (0, .ref mo), (1, .int (nI u)), (2, .int (nI v))] := hl
              refine lv_goto (tgt := 33) hx hb d_M_places_83 rfl ?_
              exact ih33 (w9 + 1) _ H locs ⟨by omega, lv_sub hl [0, 1, 2, 3] rfl, hP, hD, hS⟩ (by omega)
            · have hc51 : w9 = v := (nI_eq (by omega) (by omega)).mp hc51
              refine lv_iconst (v := nI 0) hx hb d_M_places_54 (by decide) ?_
              refine lv_goto (tgt := 64) hx hb d_M_places_55 rfl ?_
              refine xv_top (x' := if w9 = u ∨ w9 = v then nI 0 else bit (16 + w9)) (by first | exact (if_pos (Or.inl hc46)).symm | exact (if_pos (Or.inr hc51)).symm) ?_
              refine xa_st (u := w9) hx hb hK hP hD hS 5 4 rfl rfl (by omega) (by decide) d_M_places_64 (fun H locs hP hD hS => ?_)
              have hP : va_P D cls [(mo, .inr (5, [.int (nI 0), .int mn, .ref m0, .int mg, .ref m1, .ref m2, .ref m3, .ref m4, .ref m5, .ref m6])), (m0, .inl (o0, 16, .inl h)), (m1, .inl (o1, 16, .inl mO)), (m2, .inl (o2, 16, .inl mG)), (m3, .inl (o3, 16, .inl mF)), (m4, .inl (o4, 32, .inl (upd (mpl h u v mA w9) w9 (if w9 = u ∨ w9 = v then nI 0 else bit (16 + w9))))), (m5, .inl (o5, 32, .inl mU)), (m6, .inl (o6, 32, .inl mR))] H := hP
              have hD : va_D A [(mo, .inr (5, [.int (nI 0), .int mn, .ref m0, .int mg, .ref m1, .ref m2, .ref m3, .ref m4, .ref m5, .ref m6])), (m0, .inl (o0, 16, .inl h)), (m1, .inl (o1, 16, .inl mO)), (m2, .inl (o2, 16, .inl mG)), (m3, .inl (o3, 16, .inl mF)), (m4, .inl (o4, 32, .inl (upd (mpl h u v mA w9) w9 (if w9 = u ∨ w9 = v then nI 0 else bit (16 + w9))))), (m5, .inl (o5, 32, .inl mU)), (m6, .inl (o6, 32, .inl mR))] := hD
              refine lv_aload_n hx hb d_M_places_65 rfl (lv_at hl 1 rfl) ?_
              refine va_get (D := D) (ci := 5) (v := .ref m4) (C := R_M) (T := F_M) (N := 10) hx hb hB in_M hown hK hP 0 rfl rfl 7 (by decide) (hB _ mf_M_22) (fun _ h9 => h9) rfl d_M_places_66 ?_
              refine lv_bipush (v := nI 16) hx hb d_M_places_69 (by decide) ?_
              refine lv_iload_n hx hb d_M_places_71 rfl (lv_at hl 0 rfl) ?_
              refine lv_iadd hx hb d_M_places_72 ?_
              refine xv_top (x' := nI (16 + w9)) (nI_add 16 w9) ?_
              refine lv_aload_n hx hb d_M_places_73 rfl (lv_at hl 1 rfl) ?_
              refine va_get (D := D) (ci := 5) (v := .ref m0) (C := R_M) (T := F_M) (N := 10) hx hb hB in_M hown hK hP 0 rfl rfl 2 (by decide) (hB _ mf_M_7) (fun _ h9 => h9) rfl d_M_places_74 ?_
              refine lv_iload_n hx hb d_M_places_77 rfl (lv_at hl 0 rfl) ?_
              refine xa_ld (u := w9) hx hb hK hP 1 0 rfl rfl (by omega) (by decide) d_M_places_78 ?_
              refine xa_st (u := (16 + w9)) hx hb hK hP hD hS 5 4 rfl rfl (by omega) (by decide) d_M_places_79 (fun H locs hP hD hS => ?_)
              have hP : va_P D cls [(mo, .inr (5, [.int (nI 0), .int mn, .ref m0, .int mg, .ref m1, .ref m2, .ref m3, .ref m4, .ref m5, .ref m6])), (m0, .inl (o0, 16, .inl h)), (m1, .inl (o1, 16, .inl mO)), (m2, .inl (o2, 16, .inl mG)), (m3, .inl (o3, 16, .inl mF)), (m4, .inl (o4, 32, .inl (upd (upd (mpl h u v mA w9) w9 (if w9 = u ∨ w9 = v then nI 0 else bit (16 + w9))) (16 + w9) (h w9)))), (m5, .inl (o5, 32, .inl mU)), (m6, .inl (o6, 32, .inl mR))] H := hP
              have hD : va_D A [(mo, .inr (5, [.int (nI 0), .int mn, .ref m0, .int mg, .ref m1, .ref m2, .ref m3, .ref m4, .ref m5, .ref m6])), (m0, .inl (o0, 16, .inl h)), (m1, .inl (o1, 16, .inl mO)), (m2, .inl (o2, 16, .inl mG)), (m3, .inl (o3, 16, .inl mF)), (m4, .inl (o4, 32, .inl (upd (upd (mpl h u v mA w9) w9 (if w9 = u ∨ w9 = v then nI 0 else bit (16 + w9))) (16 + w9) (h w9)))), (m5, .inl (o5, 32, .inl mU)), (m6, .inl (o6, 32, .inl mR))] := hD
              have hz : (upd (upd (mpl h u v mA w9) w9 (if w9 = u ∨ w9 = v then nI 0 else bit (16 + w9))) (16 + w9) (h w9)) = (mpl h u v mA (w9 + 1)) := mpl_st (by omega) rfl
              rw [hz] at hP hD
              refine lv_iinc hx hb d_M_places_80 hl (k := 0) rfl (v := nI (w9 + 1)) (nI_1 w9) (by decide) rfl (fun ls hl => ?_)
              have hl : lv_has ls 4 [(3, .int (nI (w9 + 1))), (0, .ref mo), (1, .int (nI u)), (2, .int (nI v))] := hl
              refine lv_goto (tgt := 33) hx hb d_M_places_83 rfl ?_
              exact ih33 (w9 + 1) _ H locs ⟨by omega, lv_sub hl [0, 1, 2, 3] rfl, hP, hD, hS⟩ (by omega)
      · have hc26 := b2i_n.mp hc26
        exact absurd hc26 (by rw [hb9]; decide)
  · have hc6 := b2i_n.mp hc6
    exact absurd hc6 (by rw [isP2 (by omega) (by omega)]; decide)
set_option maxHeartbeats 4000000 in
set_option maxRecDepth 100000 in
theorem k_M_arrows_none (l : Launch) (D : va_G) (mo m0 m1 m2 m3 m4 m5 m6 : Nat) (o0 o1 o2 o3 o4 o5 o6 : ClassId) (mc : Int32) (mn : Int32) (mg : Int32) (h : Nat → Int32) (mO : Nat → Int32) (mG : Nat → Int32) (mF : Nat → Int32) (mA : Nat → Int32) (mU : Nat → Int32) (mR : Nat → Int32) (hg : gd h) (u v : Nat) (hu : u < 16) (hv : v < 16) (huv : u = v) (sz : Nat) : Met l y_M_arrows (Cond.code y_M_arrows c_M_arrows 4 (some .int) :: BS) { frames := 2, cells := 0, slots := 0, locals := 42 } (va_Pc [.ref mo, .int (nI u), .int (nI v)] (xWp D [(mo, .inr (5, [.int mc, .int mn, .ref m0, .int mg, .ref m1, .ref m2, .ref m3, .ref m4, .ref m5, .ref m6])), (m0, .inl (o0, 16, .inl h)), (m1, .inl (o1, 16, .inl mO)), (m2, .inl (o2, 16, .inl mG)), (m3, .inl (o3, 16, .inl mF)), (m4, .inl (o4, 32, .inl mA)), (m5, .inl (o5, 32, .inl mU)), (m6, .inl (o6, 32, .inl mR))] [(o0, .int), (o1, .int), (o2, .int), (o3, .int), (o4, .int), (o5, .int), (o6, .int)] sz)) (xQi D [(mo, .inr (5, [.int mc, .int mn, .ref m0, .int mg, .ref m1, .ref m2, .ref m3, .ref m4, .ref m5, .ref m6])), (m0, .inl (o0, 16, .inl h)), (m1, .inl (o1, 16, .inl mO)), (m2, .inl (o2, 16, .inl mG)), (m3, .inl (o3, 16, .inl mF)), (m4, .inl (o4, 32, .inl mA)), (m5, .inl (o5, 32, .inl mU)), (m6, .inl (o6, 32, .inl mR))] [(mo, .inr (5, [.int (nI 0), .int mn, .ref m0, .int mg, .ref m1, .ref m2, .ref m3, .ref m4, .ref m5, .ref m6])), (m0, .inl (o0, 16, .inl h)), (m1, .inl (o1, 16, .inl mO)), (m2, .inl (o2, 16, .inl mG)), (m3, .inl (o3, 16, .inl mF)), (m4, .inl (o4, 32, .inl mA)), (m5, .inl (o5, 32, .inl mU)), (m6, .inl (o6, 32, .inl mR))] [(o0, .int), (o1, .int), (o2, .int), (o3, .int), (o4, .int), (o5, .int), (o6, .int)] sz (-1)) 0 0 (va_A [(mo, .inr (5, [.int mc, .int mn, .ref m0, .int mg, .ref m1, .ref m2, .ref m3, .ref m4, .ref m5, .ref m6])), (m0, .inl (o0, 16, .inl h)), (m1, .inl (o1, 16, .inl mO)), (m2, .inl (o2, 16, .inl mG)), (m3, .inl (o3, 16, .inl mF)), (m4, .inl (o4, 32, .inl mA)), (m5, .inl (o5, 32, .inl mU)), (m6, .inl (o6, 32, .inl mR))] sz) := by
  refine Met.ofW (cc := c_M_arrows) (maxL := 4) (ret := (some .int)) (by decide) rfl ?_
  intro p e s m args below meth c s₁ B hml hv
  obtain ⟨rfl, hsz, hP, hK, hD0, hN⟩ := hv
  have hx := B.exec
  have hb := B.bytes
  have hr := B.returns
  have hB := xB B.pre
  have hown : s.vm.findClass R_M = some m.cls := findClass_of_methodNamed B.named
  have hlocks := B.notSynchronized
  subst hsz
  have hD := hD0.self (sz := s.heap.size)
  obtain ⟨A, hAe⟩ : ∃ A, A = va_A [(mo, .inr (5, [.int mc, .int mn, .ref m0, .int mg, .ref m1, .ref m2, .ref m3, .ref m4, .ref m5, .ref m6])), (m0, .inl (o0, 16, .inl h)), (m1, .inl (o1, 16, .inl mO)), (m2, .inl (o2, 16, .inl mG)), (m3, .inl (o3, 16, .inl mF)), (m4, .inl (o4, 32, .inl mA)), (m5, .inl (o5, 32, .inl mU)), (m6, .inl (o6, 32, .inl mR))] s.heap.size := ⟨_, rfl⟩
  rw [← hAe] at hD
  have hA : ∀ q : Nat, s.heap.size ≤ q → A q := fun q h => by rw [hAe]; exact Or.inr h
  have hS : va_S A s.heap s.heap [] := va_S.rf
  have hl := lv_entry ([.ref mo, .int (nI u), .int (nI v)]) (n := 4) (Nat.le_of_ble_eq_true rfl)
  rw [lg_entry_eq]
  generalize (lg_sl ([.ref mo, .int (nI u), .int (nI v)]) ++ List.replicate (4 - (lg_sl ([.ref mo, .int (nI u), .int (nI v)])).length) Slot.unset).toArray = ls at hl ⊢
  have hl : lv_has ls 4 [(0, .ref mo), (1, .int (nI u)), (2, .int (nI v))] := hl
  refine lv_aload_n hx hb d_M_arrows_0 rfl (lv_at hl 0 rfl) ?_
  refine lv_iload_n hx hb d_M_arrows_1 rfl (lv_at hl 1 rfl) ?_
  refine lv_iload_n hx hb d_M_arrows_2 rfl (lv_at hl 2 rfl) ?_
  refine xw_i (wc := [(mo, .inr (5, [.int mc, .int mn, .ref m0, .int mg, .ref m1, .ref m2, .ref m3, .ref m4, .ref m5, .ref m6])), (m0, .inl (o0, 16, .inl h)), (m1, .inl (o1, 16, .inl mO)), (m2, .inl (o2, 16, .inl mG)), (m3, .inl (o3, 16, .inl mF)), (m4, .inl (o4, 32, .inl mA)), (m5, .inl (o5, 32, .inl mU)), (m6, .inl (o6, 32, .inl mR))]) (wr := []) (w1 := [(mo, .inr (5, [.int (b2i (!(isP (nI u) && isP (nI v)))), .int mn, .ref m0, .int mg, .ref m1, .ref m2, .ref m3, .ref m4, .ref m5, .ref m6])), (m0, .inl (o0, 16, .inl h)), (m1, .inl (o1, 16, .inl mO)), (m2, .inl (o2, 16, .inl mG)), (m3, .inl (o3, 16, .inl mF)), (m4, .inl (o4, 32, .inl mA)), (m5, .inl (o5, 32, .inl mU)), (m6, .inl (o6, 32, .inl mR))]) (va_runV (As := [.int (nI u), .int (nI v)]) (rest := []) ⟨hx, hb, hml, hown, hB⟩ (k_M_lacks l D mo m0 m1 m2 m3 m4 m5 m6 o0 o1 o2 o3 o4 o5 o6 mc mn mg h mO mG mF mA mU mR (nI u) (nI v) _) ⟨callB_of 2 hB (xg0 mc_M_lacks) rfl rfl rfl (hB _ mz_M) (hB _ ml_M_67) (by decide +kernel) ⟨Nat.le_of_ble_eq_true rfl, Nat.le_of_ble_eq_true rfl⟩, hB _ mi_M_lacks, hB _ me_M_lacks⟩ (xqV (ws := [(mo, .inr (5, [.int mc, .int mn, .ref m0, .int mg, .ref m1, .ref m2, .ref m3, .ref m4, .ref m5, .ref m6])), (m0, .inl (o0, 16, .inl h)), (m1, .inl (o1, 16, .inl mO)), (m2, .inl (o2, 16, .inl mG)), (m3, .inl (o3, 16, .inl mF)), (m4, .inl (o4, 32, .inl mA)), (m5, .inl (o5, 32, .inl mU)), (m6, .inl (o6, 32, .inl mR))]) (tys := [(o0, .int), (o1, .int), (o2, .int), (o3, .int), (o4, .int), (o5, .int), (o6, .int)]) (hP.sub [0, 1, 2, 3, 4, 5, 6, 7] rfl) (hD.sub [0, 1, 2, 3, 4, 5, 6, 7] (by decide) rfl) (hK.sub [0, 1, 2, 3, 4, 5, 6] rfl) hN (va_recv (ci := 5) (q0 := 0) (q := (R_M, F_M, 10)) hK hP rfl rfl)) rfl rfl hl.1 rfl (lv_room (Nat.le_of_ble_eq_true rfl)) d_M_arrows_3 ⟨Nat.le_of_ble_eq_true rfl, Nat.le_of_ble_eq_true rfl⟩) hP hD hS hA [0, 1, 2, 3, 4, 5, 6, 7] [] rfl rfl (by decide) (by decide) (fun H locs hP hD hS => ?_)
  have hP : va_P D cls [(mo, .inr (5, [.int (b2i (!(isP (nI u) && isP (nI v)))), .int mn, .ref m0, .int mg, .ref m1, .ref m2, .ref m3, .ref m4, .ref m5, .ref m6])), (m0, .inl (o0, 16, .inl h)), (m1, .inl (o1, 16, .inl mO)), (m2, .inl (o2, 16, .inl mG)), (m3, .inl (o3, 16, .inl mF)), (m4, .inl (o4, 32, .inl mA)), (m5, .inl (o5, 32, .inl mU)), (m6, .inl (o6, 32, .inl mR))] H := hP
  have hD : va_D A [(mo, .inr (5, [.int (b2i (!(isP (nI u) && isP (nI v)))), .int mn, .ref m0, .int mg, .ref m1, .ref m2, .ref m3, .ref m4, .ref m5, .ref m6])), (m0, .inl (o0, 16, .inl h)), (m1, .inl (o1, 16, .inl mO)), (m2, .inl (o2, 16, .inl mG)), (m3, .inl (o3, 16, .inl mF)), (m4, .inl (o4, 32, .inl mA)), (m5, .inl (o5, 32, .inl mU)), (m6, .inl (o6, 32, .inl mR))] := hD
  have hz : (b2i (!(isP (nI u) && isP (nI v)))) = nI 0 := by rw [isP2 (by omega) (by omega)]; rfl
  rw [hz] at hP hD
  refine lv_if_eq (tgt := 11) hx hb d_M_arrows_6 rfl (fun hc6 => ?_) (fun hc6 => ?_)
  · have hc6 := b2i_0.mp hc6
    refine lv_iload_n hx hb d_M_arrows_11 rfl (lv_at hl 1 rfl) ?_
    refine lv_iload_n hx hb d_M_arrows_12 rfl (lv_at hl 2 rfl) ?_
    refine lv_icmp_ne (tgt := 18) hx hb d_M_arrows_13 rfl (fun hc13 => ?_) (fun hc13 => ?_)
    · have hc13 : ¬ (u = v) := fun q9 => hc13 ((nI_eq (by omega) (by omega)).mpr q9)
      exact absurd huv hc13
    · have hc13 : u = v := (nI_eq (by omega) (by omega)).mp hc13
      refine lv_iconst (v := -1) hx hb d_M_arrows_16 (by decide) ?_
      have hP9 := hP.sub (ws' := [(mo, .inr (5, [.int (nI 0), .int mn, .ref m0, .int mg, .ref m1, .ref m2, .ref m3, .ref m4, .ref m5, .ref m6])), (m0, .inl (o0, 16, .inl h)), (m1, .inl (o1, 16, .inl mO)), (m2, .inl (o2, 16, .inl mG)), (m3, .inl (o3, 16, .inl mF)), (m4, .inl (o4, 32, .inl mA)), (m5, .inl (o5, 32, .inl mU)), (m6, .inl (o6, 32, .inl mR))]) [0, 1, 2, 3, 4, 5, 6, 7] rfl
      have hD9 := hD.sub (ws' := [(mo, .inr (5, [.int (nI 0), .int mn, .ref m0, .int mg, .ref m1, .ref m2, .ref m3, .ref m4, .ref m5, .ref m6])), (m0, .inl (o0, 16, .inl h)), (m1, .inl (o1, 16, .inl mO)), (m2, .inl (o2, 16, .inl mG)), (m3, .inl (o3, 16, .inl mF)), (m4, .inl (o4, 32, .inl mA)), (m5, .inl (o5, 32, .inl mU)), (m6, .inl (o6, 32, .inl mR))]) [0, 1, 2, 3, 4, 5, 6, 7] (by decide) rfl
      subst hAe
      exact W.iret (v := -1) hx hb hr (fun t ht hW => ⟨⟨_, (), rfl, rfl, by rw [ht]; exact hP9, va_K.moved hW.alike hK, hD9⟩, hS.F ht⟩) hS.2.2 d_M_arrows_17
  · have hc6 := b2i_n.mp hc6
    exact absurd hc6 (by rw [isP2 (by omega) (by omega)]; decide)
set_option maxHeartbeats 4000000 in
set_option maxRecDepth 100000 in
theorem k_M_arrows_ok (l : Launch) (D : va_G) (mo m0 m1 m2 m3 m4 m5 m6 : Nat) (o0 o1 o2 o3 o4 o5 o6 : ClassId) (mc : Int32) (mn : Int32) (mg : Int32) (h : Nat → Int32) (mO : Nat → Int32) (mG : Nat → Int32) (mF : Nat → Int32) (mA : Nat → Int32) (mU : Nat → Int32) (mR : Nat → Int32) (hg : gd h) (u v : Nat) (hu : u < 16) (hv : v < 16) (huv : ¬ u = v) (sz : Nat) : Met l y_M_arrows (Cond.code y_M_arrows c_M_arrows 4 (some .int) :: BS) { frames := 3, cells := 0, slots := 0, locals := 72 } (va_Pc [.ref mo, .int (nI u), .int (nI v)] (xWp D [(mo, .inr (5, [.int mc, .int mn, .ref m0, .int mg, .ref m1, .ref m2, .ref m3, .ref m4, .ref m5, .ref m6])), (m0, .inl (o0, 16, .inl h)), (m1, .inl (o1, 16, .inl mO)), (m2, .inl (o2, 16, .inl mG)), (m3, .inl (o3, 16, .inl mF)), (m4, .inl (o4, 32, .inl mA)), (m5, .inl (o5, 32, .inl mU)), (m6, .inl (o6, 32, .inl mR))] [(o0, .int), (o1, .int), (o2, .int), (o3, .int), (o4, .int), (o5, .int), (o6, .int)] sz)) (xQi D [(mo, .inr (5, [.int mc, .int mn, .ref m0, .int mg, .ref m1, .ref m2, .ref m3, .ref m4, .ref m5, .ref m6])), (m0, .inl (o0, 16, .inl h)), (m1, .inl (o1, 16, .inl mO)), (m2, .inl (o2, 16, .inl mG)), (m3, .inl (o3, 16, .inl mF)), (m4, .inl (o4, 32, .inl mA)), (m5, .inl (o5, 32, .inl mU)), (m6, .inl (o6, 32, .inl mR))] [(mo, .inr (5, [.int (nI 0), .int mn, .ref m0, .int mg, .ref m1, .ref m2, .ref m3, .ref m4, .ref m5, .ref m6])), (m0, .inl (o0, 16, .inl h)), (m1, .inl (o1, 16, .inl mO)), (m2, .inl (o2, 16, .inl mG)), (m3, .inl (o3, 16, .inl mF)), (m4, .inl (o4, 32, .inl (maL h))), (m5, .inl (o5, 32, .inl (apS (maL h) u v (apN (maL h) u v)))), (m6, .inl (o6, 32, .inl (fun k => oI ((fdS (maL h) (apS (maL h) u v (apN (maL h) u v)) u v 33).1 k))))] [(o0, .int), (o1, .int), (o2, .int), (o3, .int), (o4, .int), (o5, .int), (o6, .int)] sz (nI (apN (maL h) u v))) 0 0 (va_A [(mo, .inr (5, [.int mc, .int mn, .ref m0, .int mg, .ref m1, .ref m2, .ref m3, .ref m4, .ref m5, .ref m6])), (m0, .inl (o0, 16, .inl h)), (m1, .inl (o1, 16, .inl mO)), (m2, .inl (o2, 16, .inl mG)), (m3, .inl (o3, 16, .inl mF)), (m4, .inl (o4, 32, .inl mA)), (m5, .inl (o5, 32, .inl mU)), (m6, .inl (o6, 32, .inl mR))] sz) := by
  refine Met.ofW (cc := c_M_arrows) (maxL := 4) (ret := (some .int)) (by decide) rfl ?_
  intro p e s m args below meth c s₁ B hml hv
  obtain ⟨rfl, hsz, hP, hK, hD0, hN⟩ := hv
  have hx := B.exec
  have hb := B.bytes
  have hr := B.returns
  have hB := xB B.pre
  have hown : s.vm.findClass R_M = some m.cls := findClass_of_methodNamed B.named
  have hlocks := B.notSynchronized
  subst hsz
  have hD := hD0.self (sz := s.heap.size)
  obtain ⟨A, hAe⟩ : ∃ A, A = va_A [(mo, .inr (5, [.int mc, .int mn, .ref m0, .int mg, .ref m1, .ref m2, .ref m3, .ref m4, .ref m5, .ref m6])), (m0, .inl (o0, 16, .inl h)), (m1, .inl (o1, 16, .inl mO)), (m2, .inl (o2, 16, .inl mG)), (m3, .inl (o3, 16, .inl mF)), (m4, .inl (o4, 32, .inl mA)), (m5, .inl (o5, 32, .inl mU)), (m6, .inl (o6, 32, .inl mR))] s.heap.size := ⟨_, rfl⟩
  rw [← hAe] at hD
  have hA : ∀ q : Nat, s.heap.size ≤ q → A q := fun q h => by rw [hAe]; exact Or.inr h
  have hS : va_S A s.heap s.heap [] := va_S.rf
  have hl := lv_entry ([.ref mo, .int (nI u), .int (nI v)]) (n := 4) (Nat.le_of_ble_eq_true rfl)
  rw [lg_entry_eq]
  generalize (lg_sl ([.ref mo, .int (nI u), .int (nI v)]) ++ List.replicate (4 - (lg_sl ([.ref mo, .int (nI u), .int (nI v)])).length) Slot.unset).toArray = ls at hl ⊢
  have hl : lv_has ls 4 [(0, .ref mo), (1, .int (nI u)), (2, .int (nI v))] := hl
  refine lv_aload_n hx hb d_M_arrows_0 rfl (lv_at hl 0 rfl) ?_
  refine lv_iload_n hx hb d_M_arrows_1 rfl (lv_at hl 1 rfl) ?_
  refine lv_iload_n hx hb d_M_arrows_2 rfl (lv_at hl 2 rfl) ?_
  refine xw_i (wc := [(mo, .inr (5, [.int mc, .int mn, .ref m0, .int mg, .ref m1, .ref m2, .ref m3, .ref m4, .ref m5, .ref m6])), (m0, .inl (o0, 16, .inl h)), (m1, .inl (o1, 16, .inl mO)), (m2, .inl (o2, 16, .inl mG)), (m3, .inl (o3, 16, .inl mF)), (m4, .inl (o4, 32, .inl mA)), (m5, .inl (o5, 32, .inl mU)), (m6, .inl (o6, 32, .inl mR))]) (wr := []) (w1 := [(mo, .inr (5, [.int (b2i (!(isP (nI u) && isP (nI v)))), .int mn, .ref m0, .int mg, .ref m1, .ref m2, .ref m3, .ref m4, .ref m5, .ref m6])), (m0, .inl (o0, 16, .inl h)), (m1, .inl (o1, 16, .inl mO)), (m2, .inl (o2, 16, .inl mG)), (m3, .inl (o3, 16, .inl mF)), (m4, .inl (o4, 32, .inl mA)), (m5, .inl (o5, 32, .inl mU)), (m6, .inl (o6, 32, .inl mR))]) (va_runV (As := [.int (nI u), .int (nI v)]) (rest := []) ⟨hx, hb, hml, hown, hB⟩ (k_M_lacks l D mo m0 m1 m2 m3 m4 m5 m6 o0 o1 o2 o3 o4 o5 o6 mc mn mg h mO mG mF mA mU mR (nI u) (nI v) _) ⟨callB_of 2 hB (xg0 mc_M_lacks) rfl rfl rfl (hB _ mz_M) (hB _ ml_M_67) (by decide +kernel) ⟨Nat.le_of_ble_eq_true rfl, Nat.le_of_ble_eq_true rfl⟩, hB _ mi_M_lacks, hB _ me_M_lacks⟩ (xqV (ws := [(mo, .inr (5, [.int mc, .int mn, .ref m0, .int mg, .ref m1, .ref m2, .ref m3, .ref m4, .ref m5, .ref m6])), (m0, .inl (o0, 16, .inl h)), (m1, .inl (o1, 16, .inl mO)), (m2, .inl (o2, 16, .inl mG)), (m3, .inl (o3, 16, .inl mF)), (m4, .inl (o4, 32, .inl mA)), (m5, .inl (o5, 32, .inl mU)), (m6, .inl (o6, 32, .inl mR))]) (tys := [(o0, .int), (o1, .int), (o2, .int), (o3, .int), (o4, .int), (o5, .int), (o6, .int)]) (hP.sub [0, 1, 2, 3, 4, 5, 6, 7] rfl) (hD.sub [0, 1, 2, 3, 4, 5, 6, 7] (by decide) rfl) (hK.sub [0, 1, 2, 3, 4, 5, 6] rfl) hN (va_recv (ci := 5) (q0 := 0) (q := (R_M, F_M, 10)) hK hP rfl rfl)) rfl rfl hl.1 rfl (lv_room (Nat.le_of_ble_eq_true rfl)) d_M_arrows_3 ⟨Nat.le_of_ble_eq_true rfl, Nat.le_of_ble_eq_true rfl⟩) hP hD hS hA [0, 1, 2, 3, 4, 5, 6, 7] [] rfl rfl (by decide) (by decide) (fun H locs hP hD hS => ?_)
  have hP : va_P D cls [(mo, .inr (5, [.int (b2i (!(isP (nI u) && isP (nI v)))), .int mn, .ref m0, .int mg, .ref m1, .ref m2, .ref m3, .ref m4, .ref m5, .ref m6])), (m0, .inl (o0, 16, .inl h)), (m1, .inl (o1, 16, .inl mO)), (m2, .inl (o2, 16, .inl mG)), (m3, .inl (o3, 16, .inl mF)), (m4, .inl (o4, 32, .inl mA)), (m5, .inl (o5, 32, .inl mU)), (m6, .inl (o6, 32, .inl mR))] H := hP
  have hD : va_D A [(mo, .inr (5, [.int (b2i (!(isP (nI u) && isP (nI v)))), .int mn, .ref m0, .int mg, .ref m1, .ref m2, .ref m3, .ref m4, .ref m5, .ref m6])), (m0, .inl (o0, 16, .inl h)), (m1, .inl (o1, 16, .inl mO)), (m2, .inl (o2, 16, .inl mG)), (m3, .inl (o3, 16, .inl mF)), (m4, .inl (o4, 32, .inl mA)), (m5, .inl (o5, 32, .inl mU)), (m6, .inl (o6, 32, .inl mR))] := hD
  have hz : (b2i (!(isP (nI u) && isP (nI v)))) = nI 0 := by rw [isP2 (by omega) (by omega)]; rfl
  rw [hz] at hP hD
  refine lv_if_eq (tgt := 11) hx hb d_M_arrows_6 rfl (fun hc6 => ?_) (fun hc6 => ?_)
  · have hc6 := b2i_0.mp hc6
    refine lv_iload_n hx hb d_M_arrows_11 rfl (lv_at hl 1 rfl) ?_
    refine lv_iload_n hx hb d_M_arrows_12 rfl (lv_at hl 2 rfl) ?_
    refine lv_icmp_ne (tgt := 18) hx hb d_M_arrows_13 rfl (fun hc13 => ?_) (fun hc13 => ?_)
    · have hc13 : ¬ (u = v) := fun q9 => hc13 ((nI_eq (by omega) (by omega)).mpr q9)
      refine lv_iconst (v := nI 0) hx hb d_M_arrows_18 (by decide) ?_
      refine lv_istore_n hx hb d_M_arrows_19 rfl hl (by decide) rfl (fun ls hl => ?_)
      have hl : lv_has ls 4 [(3, .int (nI 0)), (0, .ref mo), (1, .int (nI u)), (2, .int (nI v))] := hl
      have hz : mA = (mal h mA 0) := mal_0
      rw [hz] at hP hD
      refine xl_w (fun (w9 : Nat) ls H locs => ((w9 ≤ 16)) ∧ lv_has ls 4 [(3, .int (nI w9)), (0, .ref mo), (1, .int (nI u)), (2, .int (nI v))] ∧ va_P D cls [(mo, .inr (5, [.int (nI 0), .int mn, .ref m0, .int mg, .ref m1, .ref m2, .ref m3, .ref m4, .ref m5, .ref m6])), (m0, .inl (o0, 16, .inl h)), (m1, .inl (o1, 16, .inl mO)), (m2, .inl (o2, 16, .inl mG)), (m3, .inl (o3, 16, .inl mF)), (m4, .inl (o4, 32, .inl (mal h mA w9))), (m5, .inl (o5, 32, .inl mU)), (m6, .inl (o6, 32, .inl mR))] H ∧ va_D A [(mo, .inr (5, [.int (nI 0), .int mn, .ref m0, .int mg, .ref m1, .ref m2, .ref m3, .ref m4, .ref m5, .ref m6])), (m0, .inl (o0, 16, .inl h)), (m1, .inl (o1, 16, .inl mO)), (m2, .inl (o2, 16, .inl mG)), (m3, .inl (o3, 16, .inl mF)), (m4, .inl (o4, 32, .inl (mal h mA w9))), (m5, .inl (o5, 32, .inl mU)), (m6, .inl (o6, 32, .inl mR))] ∧ va_S A s.heap H locs) (fun w9 => 16 - w9) (fun w9 ls H locs hI ih20 => ?_) 0 _ ⟨Nat.zero_le _, hl, hP, hD, hS⟩
      obtain ⟨hI, hl, hP, hD, hS⟩ := hI
      have hw9 := hI
      refine lv_iload_n hx hb d_M_arrows_20 rfl (lv_at hl 0 rfl) ?_
      refine lv_bipush (v := nI 16) hx hb d_M_arrows_21 (by decide) ?_
      refine lv_icmp_ge (tgt := 54) hx hb d_M_arrows_23 rfl (fun hc23 => ?_) (fun hc23 => ?_)
      · have hc23 : 16 ≤ w9 := (nI_leI (by omega) (by omega)).mp hc23
        have hP := xP_ext hP 5 (maL h) rfl (fun j9 hj9 => by rw [show w9 = 16 by omega]; exact mal_16 hj9)
        have hD := xD_ext hD 5 (y := .inl (o4, 32, .inl (maL h))) rfl
        have hP : va_P D cls [(mo, .inr (5, [.int (nI 0), .int mn, .ref m0, .int mg, .ref m1, .ref m2, .ref m3, .ref m4, .ref m5, .ref m6])), (m0, .inl (o0, 16, .inl h)), (m1, .inl (o1, 16, .inl mO)), (m2, .inl (o2, 16, .inl mG)), (m3, .inl (o3, 16, .inl mF)), (m4, .inl (o4, 32, .inl (maL h))), (m5, .inl (o5, 32, .inl mU)), (m6, .inl (o6, 32, .inl mR))] _ := hP
        have hD : va_D A [(mo, .inr (5, [.int (nI 0), .int mn, .ref m0, .int mg, .ref m1, .ref m2, .ref m3, .ref m4, .ref m5, .ref m6])), (m0, .inl (o0, 16, .inl h)), (m1, .inl (o1, 16, .inl mO)), (m2, .inl (o2, 16, .inl mG)), (m3, .inl (o3, 16, .inl mF)), (m4, .inl (o4, 32, .inl (maL h))), (m5, .inl (o5, 32, .inl mU)), (m6, .inl (o6, 32, .inl mR))] := hD
        refine lv_aload_n hx hb d_M_arrows_54 rfl (lv_at hl 1 rfl) ?_
        refine lv_iload_n hx hb d_M_arrows_55 rfl (lv_at hl 2 rfl) ?_
        refine lv_iload_n hx hb d_M_arrows_56 rfl (lv_at hl 3 rfl) ?_
        refine xw_i (wc := [(mo, .inr (5, [.int (nI 0), .int mn, .ref m0, .int mg, .ref m1, .ref m2, .ref m3, .ref m4, .ref m5, .ref m6])), (m0, .inl (o0, 16, .inl h)), (m1, .inl (o1, 16, .inl mO)), (m2, .inl (o2, 16, .inl mG)), (m3, .inl (o3, 16, .inl mF)), (m4, .inl (o4, 32, .inl (maL h))), (m5, .inl (o5, 32, .inl mU)), (m6, .inl (o6, 32, .inl mR))]) (wr := []) (w1 := [(mo, .inr (5, [.int (nI 0), .int mn, .ref m0, .int mg, .ref m1, .ref m2, .ref m3, .ref m4, .ref m5, .ref m6])), (m0, .inl (o0, 16, .inl h)), (m1, .inl (o1, 16, .inl mO)), (m2, .inl (o2, 16, .inl mG)), (m3, .inl (o3, 16, .inl mF)), (m4, .inl (o4, 32, .inl (maL h))), (m5, .inl (o5, 32, .inl (apS (maL h) u v (apN (maL h) u v)))), (m6, .inl (o6, 32, .inl (fun k => oI ((fdS (maL h) (apS (maL h) u v (apN (maL h) u v)) u v 33).1 k))))]) (va_runV (As := [.int (nI u), .int (nI v)]) (rest := []) ⟨hx, hb, hml, hown, hB⟩ (k_M_apart l D mo m0 m1 m2 m3 m4 m5 m6 o0 o1 o2 o3 o4 o5 o6 (nI 0) mn mg h mO mG mF (maL h) mU mR u v (by omega) (by omega) (by omega) _) ⟨callB_of 2 hB (xg0 mc_M_apart) rfl rfl rfl (hB _ mz_M) (hB _ ml_M_90) (by decide +kernel) ⟨Nat.le_of_ble_eq_true rfl, Nat.le_of_ble_eq_true rfl⟩, hB _ mi_M_apart, hB _ me_M_apart⟩ (xqV (ws := [(mo, .inr (5, [.int (nI 0), .int mn, .ref m0, .int mg, .ref m1, .ref m2, .ref m3, .ref m4, .ref m5, .ref m6])), (m0, .inl (o0, 16, .inl h)), (m1, .inl (o1, 16, .inl mO)), (m2, .inl (o2, 16, .inl mG)), (m3, .inl (o3, 16, .inl mF)), (m4, .inl (o4, 32, .inl (maL h))), (m5, .inl (o5, 32, .inl mU)), (m6, .inl (o6, 32, .inl mR))]) (tys := [(o0, .int), (o1, .int), (o2, .int), (o3, .int), (o4, .int), (o5, .int), (o6, .int)]) (hP.sub [0, 1, 2, 3, 4, 5, 6, 7] rfl) (hD.sub [0, 1, 2, 3, 4, 5, 6, 7] (by decide) rfl) (hK.sub [0, 1, 2, 3, 4, 5, 6] rfl) hN (va_recv (ci := 5) (q0 := 0) (q := (R_M, F_M, 10)) hK hP rfl rfl)) rfl rfl hl.1 rfl (lv_room (Nat.le_of_ble_eq_true rfl)) d_M_arrows_57 ⟨Nat.le_of_ble_eq_true rfl, Nat.le_of_ble_eq_true rfl⟩) hP hD hS hA [0, 1, 2, 3, 4, 5, 6, 7] [] rfl rfl (by decide) (by decide) (fun H locs hP hD hS => ?_)
        have hP : va_P D cls [(mo, .inr (5, [.int (nI 0), .int mn, .ref m0, .int mg, .ref m1, .ref m2, .ref m3, .ref m4, .ref m5, .ref m6])), (m0, .inl (o0, 16, .inl h)), (m1, .inl (o1, 16, .inl mO)), (m2, .inl (o2, 16, .inl mG)), (m3, .inl (o3, 16, .inl mF)), (m4, .inl (o4, 32, .inl (maL h))), (m5, .inl (o5, 32, .inl (apS (maL h) u v (apN (maL h) u v)))), (m6, .inl (o6, 32, .inl (fun k => oI ((fdS (maL h) (apS (maL h) u v (apN (maL h) u v)) u v 33).1 k))))] H := hP
        have hD : va_D A [(mo, .inr (5, [.int (nI 0), .int mn, .ref m0, .int mg, .ref m1, .ref m2, .ref m3, .ref m4, .ref m5, .ref m6])), (m0, .inl (o0, 16, .inl h)), (m1, .inl (o1, 16, .inl mO)), (m2, .inl (o2, 16, .inl mG)), (m3, .inl (o3, 16, .inl mF)), (m4, .inl (o4, 32, .inl (maL h))), (m5, .inl (o5, 32, .inl (apS (maL h) u v (apN (maL h) u v)))), (m6, .inl (o6, 32, .inl (fun k => oI ((fdS (maL h) (apS (maL h) u v (apN (maL h) u v)) u v 33).1 k))))] := hD
        have hP9 := hP.sub (ws' := [(mo, .inr (5, [.int (nI 0), .int mn, .ref m0, .int mg, .ref m1, .ref m2, .ref m3, .ref m4, .ref m5, .ref m6])), (m0, .inl (o0, 16, .inl h)), (m1, .inl (o1, 16, .inl mO)), (m2, .inl (o2, 16, .inl mG)), (m3, .inl (o3, 16, .inl mF)), (m4, .inl (o4, 32, .inl (maL h))), (m5, .inl (o5, 32, .inl (apS (maL h) u v (apN (maL h) u v)))), (m6, .inl (o6, 32, .inl (fun k => oI ((fdS (maL h) (apS (maL h) u v (apN (maL h) u v)) u v 33).1 k))))]) [0, 1, 2, 3, 4, 5, 6, 7] rfl
        have hD9 := hD.sub (ws' := [(mo, .inr (5, [.int (nI 0), .int mn, .ref m0, .int mg, .ref m1, .ref m2, .ref m3, .ref m4, .ref m5, .ref m6])), (m0, .inl (o0, 16, .inl h)), (m1, .inl (o1, 16, .inl mO)), (m2, .inl (o2, 16, .inl mG)), (m3, .inl (o3, 16, .inl mF)), (m4, .inl (o4, 32, .inl (maL h))), (m5, .inl (o5, 32, .inl (apS (maL h) u v (apN (maL h) u v)))), (m6, .inl (o6, 32, .inl (fun k => oI ((fdS (maL h) (apS (maL h) u v (apN (maL h) u v)) u v 33).1 k))))]) [0, 1, 2, 3, 4, 5, 6, 7] (by decide) rfl
        subst hAe
        exact W.iret (v := nI (apN (maL h) u v)) hx hb hr (fun t ht hW => ⟨⟨_, (), rfl, rfl, by rw [ht]; exact hP9, va_K.moved hW.alike hK, hD9⟩, hS.F ht⟩) hS.2.2 d_M_arrows_60
      · have hc23 : ¬ (16 ≤ w9) := fun q9 => hc23 ((nI_leI (by omega) (by omega)).mpr q9)
        refine lv_aload_n hx hb d_M_arrows_26 rfl (lv_at hl 1 rfl) ?_
        refine va_get (D := D) (ci := 5) (v := .ref m4) (C := R_M) (T := F_M) (N := 10) hx hb hB in_M hown hK hP 0 rfl rfl 7 (by decide) (hB _ mf_M_22) (fun _ h9 => h9) rfl d_M_arrows_27 ?_
        refine lv_iload_n hx hb d_M_arrows_30 rfl (lv_at hl 0 rfl) ?_
        refine lv_aload_n hx hb d_M_arrows_31 rfl (lv_at hl 1 rfl) ?_
        refine va_get (D := D) (ci := 5) (v := .ref m0) (C := R_M) (T := F_M) (N := 10) hx hb hB in_M hown hK hP 0 rfl rfl 2 (by decide) (hB _ mf_M_7) (fun _ h9 => h9) rfl d_M_arrows_32 ?_
        refine lv_iload_n hx hb d_M_arrows_35 rfl (lv_at hl 0 rfl) ?_
        refine xa_ld (u := w9) hx hb hK hP 1 0 rfl rfl (by omega) (by decide) d_M_arrows_36 ?_
        refine xa_st (u := w9) hx hb hK hP hD hS 5 4 rfl rfl (by omega) (by decide) d_M_arrows_37 (fun H locs hP hD hS => ?_)
        have hP : va_P D cls [(mo, .inr (5, [.int (nI 0), .int mn, .ref m0, .int mg, .ref m1, .ref m2, .ref m3, .ref m4, .ref m5, .ref m6])), (m0, .inl (o0, 16, .inl h)), (m1, .inl (o1, 16, .inl mO)), (m2, .inl (o2, 16, .inl mG)), (m3, .inl (o3, 16, .inl mF)), (m4, .inl (o4, 32, .inl (upd (mal h mA w9) w9 (h w9)))), (m5, .inl (o5, 32, .inl mU)), (m6, .inl (o6, 32, .inl mR))] H := hP
        have hD : va_D A [(mo, .inr (5, [.int (nI 0), .int mn, .ref m0, .int mg, .ref m1, .ref m2, .ref m3, .ref m4, .ref m5, .ref m6])), (m0, .inl (o0, 16, .inl h)), (m1, .inl (o1, 16, .inl mO)), (m2, .inl (o2, 16, .inl mG)), (m3, .inl (o3, 16, .inl mF)), (m4, .inl (o4, 32, .inl (upd (mal h mA w9) w9 (h w9)))), (m5, .inl (o5, 32, .inl mU)), (m6, .inl (o6, 32, .inl mR))] := hD
        refine lv_aload_n hx hb d_M_arrows_38 rfl (lv_at hl 1 rfl) ?_
        refine va_get (D := D) (ci := 5) (v := .ref m4) (C := R_M) (T := F_M) (N := 10) hx hb hB in_M hown hK hP 0 rfl rfl 7 (by decide) (hB _ mf_M_22) (fun _ h9 => h9) rfl d_M_arrows_39 ?_
        refine lv_bipush (v := nI 16) hx hb d_M_arrows_42 (by decide) ?_
        refine lv_iload_n hx hb d_M_arrows_44 rfl (lv_at hl 0 rfl) ?_
        refine lv_iadd hx hb d_M_arrows_45 ?_
        refine xv_top (x' := nI (16 + w9)) (nI_add 16 w9) ?_
        refine lv_iconst (v := nI 0) hx hb d_M_arrows_46 (by decide) ?_
        refine xa_st (u := (16 + w9)) hx hb hK hP hD hS 5 4 rfl rfl (by omega) (by decide) d_M_arrows_47 (fun H locs hP hD hS => ?_)
        have hP : va_P D cls [(mo, .inr (5, [.int (nI 0), .int mn, .ref m0, .int mg, .ref m1, .ref m2, .ref m3, .ref m4, .ref m5, .ref m6])), (m0, .inl (o0, 16, .inl h)), (m1, .inl (o1, 16, .inl mO)), (m2, .inl (o2, 16, .inl mG)), (m3, .inl (o3, 16, .inl mF)), (m4, .inl (o4, 32, .inl (upd (upd (mal h mA w9) w9 (h w9)) (16 + w9) (nI 0)))), (m5, .inl (o5, 32, .inl mU)), (m6, .inl (o6, 32, .inl mR))] H := hP
        have hD : va_D A [(mo, .inr (5, [.int (nI 0), .int mn, .ref m0, .int mg, .ref m1, .ref m2, .ref m3, .ref m4, .ref m5, .ref m6])), (m0, .inl (o0, 16, .inl h)), (m1, .inl (o1, 16, .inl mO)), (m2, .inl (o2, 16, .inl mG)), (m3, .inl (o3, 16, .inl mF)), (m4, .inl (o4, 32, .inl (upd (upd (mal h mA w9) w9 (h w9)) (16 + w9) (nI 0)))), (m5, .inl (o5, 32, .inl mU)), (m6, .inl (o6, 32, .inl mR))] := hD
        have hz : (upd (upd (mal h mA w9) w9 (h w9)) (16 + w9) (nI 0)) = (mal h mA (w9 + 1)) := mal_st (by omega)
        rw [hz] at hP hD
        refine lv_iinc hx hb d_M_arrows_48 hl (k := 0) rfl (v := nI (w9 + 1)) (nI_1 w9) (by decide) rfl (fun ls hl => ?_)
        have hl : lv_has ls 4 [(3, .int (nI (w9 + 1))), (0, .ref mo), (1, .int (nI u)), (2, .int (nI v))] := hl
        refine lv_goto (tgt := 20) hx hb d_M_arrows_51 rfl ?_
        exact ih20 (w9 + 1) _ H locs ⟨by omega, lv_sub hl [0, 1, 2, 3] rfl, hP, hD, hS⟩ (by omega)
    · have hc13 : u = v := (nI_eq (by omega) (by omega)).mp hc13
      exact absurd hc13 huv
  · have hc6 := b2i_n.mp hc6
    exact absurd hc6 (by rw [isP2 (by omega) (by omega)]; decide)
