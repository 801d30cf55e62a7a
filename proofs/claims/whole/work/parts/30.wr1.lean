set_option maxHeartbeats 4000000 in
set_option maxRecDepth 100000 in
theorem k_Ar_fill (l : Launch) (D : va_G) (q9 : Nat) (cq : ClassId) (n9 : Nat) (fx : Nat → Int32) (x : Int32) (hn9 : n9 < 2 ^ 31) (sz : Nat) : Met l y_Ar_fill (Cond.code y_Ar_fill c_Ar_fill 4 none :: BS) { frames := 0, cells := 0, slots := 0, locals := 0 } (va_Pc [.ref q9, .int x] (xWp D [(q9, .inl (cq, n9, .inl fx))] [(cq, .int)] sz)) (xQv D [(q9, .inl (cq, n9, .inl fx))] [(q9, .inl (cq, n9, .inl (fun _ => x)))] [(cq, .int)] sz) 0 0 (va_A [(q9, .inl (cq, n9, .inl fx))] sz) := by
  refine Met.ofW (cc := c_Ar_fill) (maxL := 4) (ret := none) (by decide) rfl ?_
  intro p e s m args below meth c s₁ B hml hv
  obtain ⟨rfl, hsz, hP, hK, hD0, hN⟩ := hv
  have hx := B.exec
  have hb := B.bytes
  have hr := B.returns
  have hB := xB B.pre
  have hown : s.vm.findClass R_Ar = some m.cls := findClass_of_methodNamed B.named
  have hlocks := B.notSynchronized
  subst hsz
  have hD := hD0.self (sz := s.heap.size)
  obtain ⟨A, hAe⟩ : ∃ A, A = va_A [(q9, .inl (cq, n9, .inl fx))] s.heap.size := ⟨_, rfl⟩
  rw [← hAe] at hD
  have hA : ∀ q : Nat, s.heap.size ≤ q → A q := fun q h => by rw [hAe]; exact Or.inr h
  have hS : va_S A s.heap s.heap [] := va_S.rf
  have hl := lv_entry ([.ref q9, .int x]) (n := 4) (Nat.le_of_ble_eq_true rfl)
  rw [lg_entry_eq]
  generalize (lg_sl ([.ref q9, .int x]) ++ List.replicate (4 - (lg_sl ([.ref q9, .int x])).length) Slot.unset).toArray = ls at hl ⊢
  have hl : lv_has ls 4 [(0, .ref q9), (1, .int x)] := hl
  refine lv_iconst (v := nI 0) hx hb d_Ar_fill_0 (by decide) ?_
  refine lv_istore_n hx hb d_Ar_fill_1 rfl hl (by decide) rfl (fun ls hl => ?_)
  have hl : lv_has ls 4 [(2, .int (nI 0)), (0, .ref q9), (1, .int x)] := hl
  refine lv_aload_n hx hb d_Ar_fill_2 rfl (lv_at hl 1 rfl) ?_
  refine va_alen (v := nI n9) hx hb hK hP 0 0 rfl rfl rfl d_Ar_fill_3 ?_
  refine lv_istore_n hx hb d_Ar_fill_4 rfl hl (by decide) rfl (fun ls hl => ?_)
  have hl : lv_has ls 4 [(3, .int (nI n9)), (2, .int (nI 0)), (0, .ref q9), (1, .int x)] := hl
  have hz : fx = (fun k => if k < 0 then x else fx k) := funext fun k => (if_neg (Nat.not_lt_zero k)).symm
  rw [hz] at hP hD
  refine xl_w (fun (u : Nat) ls H locs => ((u ≤ n9)) ∧ lv_has ls 4 [(3, .int (nI n9)), (2, .int (nI u)), (0, .ref q9), (1, .int x)] ∧ va_P D cls [(q9, .inl (cq, n9, .inl (fun k => if k < u then x else fx k)))] H ∧ va_D A [(q9, .inl (cq, n9, .inl (fun k => if k < u then x else fx k)))] ∧ va_S A s.heap H locs) (fun u => n9 - u) (fun u ls H locs hI ih5 => ?_) 0 _ ⟨Nat.zero_le _, hl, hP, hD, hS⟩
  obtain ⟨hI, hl, hP, hD, hS⟩ := hI
  have hu := hI
  refine lv_iload_n hx hb d_Ar_fill_5 rfl (lv_at hl 1 rfl) ?_
  refine lv_iload_n hx hb d_Ar_fill_6 rfl (lv_at hl 0 rfl) ?_
  refine lv_icmp_ge (tgt := 20) hx hb d_Ar_fill_7 rfl (fun hc7 => ?_) (fun hc7 => ?_)
  · have hc7 : n9 ≤ u := (nI_leI (by omega) (by omega)).mp hc7
    have hP := xP_ext hP 0 (fun _ => x) rfl (fun j9 hj9 => if_pos (by omega))
    have hD := xD_ext hD 0 (y := .inl (cq, n9, .inl (fun _ => x))) rfl
    have hP : va_P D cls [(q9, .inl (cq, n9, .inl (fun _ => x)))] _ := hP
    have hD : va_D A [(q9, .inl (cq, n9, .inl (fun _ => x)))] := hD
    have hP9 := hP.sub (ws' := [(q9, .inl (cq, n9, .inl (fun _ => x)))]) [0] rfl
    have hD9 := hD.sub (ws' := [(q9, .inl (cq, n9, .inl (fun _ => x)))]) [0] (by decide) rfl
    subst hAe
    exact W.vret hx hb hr (fun t ht hW => ⟨⟨(), rfl, trivial, by rw [ht]; exact hP9, va_K.moved hW.alike hK, hD9⟩, hS.F ht⟩) hS.2.2 d_Ar_fill_20
  · have hc7 : ¬ (n9 ≤ u) := fun q9 => hc7 ((nI_leI (by omega) (by omega)).mpr q9)
    refine lv_aload_n hx hb d_Ar_fill_10 rfl (lv_at hl 2 rfl) ?_
    refine lv_iload_n hx hb d_Ar_fill_11 rfl (lv_at hl 1 rfl) ?_
    refine lv_iload_n hx hb d_Ar_fill_12 rfl (lv_at hl 3 rfl) ?_
    refine xa_st (u := u) hx hb hK hP hD hS 0 0 rfl rfl (by omega) (by omega) d_Ar_fill_13 (fun H locs hP hD hS => ?_)
    have hP : va_P D cls [(q9, .inl (cq, n9, .inl (upd (fun k => if k < u then x else fx k) u x)))] H := hP
    have hD : va_D A [(q9, .inl (cq, n9, .inl (upd (fun k => if k < u then x else fx k) u x)))] := hD
    have hz : (upd (fun k => if k < u then x else fx k) u x) = (fun k => if k < u + 1 then x else fx k) := upd_lt
    rw [hz] at hP hD
    refine lv_iinc hx hb d_Ar_fill_14 hl (k := 1) rfl (v := nI (u + 1)) (nI_1 u) (by decide) rfl (fun ls hl => ?_)
    have hl : lv_has ls 4 [(2, .int (nI (u + 1))), (3, .int (nI n9)), (0, .ref q9), (1, .int x)] := hl
    refine lv_goto (tgt := 5) hx hb d_Ar_fill_17 rfl ?_
    exact ih5 (u + 1) _ H locs ⟨by omega, lv_sub hl [1, 0, 2, 3] rfl, hP, hD, hS⟩ (by omega)
