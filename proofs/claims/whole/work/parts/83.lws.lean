theorem xgS {own : String} {idx : Nat} {y : MethodName} {w0 : Cond} (h1 : Cond.methodLink own idx y ∈ BS) (h2 : Cond.static y ∈ BS) (h3 : Cond.initialized y.cls ∈ BS) (h0 : w0 ∈ BS) : GoodIn BS (va_wsS own idx y (w0 :: BS)) := by
  intro w hw
  have hm : w ∈ BS := by
    unfold va_wsS at hw
    rcases List.mem_append.mp hw with h | h
    · rcases List.mem_cons.mp h with h | h
      · rw [h]; exact h1
      · rcases List.mem_cons.mp h with h | h
        · rw [h]; exact h2
        · rw [List.mem_singleton.mp h]; exact h3
    · rcases List.mem_cons.mp h with h | h
      · rw [h]; exact h0
      · exact h
  exact ⟨hm, good_of_word (List.mem_filter.mp hm).2⟩
theorem nI_ad (a b : Nat) : nI a + nI b = nI (a + b) := (Int32.ofNat_add a b).symm
abbrev AL (s : State) : Nat → Prop := fun q => s.heap.size ≤ q
def LC (p : Program) (s : State) (m : MethodId) (c : Code) (b L : Nat) (xs : Nat → Int32) (D : va_G) (ck : Nat → ClassId) : Prop :=
  p.tables.exec = Jvm.exec ∧ c.code = code ∧ c.maxLocals = 7 ∧ s.vm.findClass R_L = some m.cls ∧ (∀ w ∈ BS, w.before #[Value.ref b] s = true) ∧ va_K D cls (TC ck ++ TM ck) s ∧ xn s ∧ xzq (AL s) s s.heap ∧ xsr s ∧ xat s ∧ xaN s ∧ xNc s ∧ va_X b L xs s s.heap ∧ b < s.heap.size ∧ L ≤ 2048
def LI (D : va_G) (ad : Nat → Nat) (ck : Nat → ClassId) (s : State) (h : Nat → Int32) (ct : Int32) (H : Heap) (locs : List Loc) : Prop := ∃ (gc : Int32) (rE nM lD bF oR cH lf li us fe : Nat → Int32) (cf : Nat → Nat) (zo : Int64) (mc : Int32) (mg : Int32) (mO mG mF mA mU mR : Nat → Int32), (∀ k, k < 32 → cf k < 32) ∧ va_P D cls (CWl ad ck h ct gc rE nM lD bF oR cH lf li us fe cf zo ++ MWl ad ck h ct mc mg mO mG mF mA mU mR) H ∧ va_D (AL s) (CWl ad ck h ct gc rE nM lD bF oR cH lf li us fe cf zo ++ MWl ad ck h ct mc mg mO mG mF mA mU mR) ∧ va_S (AL s) s.heap H locs
section XSL
variable {p : Program} {l : Launch} {e : Env} {R : Room} {s : State} {m : MethodId} {args : Array Value} {below : List Frame} {meth : Method} {c : Code} {H H0 : Heap} {locs : List Loc} {cells slots : Nat} {Q : State → Prop} {pc : Nat} {ls : Array Slot} {rest : List Value} {cc : ByteArray} {A : Nat → Prop}
theorem xs_ld (hexec : p.tables.exec = Jvm.exec) (hb : c.code = cc) {b L : Nat} {xs : Nat → Int32} (hX : va_X b L xs s H0) (hbl : b < H0.size) (hbA : ¬ A b) (hS : va_S A H0 H locs) {i : Nat} {x : Int32} (hi : i < L) (hL : L ≤ 2048) (hv : xs i = x) (hdg : decode cc pc = .ok (.iaload, 1))
    (kk : W p l e R s m args below meth c H locs cells slots Q (F0 m (pc + 1) ls (.int x :: rest))) : W p l e R s m args below meth c H locs cells slots Q (F0 m pc ls (.int (nI i) :: .ref b :: rest)) := by
  refine va_sld hexec hb hX hbl hbA hS (vp_in_nI hi (by omega)) hdg ?_
  rw [nI_clamp (by omega), hv]
  exact kk
end XSL
set_option maxHeartbeats 4000000 in
set_option maxRecDepth 100000 in
theorem sg_add {p : Program} {l : Launch} {e : Env} {s : State} {m : MethodId} {below : List Frame} {meth : Method} {c : Code} {Q : State → Prop} {b L : Nat} {xs : Nat → Int32} {D : va_G} {ad : Nat → Nat} {ck : Nat → ClassId} (C : LC p s m c b L xs D ck) {i : Nat} (hi : i + 4 ≤ L) {h h' : Nat → Int32} {ct ct' : Int32} {gc : Int32} {rE nM lD bF oR cH lf li us fe : Nat → Int32} {cf : Nat → Nat} {zo z' : Int64} {mc : Int32} {mg : Int32} {mO mG mF mA mU mR : Nat → Int32} {k : Int32} {f9 l9 : Nat} {w1 : va_W} {bo : Bool} {x1 x2 : Int32} (e1 : xs (i + 1) = x1) (e2 : xs (i + 2) = x2)
    (hW : ∀ sz : Nat, Met l y_L_add (Cond.codeWith y_L_add c_L_add 5 (some .int) hh_L_add :: BS) { frames := 9, cells := 1, slots := 6, locals := 170 } (va_Pc [.ref (ad 0), .int x1, .int x2, .ref (ad 17)] (xLw D (CWl ad ck h ct gc rE nM lD bF oR cH lf li us fe cf zo) (TC ck) sz)) (xQe D (CWl ad ck h ct gc rE nM lD bF oR cH lf li us fe cf zo) (TC ck) sz k (CWs ad ck h' ct' z')) 1 6 (va_A (CWl ad ck h ct gc rE nM lD bF oR cH lf li us fe cf zo) sz))
    (hM : ∀ sz : Nat, Met l y_M_add (Cond.code y_M_add c_M_add 5 (some .boolean) :: BS) { frames := f9, cells := 0, slots := 0, locals := l9 } (va_Pc [.ref (ad 18), .int x1, .int x2] (xWp D (MWl ad ck h ct mc mg mO mG mF mA mU mR) (TM ck) sz)) (xQi D (MWl ad ck h ct mc mg mO mG mF mA mU mR) w1 (TM ck) sz (b2i bo)) 0 0 (va_A (MWl ad ck h ct mc mg mO mG mF mA mU mR) sz))
    (hw1 : MWs ad ck h' ct' k w1) (hz9 : k = 0 → z' = i64b bo) (hrf : f9 + 1 ≤ 12) (hrl : 8 + (5 + 11) + l9 ≤ 430)
    {H : Heap} {locs : List Loc} {cells slots : Nat} {ls : Array Slot} (hl : lv_has ls 7 [(0, .ref b), (1, .ref (ad 0)), (2, .ref (ad 18)), (3, .ref (ad 17)), (4, .int (nI i))]) (hP : va_P D cls (CWl ad ck h ct gc rE nM lD bF oR cH lf li us fe cf zo ++ MWl ad ck h ct mc mg mO mG mF mA mU mR) H) (hD : va_D (AL s) (CWl ad ck h ct gc rE nM lD bF oR cH lf li us fe cf zo ++ MWl ad ck h ct mc mg mO mG mF mA mU mR)) (hS : va_S (AL s) s.heap H locs) (hc9 : cells + 1 ≤ 1058) (hs9 : slots + 6 ≤ 8685)
    (kk : ∀ (H : Heap) (locs : List Loc) (ls : Array Slot), lv_has ls 7 [(0, .ref b), (1, .ref (ad 0)), (2, .ref (ad 18)), (3, .ref (ad 17)), (4, .int (nI i))] → LI D ad ck s h' ct' H locs → W p l e room_1 s m #[Value.ref b] below meth c H locs (cells + 1) (slots + 6) Q (F0 m 1050 ls [])) : W p l e room_1 s m #[Value.ref b] below meth c H locs cells slots Q (F0 m 112 ls []) := by
  obtain ⟨hx, hb, hml, hown, hB, hK, hN, hz, hsr, hat, han, hnc, hX, hbl, hL2⟩ := C
  obtain ⟨mg1, mO1, mG1, mF1, mA1, mU1, mR1, rfl⟩ := hw1
  refine lv_aload_n hx hb d_law_112 rfl (lv_at hl 1 rfl) ?_
  refine lv_aload_n hx hb d_law_113 rfl (lv_at hl 0 rfl) ?_
  refine lv_iload hx hb d_law_114 (lv_at hl 4 rfl) ?_
  refine lv_iconst (v := nI 1) hx hb d_law_116 (by decide) ?_
  refine lv_iadd hx hb d_law_117 ?_
  refine xv_top (x' := nI (i + 1)) (nI_ad i 1) ?_
  refine xs_ld (x := x1) hx hb hX hbl (Nat.not_le.mpr hbl) hS (by omega) hL2 e1 d_law_118 ?_
  refine lv_aload_n hx hb d_law_119 rfl (lv_at hl 0 rfl) ?_
  refine lv_iload hx hb d_law_120 (lv_at hl 4 rfl) ?_
  refine lv_iconst (v := nI 2) hx hb d_law_122 (by decide) ?_
  refine lv_iadd hx hb d_law_123 ?_
  refine xv_top (x' := nI (i + 2)) (nI_ad i 2) ?_
  refine xs_ld (x := x2) hx hb hX hbl (Nat.not_le.mpr hbl) hS (by omega) hL2 e2 d_law_124 ?_
  refine lv_aload_n hx hb d_law_125 rfl (lv_at hl 3 rfl) ?_
  refine xw_e (wc := CWl ad ck h ct gc rE nM lD bF oR cH lf li us fe cf zo) (wr := MWl ad ck h ct mc mg mO mG mF mA mU mR) (vx_runSW (As := [.ref (ad 0), .int x1, .int x2, .ref (ad 17)]) (rest := []) ⟨hx, hb, hml, hown, hB⟩ (hW _) (vx_cwSW 4 hB (xgS ml_L_67 ms_L_add mz_L mc_L_add) rfl rfl rfl (by decide +kernel) ⟨Nat.le_of_ble_eq_true rfl, Nat.le_of_ble_eq_true rfl⟩) (xqSl (ws := CWl ad ck h ct gc rE nM lD bF oR cH lf li us fe cf zo) (tys := TC ck) (hP.sub [0, 1, 2, 3, 4, 5, 6, 7, 8, 9, 10, 11, 12, 13, 14, 15, 16, 17] rfl) (hD.sub [0, 1, 2, 3, 4, 5, 6, 7, 8, 9, 10, 11, 12, 13, 14, 15, 16, 17] (by decide) rfl) (hK.sub [0, 1, 2, 3, 4, 5, 6, 7, 8, 9, 10, 11, 12] rfl) hN hz (fun q h => h) hS hsr hat han hnc) rfl rfl hl.1 rfl (lv_room (Nat.le_of_ble_eq_true rfl)) d_law_126 ⟨hc9, hs9⟩) hP hD hS (fun q h => h) [0, 1, 2, 3, 4, 5, 6, 7, 8, 9, 10, 11, 12, 13, 14, 15, 16, 17] [18, 19, 20, 21, 22, 23, 24, 25] rfl rfl (by decide) (by decide) (fun w9 H locs hw9 hP hD hS => ?_)
  obtain ⟨gc1, rE1, nM1, lD1, bF1, oR1, cH1, lf1, li1, us1, fe1, cf1, hcf1, rfl⟩ := hw9
  refine lv_istore hx hb d_law_129 hl (by decide) rfl (fun ls hl => ?_)
  have hl : lv_has ls 7 [(5, .int k), (0, .ref b), (1, .ref (ad 0)), (2, .ref (ad 18)), (3, .ref (ad 17)), (4, .int (nI i))] := hl
  refine lv_aload_n hx hb d_law_131 rfl (lv_at hl 3 rfl) ?_
  refine lv_aload_n hx hb d_law_132 rfl (lv_at hl 1 rfl) ?_
  refine lv_iload hx hb d_law_133 (lv_at hl 5 rfl) ?_
  refine lv_iconst (v := nI 1) hx hb d_law_135 (by decide) ?_
  refine lv_iadd hx hb d_law_136 ?_
  refine xv_top (x' := nI (i + 1)) (nI_ad i 1) ?_
  refine xs_ld (x := x1) hx hb hX hbl (Nat.not_le.mpr hbl) hS (by omega) hL2 e1 d_law_137 ?_
  refine lv_aload_n hx hb d_law_138 rfl (lv_at hl 1 rfl) ?_
  refine lv_iload hx hb d_law_139 (lv_at hl 5 rfl) ?_
  refine lv_iconst (v := nI 2) hx hb d_law_141 (by decide) ?_
  refine lv_iadd hx hb d_law_142 ?_
  refine xv_top (x' := nI (i + 2)) (nI_ad i 2) ?_
  refine xs_ld (x := x2) hx hb hX hbl (Nat.not_le.mpr hbl) hS (by omega) hL2 e2 d_law_143 ?_
  refine xw_i (wc := MWl ad ck h ct mc mg mO mG mF mA mU mR) (wr := CWl ad ck h' ct' gc1 rE1 nM1 lD1 bF1 oR1 cH1 lf1 li1 us1 fe1 cf1 z') (w1 := MWl ad ck h' ct' k mg1 mO1 mG1 mF1 mA1 mU1 mR1) (va_runV (As := [.int x1, .int x2]) (rest := []) ⟨hx, hb, hml, hown, hB⟩ (hM _) ⟨callB_of 2 hB (xg0 mc_M_add) rfl rfl rfl (hB _ mz_M) (hB _ ml_L_72) (by decide +kernel) ⟨hrf, hrl⟩, hB _ mi_M_add, hB _ me_M_add⟩ (xqV (ws := MWl ad ck h ct mc mg mO mG mF mA mU mR) (tys := TM ck) (hP.sub [0, 1, 2, 3, 4, 5, 6, 7] rfl) (hD.sub [0, 1, 2, 3, 4, 5, 6, 7] (by decide) rfl) (hK.sub [13, 14, 15, 16, 17, 18, 19] rfl) hN (va_recv (ci := 5) (q0 := 0) (q := (R_M, F_M, 10)) hK hP rfl rfl)) rfl rfl hl.1 rfl (lv_room (Nat.le_of_ble_eq_true rfl)) d_law_144 ⟨hc9, hs9⟩) hP hD hS (fun q h => h) [0, 1, 2, 3, 4, 5, 6, 7] [8, 9, 10, 11, 12, 13, 14, 15, 16, 17, 18, 19, 20, 21, 22, 23, 24, 25] rfl rfl (by decide) (by decide) (fun H locs hP hD hS => ?_)
  refine lv_istore hx hb d_law_147 hl (by decide) rfl (fun ls hl => ?_)
  have hl : lv_has ls 7 [(6, .int (b2i bo)), (5, .int k), (0, .ref b), (1, .ref (ad 0)), (2, .ref (ad 18)), (3, .ref (ad 17)), (4, .int (nI i))] := hl
  refine lv_aload_n hx hb d_law_149 rfl (lv_at hl 4 rfl) ?_
  refine xr_cal (va_runV (As := []) (rest := []) ⟨hx, hb, hml, hown, hB⟩ (k_M_thrown l D (ad 18) (ad 19) (ad 20) (ad 21) (ad 22) (ad 23) (ad 24) (ad 25) (ck 19) (ck 20) (ck 21) (ck 22) (ck 23) (ck 24) (ck 25) k ct' mg1 h' mO1 mG1 mF1 mA1 mU1 mR1) ⟨callB_of 0 hB (xg0 mc_M_thrown) rfl rfl rfl (hB _ mz_M) (hB _ ml_L_73) (by decide +kernel) ⟨Nat.le_of_ble_eq_true rfl, Nat.le_of_ble_eq_true rfl⟩, hB _ mi_M_thrown, hB _ me_M_thrown⟩ (xpV (ws := MWl ad ck h' ct' k mg1 mO1 mG1 mF1 mA1 mU1 mR1) (tys := TM ck) (hP.sub [18, 19, 20, 21, 22, 23, 24, 25] rfl) (hK.sub [13, 14, 15, 16, 17, 18, 19] rfl) hN (va_recv (ci := 5) (q0 := 18) (q := (R_M, F_M, 10)) hK hP rfl rfl)) rfl rfl hl.1 rfl (lv_room (Nat.le_of_ble_eq_true rfl)) d_law_150 ⟨hc9, hs9⟩) ?_
  refine lv_iload hx hb d_law_153 (lv_at hl 1 rfl) ?_
  refine lv_icmp_eq (tgt := 160) hx hb d_law_155 rfl (fun _ => ?_) (fun q9 => absurd rfl q9)
  refine lv_iload hx hb d_law_160 (lv_at hl 1 rfl) ?_
  refine lv_if_ne (tgt := 184) hx hb d_law_162 rfl (fun hk9 => ?_) (fun hk9 => ?_)
  · refine lv_goto (tgt := 1050) hx hb d_law_184 rfl ?_
    exact kk H locs ls (lv_sub hl [2, 3, 4, 5, 6] rfl) ⟨gc1, rE1, nM1, lD1, bF1, oR1, cH1, lf1, li1, us1, fe1, cf1, z', k, mg1, mO1, mG1, mF1, mA1, mU1, mR1, hcf1, hP, hD, hS⟩
  · have hzz := hz9 hk9
    subst hzz
    refine lv_aload_n hx hb d_law_165 rfl (lv_at hl 5 rfl) ?_
    refine lv_iconst (v := nI 0) hx hb d_law_166 (by decide) ?_
    refine va_lald hx hb hK hP 17 12 rfl rfl (vp_in_nI (by decide) (by decide)) d_law_167 ?_
    refine lv_iload hx hb d_law_168 (lv_at hl 0 rfl) ?_
    refine lv_if_eq (tgt := 177) hx hb d_law_170 rfl (fun hc => ?_) (fun hc => ?_)
    · have hc := b2i_0.mp hc
      refine lv_lconst (n := 0) (v := i64b bo) hx hb d_law_177 (by rw [i64b_0 hc]; rfl) ?_
      refine xl_cmp (x := (i64b bo)) hx hb d_law_178 ?_
      refine lv_if_eq (tgt := 184) hx hb d_law_179 rfl (fun _ => ?_) (fun q9 => absurd rfl q9)
      refine lv_goto (tgt := 1050) hx hb d_law_184 rfl ?_
      exact kk H locs ls (lv_sub hl [2, 3, 4, 5, 6] rfl) ⟨gc1, rE1, nM1, lD1, bF1, oR1, cH1, lf1, li1, us1, fe1, cf1, _, k, mg1, mO1, mG1, mF1, mA1, mU1, mR1, hcf1, hP, hD, hS⟩
    · have hc := b2i_n.mp hc
      refine lv_lconst (n := 1) (v := i64b bo) hx hb d_law_173 (by rw [i64b_1 hc]; rfl) ?_
      refine lv_goto (tgt := 178) hx hb d_law_174 rfl ?_
      refine xl_cmp (x := (i64b bo)) hx hb d_law_178 ?_
      refine lv_if_eq (tgt := 184) hx hb d_law_179 rfl (fun _ => ?_) (fun q9 => absurd rfl q9)
      refine lv_goto (tgt := 1050) hx hb d_law_184 rfl ?_
      exact kk H locs ls (lv_sub hl [2, 3, 4, 5, 6] rfl) ⟨gc1, rE1, nM1, lD1, bF1, oR1, cH1, lf1, li1, us1, fe1, cf1, _, k, mg1, mO1, mG1, mF1, mA1, mU1, mR1, hcf1, hP, hD, hS⟩
set_option maxHeartbeats 4000000 in
set_option maxRecDepth 100000 in
theorem sg_remove {p : Program} {l : Launch} {e : Env} {s : State} {m : MethodId} {below : List Frame} {meth : Method} {c : Code} {Q : State → Prop} {b L : Nat} {xs : Nat → Int32} {D : va_G} {ad : Nat → Nat} {ck : Nat → ClassId} (C : LC p s m c b L xs D ck) {i : Nat} (hi : i + 4 ≤ L) {h h' : Nat → Int32} {ct ct' : Int32} {gc : Int32} {rE nM lD bF oR cH lf li us fe : Nat → Int32} {cf : Nat → Nat} {zo z' : Int64} {mc : Int32} {mg : Int32} {mO mG mF mA mU mR : Nat → Int32} {k : Int32} {f9 l9 : Nat} {w1 : va_W} {bo : Bool} {x1 x2 : Int32} (e1 : xs (i + 1) = x1) (e2 : xs (i + 2) = x2)
    (hW : ∀ sz : Nat, Met l y_L_remove (Cond.codeWith y_L_remove c_L_remove 5 (some .int) hh_L_remove :: BS) { frames := 9, cells := 1, slots := 6, locals := 170 } (va_Pc [.ref (ad 0), .int x1, .int x2, .ref (ad 17)] (xLw D (CWl ad ck h ct gc rE nM lD bF oR cH lf li us fe cf zo) (TC ck) sz)) (xQe D (CWl ad ck h ct gc rE nM lD bF oR cH lf li us fe cf zo) (TC ck) sz k (CWs ad ck h' ct' z')) 1 6 (va_A (CWl ad ck h ct gc rE nM lD bF oR cH lf li us fe cf zo) sz))
    (hM : ∀ sz : Nat, Met l y_M_remove (Cond.code y_M_remove c_M_remove 3 (some .boolean) :: BS) { frames := f9, cells := 0, slots := 0, locals := l9 } (va_Pc [.ref (ad 18), .int x1, .int x2] (xWp D (MWl ad ck h ct mc mg mO mG mF mA mU mR) (TM ck) sz)) (xQi D (MWl ad ck h ct mc mg mO mG mF mA mU mR) w1 (TM ck) sz (b2i bo)) 0 0 (va_A (MWl ad ck h ct mc mg mO mG mF mA mU mR) sz))
    (hw1 : MWs ad ck h' ct' k w1) (hz9 : k = 0 → z' = i64b bo) (hrf : f9 + 1 ≤ 12) (hrl : 8 + (3 + 11) + l9 ≤ 430)
    {H : Heap} {locs : List Loc} {cells slots : Nat} {ls : Array Slot} (hl : lv_has ls 7 [(0, .ref b), (1, .ref (ad 0)), (2, .ref (ad 18)), (3, .ref (ad 17)), (4, .int (nI i))]) (hP : va_P D cls (CWl ad ck h ct gc rE nM lD bF oR cH lf li us fe cf zo ++ MWl ad ck h ct mc mg mO mG mF mA mU mR) H) (hD : va_D (AL s) (CWl ad ck h ct gc rE nM lD bF oR cH lf li us fe cf zo ++ MWl ad ck h ct mc mg mO mG mF mA mU mR)) (hS : va_S (AL s) s.heap H locs) (hc9 : cells + 1 ≤ 1058) (hs9 : slots + 6 ≤ 8685)
    (kk : ∀ (H : Heap) (locs : List Loc) (ls : Array Slot), lv_has ls 7 [(0, .ref b), (1, .ref (ad 0)), (2, .ref (ad 18)), (3, .ref (ad 17)), (4, .int (nI i))] → LI D ad ck s h' ct' H locs → W p l e room_1 s m #[Value.ref b] below meth c H locs (cells + 1) (slots + 6) Q (F0 m 1050 ls [])) : W p l e room_1 s m #[Value.ref b] below meth c H locs cells slots Q (F0 m 187 ls []) := by
  obtain ⟨hx, hb, hml, hown, hB, hK, hN, hz, hsr, hat, han, hnc, hX, hbl, hL2⟩ := C
  obtain ⟨mg1, mO1, mG1, mF1, mA1, mU1, mR1, rfl⟩ := hw1
  refine lv_aload_n hx hb d_law_187 rfl (lv_at hl 1 rfl) ?_
  refine lv_aload_n hx hb d_law_188 rfl (lv_at hl 0 rfl) ?_
  refine lv_iload hx hb d_law_189 (lv_at hl 4 rfl) ?_
  refine lv_iconst (v := nI 1) hx hb d_law_191 (by decide) ?_
  refine lv_iadd hx hb d_law_192 ?_
  refine xv_top (x' := nI (i + 1)) (nI_ad i 1) ?_
  refine xs_ld (x := x1) hx hb hX hbl (Nat.not_le.mpr hbl) hS (by omega) hL2 e1 d_law_193 ?_
  refine lv_aload_n hx hb d_law_194 rfl (lv_at hl 0 rfl) ?_
  refine lv_iload hx hb d_law_195 (lv_at hl 4 rfl) ?_
  refine lv_iconst (v := nI 2) hx hb d_law_197 (by decide) ?_
  refine lv_iadd hx hb d_law_198 ?_
  refine xv_top (x' := nI (i + 2)) (nI_ad i 2) ?_
  refine xs_ld (x := x2) hx hb hX hbl (Nat.not_le.mpr hbl) hS (by omega) hL2 e2 d_law_199 ?_
  refine lv_aload_n hx hb d_law_200 rfl (lv_at hl 3 rfl) ?_
  refine xw_e (wc := CWl ad ck h ct gc rE nM lD bF oR cH lf li us fe cf zo) (wr := MWl ad ck h ct mc mg mO mG mF mA mU mR) (vx_runSW (As := [.ref (ad 0), .int x1, .int x2, .ref (ad 17)]) (rest := []) ⟨hx, hb, hml, hown, hB⟩ (hW _) (vx_cwSW 4 hB (xgS ml_L_77 ms_L_remove mz_L mc_L_remove) rfl rfl rfl (by decide +kernel) ⟨Nat.le_of_ble_eq_true rfl, Nat.le_of_ble_eq_true rfl⟩) (xqSl (ws := CWl ad ck h ct gc rE nM lD bF oR cH lf li us fe cf zo) (tys := TC ck) (hP.sub [0, 1, 2, 3, 4, 5, 6, 7, 8, 9, 10, 11, 12, 13, 14, 15, 16, 17] rfl) (hD.sub [0, 1, 2, 3, 4, 5, 6, 7, 8, 9, 10, 11, 12, 13, 14, 15, 16, 17] (by decide) rfl) (hK.sub [0, 1, 2, 3, 4, 5, 6, 7, 8, 9, 10, 11, 12] rfl) hN hz (fun q h => h) hS hsr hat han hnc) rfl rfl hl.1 rfl (lv_room (Nat.le_of_ble_eq_true rfl)) d_law_201 ⟨hc9, hs9⟩) hP hD hS (fun q h => h) [0, 1, 2, 3, 4, 5, 6, 7, 8, 9, 10, 11, 12, 13, 14, 15, 16, 17] [18, 19, 20, 21, 22, 23, 24, 25] rfl rfl (by decide) (by decide) (fun w9 H locs hw9 hP hD hS => ?_)
  obtain ⟨gc1, rE1, nM1, lD1, bF1, oR1, cH1, lf1, li1, us1, fe1, cf1, hcf1, rfl⟩ := hw9
  refine lv_istore hx hb d_law_204 hl (by decide) rfl (fun ls hl => ?_)
  have hl : lv_has ls 7 [(5, .int k), (0, .ref b), (1, .ref (ad 0)), (2, .ref (ad 18)), (3, .ref (ad 17)), (4, .int (nI i))] := hl
  refine lv_aload_n hx hb d_law_206 rfl (lv_at hl 3 rfl) ?_
  refine lv_aload_n hx hb d_law_207 rfl (lv_at hl 1 rfl) ?_
  refine lv_iload hx hb d_law_208 (lv_at hl 5 rfl) ?_
  refine lv_iconst (v := nI 1) hx hb d_law_210 (by decide) ?_
  refine lv_iadd hx hb d_law_211 ?_
  refine xv_top (x' := nI (i + 1)) (nI_ad i 1) ?_
  refine xs_ld (x := x1) hx hb hX hbl (Nat.not_le.mpr hbl) hS (by omega) hL2 e1 d_law_212 ?_
  refine lv_aload_n hx hb d_law_213 rfl (lv_at hl 1 rfl) ?_
  refine lv_iload hx hb d_law_214 (lv_at hl 5 rfl) ?_
  refine lv_iconst (v := nI 2) hx hb d_law_216 (by decide) ?_
  refine lv_iadd hx hb d_law_217 ?_
  refine xv_top (x' := nI (i + 2)) (nI_ad i 2) ?_
  refine xs_ld (x := x2) hx hb hX hbl (Nat.not_le.mpr hbl) hS (by omega) hL2 e2 d_law_218 ?_
  refine xw_i (wc := MWl ad ck h ct mc mg mO mG mF mA mU mR) (wr := CWl ad ck h' ct' gc1 rE1 nM1 lD1 bF1 oR1 cH1 lf1 li1 us1 fe1 cf1 z') (w1 := MWl ad ck h' ct' k mg1 mO1 mG1 mF1 mA1 mU1 mR1) (va_runV (As := [.int x1, .int x2]) (rest := []) ⟨hx, hb, hml, hown, hB⟩ (hM _) ⟨callB_of 2 hB (xg0 mc_M_remove) rfl rfl rfl (hB _ mz_M) (hB _ ml_L_79) (by decide +kernel) ⟨hrf, hrl⟩, hB _ mi_M_remove, hB _ me_M_remove⟩ (xqV (ws := MWl ad ck h ct mc mg mO mG mF mA mU mR) (tys := TM ck) (hP.sub [0, 1, 2, 3, 4, 5, 6, 7] rfl) (hD.sub [0, 1, 2, 3, 4, 5, 6, 7] (by decide) rfl) (hK.sub [13, 14, 15, 16, 17, 18, 19] rfl) hN (va_recv (ci := 5) (q0 := 0) (q := (R_M, F_M, 10)) hK hP rfl rfl)) rfl rfl hl.1 rfl (lv_room (Nat.le_of_ble_eq_true rfl)) d_law_219 ⟨hc9, hs9⟩) hP hD hS (fun q h => h) [0, 1, 2, 3, 4, 5, 6, 7] [8, 9, 10, 11, 12, 13, 14, 15, 16, 17, 18, 19, 20, 21, 22, 23, 24, 25] rfl rfl (by decide) (by decide) (fun H locs hP hD hS => ?_)
  refine lv_istore hx hb d_law_222 hl (by decide) rfl (fun ls hl => ?_)
  have hl : lv_has ls 7 [(6, .int (b2i bo)), (5, .int k), (0, .ref b), (1, .ref (ad 0)), (2, .ref (ad 18)), (3, .ref (ad 17)), (4, .int (nI i))] := hl
  refine lv_aload_n hx hb d_law_224 rfl (lv_at hl 4 rfl) ?_
  refine xr_cal (va_runV (As := []) (rest := []) ⟨hx, hb, hml, hown, hB⟩ (k_M_thrown l D (ad 18) (ad 19) (ad 20) (ad 21) (ad 22) (ad 23) (ad 24) (ad 25) (ck 19) (ck 20) (ck 21) (ck 22) (ck 23) (ck 24) (ck 25) k ct' mg1 h' mO1 mG1 mF1 mA1 mU1 mR1) ⟨callB_of 0 hB (xg0 mc_M_thrown) rfl rfl rfl (hB _ mz_M) (hB _ ml_L_73) (by decide +kernel) ⟨Nat.le_of_ble_eq_true rfl, Nat.le_of_ble_eq_true rfl⟩, hB _ mi_M_thrown, hB _ me_M_thrown⟩ (xpV (ws := MWl ad ck h' ct' k mg1 mO1 mG1 mF1 mA1 mU1 mR1) (tys := TM ck) (hP.sub [18, 19, 20, 21, 22, 23, 24, 25] rfl) (hK.sub [13, 14, 15, 16, 17, 18, 19] rfl) hN (va_recv (ci := 5) (q0 := 18) (q := (R_M, F_M, 10)) hK hP rfl rfl)) rfl rfl hl.1 rfl (lv_room (Nat.le_of_ble_eq_true rfl)) d_law_225 ⟨hc9, hs9⟩) ?_
  refine lv_iload hx hb d_law_228 (lv_at hl 1 rfl) ?_
  refine lv_icmp_eq (tgt := 235) hx hb d_law_230 rfl (fun _ => ?_) (fun q9 => absurd rfl q9)
  refine lv_iload hx hb d_law_235 (lv_at hl 1 rfl) ?_
  refine lv_if_ne (tgt := 259) hx hb d_law_237 rfl (fun hk9 => ?_) (fun hk9 => ?_)
  · refine lv_goto (tgt := 1050) hx hb d_law_259 rfl ?_
    exact kk H locs ls (lv_sub hl [2, 3, 4, 5, 6] rfl) ⟨gc1, rE1, nM1, lD1, bF1, oR1, cH1, lf1, li1, us1, fe1, cf1, z', k, mg1, mO1, mG1, mF1, mA1, mU1, mR1, hcf1, hP, hD, hS⟩
  · have hzz := hz9 hk9
    subst hzz
    refine lv_aload_n hx hb d_law_240 rfl (lv_at hl 5 rfl) ?_
    refine lv_iconst (v := nI 0) hx hb d_law_241 (by decide) ?_
    refine va_lald hx hb hK hP 17 12 rfl rfl (vp_in_nI (by decide) (by decide)) d_law_242 ?_
    refine lv_iload hx hb d_law_243 (lv_at hl 0 rfl) ?_
    refine lv_if_eq (tgt := 252) hx hb d_law_245 rfl (fun hc => ?_) (fun hc => ?_)
    · have hc := b2i_0.mp hc
      refine lv_lconst (n := 0) (v := i64b bo) hx hb d_law_252 (by rw [i64b_0 hc]; rfl) ?_
      refine xl_cmp (x := (i64b bo)) hx hb d_law_253 ?_
      refine lv_if_eq (tgt := 259) hx hb d_law_254 rfl (fun _ => ?_) (fun q9 => absurd rfl q9)
      refine lv_goto (tgt := 1050) hx hb d_law_259 rfl ?_
      exact kk H locs ls (lv_sub hl [2, 3, 4, 5, 6] rfl) ⟨gc1, rE1, nM1, lD1, bF1, oR1, cH1, lf1, li1, us1, fe1, cf1, _, k, mg1, mO1, mG1, mF1, mA1, mU1, mR1, hcf1, hP, hD, hS⟩
    · have hc := b2i_n.mp hc
      refine lv_lconst (n := 1) (v := i64b bo) hx hb d_law_248 (by rw [i64b_1 hc]; rfl) ?_
      refine lv_goto (tgt := 253) hx hb d_law_249 rfl ?_
      refine xl_cmp (x := (i64b bo)) hx hb d_law_253 ?_
      refine lv_if_eq (tgt := 259) hx hb d_law_254 rfl (fun _ => ?_) (fun q9 => absurd rfl q9)
      refine lv_goto (tgt := 1050) hx hb d_law_259 rfl ?_
      exact kk H locs ls (lv_sub hl [2, 3, 4, 5, 6] rfl) ⟨gc1, rE1, nM1, lD1, bF1, oR1, cH1, lf1, li1, us1, fe1, cf1, _, k, mg1, mO1, mG1, mF1, mA1, mU1, mR1, hcf1, hP, hD, hS⟩
set_option maxHeartbeats 4000000 in
set_option maxRecDepth 100000 in
theorem sg_group {p : Program} {l : Launch} {e : Env} {s : State} {m : MethodId} {below : List Frame} {meth : Method} {c : Code} {Q : State → Prop} {b L : Nat} {xs : Nat → Int32} {D : va_G} {ad : Nat → Nat} {ck : Nat → ClassId} (C : LC p s m c b L xs D ck) {i : Nat} (hi : i + 4 ≤ L) {h h' : Nat → Int32} {ct ct' : Int32} {gc : Int32} {rE nM lD bF oR cH lf li us fe : Nat → Int32} {cf : Nat → Nat} {zo z' : Int64} {mc : Int32} {mg : Int32} {mO mG mF mA mU mR : Nat → Int32} {k : Int32} {f9 l9 : Nat} {w1 : va_W} {rm9 : Int32} {x1 : Int32} (e1 : xs (i + 1) = x1)
    (hW : ∀ sz : Nat, Met l y_L_group (Cond.codeWith y_L_group c_L_group 4 (some .int) hh_L_group :: BS) { frames := 9, cells := 1, slots := 6, locals := 170 } (va_Pc [.ref (ad 0), .int x1, .ref (ad 17)] (xLw D (CWl ad ck h ct gc rE nM lD bF oR cH lf li us fe cf zo) (TC ck) sz)) (xQe D (CWl ad ck h ct gc rE nM lD bF oR cH lf li us fe cf zo) (TC ck) sz k (CWs ad ck h' ct' z')) 1 6 (va_A (CWl ad ck h ct gc rE nM lD bF oR cH lf li us fe cf zo) sz))
    (hM : ∀ sz : Nat, Met l y_M_group (Cond.code y_M_group c_M_group 2 (some .int) :: BS) { frames := f9, cells := 0, slots := 0, locals := l9 } (va_Pc [.ref (ad 18), .int x1] (xWp D (MWl ad ck h ct mc mg mO mG mF mA mU mR) (TM ck) sz)) (xQi D (MWl ad ck h ct mc mg mO mG mF mA mU mR) w1 (TM ck) sz (rm9)) 0 0 (va_A (MWl ad ck h ct mc mg mO mG mF mA mU mR) sz))
    (hw1 : MWs ad ck h' ct' k w1) (hz9 : k = 0 → z' = rm9.toInt64) (hrf : f9 + 1 ≤ 12) (hrl : 8 + (2 + 11) + l9 ≤ 430)
    {H : Heap} {locs : List Loc} {cells slots : Nat} {ls : Array Slot} (hl : lv_has ls 7 [(0, .ref b), (1, .ref (ad 0)), (2, .ref (ad 18)), (3, .ref (ad 17)), (4, .int (nI i))]) (hP : va_P D cls (CWl ad ck h ct gc rE nM lD bF oR cH lf li us fe cf zo ++ MWl ad ck h ct mc mg mO mG mF mA mU mR) H) (hD : va_D (AL s) (CWl ad ck h ct gc rE nM lD bF oR cH lf li us fe cf zo ++ MWl ad ck h ct mc mg mO mG mF mA mU mR)) (hS : va_S (AL s) s.heap H locs) (hc9 : cells + 1 ≤ 1058) (hs9 : slots + 6 ≤ 8685)
    (kk : ∀ (H : Heap) (locs : List Loc) (ls : Array Slot), lv_has ls 7 [(0, .ref b), (1, .ref (ad 0)), (2, .ref (ad 18)), (3, .ref (ad 17)), (4, .int (nI i))] → LI D ad ck s h' ct' H locs → W p l e room_1 s m #[Value.ref b] below meth c H locs (cells + 1) (slots + 6) Q (F0 m 1050 ls [])) : W p l e room_1 s m #[Value.ref b] below meth c H locs cells slots Q (F0 m 275 ls []) := by
  obtain ⟨hx, hb, hml, hown, hB, hK, hN, hz, hsr, hat, han, hnc, hX, hbl, hL2⟩ := C
  obtain ⟨mg1, mO1, mG1, mF1, mA1, mU1, mR1, rfl⟩ := hw1
  refine lv_aload_n hx hb d_law_275 rfl (lv_at hl 1 rfl) ?_
  refine lv_aload_n hx hb d_law_276 rfl (lv_at hl 0 rfl) ?_
  refine lv_iload hx hb d_law_277 (lv_at hl 4 rfl) ?_
  refine lv_iconst (v := nI 1) hx hb d_law_279 (by decide) ?_
  refine lv_iadd hx hb d_law_280 ?_
  refine xv_top (x' := nI (i + 1)) (nI_ad i 1) ?_
  refine xs_ld (x := x1) hx hb hX hbl (Nat.not_le.mpr hbl) hS (by omega) hL2 e1 d_law_281 ?_
  refine lv_aload_n hx hb d_law_282 rfl (lv_at hl 3 rfl) ?_
  refine xw_e (wc := CWl ad ck h ct gc rE nM lD bF oR cH lf li us fe cf zo) (wr := MWl ad ck h ct mc mg mO mG mF mA mU mR) (vx_runSW (As := [.ref (ad 0), .int x1, .ref (ad 17)]) (rest := []) ⟨hx, hb, hml, hown, hB⟩ (hW _) (vx_cwSW 3 hB (xgS ml_L_84 ms_L_group mz_L mc_L_group) rfl rfl rfl (by decide +kernel) ⟨Nat.le_of_ble_eq_true rfl, Nat.le_of_ble_eq_true rfl⟩) (xqSl (ws := CWl ad ck h ct gc rE nM lD bF oR cH lf li us fe cf zo) (tys := TC ck) (hP.sub [0, 1, 2, 3, 4, 5, 6, 7, 8, 9, 10, 11, 12, 13, 14, 15, 16, 17] rfl) (hD.sub [0, 1, 2, 3, 4, 5, 6, 7, 8, 9, 10, 11, 12, 13, 14, 15, 16, 17] (by decide) rfl) (hK.sub [0, 1, 2, 3, 4, 5, 6, 7, 8, 9, 10, 11, 12] rfl) hN hz (fun q h => h) hS hsr hat han hnc) rfl rfl hl.1 rfl (lv_room (Nat.le_of_ble_eq_true rfl)) d_law_283 ⟨hc9, hs9⟩) hP hD hS (fun q h => h) [0, 1, 2, 3, 4, 5, 6, 7, 8, 9, 10, 11, 12, 13, 14, 15, 16, 17] [18, 19, 20, 21, 22, 23, 24, 25] rfl rfl (by decide) (by decide) (fun w9 H locs hw9 hP hD hS => ?_)
  obtain ⟨gc1, rE1, nM1, lD1, bF1, oR1, cH1, lf1, li1, us1, fe1, cf1, hcf1, rfl⟩ := hw9
  refine lv_istore hx hb d_law_286 hl (by decide) rfl (fun ls hl => ?_)
  have hl : lv_has ls 7 [(5, .int k), (0, .ref b), (1, .ref (ad 0)), (2, .ref (ad 18)), (3, .ref (ad 17)), (4, .int (nI i))] := hl
  refine lv_aload_n hx hb d_law_288 rfl (lv_at hl 3 rfl) ?_
  refine lv_aload_n hx hb d_law_289 rfl (lv_at hl 1 rfl) ?_
  refine lv_iload hx hb d_law_290 (lv_at hl 5 rfl) ?_
  refine lv_iconst (v := nI 1) hx hb d_law_292 (by decide) ?_
  refine lv_iadd hx hb d_law_293 ?_
  refine xv_top (x' := nI (i + 1)) (nI_ad i 1) ?_
  refine xs_ld (x := x1) hx hb hX hbl (Nat.not_le.mpr hbl) hS (by omega) hL2 e1 d_law_294 ?_
  refine xw_i (wc := MWl ad ck h ct mc mg mO mG mF mA mU mR) (wr := CWl ad ck h' ct' gc1 rE1 nM1 lD1 bF1 oR1 cH1 lf1 li1 us1 fe1 cf1 z') (w1 := MWl ad ck h' ct' k mg1 mO1 mG1 mF1 mA1 mU1 mR1) (va_runV (As := [.int x1]) (rest := []) ⟨hx, hb, hml, hown, hB⟩ (hM _) ⟨callB_of 1 hB (xg0 mc_M_group) rfl rfl rfl (hB _ mz_M) (hB _ ml_L_87) (by decide +kernel) ⟨hrf, hrl⟩, hB _ mi_M_group, hB _ me_M_group⟩ (xqV (ws := MWl ad ck h ct mc mg mO mG mF mA mU mR) (tys := TM ck) (hP.sub [0, 1, 2, 3, 4, 5, 6, 7] rfl) (hD.sub [0, 1, 2, 3, 4, 5, 6, 7] (by decide) rfl) (hK.sub [13, 14, 15, 16, 17, 18, 19] rfl) hN (va_recv (ci := 5) (q0 := 0) (q := (R_M, F_M, 10)) hK hP rfl rfl)) rfl rfl hl.1 rfl (lv_room (Nat.le_of_ble_eq_true rfl)) d_law_295 ⟨hc9, hs9⟩) hP hD hS (fun q h => h) [0, 1, 2, 3, 4, 5, 6, 7] [8, 9, 10, 11, 12, 13, 14, 15, 16, 17, 18, 19, 20, 21, 22, 23, 24, 25] rfl rfl (by decide) (by decide) (fun H locs hP hD hS => ?_)
  refine lv_istore hx hb d_law_298 hl (by decide) rfl (fun ls hl => ?_)
  have hl : lv_has ls 7 [(6, .int rm9), (5, .int k), (0, .ref b), (1, .ref (ad 0)), (2, .ref (ad 18)), (3, .ref (ad 17)), (4, .int (nI i))] := hl
  refine lv_aload_n hx hb d_law_300 rfl (lv_at hl 4 rfl) ?_
  refine xr_cal (va_runV (As := []) (rest := []) ⟨hx, hb, hml, hown, hB⟩ (k_M_thrown l D (ad 18) (ad 19) (ad 20) (ad 21) (ad 22) (ad 23) (ad 24) (ad 25) (ck 19) (ck 20) (ck 21) (ck 22) (ck 23) (ck 24) (ck 25) k ct' mg1 h' mO1 mG1 mF1 mA1 mU1 mR1) ⟨callB_of 0 hB (xg0 mc_M_thrown) rfl rfl rfl (hB _ mz_M) (hB _ ml_L_73) (by decide +kernel) ⟨Nat.le_of_ble_eq_true rfl, Nat.le_of_ble_eq_true rfl⟩, hB _ mi_M_thrown, hB _ me_M_thrown⟩ (xpV (ws := MWl ad ck h' ct' k mg1 mO1 mG1 mF1 mA1 mU1 mR1) (tys := TM ck) (hP.sub [18, 19, 20, 21, 22, 23, 24, 25] rfl) (hK.sub [13, 14, 15, 16, 17, 18, 19] rfl) hN (va_recv (ci := 5) (q0 := 18) (q := (R_M, F_M, 10)) hK hP rfl rfl)) rfl rfl hl.1 rfl (lv_room (Nat.le_of_ble_eq_true rfl)) d_law_301 ⟨hc9, hs9⟩) ?_
  refine lv_iload hx hb d_law_304 (lv_at hl 1 rfl) ?_
  refine lv_icmp_eq (tgt := 311) hx hb d_law_306 rfl (fun _ => ?_) (fun q9 => absurd rfl q9)
  refine lv_iload hx hb d_law_311 (lv_at hl 1 rfl) ?_
  refine lv_if_ne (tgt := 328) hx hb d_law_313 rfl (fun hk9 => ?_) (fun hk9 => ?_)
  · refine lv_goto (tgt := 1050) hx hb d_law_328 rfl ?_
    exact kk H locs ls (lv_sub hl [2, 3, 4, 5, 6] rfl) ⟨gc1, rE1, nM1, lD1, bF1, oR1, cH1, lf1, li1, us1, fe1, cf1, z', k, mg1, mO1, mG1, mF1, mA1, mU1, mR1, hcf1, hP, hD, hS⟩
  · have hzz := hz9 hk9
    subst hzz
    refine lv_aload_n hx hb d_law_316 rfl (lv_at hl 5 rfl) ?_
    refine lv_iconst (v := nI 0) hx hb d_law_317 (by decide) ?_
    refine va_lald hx hb hK hP 17 12 rfl rfl (vp_in_nI (by decide) (by decide)) d_law_318 ?_
    refine lv_iload hx hb d_law_319 (lv_at hl 0 rfl) ?_
    refine lv_i2l hx hb d_law_321 rfl ?_
    refine xl_cmp (x := rm9.toInt64) hx hb d_law_322 ?_
    refine lv_if_eq (tgt := 328) hx hb d_law_323 rfl (fun _ => ?_) (fun q9 => absurd rfl q9)
    refine lv_goto (tgt := 1050) hx hb d_law_328 rfl ?_
    exact kk H locs ls (lv_sub hl [2, 3, 4, 5, 6] rfl) ⟨gc1, rE1, nM1, lD1, bF1, oR1, cH1, lf1, li1, us1, fe1, cf1, _, k, mg1, mO1, mG1, mF1, mA1, mU1, mR1, hcf1, hP, hD, hS⟩
set_option maxHeartbeats 4000000 in
set_option maxRecDepth 100000 in
theorem sg_members {p : Program} {l : Launch} {e : Env} {s : State} {m : MethodId} {below : List Frame} {meth : Method} {c : Code} {Q : State → Prop} {b L : Nat} {xs : Nat → Int32} {D : va_G} {ad : Nat → Nat} {ck : Nat → ClassId} (C : LC p s m c b L xs D ck) {i : Nat} (hi : i + 4 ≤ L) {h h' : Nat → Int32} {ct ct' : Int32} {gc : Int32} {rE nM lD bF oR cH lf li us fe : Nat → Int32} {cf : Nat → Nat} {zo z' : Int64} {mc : Int32} {mg : Int32} {mO mG mF mA mU mR : Nat → Int32} {k : Int32} {f9 l9 : Nat} {w1 : va_W} {rm9 : Int32} {x1 : Int32} (e1 : xs (i + 1) = x1)
    (hW : ∀ sz : Nat, Met l y_L_members (Cond.codeWith y_L_members c_L_members 4 (some .int) hh_L_members :: BS) { frames := 9, cells := 1, slots := 6, locals := 170 } (va_Pc [.ref (ad 0), .int x1, .ref (ad 17)] (xLw D (CWl ad ck h ct gc rE nM lD bF oR cH lf li us fe cf zo) (TC ck) sz)) (xQe D (CWl ad ck h ct gc rE nM lD bF oR cH lf li us fe cf zo) (TC ck) sz k (CWs ad ck h' ct' z')) 1 6 (va_A (CWl ad ck h ct gc rE nM lD bF oR cH lf li us fe cf zo) sz))
    (hM : ∀ sz : Nat, Met l y_M_members (Cond.code y_M_members c_M_members 2 (some .int) :: BS) { frames := f9, cells := 0, slots := 0, locals := l9 } (va_Pc [.ref (ad 18), .int x1] (xWp D (MWl ad ck h ct mc mg mO mG mF mA mU mR) (TM ck) sz)) (xQi D (MWl ad ck h ct mc mg mO mG mF mA mU mR) w1 (TM ck) sz (rm9)) 0 0 (va_A (MWl ad ck h ct mc mg mO mG mF mA mU mR) sz))
    (hw1 : MWs ad ck h' ct' k w1) (hz9 : k = 0 → z' = rm9.toInt64) (hrf : f9 + 1 ≤ 12) (hrl : 8 + (2 + 11) + l9 ≤ 430)
    {H : Heap} {locs : List Loc} {cells slots : Nat} {ls : Array Slot} (hl : lv_has ls 7 [(0, .ref b), (1, .ref (ad 0)), (2, .ref (ad 18)), (3, .ref (ad 17)), (4, .int (nI i))]) (hP : va_P D cls (CWl ad ck h ct gc rE nM lD bF oR cH lf li us fe cf zo ++ MWl ad ck h ct mc mg mO mG mF mA mU mR) H) (hD : va_D (AL s) (CWl ad ck h ct gc rE nM lD bF oR cH lf li us fe cf zo ++ MWl ad ck h ct mc mg mO mG mF mA mU mR)) (hS : va_S (AL s) s.heap H locs) (hc9 : cells + 1 ≤ 1058) (hs9 : slots + 6 ≤ 8685)
    (kk : ∀ (H : Heap) (locs : List Loc) (ls : Array Slot), lv_has ls 7 [(0, .ref b), (1, .ref (ad 0)), (2, .ref (ad 18)), (3, .ref (ad 17)), (4, .int (nI i))] → LI D ad ck s h' ct' H locs → W p l e room_1 s m #[Value.ref b] below meth c H locs (cells + 1) (slots + 6) Q (F0 m 1050 ls [])) : W p l e room_1 s m #[Value.ref b] below meth c H locs cells slots Q (F0 m 331 ls []) := by
  obtain ⟨hx, hb, hml, hown, hB, hK, hN, hz, hsr, hat, han, hnc, hX, hbl, hL2⟩ := C
  obtain ⟨mg1, mO1, mG1, mF1, mA1, mU1, mR1, rfl⟩ := hw1
  refine lv_aload_n hx hb d_law_331 rfl (lv_at hl 1 rfl) ?_
  refine lv_aload_n hx hb d_law_332 rfl (lv_at hl 0 rfl) ?_
  refine lv_iload hx hb d_law_333 (lv_at hl 4 rfl) ?_
  refine lv_iconst (v := nI 1) hx hb d_law_335 (by decide) ?_
  refine lv_iadd hx hb d_law_336 ?_
  refine xv_top (x' := nI (i + 1)) (nI_ad i 1) ?_
  refine xs_ld (x := x1) hx hb hX hbl (Nat.not_le.mpr hbl) hS (by omega) hL2 e1 d_law_337 ?_
  refine lv_aload_n hx hb d_law_338 rfl (lv_at hl 3 rfl) ?_
  refine xw_e (wc := CWl ad ck h ct gc rE nM lD bF oR cH lf li us fe cf zo) (wr := MWl ad ck h ct mc mg mO mG mF mA mU mR) (vx_runSW (As := [.ref (ad 0), .int x1, .ref (ad 17)]) (rest := []) ⟨hx, hb, hml, hown, hB⟩ (hW _) (vx_cwSW 3 hB (xgS ml_L_88 ms_L_members mz_L mc_L_members) rfl rfl rfl (by decide +kernel) ⟨Nat.le_of_ble_eq_true rfl, Nat.le_of_ble_eq_true rfl⟩) (xqSl (ws := CWl ad ck h ct gc rE nM lD bF oR cH lf li us fe cf zo) (tys := TC ck) (hP.sub [0, 1, 2, 3, 4, 5, 6, 7, 8, 9, 10, 11, 12, 13, 14, 15, 16, 17] rfl) (hD.sub [0, 1, 2, 3, 4, 5, 6, 7, 8, 9, 10, 11, 12, 13, 14, 15, 16, 17] (by decide) rfl) (hK.sub [0, 1, 2, 3, 4, 5, 6, 7, 8, 9, 10, 11, 12] rfl) hN hz (fun q h => h) hS hsr hat han hnc) rfl rfl hl.1 rfl (lv_room (Nat.le_of_ble_eq_true rfl)) d_law_339 ⟨hc9, hs9⟩) hP hD hS (fun q h => h) [0, 1, 2, 3, 4, 5, 6, 7, 8, 9, 10, 11, 12, 13, 14, 15, 16, 17] [18, 19, 20, 21, 22, 23, 24, 25] rfl rfl (by decide) (by decide) (fun w9 H locs hw9 hP hD hS => ?_)
  obtain ⟨gc1, rE1, nM1, lD1, bF1, oR1, cH1, lf1, li1, us1, fe1, cf1, hcf1, rfl⟩ := hw9
  refine lv_istore hx hb d_law_342 hl (by decide) rfl (fun ls hl => ?_)
  have hl : lv_has ls 7 [(5, .int k), (0, .ref b), (1, .ref (ad 0)), (2, .ref (ad 18)), (3, .ref (ad 17)), (4, .int (nI i))] := hl
  refine lv_aload_n hx hb d_law_344 rfl (lv_at hl 3 rfl) ?_
  refine lv_aload_n hx hb d_law_345 rfl (lv_at hl 1 rfl) ?_
  refine lv_iload hx hb d_law_346 (lv_at hl 5 rfl) ?_
  refine lv_iconst (v := nI 1) hx hb d_law_348 (by decide) ?_
  refine lv_iadd hx hb d_law_349 ?_
  refine xv_top (x' := nI (i + 1)) (nI_ad i 1) ?_
  refine xs_ld (x := x1) hx hb hX hbl (Nat.not_le.mpr hbl) hS (by omega) hL2 e1 d_law_350 ?_
  refine xw_i (wc := MWl ad ck h ct mc mg mO mG mF mA mU mR) (wr := CWl ad ck h' ct' gc1 rE1 nM1 lD1 bF1 oR1 cH1 lf1 li1 us1 fe1 cf1 z') (w1 := MWl ad ck h' ct' k mg1 mO1 mG1 mF1 mA1 mU1 mR1) (va_runV (As := [.int x1]) (rest := []) ⟨hx, hb, hml, hown, hB⟩ (hM _) ⟨callB_of 1 hB (xg0 mc_M_members) rfl rfl rfl (hB _ mz_M) (hB _ ml_L_90) (by decide +kernel) ⟨hrf, hrl⟩, hB _ mi_M_members, hB _ me_M_members⟩ (xqV (ws := MWl ad ck h ct mc mg mO mG mF mA mU mR) (tys := TM ck) (hP.sub [0, 1, 2, 3, 4, 5, 6, 7] rfl) (hD.sub [0, 1, 2, 3, 4, 5, 6, 7] (by decide) rfl) (hK.sub [13, 14, 15, 16, 17, 18, 19] rfl) hN (va_recv (ci := 5) (q0 := 0) (q := (R_M, F_M, 10)) hK hP rfl rfl)) rfl rfl hl.1 rfl (lv_room (Nat.le_of_ble_eq_true rfl)) d_law_351 ⟨hc9, hs9⟩) hP hD hS (fun q h => h) [0, 1, 2, 3, 4, 5, 6, 7] [8, 9, 10, 11, 12, 13, 14, 15, 16, 17, 18, 19, 20, 21, 22, 23, 24, 25] rfl rfl (by decide) (by decide) (fun H locs hP hD hS => ?_)
  refine lv_istore hx hb d_law_354 hl (by decide) rfl (fun ls hl => ?_)
  have hl : lv_has ls 7 [(6, .int rm9), (5, .int k), (0, .ref b), (1, .ref (ad 0)), (2, .ref (ad 18)), (3, .ref (ad 17)), (4, .int (nI i))] := hl
  refine lv_aload_n hx hb d_law_356 rfl (lv_at hl 4 rfl) ?_
  refine xr_cal (va_runV (As := []) (rest := []) ⟨hx, hb, hml, hown, hB⟩ (k_M_thrown l D (ad 18) (ad 19) (ad 20) (ad 21) (ad 22) (ad 23) (ad 24) (ad 25) (ck 19) (ck 20) (ck 21) (ck 22) (ck 23) (ck 24) (ck 25) k ct' mg1 h' mO1 mG1 mF1 mA1 mU1 mR1) ⟨callB_of 0 hB (xg0 mc_M_thrown) rfl rfl rfl (hB _ mz_M) (hB _ ml_L_73) (by decide +kernel) ⟨Nat.le_of_ble_eq_true rfl, Nat.le_of_ble_eq_true rfl⟩, hB _ mi_M_thrown, hB _ me_M_thrown⟩ (xpV (ws := MWl ad ck h' ct' k mg1 mO1 mG1 mF1 mA1 mU1 mR1) (tys := TM ck) (hP.sub [18, 19, 20, 21, 22, 23, 24, 25] rfl) (hK.sub [13, 14, 15, 16, 17, 18, 19] rfl) hN (va_recv (ci := 5) (q0 := 18) (q := (R_M, F_M, 10)) hK hP rfl rfl)) rfl rfl hl.1 rfl (lv_room (Nat.le_of_ble_eq_true rfl)) d_law_357 ⟨hc9, hs9⟩) ?_
  refine lv_iload hx hb d_law_360 (lv_at hl 1 rfl) ?_
  refine lv_icmp_eq (tgt := 367) hx hb d_law_362 rfl (fun _ => ?_) (fun q9 => absurd rfl q9)
  refine lv_iload hx hb d_law_367 (lv_at hl 1 rfl) ?_
  refine lv_if_ne (tgt := 384) hx hb d_law_369 rfl (fun hk9 => ?_) (fun hk9 => ?_)
  · refine lv_goto (tgt := 1050) hx hb d_law_384 rfl ?_
    exact kk H locs ls (lv_sub hl [2, 3, 4, 5, 6] rfl) ⟨gc1, rE1, nM1, lD1, bF1, oR1, cH1, lf1, li1, us1, fe1, cf1, z', k, mg1, mO1, mG1, mF1, mA1, mU1, mR1, hcf1, hP, hD, hS⟩
  · have hzz := hz9 hk9
    subst hzz
    refine lv_aload_n hx hb d_law_372 rfl (lv_at hl 5 rfl) ?_
    refine lv_iconst (v := nI 0) hx hb d_law_373 (by decide) ?_
    refine va_lald hx hb hK hP 17 12 rfl rfl (vp_in_nI (by decide) (by decide)) d_law_374 ?_
    refine lv_iload hx hb d_law_375 (lv_at hl 0 rfl) ?_
    refine lv_i2l hx hb d_law_377 rfl ?_
    refine xl_cmp (x := rm9.toInt64) hx hb d_law_378 ?_
    refine lv_if_eq (tgt := 384) hx hb d_law_379 rfl (fun _ => ?_) (fun q9 => absurd rfl q9)
    refine lv_goto (tgt := 1050) hx hb d_law_384 rfl ?_
    exact kk H locs ls (lv_sub hl [2, 3, 4, 5, 6] rfl) ⟨gc1, rE1, nM1, lD1, bF1, oR1, cH1, lf1, li1, us1, fe1, cf1, _, k, mg1, mO1, mG1, mF1, mA1, mU1, mR1, hcf1, hP, hD, hS⟩
set_option maxHeartbeats 4000000 in
set_option maxRecDepth 100000 in
theorem sg_rank {p : Program} {l : Launch} {e : Env} {s : State} {m : MethodId} {below : List Frame} {meth : Method} {c : Code} {Q : State → Prop} {b L : Nat} {xs : Nat → Int32} {D : va_G} {ad : Nat → Nat} {ck : Nat → ClassId} (C : LC p s m c b L xs D ck) {i : Nat} (hi : i + 4 ≤ L) {h h' : Nat → Int32} {ct ct' : Int32} {gc : Int32} {rE nM lD bF oR cH lf li us fe : Nat → Int32} {cf : Nat → Nat} {zo z' : Int64} {mc : Int32} {mg : Int32} {mO mG mF mA mU mR : Nat → Int32} {k : Int32} {f9 l9 : Nat} {w1 : va_W} {rm9 : Int32} {x1 : Int32} (e1 : xs (i + 1) = x1)
    (hW : ∀ sz : Nat, Met l y_L_rank (Cond.codeWith y_L_rank c_L_rank 4 (some .int) hh_L_rank :: BS) { frames := 9, cells := 1, slots := 6, locals := 170 } (va_Pc [.ref (ad 0), .int x1, .ref (ad 17)] (xLw D (CWl ad ck h ct gc rE nM lD bF oR cH lf li us fe cf zo) (TC ck) sz)) (xQe D (CWl ad ck h ct gc rE nM lD bF oR cH lf li us fe cf zo) (TC ck) sz k (CWs ad ck h' ct' z')) 1 6 (va_A (CWl ad ck h ct gc rE nM lD bF oR cH lf li us fe cf zo) sz))
    (hM : ∀ sz : Nat, Met l y_M_rank (Cond.code y_M_rank c_M_rank 3 (some .int) :: BS) { frames := f9, cells := 0, slots := 0, locals := l9 } (va_Pc [.ref (ad 18), .int x1] (xWp D (MWl ad ck h ct mc mg mO mG mF mA mU mR) (TM ck) sz)) (xQi D (MWl ad ck h ct mc mg mO mG mF mA mU mR) w1 (TM ck) sz (rm9)) 0 0 (va_A (MWl ad ck h ct mc mg mO mG mF mA mU mR) sz))
    (hw1 : MWs ad ck h' ct' k w1) (hz9 : k = 0 → z' = rm9.toInt64) (hrf : f9 + 1 ≤ 12) (hrl : 8 + (3 + 11) + l9 ≤ 430)
    {H : Heap} {locs : List Loc} {cells slots : Nat} {ls : Array Slot} (hl : lv_has ls 7 [(0, .ref b), (1, .ref (ad 0)), (2, .ref (ad 18)), (3, .ref (ad 17)), (4, .int (nI i))]) (hP : va_P D cls (CWl ad ck h ct gc rE nM lD bF oR cH lf li us fe cf zo ++ MWl ad ck h ct mc mg mO mG mF mA mU mR) H) (hD : va_D (AL s) (CWl ad ck h ct gc rE nM lD bF oR cH lf li us fe cf zo ++ MWl ad ck h ct mc mg mO mG mF mA mU mR)) (hS : va_S (AL s) s.heap H locs) (hc9 : cells + 1 ≤ 1058) (hs9 : slots + 6 ≤ 8685)
    (kk : ∀ (H : Heap) (locs : List Loc) (ls : Array Slot), lv_has ls 7 [(0, .ref b), (1, .ref (ad 0)), (2, .ref (ad 18)), (3, .ref (ad 17)), (4, .int (nI i))] → LI D ad ck s h' ct' H locs → W p l e room_1 s m #[Value.ref b] below meth c H locs (cells + 1) (slots + 6) Q (F0 m 1050 ls [])) : W p l e room_1 s m #[Value.ref b] below meth c H locs cells slots Q (F0 m 387 ls []) := by
  obtain ⟨hx, hb, hml, hown, hB, hK, hN, hz, hsr, hat, han, hnc, hX, hbl, hL2⟩ := C
  obtain ⟨mg1, mO1, mG1, mF1, mA1, mU1, mR1, rfl⟩ := hw1
  refine lv_aload_n hx hb d_law_387 rfl (lv_at hl 1 rfl) ?_
  refine lv_aload_n hx hb d_law_388 rfl (lv_at hl 0 rfl) ?_
  refine lv_iload hx hb d_law_389 (lv_at hl 4 rfl) ?_
  refine lv_iconst (v := nI 1) hx hb d_law_391 (by decide) ?_
  refine lv_iadd hx hb d_law_392 ?_
  refine xv_top (x' := nI (i + 1)) (nI_ad i 1) ?_
  refine xs_ld (x := x1) hx hb hX hbl (Nat.not_le.mpr hbl) hS (by omega) hL2 e1 d_law_393 ?_
  refine lv_aload_n hx hb d_law_394 rfl (lv_at hl 3 rfl) ?_
  refine xw_e (wc := CWl ad ck h ct gc rE nM lD bF oR cH lf li us fe cf zo) (wr := MWl ad ck h ct mc mg mO mG mF mA mU mR) (vx_runSW (As := [.ref (ad 0), .int x1, .ref (ad 17)]) (rest := []) ⟨hx, hb, hml, hown, hB⟩ (hW _) (vx_cwSW 3 hB (xgS ml_L_91 ms_L_rank mz_L mc_L_rank) rfl rfl rfl (by decide +kernel) ⟨Nat.le_of_ble_eq_true rfl, Nat.le_of_ble_eq_true rfl⟩) (xqSl (ws := CWl ad ck h ct gc rE nM lD bF oR cH lf li us fe cf zo) (tys := TC ck) (hP.sub [0, 1, 2, 3, 4, 5, 6, 7, 8, 9, 10, 11, 12, 13, 14, 15, 16, 17] rfl) (hD.sub [0, 1, 2, 3, 4, 5, 6, 7, 8, 9, 10, 11, 12, 13, 14, 15, 16, 17] (by decide) rfl) (hK.sub [0, 1, 2, 3, 4, 5, 6, 7, 8, 9, 10, 11, 12] rfl) hN hz (fun q h => h) hS hsr hat han hnc) rfl rfl hl.1 rfl (lv_room (Nat.le_of_ble_eq_true rfl)) d_law_395 ⟨hc9, hs9⟩) hP hD hS (fun q h => h) [0, 1, 2, 3, 4, 5, 6, 7, 8, 9, 10, 11, 12, 13, 14, 15, 16, 17] [18, 19, 20, 21, 22, 23, 24, 25] rfl rfl (by decide) (by decide) (fun w9 H locs hw9 hP hD hS => ?_)
  obtain ⟨gc1, rE1, nM1, lD1, bF1, oR1, cH1, lf1, li1, us1, fe1, cf1, hcf1, rfl⟩ := hw9
  refine lv_istore hx hb d_law_398 hl (by decide) rfl (fun ls hl => ?_)
  have hl : lv_has ls 7 [(5, .int k), (0, .ref b), (1, .ref (ad 0)), (2, .ref (ad 18)), (3, .ref (ad 17)), (4, .int (nI i))] := hl
  refine lv_aload_n hx hb d_law_400 rfl (lv_at hl 3 rfl) ?_
  refine lv_aload_n hx hb d_law_401 rfl (lv_at hl 1 rfl) ?_
  refine lv_iload hx hb d_law_402 (lv_at hl 5 rfl) ?_
  refine lv_iconst (v := nI 1) hx hb d_law_404 (by decide) ?_
  refine lv_iadd hx hb d_law_405 ?_
  refine xv_top (x' := nI (i + 1)) (nI_ad i 1) ?_
  refine xs_ld (x := x1) hx hb hX hbl (Nat.not_le.mpr hbl) hS (by omega) hL2 e1 d_law_406 ?_
  refine xw_i (wc := MWl ad ck h ct mc mg mO mG mF mA mU mR) (wr := CWl ad ck h' ct' gc1 rE1 nM1 lD1 bF1 oR1 cH1 lf1 li1 us1 fe1 cf1 z') (w1 := MWl ad ck h' ct' k mg1 mO1 mG1 mF1 mA1 mU1 mR1) (va_runV (As := [.int x1]) (rest := []) ⟨hx, hb, hml, hown, hB⟩ (hM _) ⟨callB_of 1 hB (xg0 mc_M_rank) rfl rfl rfl (hB _ mz_M) (hB _ ml_L_93) (by decide +kernel) ⟨hrf, hrl⟩, hB _ mi_M_rank, hB _ me_M_rank⟩ (xqV (ws := MWl ad ck h ct mc mg mO mG mF mA mU mR) (tys := TM ck) (hP.sub [0, 1, 2, 3, 4, 5, 6, 7] rfl) (hD.sub [0, 1, 2, 3, 4, 5, 6, 7] (by decide) rfl) (hK.sub [13, 14, 15, 16, 17, 18, 19] rfl) hN (va_recv (ci := 5) (q0 := 0) (q := (R_M, F_M, 10)) hK hP rfl rfl)) rfl rfl hl.1 rfl (lv_room (Nat.le_of_ble_eq_true rfl)) d_law_407 ⟨hc9, hs9⟩) hP hD hS (fun q h => h) [0, 1, 2, 3, 4, 5, 6, 7] [8, 9, 10, 11, 12, 13, 14, 15, 16, 17, 18, 19, 20, 21, 22, 23, 24, 25] rfl rfl (by decide) (by decide) (fun H locs hP hD hS => ?_)
  refine lv_istore hx hb d_law_410 hl (by decide) rfl (fun ls hl => ?_)
  have hl : lv_has ls 7 [(6, .int rm9), (5, .int k), (0, .ref b), (1, .ref (ad 0)), (2, .ref (ad 18)), (3, .ref (ad 17)), (4, .int (nI i))] := hl
  refine lv_aload_n hx hb d_law_412 rfl (lv_at hl 4 rfl) ?_
  refine xr_cal (va_runV (As := []) (rest := []) ⟨hx, hb, hml, hown, hB⟩ (k_M_thrown l D (ad 18) (ad 19) (ad 20) (ad 21) (ad 22) (ad 23) (ad 24) (ad 25) (ck 19) (ck 20) (ck 21) (ck 22) (ck 23) (ck 24) (ck 25) k ct' mg1 h' mO1 mG1 mF1 mA1 mU1 mR1) ⟨callB_of 0 hB (xg0 mc_M_thrown) rfl rfl rfl (hB _ mz_M) (hB _ ml_L_73) (by decide +kernel) ⟨Nat.le_of_ble_eq_true rfl, Nat.le_of_ble_eq_true rfl⟩, hB _ mi_M_thrown, hB _ me_M_thrown⟩ (xpV (ws := MWl ad ck h' ct' k mg1 mO1 mG1 mF1 mA1 mU1 mR1) (tys := TM ck) (hP.sub [18, 19, 20, 21, 22, 23, 24, 25] rfl) (hK.sub [13, 14, 15, 16, 17, 18, 19] rfl) hN (va_recv (ci := 5) (q0 := 18) (q := (R_M, F_M, 10)) hK hP rfl rfl)) rfl rfl hl.1 rfl (lv_room (Nat.le_of_ble_eq_true rfl)) d_law_413 ⟨hc9, hs9⟩) ?_
  refine lv_iload hx hb d_law_416 (lv_at hl 1 rfl) ?_
  refine lv_icmp_eq (tgt := 423) hx hb d_law_418 rfl (fun _ => ?_) (fun q9 => absurd rfl q9)
  refine lv_iload hx hb d_law_423 (lv_at hl 1 rfl) ?_
  refine lv_if_ne (tgt := 440) hx hb d_law_425 rfl (fun hk9 => ?_) (fun hk9 => ?_)
  · refine lv_goto (tgt := 1050) hx hb d_law_440 rfl ?_
    exact kk H locs ls (lv_sub hl [2, 3, 4, 5, 6] rfl) ⟨gc1, rE1, nM1, lD1, bF1, oR1, cH1, lf1, li1, us1, fe1, cf1, z', k, mg1, mO1, mG1, mF1, mA1, mU1, mR1, hcf1, hP, hD, hS⟩
  · have hzz := hz9 hk9
    subst hzz
    refine lv_aload_n hx hb d_law_428 rfl (lv_at hl 5 rfl) ?_
    refine lv_iconst (v := nI 0) hx hb d_law_429 (by decide) ?_
    refine va_lald hx hb hK hP 17 12 rfl rfl (vp_in_nI (by decide) (by decide)) d_law_430 ?_
    refine lv_iload hx hb d_law_431 (lv_at hl 0 rfl) ?_
    refine lv_i2l hx hb d_law_433 rfl ?_
    refine xl_cmp (x := rm9.toInt64) hx hb d_law_434 ?_
    refine lv_if_eq (tgt := 440) hx hb d_law_435 rfl (fun _ => ?_) (fun q9 => absurd rfl q9)
    refine lv_goto (tgt := 1050) hx hb d_law_440 rfl ?_
    exact kk H locs ls (lv_sub hl [2, 3, 4, 5, 6] rfl) ⟨gc1, rE1, nM1, lD1, bF1, oR1, cH1, lf1, li1, us1, fe1, cf1, _, k, mg1, mO1, mG1, mF1, mA1, mU1, mR1, hcf1, hP, hD, hS⟩
set_option maxHeartbeats 4000000 in
set_option maxRecDepth 100000 in
theorem sg_ranked {p : Program} {l : Launch} {e : Env} {s : State} {m : MethodId} {below : List Frame} {meth : Method} {c : Code} {Q : State → Prop} {b L : Nat} {xs : Nat → Int32} {D : va_G} {ad : Nat → Nat} {ck : Nat → ClassId} (C : LC p s m c b L xs D ck) {i : Nat} (hi : i + 4 ≤ L) {h h' : Nat → Int32} {ct ct' : Int32} {gc : Int32} {rE nM lD bF oR cH lf li us fe : Nat → Int32} {cf : Nat → Nat} {zo z' : Int64} {mc : Int32} {mg : Int32} {mO mG mF mA mU mR : Nat → Int32} {k : Int32} {f9 l9 : Nat} {w1 : va_W} {rm9 : Int32} {x1 : Int32} (e1 : xs (i + 1) = x1)
    (hW : ∀ sz : Nat, Met l y_L_ranked (Cond.codeWith y_L_ranked c_L_ranked 4 (some .int) hh_L_ranked :: BS) { frames := 9, cells := 1, slots := 6, locals := 170 } (va_Pc [.ref (ad 0), .int x1, .ref (ad 17)] (xLw D (CWl ad ck h ct gc rE nM lD bF oR cH lf li us fe cf zo) (TC ck) sz)) (xQe D (CWl ad ck h ct gc rE nM lD bF oR cH lf li us fe cf zo) (TC ck) sz k (CWs ad ck h' ct' z')) 1 6 (va_A (CWl ad ck h ct gc rE nM lD bF oR cH lf li us fe cf zo) sz))
    (hM : ∀ sz : Nat, Met l y_M_ranked (Cond.code y_M_ranked c_M_ranked 2 (some .int) :: BS) { frames := f9, cells := 0, slots := 0, locals := l9 } (va_Pc [.ref (ad 18), .int x1] (xWp D (MWl ad ck h ct mc mg mO mG mF mA mU mR) (TM ck) sz)) (xQi D (MWl ad ck h ct mc mg mO mG mF mA mU mR) w1 (TM ck) sz (rm9)) 0 0 (va_A (MWl ad ck h ct mc mg mO mG mF mA mU mR) sz))
    (hw1 : MWs ad ck h' ct' k w1) (hz9 : k = 0 → z' = rm9.toInt64) (hrf : f9 + 1 ≤ 12) (hrl : 8 + (2 + 11) + l9 ≤ 430)
    {H : Heap} {locs : List Loc} {cells slots : Nat} {ls : Array Slot} (hl : lv_has ls 7 [(0, .ref b), (1, .ref (ad 0)), (2, .ref (ad 18)), (3, .ref (ad 17)), (4, .int (nI i))]) (hP : va_P D cls (CWl ad ck h ct gc rE nM lD bF oR cH lf li us fe cf zo ++ MWl ad ck h ct mc mg mO mG mF mA mU mR) H) (hD : va_D (AL s) (CWl ad ck h ct gc rE nM lD bF oR cH lf li us fe cf zo ++ MWl ad ck h ct mc mg mO mG mF mA mU mR)) (hS : va_S (AL s) s.heap H locs) (hc9 : cells + 1 ≤ 1058) (hs9 : slots + 6 ≤ 8685)
    (kk : ∀ (H : Heap) (locs : List Loc) (ls : Array Slot), lv_has ls 7 [(0, .ref b), (1, .ref (ad 0)), (2, .ref (ad 18)), (3, .ref (ad 17)), (4, .int (nI i))] → LI D ad ck s h' ct' H locs → W p l e room_1 s m #[Value.ref b] below meth c H locs (cells + 1) (slots + 6) Q (F0 m 1050 ls [])) : W p l e room_1 s m #[Value.ref b] below meth c H locs cells slots Q (F0 m 443 ls []) := by
  obtain ⟨hx, hb, hml, hown, hB, hK, hN, hz, hsr, hat, han, hnc, hX, hbl, hL2⟩ := C
  obtain ⟨mg1, mO1, mG1, mF1, mA1, mU1, mR1, rfl⟩ := hw1
  refine lv_aload_n hx hb d_law_443 rfl (lv_at hl 1 rfl) ?_
  refine lv_aload_n hx hb d_law_444 rfl (lv_at hl 0 rfl) ?_
  refine lv_iload hx hb d_law_445 (lv_at hl 4 rfl) ?_
  refine lv_iconst (v := nI 1) hx hb d_law_447 (by decide) ?_
  refine lv_iadd hx hb d_law_448 ?_
  refine xv_top (x' := nI (i + 1)) (nI_ad i 1) ?_
  refine xs_ld (x := x1) hx hb hX hbl (Nat.not_le.mpr hbl) hS (by omega) hL2 e1 d_law_449 ?_
  refine lv_aload_n hx hb d_law_450 rfl (lv_at hl 3 rfl) ?_
  refine xw_e (wc := CWl ad ck h ct gc rE nM lD bF oR cH lf li us fe cf zo) (wr := MWl ad ck h ct mc mg mO mG mF mA mU mR) (vx_runSW (As := [.ref (ad 0), .int x1, .ref (ad 17)]) (rest := []) ⟨hx, hb, hml, hown, hB⟩ (hW _) (vx_cwSW 3 hB (xgS ml_L_94 ms_L_ranked mz_L mc_L_ranked) rfl rfl rfl (by decide +kernel) ⟨Nat.le_of_ble_eq_true rfl, Nat.le_of_ble_eq_true rfl⟩) (xqSl (ws := CWl ad ck h ct gc rE nM lD bF oR cH lf li us fe cf zo) (tys := TC ck) (hP.sub [0, 1, 2, 3, 4, 5, 6, 7, 8, 9, 10, 11, 12, 13, 14, 15, 16, 17] rfl) (hD.sub [0, 1, 2, 3, 4, 5, 6, 7, 8, 9, 10, 11, 12, 13, 14, 15, 16, 17] (by decide) rfl) (hK.sub [0, 1, 2, 3, 4, 5, 6, 7, 8, 9, 10, 11, 12] rfl) hN hz (fun q h => h) hS hsr hat han hnc) rfl rfl hl.1 rfl (lv_room (Nat.le_of_ble_eq_true rfl)) d_law_451 ⟨hc9, hs9⟩) hP hD hS (fun q h => h) [0, 1, 2, 3, 4, 5, 6, 7, 8, 9, 10, 11, 12, 13, 14, 15, 16, 17] [18, 19, 20, 21, 22, 23, 24, 25] rfl rfl (by decide) (by decide) (fun w9 H locs hw9 hP hD hS => ?_)
  obtain ⟨gc1, rE1, nM1, lD1, bF1, oR1, cH1, lf1, li1, us1, fe1, cf1, hcf1, rfl⟩ := hw9
  refine lv_istore hx hb d_law_454 hl (by decide) rfl (fun ls hl => ?_)
  have hl : lv_has ls 7 [(5, .int k), (0, .ref b), (1, .ref (ad 0)), (2, .ref (ad 18)), (3, .ref (ad 17)), (4, .int (nI i))] := hl
  refine lv_aload_n hx hb d_law_456 rfl (lv_at hl 3 rfl) ?_
  refine lv_aload_n hx hb d_law_457 rfl (lv_at hl 1 rfl) ?_
  refine lv_iload hx hb d_law_458 (lv_at hl 5 rfl) ?_
  refine lv_iconst (v := nI 1) hx hb d_law_460 (by decide) ?_
  refine lv_iadd hx hb d_law_461 ?_
  refine xv_top (x' := nI (i + 1)) (nI_ad i 1) ?_
  refine xs_ld (x := x1) hx hb hX hbl (Nat.not_le.mpr hbl) hS (by omega) hL2 e1 d_law_462 ?_
  refine xw_i (wc := MWl ad ck h ct mc mg mO mG mF mA mU mR) (wr := CWl ad ck h' ct' gc1 rE1 nM1 lD1 bF1 oR1 cH1 lf1 li1 us1 fe1 cf1 z') (w1 := MWl ad ck h' ct' k mg1 mO1 mG1 mF1 mA1 mU1 mR1) (va_runV (As := [.int x1]) (rest := []) ⟨hx, hb, hml, hown, hB⟩ (hM _) ⟨callB_of 1 hB (xg0 mc_M_ranked) rfl rfl rfl (hB _ mz_M) (hB _ ml_L_96) (by decide +kernel) ⟨hrf, hrl⟩, hB _ mi_M_ranked, hB _ me_M_ranked⟩ (xqV (ws := MWl ad ck h ct mc mg mO mG mF mA mU mR) (tys := TM ck) (hP.sub [0, 1, 2, 3, 4, 5, 6, 7] rfl) (hD.sub [0, 1, 2, 3, 4, 5, 6, 7] (by decide) rfl) (hK.sub [13, 14, 15, 16, 17, 18, 19] rfl) hN (va_recv (ci := 5) (q0 := 0) (q := (R_M, F_M, 10)) hK hP rfl rfl)) rfl rfl hl.1 rfl (lv_room (Nat.le_of_ble_eq_true rfl)) d_law_463 ⟨hc9, hs9⟩) hP hD hS (fun q h => h) [0, 1, 2, 3, 4, 5, 6, 7] [8, 9, 10, 11, 12, 13, 14, 15, 16, 17, 18, 19, 20, 21, 22, 23, 24, 25] rfl rfl (by decide) (by decide) (fun H locs hP hD hS => ?_)
  refine lv_istore hx hb d_law_466 hl (by decide) rfl (fun ls hl => ?_)
  have hl : lv_has ls 7 [(6, .int rm9), (5, .int k), (0, .ref b), (1, .ref (ad 0)), (2, .ref (ad 18)), (3, .ref (ad 17)), (4, .int (nI i))] := hl
  refine lv_aload_n hx hb d_law_468 rfl (lv_at hl 4 rfl) ?_
  refine xr_cal (va_runV (As := []) (rest := []) ⟨hx, hb, hml, hown, hB⟩ (k_M_thrown l D (ad 18) (ad 19) (ad 20) (ad 21) (ad 22) (ad 23) (ad 24) (ad 25) (ck 19) (ck 20) (ck 21) (ck 22) (ck 23) (ck 24) (ck 25) k ct' mg1 h' mO1 mG1 mF1 mA1 mU1 mR1) ⟨callB_of 0 hB (xg0 mc_M_thrown) rfl rfl rfl (hB _ mz_M) (hB _ ml_L_73) (by decide +kernel) ⟨Nat.le_of_ble_eq_true rfl, Nat.le_of_ble_eq_true rfl⟩, hB _ mi_M_thrown, hB _ me_M_thrown⟩ (xpV (ws := MWl ad ck h' ct' k mg1 mO1 mG1 mF1 mA1 mU1 mR1) (tys := TM ck) (hP.sub [18, 19, 20, 21, 22, 23, 24, 25] rfl) (hK.sub [13, 14, 15, 16, 17, 18, 19] rfl) hN (va_recv (ci := 5) (q0 := 18) (q := (R_M, F_M, 10)) hK hP rfl rfl)) rfl rfl hl.1 rfl (lv_room (Nat.le_of_ble_eq_true rfl)) d_law_469 ⟨hc9, hs9⟩) ?_
  refine lv_iload hx hb d_law_472 (lv_at hl 1 rfl) ?_
  refine lv_icmp_eq (tgt := 479) hx hb d_law_474 rfl (fun _ => ?_) (fun q9 => absurd rfl q9)
  refine lv_iload hx hb d_law_479 (lv_at hl 1 rfl) ?_
  refine lv_if_ne (tgt := 496) hx hb d_law_481 rfl (fun hk9 => ?_) (fun hk9 => ?_)
  · refine lv_goto (tgt := 1050) hx hb d_law_496 rfl ?_
    exact kk H locs ls (lv_sub hl [2, 3, 4, 5, 6] rfl) ⟨gc1, rE1, nM1, lD1, bF1, oR1, cH1, lf1, li1, us1, fe1, cf1, z', k, mg1, mO1, mG1, mF1, mA1, mU1, mR1, hcf1, hP, hD, hS⟩
  · have hzz := hz9 hk9
    subst hzz
    refine lv_aload_n hx hb d_law_484 rfl (lv_at hl 5 rfl) ?_
    refine lv_iconst (v := nI 0) hx hb d_law_485 (by decide) ?_
    refine va_lald hx hb hK hP 17 12 rfl rfl (vp_in_nI (by decide) (by decide)) d_law_486 ?_
    refine lv_iload hx hb d_law_487 (lv_at hl 0 rfl) ?_
    refine lv_i2l hx hb d_law_489 rfl ?_
    refine xl_cmp (x := rm9.toInt64) hx hb d_law_490 ?_
    refine lv_if_eq (tgt := 496) hx hb d_law_491 rfl (fun _ => ?_) (fun q9 => absurd rfl q9)
    refine lv_goto (tgt := 1050) hx hb d_law_496 rfl ?_
    exact kk H locs ls (lv_sub hl [2, 3, 4, 5, 6] rfl) ⟨gc1, rE1, nM1, lD1, bF1, oR1, cH1, lf1, li1, us1, fe1, cf1, _, k, mg1, mO1, mG1, mF1, mA1, mU1, mR1, hcf1, hP, hD, hS⟩
set_option maxHeartbeats 4000000 in
set_option maxRecDepth 100000 in
theorem sg_reaches {p : Program} {l : Launch} {e : Env} {s : State} {m : MethodId} {below : List Frame} {meth : Method} {c : Code} {Q : State → Prop} {b L : Nat} {xs : Nat → Int32} {D : va_G} {ad : Nat → Nat} {ck : Nat → ClassId} (C : LC p s m c b L xs D ck) {i : Nat} (hi : i + 4 ≤ L) {h h' : Nat → Int32} {ct ct' : Int32} {gc : Int32} {rE nM lD bF oR cH lf li us fe : Nat → Int32} {cf : Nat → Nat} {zo z' : Int64} {mc : Int32} {mg : Int32} {mO mG mF mA mU mR : Nat → Int32} {k : Int32} {f9 l9 : Nat} {w1 : va_W} {bo : Bool} {x1 x2 : Int32} (e1 : xs (i + 1) = x1) (e2 : xs (i + 2) = x2)
    (hW : ∀ sz : Nat, Met l y_L_reaches (Cond.codeWith y_L_reaches c_L_reaches 5 (some .int) hh_L_reaches :: BS) { frames := 9, cells := 1, slots := 6, locals := 170 } (va_Pc [.ref (ad 0), .int x1, .int x2, .ref (ad 17)] (xLw D (CWl ad ck h ct gc rE nM lD bF oR cH lf li us fe cf zo) (TC ck) sz)) (xQe D (CWl ad ck h ct gc rE nM lD bF oR cH lf li us fe cf zo) (TC ck) sz k (CWs ad ck h' ct' z')) 1 6 (va_A (CWl ad ck h ct gc rE nM lD bF oR cH lf li us fe cf zo) sz))
    (hM : ∀ sz : Nat, Met l y_M_reaches (Cond.code y_M_reaches c_M_reaches 3 (some .boolean) :: BS) { frames := f9, cells := 0, slots := 0, locals := l9 } (va_Pc [.ref (ad 18), .int x1, .int x2] (xWp D (MWl ad ck h ct mc mg mO mG mF mA mU mR) (TM ck) sz)) (xQi D (MWl ad ck h ct mc mg mO mG mF mA mU mR) w1 (TM ck) sz (b2i bo)) 0 0 (va_A (MWl ad ck h ct mc mg mO mG mF mA mU mR) sz))
    (hw1 : MWs ad ck h' ct' k w1) (hz9 : k = 0 → z' = i64b bo) (hrf : f9 + 1 ≤ 12) (hrl : 8 + (3 + 11) + l9 ≤ 430)
    {H : Heap} {locs : List Loc} {cells slots : Nat} {ls : Array Slot} (hl : lv_has ls 7 [(0, .ref b), (1, .ref (ad 0)), (2, .ref (ad 18)), (3, .ref (ad 17)), (4, .int (nI i))]) (hP : va_P D cls (CWl ad ck h ct gc rE nM lD bF oR cH lf li us fe cf zo ++ MWl ad ck h ct mc mg mO mG mF mA mU mR) H) (hD : va_D (AL s) (CWl ad ck h ct gc rE nM lD bF oR cH lf li us fe cf zo ++ MWl ad ck h ct mc mg mO mG mF mA mU mR)) (hS : va_S (AL s) s.heap H locs) (hc9 : cells + 1 ≤ 1058) (hs9 : slots + 6 ≤ 8685)
    (kk : ∀ (H : Heap) (locs : List Loc) (ls : Array Slot), lv_has ls 7 [(0, .ref b), (1, .ref (ad 0)), (2, .ref (ad 18)), (3, .ref (ad 17)), (4, .int (nI i))] → LI D ad ck s h' ct' H locs → W p l e room_1 s m #[Value.ref b] below meth c H locs (cells + 1) (slots + 6) Q (F0 m 1050 ls [])) : W p l e room_1 s m #[Value.ref b] below meth c H locs cells slots Q (F0 m 499 ls []) := by
  obtain ⟨hx, hb, hml, hown, hB, hK, hN, hz, hsr, hat, han, hnc, hX, hbl, hL2⟩ := C
  obtain ⟨mg1, mO1, mG1, mF1, mA1, mU1, mR1, rfl⟩ := hw1
  refine lv_aload_n hx hb d_law_499 rfl (lv_at hl 1 rfl) ?_
  refine lv_aload_n hx hb d_law_500 rfl (lv_at hl 0 rfl) ?_
  refine lv_iload hx hb d_law_501 (lv_at hl 4 rfl) ?_
  refine lv_iconst (v := nI 1) hx hb d_law_503 (by decide) ?_
  refine lv_iadd hx hb d_law_504 ?_
  refine xv_top (x' := nI (i + 1)) (nI_ad i 1) ?_
  refine xs_ld (x := x1) hx hb hX hbl (Nat.not_le.mpr hbl) hS (by omega) hL2 e1 d_law_505 ?_
  refine lv_aload_n hx hb d_law_506 rfl (lv_at hl 0 rfl) ?_
  refine lv_iload hx hb d_law_507 (lv_at hl 4 rfl) ?_
  refine lv_iconst (v := nI 2) hx hb d_law_509 (by decide) ?_
  refine lv_iadd hx hb d_law_510 ?_
  refine xv_top (x' := nI (i + 2)) (nI_ad i 2) ?_
  refine xs_ld (x := x2) hx hb hX hbl (Nat.not_le.mpr hbl) hS (by omega) hL2 e2 d_law_511 ?_
  refine lv_aload_n hx hb d_law_512 rfl (lv_at hl 3 rfl) ?_
  refine xw_e (wc := CWl ad ck h ct gc rE nM lD bF oR cH lf li us fe cf zo) (wr := MWl ad ck h ct mc mg mO mG mF mA mU mR) (vx_runSW (As := [.ref (ad 0), .int x1, .int x2, .ref (ad 17)]) (rest := []) ⟨hx, hb, hml, hown, hB⟩ (hW _) (vx_cwSW 4 hB (xgS ml_L_97 ms_L_reaches mz_L mc_L_reaches) rfl rfl rfl (by decide +kernel) ⟨Nat.le_of_ble_eq_true rfl, Nat.le_of_ble_eq_true rfl⟩) (xqSl (ws := CWl ad ck h ct gc rE nM lD bF oR cH lf li us fe cf zo) (tys := TC ck) (hP.sub [0, 1, 2, 3, 4, 5, 6, 7, 8, 9, 10, 11, 12, 13, 14, 15, 16, 17] rfl) (hD.sub [0, 1, 2, 3, 4, 5, 6, 7, 8, 9, 10, 11, 12, 13, 14, 15, 16, 17] (by decide) rfl) (hK.sub [0, 1, 2, 3, 4, 5, 6, 7, 8, 9, 10, 11, 12] rfl) hN hz (fun q h => h) hS hsr hat han hnc) rfl rfl hl.1 rfl (lv_room (Nat.le_of_ble_eq_true rfl)) d_law_513 ⟨hc9, hs9⟩) hP hD hS (fun q h => h) [0, 1, 2, 3, 4, 5, 6, 7, 8, 9, 10, 11, 12, 13, 14, 15, 16, 17] [18, 19, 20, 21, 22, 23, 24, 25] rfl rfl (by decide) (by decide) (fun w9 H locs hw9 hP hD hS => ?_)
  obtain ⟨gc1, rE1, nM1, lD1, bF1, oR1, cH1, lf1, li1, us1, fe1, cf1, hcf1, rfl⟩ := hw9
  refine lv_istore hx hb d_law_516 hl (by decide) rfl (fun ls hl => ?_)
  have hl : lv_has ls 7 [(5, .int k), (0, .ref b), (1, .ref (ad 0)), (2, .ref (ad 18)), (3, .ref (ad 17)), (4, .int (nI i))] := hl
  refine lv_aload_n hx hb d_law_518 rfl (lv_at hl 3 rfl) ?_
  refine lv_aload_n hx hb d_law_519 rfl (lv_at hl 1 rfl) ?_
  refine lv_iload hx hb d_law_520 (lv_at hl 5 rfl) ?_
  refine lv_iconst (v := nI 1) hx hb d_law_522 (by decide) ?_
  refine lv_iadd hx hb d_law_523 ?_
  refine xv_top (x' := nI (i + 1)) (nI_ad i 1) ?_
  refine xs_ld (x := x1) hx hb hX hbl (Nat.not_le.mpr hbl) hS (by omega) hL2 e1 d_law_524 ?_
  refine lv_aload_n hx hb d_law_525 rfl (lv_at hl 1 rfl) ?_
  refine lv_iload hx hb d_law_526 (lv_at hl 5 rfl) ?_
  refine lv_iconst (v := nI 2) hx hb d_law_528 (by decide) ?_
  refine lv_iadd hx hb d_law_529 ?_
  refine xv_top (x' := nI (i + 2)) (nI_ad i 2) ?_
  refine xs_ld (x := x2) hx hb hX hbl (Nat.not_le.mpr hbl) hS (by omega) hL2 e2 d_law_530 ?_
  refine xw_i (wc := MWl ad ck h ct mc mg mO mG mF mA mU mR) (wr := CWl ad ck h' ct' gc1 rE1 nM1 lD1 bF1 oR1 cH1 lf1 li1 us1 fe1 cf1 z') (w1 := MWl ad ck h' ct' k mg1 mO1 mG1 mF1 mA1 mU1 mR1) (va_runV (As := [.int x1, .int x2]) (rest := []) ⟨hx, hb, hml, hown, hB⟩ (hM _) ⟨callB_of 2 hB (xg0 mc_M_reaches) rfl rfl rfl (hB _ mz_M) (hB _ ml_L_99) (by decide +kernel) ⟨hrf, hrl⟩, hB _ mi_M_reaches, hB _ me_M_reaches⟩ (xqV (ws := MWl ad ck h ct mc mg mO mG mF mA mU mR) (tys := TM ck) (hP.sub [0, 1, 2, 3, 4, 5, 6, 7] rfl) (hD.sub [0, 1, 2, 3, 4, 5, 6, 7] (by decide) rfl) (hK.sub [13, 14, 15, 16, 17, 18, 19] rfl) hN (va_recv (ci := 5) (q0 := 0) (q := (R_M, F_M, 10)) hK hP rfl rfl)) rfl rfl hl.1 rfl (lv_room (Nat.le_of_ble_eq_true rfl)) d_law_531 ⟨hc9, hs9⟩) hP hD hS (fun q h => h) [0, 1, 2, 3, 4, 5, 6, 7] [8, 9, 10, 11, 12, 13, 14, 15, 16, 17, 18, 19, 20, 21, 22, 23, 24, 25] rfl rfl (by decide) (by decide) (fun H locs hP hD hS => ?_)
  refine lv_istore hx hb d_law_534 hl (by decide) rfl (fun ls hl => ?_)
  have hl : lv_has ls 7 [(6, .int (b2i bo)), (5, .int k), (0, .ref b), (1, .ref (ad 0)), (2, .ref (ad 18)), (3, .ref (ad 17)), (4, .int (nI i))] := hl
  refine lv_aload_n hx hb d_law_536 rfl (lv_at hl 4 rfl) ?_
  refine xr_cal (va_runV (As := []) (rest := []) ⟨hx, hb, hml, hown, hB⟩ (k_M_thrown l D (ad 18) (ad 19) (ad 20) (ad 21) (ad 22) (ad 23) (ad 24) (ad 25) (ck 19) (ck 20) (ck 21) (ck 22) (ck 23) (ck 24) (ck 25) k ct' mg1 h' mO1 mG1 mF1 mA1 mU1 mR1) ⟨callB_of 0 hB (xg0 mc_M_thrown) rfl rfl rfl (hB _ mz_M) (hB _ ml_L_73) (by decide +kernel) ⟨Nat.le_of_ble_eq_true rfl, Nat.le_of_ble_eq_true rfl⟩, hB _ mi_M_thrown, hB _ me_M_thrown⟩ (xpV (ws := MWl ad ck h' ct' k mg1 mO1 mG1 mF1 mA1 mU1 mR1) (tys := TM ck) (hP.sub [18, 19, 20, 21, 22, 23, 24, 25] rfl) (hK.sub [13, 14, 15, 16, 17, 18, 19] rfl) hN (va_recv (ci := 5) (q0 := 18) (q := (R_M, F_M, 10)) hK hP rfl rfl)) rfl rfl hl.1 rfl (lv_room (Nat.le_of_ble_eq_true rfl)) d_law_537 ⟨hc9, hs9⟩) ?_
  refine lv_iload hx hb d_law_540 (lv_at hl 1 rfl) ?_
  refine lv_icmp_eq (tgt := 547) hx hb d_law_542 rfl (fun _ => ?_) (fun q9 => absurd rfl q9)
  refine lv_iload hx hb d_law_547 (lv_at hl 1 rfl) ?_
  refine lv_if_ne (tgt := 571) hx hb d_law_549 rfl (fun hk9 => ?_) (fun hk9 => ?_)
  · refine lv_goto (tgt := 1050) hx hb d_law_571 rfl ?_
    exact kk H locs ls (lv_sub hl [2, 3, 4, 5, 6] rfl) ⟨gc1, rE1, nM1, lD1, bF1, oR1, cH1, lf1, li1, us1, fe1, cf1, z', k, mg1, mO1, mG1, mF1, mA1, mU1, mR1, hcf1, hP, hD, hS⟩
  · have hzz := hz9 hk9
    subst hzz
    refine lv_aload_n hx hb d_law_552 rfl (lv_at hl 5 rfl) ?_
    refine lv_iconst (v := nI 0) hx hb d_law_553 (by decide) ?_
    refine va_lald hx hb hK hP 17 12 rfl rfl (vp_in_nI (by decide) (by decide)) d_law_554 ?_
    refine lv_iload hx hb d_law_555 (lv_at hl 0 rfl) ?_
    refine lv_if_eq (tgt := 564) hx hb d_law_557 rfl (fun hc => ?_) (fun hc => ?_)
    · have hc := b2i_0.mp hc
      refine lv_lconst (n := 0) (v := i64b bo) hx hb d_law_564 (by rw [i64b_0 hc]; rfl) ?_
      refine xl_cmp (x := (i64b bo)) hx hb d_law_565 ?_
      refine lv_if_eq (tgt := 571) hx hb d_law_566 rfl (fun _ => ?_) (fun q9 => absurd rfl q9)
      refine lv_goto (tgt := 1050) hx hb d_law_571 rfl ?_
      exact kk H locs ls (lv_sub hl [2, 3, 4, 5, 6] rfl) ⟨gc1, rE1, nM1, lD1, bF1, oR1, cH1, lf1, li1, us1, fe1, cf1, _, k, mg1, mO1, mG1, mF1, mA1, mU1, mR1, hcf1, hP, hD, hS⟩
    · have hc := b2i_n.mp hc
      refine lv_lconst (n := 1) (v := i64b bo) hx hb d_law_560 (by rw [i64b_1 hc]; rfl) ?_
      refine lv_goto (tgt := 565) hx hb d_law_561 rfl ?_
      refine xl_cmp (x := (i64b bo)) hx hb d_law_565 ?_
      refine lv_if_eq (tgt := 571) hx hb d_law_566 rfl (fun _ => ?_) (fun q9 => absurd rfl q9)
      refine lv_goto (tgt := 1050) hx hb d_law_571 rfl ?_
      exact kk H locs ls (lv_sub hl [2, 3, 4, 5, 6] rfl) ⟨gc1, rE1, nM1, lD1, bF1, oR1, cH1, lf1, li1, us1, fe1, cf1, _, k, mg1, mO1, mG1, mF1, mA1, mU1, mR1, hcf1, hP, hD, hS⟩
set_option maxHeartbeats 4000000 in
set_option maxRecDepth 100000 in
theorem sg_distance {p : Program} {l : Launch} {e : Env} {s : State} {m : MethodId} {below : List Frame} {meth : Method} {c : Code} {Q : State → Prop} {b L : Nat} {xs : Nat → Int32} {D : va_G} {ad : Nat → Nat} {ck : Nat → ClassId} (C : LC p s m c b L xs D ck) {i : Nat} (hi : i + 4 ≤ L) {h h' : Nat → Int32} {ct ct' : Int32} {gc : Int32} {rE nM lD bF oR cH lf li us fe : Nat → Int32} {cf : Nat → Nat} {zo z' : Int64} {mc : Int32} {mg : Int32} {mO mG mF mA mU mR : Nat → Int32} {k : Int32} {f9 l9 : Nat} {w1 : va_W} {rm9 : Int32} {x1 x2 : Int32} (e1 : xs (i + 1) = x1) (e2 : xs (i + 2) = x2)
    (hW : ∀ sz : Nat, Met l y_L_distance (Cond.codeWith y_L_distance c_L_distance 5 (some .int) hh_L_distance :: BS) { frames := 9, cells := 1, slots := 6, locals := 170 } (va_Pc [.ref (ad 0), .int x1, .int x2, .ref (ad 17)] (xLw D (CWl ad ck h ct gc rE nM lD bF oR cH lf li us fe cf zo) (TC ck) sz)) (xQe D (CWl ad ck h ct gc rE nM lD bF oR cH lf li us fe cf zo) (TC ck) sz k (CWs ad ck h' ct' z')) 1 6 (va_A (CWl ad ck h ct gc rE nM lD bF oR cH lf li us fe cf zo) sz))
    (hM : ∀ sz : Nat, Met l y_M_distance (Cond.code y_M_distance c_M_distance 3 (some .int) :: BS) { frames := f9, cells := 0, slots := 0, locals := l9 } (va_Pc [.ref (ad 18), .int x1, .int x2] (xWp D (MWl ad ck h ct mc mg mO mG mF mA mU mR) (TM ck) sz)) (xQi D (MWl ad ck h ct mc mg mO mG mF mA mU mR) w1 (TM ck) sz (rm9)) 0 0 (va_A (MWl ad ck h ct mc mg mO mG mF mA mU mR) sz))
    (hw1 : MWs ad ck h' ct' k w1) (hz9 : k = 0 → z' = rm9.toInt64) (hrf : f9 + 1 ≤ 12) (hrl : 8 + (3 + 11) + l9 ≤ 430)
    {H : Heap} {locs : List Loc} {cells slots : Nat} {ls : Array Slot} (hl : lv_has ls 7 [(0, .ref b), (1, .ref (ad 0)), (2, .ref (ad 18)), (3, .ref (ad 17)), (4, .int (nI i))]) (hP : va_P D cls (CWl ad ck h ct gc rE nM lD bF oR cH lf li us fe cf zo ++ MWl ad ck h ct mc mg mO mG mF mA mU mR) H) (hD : va_D (AL s) (CWl ad ck h ct gc rE nM lD bF oR cH lf li us fe cf zo ++ MWl ad ck h ct mc mg mO mG mF mA mU mR)) (hS : va_S (AL s) s.heap H locs) (hc9 : cells + 1 ≤ 1058) (hs9 : slots + 6 ≤ 8685)
    (kk : ∀ (H : Heap) (locs : List Loc) (ls : Array Slot), lv_has ls 7 [(0, .ref b), (1, .ref (ad 0)), (2, .ref (ad 18)), (3, .ref (ad 17)), (4, .int (nI i))] → LI D ad ck s h' ct' H locs → W p l e room_1 s m #[Value.ref b] below meth c H locs (cells + 1) (slots + 6) Q (F0 m 1050 ls [])) : W p l e room_1 s m #[Value.ref b] below meth c H locs cells slots Q (F0 m 574 ls []) := by
  obtain ⟨hx, hb, hml, hown, hB, hK, hN, hz, hsr, hat, han, hnc, hX, hbl, hL2⟩ := C
  obtain ⟨mg1, mO1, mG1, mF1, mA1, mU1, mR1, rfl⟩ := hw1
  refine lv_aload_n hx hb d_law_574 rfl (lv_at hl 1 rfl) ?_
  refine lv_aload_n hx hb d_law_575 rfl (lv_at hl 0 rfl) ?_
  refine lv_iload hx hb d_law_576 (lv_at hl 4 rfl) ?_
  refine lv_iconst (v := nI 1) hx hb d_law_578 (by decide) ?_
  refine lv_iadd hx hb d_law_579 ?_
  refine xv_top (x' := nI (i + 1)) (nI_ad i 1) ?_
  refine xs_ld (x := x1) hx hb hX hbl (Nat.not_le.mpr hbl) hS (by omega) hL2 e1 d_law_580 ?_
  refine lv_aload_n hx hb d_law_581 rfl (lv_at hl 0 rfl) ?_
  refine lv_iload hx hb d_law_582 (lv_at hl 4 rfl) ?_
  refine lv_iconst (v := nI 2) hx hb d_law_584 (by decide) ?_
  refine lv_iadd hx hb d_law_585 ?_
  refine xv_top (x' := nI (i + 2)) (nI_ad i 2) ?_
  refine xs_ld (x := x2) hx hb hX hbl (Nat.not_le.mpr hbl) hS (by omega) hL2 e2 d_law_586 ?_
  refine lv_aload_n hx hb d_law_587 rfl (lv_at hl 3 rfl) ?_
  refine xw_e (wc := CWl ad ck h ct gc rE nM lD bF oR cH lf li us fe cf zo) (wr := MWl ad ck h ct mc mg mO mG mF mA mU mR) (vx_runSW (As := [.ref (ad 0), .int x1, .int x2, .ref (ad 17)]) (rest := []) ⟨hx, hb, hml, hown, hB⟩ (hW _) (vx_cwSW 4 hB (xgS ml_L_100 ms_L_distance mz_L mc_L_distance) rfl rfl rfl (by decide +kernel) ⟨Nat.le_of_ble_eq_true rfl, Nat.le_of_ble_eq_true rfl⟩) (xqSl (ws := CWl ad ck h ct gc rE nM lD bF oR cH lf li us fe cf zo) (tys := TC ck) (hP.sub [0, 1, 2, 3, 4, 5, 6, 7, 8, 9, 10, 11, 12, 13, 14, 15, 16, 17] rfl) (hD.sub [0, 1, 2, 3, 4, 5, 6, 7, 8, 9, 10, 11, 12, 13, 14, 15, 16, 17] (by decide) rfl) (hK.sub [0, 1, 2, 3, 4, 5, 6, 7, 8, 9, 10, 11, 12] rfl) hN hz (fun q h => h) hS hsr hat han hnc) rfl rfl hl.1 rfl (lv_room (Nat.le_of_ble_eq_true rfl)) d_law_588 ⟨hc9, hs9⟩) hP hD hS (fun q h => h) [0, 1, 2, 3, 4, 5, 6, 7, 8, 9, 10, 11, 12, 13, 14, 15, 16, 17] [18, 19, 20, 21, 22, 23, 24, 25] rfl rfl (by decide) (by decide) (fun w9 H locs hw9 hP hD hS => ?_)
  obtain ⟨gc1, rE1, nM1, lD1, bF1, oR1, cH1, lf1, li1, us1, fe1, cf1, hcf1, rfl⟩ := hw9
  refine lv_istore hx hb d_law_591 hl (by decide) rfl (fun ls hl => ?_)
  have hl : lv_has ls 7 [(5, .int k), (0, .ref b), (1, .ref (ad 0)), (2, .ref (ad 18)), (3, .ref (ad 17)), (4, .int (nI i))] := hl
  refine lv_aload_n hx hb d_law_593 rfl (lv_at hl 3 rfl) ?_
  refine lv_aload_n hx hb d_law_594 rfl (lv_at hl 1 rfl) ?_
  refine lv_iload hx hb d_law_595 (lv_at hl 5 rfl) ?_
  refine lv_iconst (v := nI 1) hx hb d_law_597 (by decide) ?_
  refine lv_iadd hx hb d_law_598 ?_
  refine xv_top (x' := nI (i + 1)) (nI_ad i 1) ?_
  refine xs_ld (x := x1) hx hb hX hbl (Nat.not_le.mpr hbl) hS (by omega) hL2 e1 d_law_599 ?_
  refine lv_aload_n hx hb d_law_600 rfl (lv_at hl 1 rfl) ?_
  refine lv_iload hx hb d_law_601 (lv_at hl 5 rfl) ?_
  refine lv_iconst (v := nI 2) hx hb d_law_603 (by decide) ?_
  refine lv_iadd hx hb d_law_604 ?_
  refine xv_top (x' := nI (i + 2)) (nI_ad i 2) ?_
  refine xs_ld (x := x2) hx hb hX hbl (Nat.not_le.mpr hbl) hS (by omega) hL2 e2 d_law_605 ?_
  refine xw_i (wc := MWl ad ck h ct mc mg mO mG mF mA mU mR) (wr := CWl ad ck h' ct' gc1 rE1 nM1 lD1 bF1 oR1 cH1 lf1 li1 us1 fe1 cf1 z') (w1 := MWl ad ck h' ct' k mg1 mO1 mG1 mF1 mA1 mU1 mR1) (va_runV (As := [.int x1, .int x2]) (rest := []) ⟨hx, hb, hml, hown, hB⟩ (hM _) ⟨callB_of 2 hB (xg0 mc_M_distance) rfl rfl rfl (hB _ mz_M) (hB _ ml_L_102) (by decide +kernel) ⟨hrf, hrl⟩, hB _ mi_M_distance, hB _ me_M_distance⟩ (xqV (ws := MWl ad ck h ct mc mg mO mG mF mA mU mR) (tys := TM ck) (hP.sub [0, 1, 2, 3, 4, 5, 6, 7] rfl) (hD.sub [0, 1, 2, 3, 4, 5, 6, 7] (by decide) rfl) (hK.sub [13, 14, 15, 16, 17, 18, 19] rfl) hN (va_recv (ci := 5) (q0 := 0) (q := (R_M, F_M, 10)) hK hP rfl rfl)) rfl rfl hl.1 rfl (lv_room (Nat.le_of_ble_eq_true rfl)) d_law_606 ⟨hc9, hs9⟩) hP hD hS (fun q h => h) [0, 1, 2, 3, 4, 5, 6, 7] [8, 9, 10, 11, 12, 13, 14, 15, 16, 17, 18, 19, 20, 21, 22, 23, 24, 25] rfl rfl (by decide) (by decide) (fun H locs hP hD hS => ?_)
  refine lv_istore hx hb d_law_609 hl (by decide) rfl (fun ls hl => ?_)
  have hl : lv_has ls 7 [(6, .int rm9), (5, .int k), (0, .ref b), (1, .ref (ad 0)), (2, .ref (ad 18)), (3, .ref (ad 17)), (4, .int (nI i))] := hl
  refine lv_aload_n hx hb d_law_611 rfl (lv_at hl 4 rfl) ?_
  refine xr_cal (va_runV (As := []) (rest := []) ⟨hx, hb, hml, hown, hB⟩ (k_M_thrown l D (ad 18) (ad 19) (ad 20) (ad 21) (ad 22) (ad 23) (ad 24) (ad 25) (ck 19) (ck 20) (ck 21) (ck 22) (ck 23) (ck 24) (ck 25) k ct' mg1 h' mO1 mG1 mF1 mA1 mU1 mR1) ⟨callB_of 0 hB (xg0 mc_M_thrown) rfl rfl rfl (hB _ mz_M) (hB _ ml_L_73) (by decide +kernel) ⟨Nat.le_of_ble_eq_true rfl, Nat.le_of_ble_eq_true rfl⟩, hB _ mi_M_thrown, hB _ me_M_thrown⟩ (xpV (ws := MWl ad ck h' ct' k mg1 mO1 mG1 mF1 mA1 mU1 mR1) (tys := TM ck) (hP.sub [18, 19, 20, 21, 22, 23, 24, 25] rfl) (hK.sub [13, 14, 15, 16, 17, 18, 19] rfl) hN (va_recv (ci := 5) (q0 := 18) (q := (R_M, F_M, 10)) hK hP rfl rfl)) rfl rfl hl.1 rfl (lv_room (Nat.le_of_ble_eq_true rfl)) d_law_612 ⟨hc9, hs9⟩) ?_
  refine lv_iload hx hb d_law_615 (lv_at hl 1 rfl) ?_
  refine lv_icmp_eq (tgt := 622) hx hb d_law_617 rfl (fun _ => ?_) (fun q9 => absurd rfl q9)
  refine lv_iload hx hb d_law_622 (lv_at hl 1 rfl) ?_
  refine lv_if_ne (tgt := 639) hx hb d_law_624 rfl (fun hk9 => ?_) (fun hk9 => ?_)
  · refine lv_goto (tgt := 1050) hx hb d_law_639 rfl ?_
    exact kk H locs ls (lv_sub hl [2, 3, 4, 5, 6] rfl) ⟨gc1, rE1, nM1, lD1, bF1, oR1, cH1, lf1, li1, us1, fe1, cf1, z', k, mg1, mO1, mG1, mF1, mA1, mU1, mR1, hcf1, hP, hD, hS⟩
  · have hzz := hz9 hk9
    subst hzz
    refine lv_aload_n hx hb d_law_627 rfl (lv_at hl 5 rfl) ?_
    refine lv_iconst (v := nI 0) hx hb d_law_628 (by decide) ?_
    refine va_lald hx hb hK hP 17 12 rfl rfl (vp_in_nI (by decide) (by decide)) d_law_629 ?_
    refine lv_iload hx hb d_law_630 (lv_at hl 0 rfl) ?_
    refine lv_i2l hx hb d_law_632 rfl ?_
    refine xl_cmp (x := rm9.toInt64) hx hb d_law_633 ?_
    refine lv_if_eq (tgt := 639) hx hb d_law_634 rfl (fun _ => ?_) (fun q9 => absurd rfl q9)
    refine lv_goto (tgt := 1050) hx hb d_law_639 rfl ?_
    exact kk H locs ls (lv_sub hl [2, 3, 4, 5, 6] rfl) ⟨gc1, rE1, nM1, lD1, bF1, oR1, cH1, lf1, li1, us1, fe1, cf1, _, k, mg1, mO1, mG1, mF1, mA1, mU1, mR1, hcf1, hP, hD, hS⟩
set_option maxHeartbeats 4000000 in
set_option maxRecDepth 100000 in
theorem sg_way {p : Program} {l : Launch} {e : Env} {s : State} {m : MethodId} {below : List Frame} {meth : Method} {c : Code} {Q : State → Prop} {b L : Nat} {xs : Nat → Int32} {D : va_G} {ad : Nat → Nat} {ck : Nat → ClassId} (C : LC p s m c b L xs D ck) {i : Nat} (hi : i + 4 ≤ L) {h h' : Nat → Int32} {ct ct' : Int32} {gc : Int32} {rE nM lD bF oR cH lf li us fe : Nat → Int32} {cf : Nat → Nat} {zo z' : Int64} {mc : Int32} {mg : Int32} {mO mG mF mA mU mR : Nat → Int32} {k : Int32} {f9 l9 : Nat} {w1 : va_W} {rm9 : Int32} {x1 x2 x3 : Int32} (e1 : xs (i + 1) = x1) (e2 : xs (i + 2) = x2) (e3 : xs (i + 3) = x3)
    (hW : ∀ sz : Nat, Met l y_L_way (Cond.codeWith y_L_way c_L_way 6 (some .int) hh_L_way :: BS) { frames := 9, cells := 1, slots := 6, locals := 170 } (va_Pc [.ref (ad 0), .int x1, .int x2, .int x3, .ref (ad 17)] (xLw D (CWl ad ck h ct gc rE nM lD bF oR cH lf li us fe cf zo) (TC ck) sz)) (xQe D (CWl ad ck h ct gc rE nM lD bF oR cH lf li us fe cf zo) (TC ck) sz k (CWs ad ck h' ct' z')) 1 6 (va_A (CWl ad ck h ct gc rE nM lD bF oR cH lf li us fe cf zo) sz))
    (hM : ∀ sz : Nat, Met l y_M_way (Cond.code y_M_way c_M_way 8 (some .int) :: BS) { frames := f9, cells := 0, slots := 0, locals := l9 } (va_Pc [.ref (ad 18), .int x1, .int x2, .int x3] (xWp D (MWl ad ck h ct mc mg mO mG mF mA mU mR) (TM ck) sz)) (xQi D (MWl ad ck h ct mc mg mO mG mF mA mU mR) w1 (TM ck) sz (rm9)) 0 0 (va_A (MWl ad ck h ct mc mg mO mG mF mA mU mR) sz))
    (hw1 : MWs ad ck h' ct' k w1) (hz9 : k = 0 → z' = rm9.toInt64) (hrf : f9 + 1 ≤ 12) (hrl : 8 + (8 + 11) + l9 ≤ 430)
    {H : Heap} {locs : List Loc} {cells slots : Nat} {ls : Array Slot} (hl : lv_has ls 7 [(0, .ref b), (1, .ref (ad 0)), (2, .ref (ad 18)), (3, .ref (ad 17)), (4, .int (nI i))]) (hP : va_P D cls (CWl ad ck h ct gc rE nM lD bF oR cH lf li us fe cf zo ++ MWl ad ck h ct mc mg mO mG mF mA mU mR) H) (hD : va_D (AL s) (CWl ad ck h ct gc rE nM lD bF oR cH lf li us fe cf zo ++ MWl ad ck h ct mc mg mO mG mF mA mU mR)) (hS : va_S (AL s) s.heap H locs) (hc9 : cells + 1 ≤ 1058) (hs9 : slots + 6 ≤ 8685)
    (kk : ∀ (H : Heap) (locs : List Loc) (ls : Array Slot), lv_has ls 7 [(0, .ref b), (1, .ref (ad 0)), (2, .ref (ad 18)), (3, .ref (ad 17)), (4, .int (nI i))] → LI D ad ck s h' ct' H locs → W p l e room_1 s m #[Value.ref b] below meth c H locs (cells + 1) (slots + 6) Q (F0 m 1050 ls [])) : W p l e room_1 s m #[Value.ref b] below meth c H locs cells slots Q (F0 m 642 ls []) := by
  obtain ⟨hx, hb, hml, hown, hB, hK, hN, hz, hsr, hat, han, hnc, hX, hbl, hL2⟩ := C
  obtain ⟨mg1, mO1, mG1, mF1, mA1, mU1, mR1, rfl⟩ := hw1
  refine lv_aload_n hx hb d_law_642 rfl (lv_at hl 1 rfl) ?_
  refine lv_aload_n hx hb d_law_643 rfl (lv_at hl 0 rfl) ?_
  refine lv_iload hx hb d_law_644 (lv_at hl 4 rfl) ?_
  refine lv_iconst (v := nI 1) hx hb d_law_646 (by decide) ?_
  refine lv_iadd hx hb d_law_647 ?_
  refine xv_top (x' := nI (i + 1)) (nI_ad i 1) ?_
  refine xs_ld (x := x1) hx hb hX hbl (Nat.not_le.mpr hbl) hS (by omega) hL2 e1 d_law_648 ?_
  refine lv_aload_n hx hb d_law_649 rfl (lv_at hl 0 rfl) ?_
  refine lv_iload hx hb d_law_650 (lv_at hl 4 rfl) ?_
  refine lv_iconst (v := nI 2) hx hb d_law_652 (by decide) ?_
  refine lv_iadd hx hb d_law_653 ?_
  refine xv_top (x' := nI (i + 2)) (nI_ad i 2) ?_
  refine xs_ld (x := x2) hx hb hX hbl (Nat.not_le.mpr hbl) hS (by omega) hL2 e2 d_law_654 ?_
  refine lv_aload_n hx hb d_law_655 rfl (lv_at hl 0 rfl) ?_
  refine lv_iload hx hb d_law_656 (lv_at hl 4 rfl) ?_
  refine lv_iconst (v := nI 3) hx hb d_law_658 (by decide) ?_
  refine lv_iadd hx hb d_law_659 ?_
  refine xv_top (x' := nI (i + 3)) (nI_ad i 3) ?_
  refine xs_ld (x := x3) hx hb hX hbl (Nat.not_le.mpr hbl) hS (by omega) hL2 e3 d_law_660 ?_
  refine lv_aload_n hx hb d_law_661 rfl (lv_at hl 3 rfl) ?_
  refine xw_e (wc := CWl ad ck h ct gc rE nM lD bF oR cH lf li us fe cf zo) (wr := MWl ad ck h ct mc mg mO mG mF mA mU mR) (vx_runSW (As := [.ref (ad 0), .int x1, .int x2, .int x3, .ref (ad 17)]) (rest := []) ⟨hx, hb, hml, hown, hB⟩ (hW _) (vx_cwSW 5 hB (xgS ml_L_103 ms_L_way mz_L mc_L_way) rfl rfl rfl (by decide +kernel) ⟨Nat.le_of_ble_eq_true rfl, Nat.le_of_ble_eq_true rfl⟩) (xqSl (ws := CWl ad ck h ct gc rE nM lD bF oR cH lf li us fe cf zo) (tys := TC ck) (hP.sub [0, 1, 2, 3, 4, 5, 6, 7, 8, 9, 10, 11, 12, 13, 14, 15, 16, 17] rfl) (hD.sub [0, 1, 2, 3, 4, 5, 6, 7, 8, 9, 10, 11, 12, 13, 14, 15, 16, 17] (by decide) rfl) (hK.sub [0, 1, 2, 3, 4, 5, 6, 7, 8, 9, 10, 11, 12] rfl) hN hz (fun q h => h) hS hsr hat han hnc) rfl rfl hl.1 rfl (lv_room (Nat.le_of_ble_eq_true rfl)) d_law_662 ⟨hc9, hs9⟩) hP hD hS (fun q h => h) [0, 1, 2, 3, 4, 5, 6, 7, 8, 9, 10, 11, 12, 13, 14, 15, 16, 17] [18, 19, 20, 21, 22, 23, 24, 25] rfl rfl (by decide) (by decide) (fun w9 H locs hw9 hP hD hS => ?_)
  obtain ⟨gc1, rE1, nM1, lD1, bF1, oR1, cH1, lf1, li1, us1, fe1, cf1, hcf1, rfl⟩ := hw9
  refine lv_istore hx hb d_law_665 hl (by decide) rfl (fun ls hl => ?_)
  have hl : lv_has ls 7 [(5, .int k), (0, .ref b), (1, .ref (ad 0)), (2, .ref (ad 18)), (3, .ref (ad 17)), (4, .int (nI i))] := hl
  refine lv_aload_n hx hb d_law_667 rfl (lv_at hl 3 rfl) ?_
  refine lv_aload_n hx hb d_law_668 rfl (lv_at hl 1 rfl) ?_
  refine lv_iload hx hb d_law_669 (lv_at hl 5 rfl) ?_
  refine lv_iconst (v := nI 1) hx hb d_law_671 (by decide) ?_
  refine lv_iadd hx hb d_law_672 ?_
  refine xv_top (x' := nI (i + 1)) (nI_ad i 1) ?_
  refine xs_ld (x := x1) hx hb hX hbl (Nat.not_le.mpr hbl) hS (by omega) hL2 e1 d_law_673 ?_
  refine lv_aload_n hx hb d_law_674 rfl (lv_at hl 1 rfl) ?_
  refine lv_iload hx hb d_law_675 (lv_at hl 5 rfl) ?_
  refine lv_iconst (v := nI 2) hx hb d_law_677 (by decide) ?_
  refine lv_iadd hx hb d_law_678 ?_
  refine xv_top (x' := nI (i + 2)) (nI_ad i 2) ?_
  refine xs_ld (x := x2) hx hb hX hbl (Nat.not_le.mpr hbl) hS (by omega) hL2 e2 d_law_679 ?_
  refine lv_aload_n hx hb d_law_680 rfl (lv_at hl 1 rfl) ?_
  refine lv_iload hx hb d_law_681 (lv_at hl 5 rfl) ?_
  refine lv_iconst (v := nI 3) hx hb d_law_683 (by decide) ?_
  refine lv_iadd hx hb d_law_684 ?_
  refine xv_top (x' := nI (i + 3)) (nI_ad i 3) ?_
  refine xs_ld (x := x3) hx hb hX hbl (Nat.not_le.mpr hbl) hS (by omega) hL2 e3 d_law_685 ?_
  refine xw_i (wc := MWl ad ck h ct mc mg mO mG mF mA mU mR) (wr := CWl ad ck h' ct' gc1 rE1 nM1 lD1 bF1 oR1 cH1 lf1 li1 us1 fe1 cf1 z') (w1 := MWl ad ck h' ct' k mg1 mO1 mG1 mF1 mA1 mU1 mR1) (va_runV (As := [.int x1, .int x2, .int x3]) (rest := []) ⟨hx, hb, hml, hown, hB⟩ (hM _) ⟨callB_of 3 hB (xg0 mc_M_way) rfl rfl rfl (hB _ mz_M) (hB _ ml_L_106) (by decide +kernel) ⟨hrf, hrl⟩, hB _ mi_M_way, hB _ me_M_way⟩ (xqV (ws := MWl ad ck h ct mc mg mO mG mF mA mU mR) (tys := TM ck) (hP.sub [0, 1, 2, 3, 4, 5, 6, 7] rfl) (hD.sub [0, 1, 2, 3, 4, 5, 6, 7] (by decide) rfl) (hK.sub [13, 14, 15, 16, 17, 18, 19] rfl) hN (va_recv (ci := 5) (q0 := 0) (q := (R_M, F_M, 10)) hK hP rfl rfl)) rfl rfl hl.1 rfl (lv_room (Nat.le_of_ble_eq_true rfl)) d_law_686 ⟨hc9, hs9⟩) hP hD hS (fun q h => h) [0, 1, 2, 3, 4, 5, 6, 7] [8, 9, 10, 11, 12, 13, 14, 15, 16, 17, 18, 19, 20, 21, 22, 23, 24, 25] rfl rfl (by decide) (by decide) (fun H locs hP hD hS => ?_)
  refine lv_istore hx hb d_law_689 hl (by decide) rfl (fun ls hl => ?_)
  have hl : lv_has ls 7 [(6, .int rm9), (5, .int k), (0, .ref b), (1, .ref (ad 0)), (2, .ref (ad 18)), (3, .ref (ad 17)), (4, .int (nI i))] := hl
  refine lv_aload_n hx hb d_law_691 rfl (lv_at hl 4 rfl) ?_
  refine xr_cal (va_runV (As := []) (rest := []) ⟨hx, hb, hml, hown, hB⟩ (k_M_thrown l D (ad 18) (ad 19) (ad 20) (ad 21) (ad 22) (ad 23) (ad 24) (ad 25) (ck 19) (ck 20) (ck 21) (ck 22) (ck 23) (ck 24) (ck 25) k ct' mg1 h' mO1 mG1 mF1 mA1 mU1 mR1) ⟨callB_of 0 hB (xg0 mc_M_thrown) rfl rfl rfl (hB _ mz_M) (hB _ ml_L_73) (by decide +kernel) ⟨Nat.le_of_ble_eq_true rfl, Nat.le_of_ble_eq_true rfl⟩, hB _ mi_M_thrown, hB _ me_M_thrown⟩ (xpV (ws := MWl ad ck h' ct' k mg1 mO1 mG1 mF1 mA1 mU1 mR1) (tys := TM ck) (hP.sub [18, 19, 20, 21, 22, 23, 24, 25] rfl) (hK.sub [13, 14, 15, 16, 17, 18, 19] rfl) hN (va_recv (ci := 5) (q0 := 18) (q := (R_M, F_M, 10)) hK hP rfl rfl)) rfl rfl hl.1 rfl (lv_room (Nat.le_of_ble_eq_true rfl)) d_law_692 ⟨hc9, hs9⟩) ?_
  refine lv_iload hx hb d_law_695 (lv_at hl 1 rfl) ?_
  refine lv_icmp_eq (tgt := 702) hx hb d_law_697 rfl (fun _ => ?_) (fun q9 => absurd rfl q9)
  refine lv_iload hx hb d_law_702 (lv_at hl 1 rfl) ?_
  refine lv_if_ne (tgt := 719) hx hb d_law_704 rfl (fun hk9 => ?_) (fun hk9 => ?_)
  · refine lv_goto (tgt := 1050) hx hb d_law_719 rfl ?_
    exact kk H locs ls (lv_sub hl [2, 3, 4, 5, 6] rfl) ⟨gc1, rE1, nM1, lD1, bF1, oR1, cH1, lf1, li1, us1, fe1, cf1, z', k, mg1, mO1, mG1, mF1, mA1, mU1, mR1, hcf1, hP, hD, hS⟩
  · have hzz := hz9 hk9
    subst hzz
    refine lv_aload_n hx hb d_law_707 rfl (lv_at hl 5 rfl) ?_
    refine lv_iconst (v := nI 0) hx hb d_law_708 (by decide) ?_
    refine va_lald hx hb hK hP 17 12 rfl rfl (vp_in_nI (by decide) (by decide)) d_law_709 ?_
    refine lv_iload hx hb d_law_710 (lv_at hl 0 rfl) ?_
    refine lv_i2l hx hb d_law_712 rfl ?_
    refine xl_cmp (x := rm9.toInt64) hx hb d_law_713 ?_
    refine lv_if_eq (tgt := 719) hx hb d_law_714 rfl (fun _ => ?_) (fun q9 => absurd rfl q9)
    refine lv_goto (tgt := 1050) hx hb d_law_719 rfl ?_
    exact kk H locs ls (lv_sub hl [2, 3, 4, 5, 6] rfl) ⟨gc1, rE1, nM1, lD1, bF1, oR1, cH1, lf1, li1, us1, fe1, cf1, _, k, mg1, mO1, mG1, mF1, mA1, mU1, mR1, hcf1, hP, hD, hS⟩
set_option maxHeartbeats 4000000 in
set_option maxRecDepth 100000 in
theorem sg_gate {p : Program} {l : Launch} {e : Env} {s : State} {m : MethodId} {below : List Frame} {meth : Method} {c : Code} {Q : State → Prop} {b L : Nat} {xs : Nat → Int32} {D : va_G} {ad : Nat → Nat} {ck : Nat → ClassId} (C : LC p s m c b L xs D ck) {i : Nat} (hi : i + 4 ≤ L) {h h' : Nat → Int32} {ct ct' : Int32} {gc : Int32} {rE nM lD bF oR cH lf li us fe : Nat → Int32} {cf : Nat → Nat} {zo z' : Int64} {mc : Int32} {mg : Int32} {mO mG mF mA mU mR : Nat → Int32} {k : Int32} {f9 l9 : Nat} {w1 : va_W} {rm9 : Int32} {x1 x2 : Int32} (e1 : xs (i + 1) = x1) (e2 : xs (i + 2) = x2)
    (hW : ∀ sz : Nat, Met l y_L_gate (Cond.codeWith y_L_gate c_L_gate 5 (some .int) hh_L_gate :: BS) { frames := 9, cells := 1, slots := 6, locals := 170 } (va_Pc [.ref (ad 0), .int x1, .int x2, .ref (ad 17)] (xLw D (CWl ad ck h ct gc rE nM lD bF oR cH lf li us fe cf zo) (TC ck) sz)) (xQe D (CWl ad ck h ct gc rE nM lD bF oR cH lf li us fe cf zo) (TC ck) sz k (CWs ad ck h' ct' z')) 1 6 (va_A (CWl ad ck h ct gc rE nM lD bF oR cH lf li us fe cf zo) sz))
    (hM : ∀ sz : Nat, Met l y_M_gate (Cond.code y_M_gate c_M_gate 7 (some .int) :: BS) { frames := f9, cells := 0, slots := 0, locals := l9 } (va_Pc [.ref (ad 18), .int x1, .int x2] (xWp D (MWl ad ck h ct mc mg mO mG mF mA mU mR) (TM ck) sz)) (xQi D (MWl ad ck h ct mc mg mO mG mF mA mU mR) w1 (TM ck) sz (rm9)) 0 0 (va_A (MWl ad ck h ct mc mg mO mG mF mA mU mR) sz))
    (hw1 : MWs ad ck h' ct' k w1) (hz9 : k = 0 → z' = rm9.toInt64) (hrf : f9 + 1 ≤ 12) (hrl : 8 + (7 + 11) + l9 ≤ 430)
    {H : Heap} {locs : List Loc} {cells slots : Nat} {ls : Array Slot} (hl : lv_has ls 7 [(0, .ref b), (1, .ref (ad 0)), (2, .ref (ad 18)), (3, .ref (ad 17)), (4, .int (nI i))]) (hP : va_P D cls (CWl ad ck h ct gc rE nM lD bF oR cH lf li us fe cf zo ++ MWl ad ck h ct mc mg mO mG mF mA mU mR) H) (hD : va_D (AL s) (CWl ad ck h ct gc rE nM lD bF oR cH lf li us fe cf zo ++ MWl ad ck h ct mc mg mO mG mF mA mU mR)) (hS : va_S (AL s) s.heap H locs) (hc9 : cells + 1 ≤ 1058) (hs9 : slots + 6 ≤ 8685)
    (kk : ∀ (H : Heap) (locs : List Loc) (ls : Array Slot), lv_has ls 7 [(0, .ref b), (1, .ref (ad 0)), (2, .ref (ad 18)), (3, .ref (ad 17)), (4, .int (nI i))] → LI D ad ck s h' ct' H locs → W p l e room_1 s m #[Value.ref b] below meth c H locs (cells + 1) (slots + 6) Q (F0 m 1050 ls [])) : W p l e room_1 s m #[Value.ref b] below meth c H locs cells slots Q (F0 m 722 ls []) := by
  obtain ⟨hx, hb, hml, hown, hB, hK, hN, hz, hsr, hat, han, hnc, hX, hbl, hL2⟩ := C
  obtain ⟨mg1, mO1, mG1, mF1, mA1, mU1, mR1, rfl⟩ := hw1
  refine lv_aload_n hx hb d_law_722 rfl (lv_at hl 1 rfl) ?_
  refine lv_aload_n hx hb d_law_723 rfl (lv_at hl 0 rfl) ?_
  refine lv_iload hx hb d_law_724 (lv_at hl 4 rfl) ?_
  refine lv_iconst (v := nI 1) hx hb d_law_726 (by decide) ?_
  refine lv_iadd hx hb d_law_727 ?_
  refine xv_top (x' := nI (i + 1)) (nI_ad i 1) ?_
  refine xs_ld (x := x1) hx hb hX hbl (Nat.not_le.mpr hbl) hS (by omega) hL2 e1 d_law_728 ?_
  refine lv_aload_n hx hb d_law_729 rfl (lv_at hl 0 rfl) ?_
  refine lv_iload hx hb d_law_730 (lv_at hl 4 rfl) ?_
  refine lv_iconst (v := nI 2) hx hb d_law_732 (by decide) ?_
  refine lv_iadd hx hb d_law_733 ?_
  refine xv_top (x' := nI (i + 2)) (nI_ad i 2) ?_
  refine xs_ld (x := x2) hx hb hX hbl (Nat.not_le.mpr hbl) hS (by omega) hL2 e2 d_law_734 ?_
  refine lv_aload_n hx hb d_law_735 rfl (lv_at hl 3 rfl) ?_
  refine xw_e (wc := CWl ad ck h ct gc rE nM lD bF oR cH lf li us fe cf zo) (wr := MWl ad ck h ct mc mg mO mG mF mA mU mR) (vx_runSW (As := [.ref (ad 0), .int x1, .int x2, .ref (ad 17)]) (rest := []) ⟨hx, hb, hml, hown, hB⟩ (hW _) (vx_cwSW 4 hB (xgS ml_L_107 ms_L_gate mz_L mc_L_gate) rfl rfl rfl (by decide +kernel) ⟨Nat.le_of_ble_eq_true rfl, Nat.le_of_ble_eq_true rfl⟩) (xqSl (ws := CWl ad ck h ct gc rE nM lD bF oR cH lf li us fe cf zo) (tys := TC ck) (hP.sub [0, 1, 2, 3, 4, 5, 6, 7, 8, 9, 10, 11, 12, 13, 14, 15, 16, 17] rfl) (hD.sub [0, 1, 2, 3, 4, 5, 6, 7, 8, 9, 10, 11, 12, 13, 14, 15, 16, 17] (by decide) rfl) (hK.sub [0, 1, 2, 3, 4, 5, 6, 7, 8, 9, 10, 11, 12] rfl) hN hz (fun q h => h) hS hsr hat han hnc) rfl rfl hl.1 rfl (lv_room (Nat.le_of_ble_eq_true rfl)) d_law_736 ⟨hc9, hs9⟩) hP hD hS (fun q h => h) [0, 1, 2, 3, 4, 5, 6, 7, 8, 9, 10, 11, 12, 13, 14, 15, 16, 17] [18, 19, 20, 21, 22, 23, 24, 25] rfl rfl (by decide) (by decide) (fun w9 H locs hw9 hP hD hS => ?_)
  obtain ⟨gc1, rE1, nM1, lD1, bF1, oR1, cH1, lf1, li1, us1, fe1, cf1, hcf1, rfl⟩ := hw9
  refine lv_istore hx hb d_law_739 hl (by decide) rfl (fun ls hl => ?_)
  have hl : lv_has ls 7 [(5, .int k), (0, .ref b), (1, .ref (ad 0)), (2, .ref (ad 18)), (3, .ref (ad 17)), (4, .int (nI i))] := hl
  refine lv_aload_n hx hb d_law_741 rfl (lv_at hl 3 rfl) ?_
  refine lv_aload_n hx hb d_law_742 rfl (lv_at hl 1 rfl) ?_
  refine lv_iload hx hb d_law_743 (lv_at hl 5 rfl) ?_
  refine lv_iconst (v := nI 1) hx hb d_law_745 (by decide) ?_
  refine lv_iadd hx hb d_law_746 ?_
  refine xv_top (x' := nI (i + 1)) (nI_ad i 1) ?_
  refine xs_ld (x := x1) hx hb hX hbl (Nat.not_le.mpr hbl) hS (by omega) hL2 e1 d_law_747 ?_
  refine lv_aload_n hx hb d_law_748 rfl (lv_at hl 1 rfl) ?_
  refine lv_iload hx hb d_law_749 (lv_at hl 5 rfl) ?_
  refine lv_iconst (v := nI 2) hx hb d_law_751 (by decide) ?_
  refine lv_iadd hx hb d_law_752 ?_
  refine xv_top (x' := nI (i + 2)) (nI_ad i 2) ?_
  refine xs_ld (x := x2) hx hb hX hbl (Nat.not_le.mpr hbl) hS (by omega) hL2 e2 d_law_753 ?_
  refine xw_i (wc := MWl ad ck h ct mc mg mO mG mF mA mU mR) (wr := CWl ad ck h' ct' gc1 rE1 nM1 lD1 bF1 oR1 cH1 lf1 li1 us1 fe1 cf1 z') (w1 := MWl ad ck h' ct' k mg1 mO1 mG1 mF1 mA1 mU1 mR1) (va_runV (As := [.int x1, .int x2]) (rest := []) ⟨hx, hb, hml, hown, hB⟩ (hM _) ⟨callB_of 2 hB (xg0 mc_M_gate) rfl rfl rfl (hB _ mz_M) (hB _ ml_L_109) (by decide +kernel) ⟨hrf, hrl⟩, hB _ mi_M_gate, hB _ me_M_gate⟩ (xqV (ws := MWl ad ck h ct mc mg mO mG mF mA mU mR) (tys := TM ck) (hP.sub [0, 1, 2, 3, 4, 5, 6, 7] rfl) (hD.sub [0, 1, 2, 3, 4, 5, 6, 7] (by decide) rfl) (hK.sub [13, 14, 15, 16, 17, 18, 19] rfl) hN (va_recv (ci := 5) (q0 := 0) (q := (R_M, F_M, 10)) hK hP rfl rfl)) rfl rfl hl.1 rfl (lv_room (Nat.le_of_ble_eq_true rfl)) d_law_754 ⟨hc9, hs9⟩) hP hD hS (fun q h => h) [0, 1, 2, 3, 4, 5, 6, 7] [8, 9, 10, 11, 12, 13, 14, 15, 16, 17, 18, 19, 20, 21, 22, 23, 24, 25] rfl rfl (by decide) (by decide) (fun H locs hP hD hS => ?_)
  refine lv_istore hx hb d_law_757 hl (by decide) rfl (fun ls hl => ?_)
  have hl : lv_has ls 7 [(6, .int rm9), (5, .int k), (0, .ref b), (1, .ref (ad 0)), (2, .ref (ad 18)), (3, .ref (ad 17)), (4, .int (nI i))] := hl
  refine lv_aload_n hx hb d_law_759 rfl (lv_at hl 4 rfl) ?_
  refine xr_cal (va_runV (As := []) (rest := []) ⟨hx, hb, hml, hown, hB⟩ (k_M_thrown l D (ad 18) (ad 19) (ad 20) (ad 21) (ad 22) (ad 23) (ad 24) (ad 25) (ck 19) (ck 20) (ck 21) (ck 22) (ck 23) (ck 24) (ck 25) k ct' mg1 h' mO1 mG1 mF1 mA1 mU1 mR1) ⟨callB_of 0 hB (xg0 mc_M_thrown) rfl rfl rfl (hB _ mz_M) (hB _ ml_L_73) (by decide +kernel) ⟨Nat.le_of_ble_eq_true rfl, Nat.le_of_ble_eq_true rfl⟩, hB _ mi_M_thrown, hB _ me_M_thrown⟩ (xpV (ws := MWl ad ck h' ct' k mg1 mO1 mG1 mF1 mA1 mU1 mR1) (tys := TM ck) (hP.sub [18, 19, 20, 21, 22, 23, 24, 25] rfl) (hK.sub [13, 14, 15, 16, 17, 18, 19] rfl) hN (va_recv (ci := 5) (q0 := 18) (q := (R_M, F_M, 10)) hK hP rfl rfl)) rfl rfl hl.1 rfl (lv_room (Nat.le_of_ble_eq_true rfl)) d_law_760 ⟨hc9, hs9⟩) ?_
  refine lv_iload hx hb d_law_763 (lv_at hl 1 rfl) ?_
  refine lv_icmp_eq (tgt := 770) hx hb d_law_765 rfl (fun _ => ?_) (fun q9 => absurd rfl q9)
  refine lv_iload hx hb d_law_770 (lv_at hl 1 rfl) ?_
  refine lv_if_ne (tgt := 787) hx hb d_law_772 rfl (fun hk9 => ?_) (fun hk9 => ?_)
  · refine lv_goto (tgt := 1050) hx hb d_law_787 rfl ?_
    exact kk H locs ls (lv_sub hl [2, 3, 4, 5, 6] rfl) ⟨gc1, rE1, nM1, lD1, bF1, oR1, cH1, lf1, li1, us1, fe1, cf1, z', k, mg1, mO1, mG1, mF1, mA1, mU1, mR1, hcf1, hP, hD, hS⟩
  · have hzz := hz9 hk9
    subst hzz
    refine lv_aload_n hx hb d_law_775 rfl (lv_at hl 5 rfl) ?_
    refine lv_iconst (v := nI 0) hx hb d_law_776 (by decide) ?_
    refine va_lald hx hb hK hP 17 12 rfl rfl (vp_in_nI (by decide) (by decide)) d_law_777 ?_
    refine lv_iload hx hb d_law_778 (lv_at hl 0 rfl) ?_
    refine lv_i2l hx hb d_law_780 rfl ?_
    refine xl_cmp (x := rm9.toInt64) hx hb d_law_781 ?_
    refine lv_if_eq (tgt := 787) hx hb d_law_782 rfl (fun _ => ?_) (fun q9 => absurd rfl q9)
    refine lv_goto (tgt := 1050) hx hb d_law_787 rfl ?_
    exact kk H locs ls (lv_sub hl [2, 3, 4, 5, 6] rfl) ⟨gc1, rE1, nM1, lD1, bF1, oR1, cH1, lf1, li1, us1, fe1, cf1, _, k, mg1, mO1, mG1, mF1, mA1, mU1, mR1, hcf1, hP, hD, hS⟩
set_option maxHeartbeats 4000000 in
set_option maxRecDepth 100000 in
theorem sg_gated {p : Program} {l : Launch} {e : Env} {s : State} {m : MethodId} {below : List Frame} {meth : Method} {c : Code} {Q : State → Prop} {b L : Nat} {xs : Nat → Int32} {D : va_G} {ad : Nat → Nat} {ck : Nat → ClassId} (C : LC p s m c b L xs D ck) {i : Nat} (hi : i + 4 ≤ L) {h h' : Nat → Int32} {ct ct' : Int32} {gc : Int32} {rE nM lD bF oR cH lf li us fe : Nat → Int32} {cf : Nat → Nat} {zo z' : Int64} {mc : Int32} {mg : Int32} {mO mG mF mA mU mR : Nat → Int32} {k : Int32} {f9 l9 : Nat} {w1 : va_W} {rm9 : Int32} {x1 x2 : Int32} (e1 : xs (i + 1) = x1) (e2 : xs (i + 2) = x2)
    (hW : ∀ sz : Nat, Met l y_L_gated (Cond.codeWith y_L_gated c_L_gated 5 (some .int) hh_L_gated :: BS) { frames := 9, cells := 1, slots := 6, locals := 170 } (va_Pc [.ref (ad 0), .int x1, .int x2, .ref (ad 17)] (xLw D (CWl ad ck h ct gc rE nM lD bF oR cH lf li us fe cf zo) (TC ck) sz)) (xQe D (CWl ad ck h ct gc rE nM lD bF oR cH lf li us fe cf zo) (TC ck) sz k (CWs ad ck h' ct' z')) 1 6 (va_A (CWl ad ck h ct gc rE nM lD bF oR cH lf li us fe cf zo) sz))
    (hM : ∀ sz : Nat, Met l y_M_gated (Cond.code y_M_gated c_M_gated 6 (some .int) :: BS) { frames := f9, cells := 0, slots := 0, locals := l9 } (va_Pc [.ref (ad 18), .int x1, .int x2] (xWp D (MWl ad ck h ct mc mg mO mG mF mA mU mR) (TM ck) sz)) (xQi D (MWl ad ck h ct mc mg mO mG mF mA mU mR) w1 (TM ck) sz (rm9)) 0 0 (va_A (MWl ad ck h ct mc mg mO mG mF mA mU mR) sz))
    (hw1 : MWs ad ck h' ct' k w1) (hz9 : k = 0 → z' = rm9.toInt64) (hrf : f9 + 1 ≤ 12) (hrl : 8 + (6 + 11) + l9 ≤ 430)
    {H : Heap} {locs : List Loc} {cells slots : Nat} {ls : Array Slot} (hl : lv_has ls 7 [(0, .ref b), (1, .ref (ad 0)), (2, .ref (ad 18)), (3, .ref (ad 17)), (4, .int (nI i))]) (hP : va_P D cls (CWl ad ck h ct gc rE nM lD bF oR cH lf li us fe cf zo ++ MWl ad ck h ct mc mg mO mG mF mA mU mR) H) (hD : va_D (AL s) (CWl ad ck h ct gc rE nM lD bF oR cH lf li us fe cf zo ++ MWl ad ck h ct mc mg mO mG mF mA mU mR)) (hS : va_S (AL s) s.heap H locs) (hc9 : cells + 1 ≤ 1058) (hs9 : slots + 6 ≤ 8685)
    (kk : ∀ (H : Heap) (locs : List Loc) (ls : Array Slot), lv_has ls 7 [(0, .ref b), (1, .ref (ad 0)), (2, .ref (ad 18)), (3, .ref (ad 17)), (4, .int (nI i))] → LI D ad ck s h' ct' H locs → W p l e room_1 s m #[Value.ref b] below meth c H locs (cells + 1) (slots + 6) Q (F0 m 1050 ls [])) : W p l e room_1 s m #[Value.ref b] below meth c H locs cells slots Q (F0 m 790 ls []) := by
  obtain ⟨hx, hb, hml, hown, hB, hK, hN, hz, hsr, hat, han, hnc, hX, hbl, hL2⟩ := C
  obtain ⟨mg1, mO1, mG1, mF1, mA1, mU1, mR1, rfl⟩ := hw1
  refine lv_aload_n hx hb d_law_790 rfl (lv_at hl 1 rfl) ?_
  refine lv_aload_n hx hb d_law_791 rfl (lv_at hl 0 rfl) ?_
  refine lv_iload hx hb d_law_792 (lv_at hl 4 rfl) ?_
  refine lv_iconst (v := nI 1) hx hb d_law_794 (by decide) ?_
  refine lv_iadd hx hb d_law_795 ?_
  refine xv_top (x' := nI (i + 1)) (nI_ad i 1) ?_
  refine xs_ld (x := x1) hx hb hX hbl (Nat.not_le.mpr hbl) hS (by omega) hL2 e1 d_law_796 ?_
  refine lv_aload_n hx hb d_law_797 rfl (lv_at hl 0 rfl) ?_
  refine lv_iload hx hb d_law_798 (lv_at hl 4 rfl) ?_
  refine lv_iconst (v := nI 2) hx hb d_law_800 (by decide) ?_
  refine lv_iadd hx hb d_law_801 ?_
  refine xv_top (x' := nI (i + 2)) (nI_ad i 2) ?_
  refine xs_ld (x := x2) hx hb hX hbl (Nat.not_le.mpr hbl) hS (by omega) hL2 e2 d_law_802 ?_
  refine lv_aload_n hx hb d_law_803 rfl (lv_at hl 3 rfl) ?_
  refine xw_e (wc := CWl ad ck h ct gc rE nM lD bF oR cH lf li us fe cf zo) (wr := MWl ad ck h ct mc mg mO mG mF mA mU mR) (vx_runSW (As := [.ref (ad 0), .int x1, .int x2, .ref (ad 17)]) (rest := []) ⟨hx, hb, hml, hown, hB⟩ (hW _) (vx_cwSW 4 hB (xgS ml_L_110 ms_L_gated mz_L mc_L_gated) rfl rfl rfl (by decide +kernel) ⟨Nat.le_of_ble_eq_true rfl, Nat.le_of_ble_eq_true rfl⟩) (xqSl (ws := CWl ad ck h ct gc rE nM lD bF oR cH lf li us fe cf zo) (tys := TC ck) (hP.sub [0, 1, 2, 3, 4, 5, 6, 7, 8, 9, 10, 11, 12, 13, 14, 15, 16, 17] rfl) (hD.sub [0, 1, 2, 3, 4, 5, 6, 7, 8, 9, 10, 11, 12, 13, 14, 15, 16, 17] (by decide) rfl) (hK.sub [0, 1, 2, 3, 4, 5, 6, 7, 8, 9, 10, 11, 12] rfl) hN hz (fun q h => h) hS hsr hat han hnc) rfl rfl hl.1 rfl (lv_room (Nat.le_of_ble_eq_true rfl)) d_law_804 ⟨hc9, hs9⟩) hP hD hS (fun q h => h) [0, 1, 2, 3, 4, 5, 6, 7, 8, 9, 10, 11, 12, 13, 14, 15, 16, 17] [18, 19, 20, 21, 22, 23, 24, 25] rfl rfl (by decide) (by decide) (fun w9 H locs hw9 hP hD hS => ?_)
  obtain ⟨gc1, rE1, nM1, lD1, bF1, oR1, cH1, lf1, li1, us1, fe1, cf1, hcf1, rfl⟩ := hw9
  refine lv_istore hx hb d_law_807 hl (by decide) rfl (fun ls hl => ?_)
  have hl : lv_has ls 7 [(5, .int k), (0, .ref b), (1, .ref (ad 0)), (2, .ref (ad 18)), (3, .ref (ad 17)), (4, .int (nI i))] := hl
  refine lv_aload_n hx hb d_law_809 rfl (lv_at hl 3 rfl) ?_
  refine lv_aload_n hx hb d_law_810 rfl (lv_at hl 1 rfl) ?_
  refine lv_iload hx hb d_law_811 (lv_at hl 5 rfl) ?_
  refine lv_iconst (v := nI 1) hx hb d_law_813 (by decide) ?_
  refine lv_iadd hx hb d_law_814 ?_
  refine xv_top (x' := nI (i + 1)) (nI_ad i 1) ?_
  refine xs_ld (x := x1) hx hb hX hbl (Nat.not_le.mpr hbl) hS (by omega) hL2 e1 d_law_815 ?_
  refine lv_aload_n hx hb d_law_816 rfl (lv_at hl 1 rfl) ?_
  refine lv_iload hx hb d_law_817 (lv_at hl 5 rfl) ?_
  refine lv_iconst (v := nI 2) hx hb d_law_819 (by decide) ?_
  refine lv_iadd hx hb d_law_820 ?_
  refine xv_top (x' := nI (i + 2)) (nI_ad i 2) ?_
  refine xs_ld (x := x2) hx hb hX hbl (Nat.not_le.mpr hbl) hS (by omega) hL2 e2 d_law_821 ?_
  refine xw_i (wc := MWl ad ck h ct mc mg mO mG mF mA mU mR) (wr := CWl ad ck h' ct' gc1 rE1 nM1 lD1 bF1 oR1 cH1 lf1 li1 us1 fe1 cf1 z') (w1 := MWl ad ck h' ct' k mg1 mO1 mG1 mF1 mA1 mU1 mR1) (va_runV (As := [.int x1, .int x2]) (rest := []) ⟨hx, hb, hml, hown, hB⟩ (hM _) ⟨callB_of 2 hB (xg0 mc_M_gated) rfl rfl rfl (hB _ mz_M) (hB _ ml_L_112) (by decide +kernel) ⟨hrf, hrl⟩, hB _ mi_M_gated, hB _ me_M_gated⟩ (xqV (ws := MWl ad ck h ct mc mg mO mG mF mA mU mR) (tys := TM ck) (hP.sub [0, 1, 2, 3, 4, 5, 6, 7] rfl) (hD.sub [0, 1, 2, 3, 4, 5, 6, 7] (by decide) rfl) (hK.sub [13, 14, 15, 16, 17, 18, 19] rfl) hN (va_recv (ci := 5) (q0 := 0) (q := (R_M, F_M, 10)) hK hP rfl rfl)) rfl rfl hl.1 rfl (lv_room (Nat.le_of_ble_eq_true rfl)) d_law_822 ⟨hc9, hs9⟩) hP hD hS (fun q h => h) [0, 1, 2, 3, 4, 5, 6, 7] [8, 9, 10, 11, 12, 13, 14, 15, 16, 17, 18, 19, 20, 21, 22, 23, 24, 25] rfl rfl (by decide) (by decide) (fun H locs hP hD hS => ?_)
  refine lv_istore hx hb d_law_825 hl (by decide) rfl (fun ls hl => ?_)
  have hl : lv_has ls 7 [(6, .int rm9), (5, .int k), (0, .ref b), (1, .ref (ad 0)), (2, .ref (ad 18)), (3, .ref (ad 17)), (4, .int (nI i))] := hl
  refine lv_aload_n hx hb d_law_827 rfl (lv_at hl 4 rfl) ?_
  refine xr_cal (va_runV (As := []) (rest := []) ⟨hx, hb, hml, hown, hB⟩ (k_M_thrown l D (ad 18) (ad 19) (ad 20) (ad 21) (ad 22) (ad 23) (ad 24) (ad 25) (ck 19) (ck 20) (ck 21) (ck 22) (ck 23) (ck 24) (ck 25) k ct' mg1 h' mO1 mG1 mF1 mA1 mU1 mR1) ⟨callB_of 0 hB (xg0 mc_M_thrown) rfl rfl rfl (hB _ mz_M) (hB _ ml_L_73) (by decide +kernel) ⟨Nat.le_of_ble_eq_true rfl, Nat.le_of_ble_eq_true rfl⟩, hB _ mi_M_thrown, hB _ me_M_thrown⟩ (xpV (ws := MWl ad ck h' ct' k mg1 mO1 mG1 mF1 mA1 mU1 mR1) (tys := TM ck) (hP.sub [18, 19, 20, 21, 22, 23, 24, 25] rfl) (hK.sub [13, 14, 15, 16, 17, 18, 19] rfl) hN (va_recv (ci := 5) (q0 := 18) (q := (R_M, F_M, 10)) hK hP rfl rfl)) rfl rfl hl.1 rfl (lv_room (Nat.le_of_ble_eq_true rfl)) d_law_828 ⟨hc9, hs9⟩) ?_
  refine lv_iload hx hb d_law_831 (lv_at hl 1 rfl) ?_
  refine lv_icmp_eq (tgt := 838) hx hb d_law_833 rfl (fun _ => ?_) (fun q9 => absurd rfl q9)
  refine lv_iload hx hb d_law_838 (lv_at hl 1 rfl) ?_
  refine lv_if_ne (tgt := 855) hx hb d_law_840 rfl (fun hk9 => ?_) (fun hk9 => ?_)
  · refine lv_goto (tgt := 1050) hx hb d_law_855 rfl ?_
    exact kk H locs ls (lv_sub hl [2, 3, 4, 5, 6] rfl) ⟨gc1, rE1, nM1, lD1, bF1, oR1, cH1, lf1, li1, us1, fe1, cf1, z', k, mg1, mO1, mG1, mF1, mA1, mU1, mR1, hcf1, hP, hD, hS⟩
  · have hzz := hz9 hk9
    subst hzz
    refine lv_aload_n hx hb d_law_843 rfl (lv_at hl 5 rfl) ?_
    refine lv_iconst (v := nI 0) hx hb d_law_844 (by decide) ?_
    refine va_lald hx hb hK hP 17 12 rfl rfl (vp_in_nI (by decide) (by decide)) d_law_845 ?_
    refine lv_iload hx hb d_law_846 (lv_at hl 0 rfl) ?_
    refine lv_i2l hx hb d_law_848 rfl ?_
    refine xl_cmp (x := rm9.toInt64) hx hb d_law_849 ?_
    refine lv_if_eq (tgt := 855) hx hb d_law_850 rfl (fun _ => ?_) (fun q9 => absurd rfl q9)
    refine lv_goto (tgt := 1050) hx hb d_law_855 rfl ?_
    exact kk H locs ls (lv_sub hl [2, 3, 4, 5, 6] rfl) ⟨gc1, rE1, nM1, lD1, bF1, oR1, cH1, lf1, li1, us1, fe1, cf1, _, k, mg1, mO1, mG1, mF1, mA1, mU1, mR1, hcf1, hP, hD, hS⟩
set_option maxHeartbeats 4000000 in
set_option maxRecDepth 100000 in
theorem sg_places {p : Program} {l : Launch} {e : Env} {s : State} {m : MethodId} {below : List Frame} {meth : Method} {c : Code} {Q : State → Prop} {b L : Nat} {xs : Nat → Int32} {D : va_G} {ad : Nat → Nat} {ck : Nat → ClassId} (C : LC p s m c b L xs D ck) {i : Nat} (hi : i + 4 ≤ L) {h h' : Nat → Int32} {ct ct' : Int32} {gc : Int32} {rE nM lD bF oR cH lf li us fe : Nat → Int32} {cf : Nat → Nat} {zo z' : Int64} {mc : Int32} {mg : Int32} {mO mG mF mA mU mR : Nat → Int32} {k : Int32} {f9 l9 : Nat} {w1 : va_W} {rm9 : Int32} {x1 x2 : Int32} (e1 : xs (i + 1) = x1) (e2 : xs (i + 2) = x2)
    (hW : ∀ sz : Nat, Met l y_L_places (Cond.codeWith y_L_places c_L_places 5 (some .int) hh_L_places :: BS) { frames := 9, cells := 1, slots := 6, locals := 170 } (va_Pc [.ref (ad 0), .int x1, .int x2, .ref (ad 17)] (xLw D (CWl ad ck h ct gc rE nM lD bF oR cH lf li us fe cf zo) (TC ck) sz)) (xQe D (CWl ad ck h ct gc rE nM lD bF oR cH lf li us fe cf zo) (TC ck) sz k (CWs ad ck h' ct' z')) 1 6 (va_A (CWl ad ck h ct gc rE nM lD bF oR cH lf li us fe cf zo) sz))
    (hM : ∀ sz : Nat, Met l y_M_places (Cond.code y_M_places c_M_places 4 (some .int) :: BS) { frames := f9, cells := 0, slots := 0, locals := l9 } (va_Pc [.ref (ad 18), .int x1, .int x2] (xWp D (MWl ad ck h ct mc mg mO mG mF mA mU mR) (TM ck) sz)) (xQi D (MWl ad ck h ct mc mg mO mG mF mA mU mR) w1 (TM ck) sz (rm9)) 0 0 (va_A (MWl ad ck h ct mc mg mO mG mF mA mU mR) sz))
    (hw1 : MWs ad ck h' ct' k w1) (hz9 : k = 0 → z' = rm9.toInt64) (hrf : f9 + 1 ≤ 12) (hrl : 8 + (4 + 11) + l9 ≤ 430)
    {H : Heap} {locs : List Loc} {cells slots : Nat} {ls : Array Slot} (hl : lv_has ls 7 [(0, .ref b), (1, .ref (ad 0)), (2, .ref (ad 18)), (3, .ref (ad 17)), (4, .int (nI i))]) (hP : va_P D cls (CWl ad ck h ct gc rE nM lD bF oR cH lf li us fe cf zo ++ MWl ad ck h ct mc mg mO mG mF mA mU mR) H) (hD : va_D (AL s) (CWl ad ck h ct gc rE nM lD bF oR cH lf li us fe cf zo ++ MWl ad ck h ct mc mg mO mG mF mA mU mR)) (hS : va_S (AL s) s.heap H locs) (hc9 : cells + 1 ≤ 1058) (hs9 : slots + 6 ≤ 8685)
    (kk : ∀ (H : Heap) (locs : List Loc) (ls : Array Slot), lv_has ls 7 [(0, .ref b), (1, .ref (ad 0)), (2, .ref (ad 18)), (3, .ref (ad 17)), (4, .int (nI i))] → LI D ad ck s h' ct' H locs → W p l e room_1 s m #[Value.ref b] below meth c H locs (cells + 1) (slots + 6) Q (F0 m 1050 ls [])) : W p l e room_1 s m #[Value.ref b] below meth c H locs cells slots Q (F0 m 858 ls []) := by
  obtain ⟨hx, hb, hml, hown, hB, hK, hN, hz, hsr, hat, han, hnc, hX, hbl, hL2⟩ := C
  obtain ⟨mg1, mO1, mG1, mF1, mA1, mU1, mR1, rfl⟩ := hw1
  refine lv_aload_n hx hb d_law_858 rfl (lv_at hl 1 rfl) ?_
  refine lv_aload_n hx hb d_law_859 rfl (lv_at hl 0 rfl) ?_
  refine lv_iload hx hb d_law_860 (lv_at hl 4 rfl) ?_
  refine lv_iconst (v := nI 1) hx hb d_law_862 (by decide) ?_
  refine lv_iadd hx hb d_law_863 ?_
  refine xv_top (x' := nI (i + 1)) (nI_ad i 1) ?_
  refine xs_ld (x := x1) hx hb hX hbl (Nat.not_le.mpr hbl) hS (by omega) hL2 e1 d_law_864 ?_
  refine lv_aload_n hx hb d_law_865 rfl (lv_at hl 0 rfl) ?_
  refine lv_iload hx hb d_law_866 (lv_at hl 4 rfl) ?_
  refine lv_iconst (v := nI 2) hx hb d_law_868 (by decide) ?_
  refine lv_iadd hx hb d_law_869 ?_
  refine xv_top (x' := nI (i + 2)) (nI_ad i 2) ?_
  refine xs_ld (x := x2) hx hb hX hbl (Nat.not_le.mpr hbl) hS (by omega) hL2 e2 d_law_870 ?_
  refine lv_aload_n hx hb d_law_871 rfl (lv_at hl 3 rfl) ?_
  refine xw_e (wc := CWl ad ck h ct gc rE nM lD bF oR cH lf li us fe cf zo) (wr := MWl ad ck h ct mc mg mO mG mF mA mU mR) (vx_runSW (As := [.ref (ad 0), .int x1, .int x2, .ref (ad 17)]) (rest := []) ⟨hx, hb, hml, hown, hB⟩ (hW _) (vx_cwSW 4 hB (xgS ml_L_113 ms_L_places mz_L mc_L_places) rfl rfl rfl (by decide +kernel) ⟨Nat.le_of_ble_eq_true rfl, Nat.le_of_ble_eq_true rfl⟩) (xqSl (ws := CWl ad ck h ct gc rE nM lD bF oR cH lf li us fe cf zo) (tys := TC ck) (hP.sub [0, 1, 2, 3, 4, 5, 6, 7, 8, 9, 10, 11, 12, 13, 14, 15, 16, 17] rfl) (hD.sub [0, 1, 2, 3, 4, 5, 6, 7, 8, 9, 10, 11, 12, 13, 14, 15, 16, 17] (by decide) rfl) (hK.sub [0, 1, 2, 3, 4, 5, 6, 7, 8, 9, 10, 11, 12] rfl) hN hz (fun q h => h) hS hsr hat han hnc) rfl rfl hl.1 rfl (lv_room (Nat.le_of_ble_eq_true rfl)) d_law_872 ⟨hc9, hs9⟩) hP hD hS (fun q h => h) [0, 1, 2, 3, 4, 5, 6, 7, 8, 9, 10, 11, 12, 13, 14, 15, 16, 17] [18, 19, 20, 21, 22, 23, 24, 25] rfl rfl (by decide) (by decide) (fun w9 H locs hw9 hP hD hS => ?_)
  obtain ⟨gc1, rE1, nM1, lD1, bF1, oR1, cH1, lf1, li1, us1, fe1, cf1, hcf1, rfl⟩ := hw9
  refine lv_istore hx hb d_law_875 hl (by decide) rfl (fun ls hl => ?_)
  have hl : lv_has ls 7 [(5, .int k), (0, .ref b), (1, .ref (ad 0)), (2, .ref (ad 18)), (3, .ref (ad 17)), (4, .int (nI i))] := hl
  refine lv_aload_n hx hb d_law_877 rfl (lv_at hl 3 rfl) ?_
  refine lv_aload_n hx hb d_law_878 rfl (lv_at hl 1 rfl) ?_
  refine lv_iload hx hb d_law_879 (lv_at hl 5 rfl) ?_
  refine lv_iconst (v := nI 1) hx hb d_law_881 (by decide) ?_
  refine lv_iadd hx hb d_law_882 ?_
  refine xv_top (x' := nI (i + 1)) (nI_ad i 1) ?_
  refine xs_ld (x := x1) hx hb hX hbl (Nat.not_le.mpr hbl) hS (by omega) hL2 e1 d_law_883 ?_
  refine lv_aload_n hx hb d_law_884 rfl (lv_at hl 1 rfl) ?_
  refine lv_iload hx hb d_law_885 (lv_at hl 5 rfl) ?_
  refine lv_iconst (v := nI 2) hx hb d_law_887 (by decide) ?_
  refine lv_iadd hx hb d_law_888 ?_
  refine xv_top (x' := nI (i + 2)) (nI_ad i 2) ?_
  refine xs_ld (x := x2) hx hb hX hbl (Nat.not_le.mpr hbl) hS (by omega) hL2 e2 d_law_889 ?_
  refine xw_i (wc := MWl ad ck h ct mc mg mO mG mF mA mU mR) (wr := CWl ad ck h' ct' gc1 rE1 nM1 lD1 bF1 oR1 cH1 lf1 li1 us1 fe1 cf1 z') (w1 := MWl ad ck h' ct' k mg1 mO1 mG1 mF1 mA1 mU1 mR1) (va_runV (As := [.int x1, .int x2]) (rest := []) ⟨hx, hb, hml, hown, hB⟩ (hM _) ⟨callB_of 2 hB (xg0 mc_M_places) rfl rfl rfl (hB _ mz_M) (hB _ ml_L_115) (by decide +kernel) ⟨hrf, hrl⟩, hB _ mi_M_places, hB _ me_M_places⟩ (xqV (ws := MWl ad ck h ct mc mg mO mG mF mA mU mR) (tys := TM ck) (hP.sub [0, 1, 2, 3, 4, 5, 6, 7] rfl) (hD.sub [0, 1, 2, 3, 4, 5, 6, 7] (by decide) rfl) (hK.sub [13, 14, 15, 16, 17, 18, 19] rfl) hN (va_recv (ci := 5) (q0 := 0) (q := (R_M, F_M, 10)) hK hP rfl rfl)) rfl rfl hl.1 rfl (lv_room (Nat.le_of_ble_eq_true rfl)) d_law_890 ⟨hc9, hs9⟩) hP hD hS (fun q h => h) [0, 1, 2, 3, 4, 5, 6, 7] [8, 9, 10, 11, 12, 13, 14, 15, 16, 17, 18, 19, 20, 21, 22, 23, 24, 25] rfl rfl (by decide) (by decide) (fun H locs hP hD hS => ?_)
  refine lv_istore hx hb d_law_893 hl (by decide) rfl (fun ls hl => ?_)
  have hl : lv_has ls 7 [(6, .int rm9), (5, .int k), (0, .ref b), (1, .ref (ad 0)), (2, .ref (ad 18)), (3, .ref (ad 17)), (4, .int (nI i))] := hl
  refine lv_aload_n hx hb d_law_895 rfl (lv_at hl 4 rfl) ?_
  refine xr_cal (va_runV (As := []) (rest := []) ⟨hx, hb, hml, hown, hB⟩ (k_M_thrown l D (ad 18) (ad 19) (ad 20) (ad 21) (ad 22) (ad 23) (ad 24) (ad 25) (ck 19) (ck 20) (ck 21) (ck 22) (ck 23) (ck 24) (ck 25) k ct' mg1 h' mO1 mG1 mF1 mA1 mU1 mR1) ⟨callB_of 0 hB (xg0 mc_M_thrown) rfl rfl rfl (hB _ mz_M) (hB _ ml_L_73) (by decide +kernel) ⟨Nat.le_of_ble_eq_true rfl, Nat.le_of_ble_eq_true rfl⟩, hB _ mi_M_thrown, hB _ me_M_thrown⟩ (xpV (ws := MWl ad ck h' ct' k mg1 mO1 mG1 mF1 mA1 mU1 mR1) (tys := TM ck) (hP.sub [18, 19, 20, 21, 22, 23, 24, 25] rfl) (hK.sub [13, 14, 15, 16, 17, 18, 19] rfl) hN (va_recv (ci := 5) (q0 := 18) (q := (R_M, F_M, 10)) hK hP rfl rfl)) rfl rfl hl.1 rfl (lv_room (Nat.le_of_ble_eq_true rfl)) d_law_896 ⟨hc9, hs9⟩) ?_
  refine lv_iload hx hb d_law_899 (lv_at hl 1 rfl) ?_
  refine lv_icmp_eq (tgt := 906) hx hb d_law_901 rfl (fun _ => ?_) (fun q9 => absurd rfl q9)
  refine lv_iload hx hb d_law_906 (lv_at hl 1 rfl) ?_
  refine lv_if_ne (tgt := 923) hx hb d_law_908 rfl (fun hk9 => ?_) (fun hk9 => ?_)
  · refine lv_goto (tgt := 1050) hx hb d_law_923 rfl ?_
    exact kk H locs ls (lv_sub hl [2, 3, 4, 5, 6] rfl) ⟨gc1, rE1, nM1, lD1, bF1, oR1, cH1, lf1, li1, us1, fe1, cf1, z', k, mg1, mO1, mG1, mF1, mA1, mU1, mR1, hcf1, hP, hD, hS⟩
  · have hzz := hz9 hk9
    subst hzz
    refine lv_aload_n hx hb d_law_911 rfl (lv_at hl 5 rfl) ?_
    refine lv_iconst (v := nI 0) hx hb d_law_912 (by decide) ?_
    refine va_lald hx hb hK hP 17 12 rfl rfl (vp_in_nI (by decide) (by decide)) d_law_913 ?_
    refine lv_iload hx hb d_law_914 (lv_at hl 0 rfl) ?_
    refine lv_i2l hx hb d_law_916 rfl ?_
    refine xl_cmp (x := rm9.toInt64) hx hb d_law_917 ?_
    refine lv_if_eq (tgt := 923) hx hb d_law_918 rfl (fun _ => ?_) (fun q9 => absurd rfl q9)
    refine lv_goto (tgt := 1050) hx hb d_law_923 rfl ?_
    exact kk H locs ls (lv_sub hl [2, 3, 4, 5, 6] rfl) ⟨gc1, rE1, nM1, lD1, bF1, oR1, cH1, lf1, li1, us1, fe1, cf1, _, k, mg1, mO1, mG1, mF1, mA1, mU1, mR1, hcf1, hP, hD, hS⟩
set_option maxHeartbeats 4000000 in
set_option maxRecDepth 100000 in
theorem sg_arrows {p : Program} {l : Launch} {e : Env} {s : State} {m : MethodId} {below : List Frame} {meth : Method} {c : Code} {Q : State → Prop} {b L : Nat} {xs : Nat → Int32} {D : va_G} {ad : Nat → Nat} {ck : Nat → ClassId} (C : LC p s m c b L xs D ck) {i : Nat} (hi : i + 4 ≤ L) {h h' : Nat → Int32} {ct ct' : Int32} {gc : Int32} {rE nM lD bF oR cH lf li us fe : Nat → Int32} {cf : Nat → Nat} {zo z' : Int64} {mc : Int32} {mg : Int32} {mO mG mF mA mU mR : Nat → Int32} {k : Int32} {f9 l9 : Nat} {w1 : va_W} {rm9 : Int32} {x1 x2 : Int32} (e1 : xs (i + 1) = x1) (e2 : xs (i + 2) = x2)
    (hW : ∀ sz : Nat, Met l y_L_arrows (Cond.codeWith y_L_arrows c_L_arrows 5 (some .int) hh_L_arrows :: BS) { frames := 9, cells := 1, slots := 6, locals := 170 } (va_Pc [.ref (ad 0), .int x1, .int x2, .ref (ad 17)] (xLw D (CWl ad ck h ct gc rE nM lD bF oR cH lf li us fe cf zo) (TC ck) sz)) (xQe D (CWl ad ck h ct gc rE nM lD bF oR cH lf li us fe cf zo) (TC ck) sz k (CWs ad ck h' ct' z')) 1 6 (va_A (CWl ad ck h ct gc rE nM lD bF oR cH lf li us fe cf zo) sz))
    (hM : ∀ sz : Nat, Met l y_M_arrows (Cond.code y_M_arrows c_M_arrows 4 (some .int) :: BS) { frames := f9, cells := 0, slots := 0, locals := l9 } (va_Pc [.ref (ad 18), .int x1, .int x2] (xWp D (MWl ad ck h ct mc mg mO mG mF mA mU mR) (TM ck) sz)) (xQi D (MWl ad ck h ct mc mg mO mG mF mA mU mR) w1 (TM ck) sz (rm9)) 0 0 (va_A (MWl ad ck h ct mc mg mO mG mF mA mU mR) sz))
    (hw1 : MWs ad ck h' ct' k w1) (hz9 : k = 0 → z' = rm9.toInt64) (hrf : f9 + 1 ≤ 12) (hrl : 8 + (4 + 11) + l9 ≤ 430)
    {H : Heap} {locs : List Loc} {cells slots : Nat} {ls : Array Slot} (hl : lv_has ls 7 [(0, .ref b), (1, .ref (ad 0)), (2, .ref (ad 18)), (3, .ref (ad 17)), (4, .int (nI i))]) (hP : va_P D cls (CWl ad ck h ct gc rE nM lD bF oR cH lf li us fe cf zo ++ MWl ad ck h ct mc mg mO mG mF mA mU mR) H) (hD : va_D (AL s) (CWl ad ck h ct gc rE nM lD bF oR cH lf li us fe cf zo ++ MWl ad ck h ct mc mg mO mG mF mA mU mR)) (hS : va_S (AL s) s.heap H locs) (hc9 : cells + 1 ≤ 1058) (hs9 : slots + 6 ≤ 8685)
    (kk : ∀ (H : Heap) (locs : List Loc) (ls : Array Slot), lv_has ls 7 [(0, .ref b), (1, .ref (ad 0)), (2, .ref (ad 18)), (3, .ref (ad 17)), (4, .int (nI i))] → LI D ad ck s h' ct' H locs → W p l e room_1 s m #[Value.ref b] below meth c H locs (cells + 1) (slots + 6) Q (F0 m 1050 ls [])) : W p l e room_1 s m #[Value.ref b] below meth c H locs cells slots Q (F0 m 926 ls []) := by
  obtain ⟨hx, hb, hml, hown, hB, hK, hN, hz, hsr, hat, han, hnc, hX, hbl, hL2⟩ := C
  obtain ⟨mg1, mO1, mG1, mF1, mA1, mU1, mR1, rfl⟩ := hw1
  refine lv_aload_n hx hb d_law_926 rfl (lv_at hl 1 rfl) ?_
  refine lv_aload_n hx hb d_law_927 rfl (lv_at hl 0 rfl) ?_
  refine lv_iload hx hb d_law_928 (lv_at hl 4 rfl) ?_
  refine lv_iconst (v := nI 1) hx hb d_law_930 (by decide) ?_
  refine lv_iadd hx hb d_law_931 ?_
  refine xv_top (x' := nI (i + 1)) (nI_ad i 1) ?_
  refine xs_ld (x := x1) hx hb hX hbl (Nat.not_le.mpr hbl) hS (by omega) hL2 e1 d_law_932 ?_
  refine lv_aload_n hx hb d_law_933 rfl (lv_at hl 0 rfl) ?_
  refine lv_iload hx hb d_law_934 (lv_at hl 4 rfl) ?_
  refine lv_iconst (v := nI 2) hx hb d_law_936 (by decide) ?_
  refine lv_iadd hx hb d_law_937 ?_
  refine xv_top (x' := nI (i + 2)) (nI_ad i 2) ?_
  refine xs_ld (x := x2) hx hb hX hbl (Nat.not_le.mpr hbl) hS (by omega) hL2 e2 d_law_938 ?_
  refine lv_aload_n hx hb d_law_939 rfl (lv_at hl 3 rfl) ?_
  refine xw_e (wc := CWl ad ck h ct gc rE nM lD bF oR cH lf li us fe cf zo) (wr := MWl ad ck h ct mc mg mO mG mF mA mU mR) (vx_runSW (As := [.ref (ad 0), .int x1, .int x2, .ref (ad 17)]) (rest := []) ⟨hx, hb, hml, hown, hB⟩ (hW _) (vx_cwSW 4 hB (xgS ml_L_116 ms_L_arrows mz_L mc_L_arrows) rfl rfl rfl (by decide +kernel) ⟨Nat.le_of_ble_eq_true rfl, Nat.le_of_ble_eq_true rfl⟩) (xqSl (ws := CWl ad ck h ct gc rE nM lD bF oR cH lf li us fe cf zo) (tys := TC ck) (hP.sub [0, 1, 2, 3, 4, 5, 6, 7, 8, 9, 10, 11, 12, 13, 14, 15, 16, 17] rfl) (hD.sub [0, 1, 2, 3, 4, 5, 6, 7, 8, 9, 10, 11, 12, 13, 14, 15, 16, 17] (by decide) rfl) (hK.sub [0, 1, 2, 3, 4, 5, 6, 7, 8, 9, 10, 11, 12] rfl) hN hz (fun q h => h) hS hsr hat han hnc) rfl rfl hl.1 rfl (lv_room (Nat.le_of_ble_eq_true rfl)) d_law_940 ⟨hc9, hs9⟩) hP hD hS (fun q h => h) [0, 1, 2, 3, 4, 5, 6, 7, 8, 9, 10, 11, 12, 13, 14, 15, 16, 17] [18, 19, 20, 21, 22, 23, 24, 25] rfl rfl (by decide) (by decide) (fun w9 H locs hw9 hP hD hS => ?_)
  obtain ⟨gc1, rE1, nM1, lD1, bF1, oR1, cH1, lf1, li1, us1, fe1, cf1, hcf1, rfl⟩ := hw9
  refine lv_istore hx hb d_law_943 hl (by decide) rfl (fun ls hl => ?_)
  have hl : lv_has ls 7 [(5, .int k), (0, .ref b), (1, .ref (ad 0)), (2, .ref (ad 18)), (3, .ref (ad 17)), (4, .int (nI i))] := hl
  refine lv_aload_n hx hb d_law_945 rfl (lv_at hl 3 rfl) ?_
  refine lv_aload_n hx hb d_law_946 rfl (lv_at hl 1 rfl) ?_
  refine lv_iload hx hb d_law_947 (lv_at hl 5 rfl) ?_
  refine lv_iconst (v := nI 1) hx hb d_law_949 (by decide) ?_
  refine lv_iadd hx hb d_law_950 ?_
  refine xv_top (x' := nI (i + 1)) (nI_ad i 1) ?_
  refine xs_ld (x := x1) hx hb hX hbl (Nat.not_le.mpr hbl) hS (by omega) hL2 e1 d_law_951 ?_
  refine lv_aload_n hx hb d_law_952 rfl (lv_at hl 1 rfl) ?_
  refine lv_iload hx hb d_law_953 (lv_at hl 5 rfl) ?_
  refine lv_iconst (v := nI 2) hx hb d_law_955 (by decide) ?_
  refine lv_iadd hx hb d_law_956 ?_
  refine xv_top (x' := nI (i + 2)) (nI_ad i 2) ?_
  refine xs_ld (x := x2) hx hb hX hbl (Nat.not_le.mpr hbl) hS (by omega) hL2 e2 d_law_957 ?_
  refine xw_i (wc := MWl ad ck h ct mc mg mO mG mF mA mU mR) (wr := CWl ad ck h' ct' gc1 rE1 nM1 lD1 bF1 oR1 cH1 lf1 li1 us1 fe1 cf1 z') (w1 := MWl ad ck h' ct' k mg1 mO1 mG1 mF1 mA1 mU1 mR1) (va_runV (As := [.int x1, .int x2]) (rest := []) ⟨hx, hb, hml, hown, hB⟩ (hM _) ⟨callB_of 2 hB (xg0 mc_M_arrows) rfl rfl rfl (hB _ mz_M) (hB _ ml_L_118) (by decide +kernel) ⟨hrf, hrl⟩, hB _ mi_M_arrows, hB _ me_M_arrows⟩ (xqV (ws := MWl ad ck h ct mc mg mO mG mF mA mU mR) (tys := TM ck) (hP.sub [0, 1, 2, 3, 4, 5, 6, 7] rfl) (hD.sub [0, 1, 2, 3, 4, 5, 6, 7] (by decide) rfl) (hK.sub [13, 14, 15, 16, 17, 18, 19] rfl) hN (va_recv (ci := 5) (q0 := 0) (q := (R_M, F_M, 10)) hK hP rfl rfl)) rfl rfl hl.1 rfl (lv_room (Nat.le_of_ble_eq_true rfl)) d_law_958 ⟨hc9, hs9⟩) hP hD hS (fun q h => h) [0, 1, 2, 3, 4, 5, 6, 7] [8, 9, 10, 11, 12, 13, 14, 15, 16, 17, 18, 19, 20, 21, 22, 23, 24, 25] rfl rfl (by decide) (by decide) (fun H locs hP hD hS => ?_)
  refine lv_istore hx hb d_law_961 hl (by decide) rfl (fun ls hl => ?_)
  have hl : lv_has ls 7 [(6, .int rm9), (5, .int k), (0, .ref b), (1, .ref (ad 0)), (2, .ref (ad 18)), (3, .ref (ad 17)), (4, .int (nI i))] := hl
  refine lv_aload_n hx hb d_law_963 rfl (lv_at hl 4 rfl) ?_
  refine xr_cal (va_runV (As := []) (rest := []) ⟨hx, hb, hml, hown, hB⟩ (k_M_thrown l D (ad 18) (ad 19) (ad 20) (ad 21) (ad 22) (ad 23) (ad 24) (ad 25) (ck 19) (ck 20) (ck 21) (ck 22) (ck 23) (ck 24) (ck 25) k ct' mg1 h' mO1 mG1 mF1 mA1 mU1 mR1) ⟨callB_of 0 hB (xg0 mc_M_thrown) rfl rfl rfl (hB _ mz_M) (hB _ ml_L_73) (by decide +kernel) ⟨Nat.le_of_ble_eq_true rfl, Nat.le_of_ble_eq_true rfl⟩, hB _ mi_M_thrown, hB _ me_M_thrown⟩ (xpV (ws := MWl ad ck h' ct' k mg1 mO1 mG1 mF1 mA1 mU1 mR1) (tys := TM ck) (hP.sub [18, 19, 20, 21, 22, 23, 24, 25] rfl) (hK.sub [13, 14, 15, 16, 17, 18, 19] rfl) hN (va_recv (ci := 5) (q0 := 18) (q := (R_M, F_M, 10)) hK hP rfl rfl)) rfl rfl hl.1 rfl (lv_room (Nat.le_of_ble_eq_true rfl)) d_law_964 ⟨hc9, hs9⟩) ?_
  refine lv_iload hx hb d_law_967 (lv_at hl 1 rfl) ?_
  refine lv_icmp_eq (tgt := 974) hx hb d_law_969 rfl (fun _ => ?_) (fun q9 => absurd rfl q9)
  refine lv_iload hx hb d_law_974 (lv_at hl 1 rfl) ?_
  refine lv_if_ne (tgt := 991) hx hb d_law_976 rfl (fun hk9 => ?_) (fun hk9 => ?_)
  · refine lv_goto (tgt := 1050) hx hb d_law_991 rfl ?_
    exact kk H locs ls (lv_sub hl [2, 3, 4, 5, 6] rfl) ⟨gc1, rE1, nM1, lD1, bF1, oR1, cH1, lf1, li1, us1, fe1, cf1, z', k, mg1, mO1, mG1, mF1, mA1, mU1, mR1, hcf1, hP, hD, hS⟩
  · have hzz := hz9 hk9
    subst hzz
    refine lv_aload_n hx hb d_law_979 rfl (lv_at hl 5 rfl) ?_
    refine lv_iconst (v := nI 0) hx hb d_law_980 (by decide) ?_
    refine va_lald hx hb hK hP 17 12 rfl rfl (vp_in_nI (by decide) (by decide)) d_law_981 ?_
    refine lv_iload hx hb d_law_982 (lv_at hl 0 rfl) ?_
    refine lv_i2l hx hb d_law_984 rfl ?_
    refine xl_cmp (x := rm9.toInt64) hx hb d_law_985 ?_
    refine lv_if_eq (tgt := 991) hx hb d_law_986 rfl (fun _ => ?_) (fun q9 => absurd rfl q9)
    refine lv_goto (tgt := 1050) hx hb d_law_991 rfl ?_
    exact kk H locs ls (lv_sub hl [2, 3, 4, 5, 6] rfl) ⟨gc1, rE1, nM1, lD1, bF1, oR1, cH1, lf1, li1, us1, fe1, cf1, _, k, mg1, mO1, mG1, mF1, mA1, mU1, mR1, hcf1, hP, hD, hS⟩
set_option maxHeartbeats 4000000 in
set_option maxRecDepth 100000 in
theorem sg_figure {p : Program} {l : Launch} {e : Env} {s : State} {m : MethodId} {below : List Frame} {meth : Method} {c : Code} {Q : State → Prop} {b L : Nat} {xs : Nat → Int32} {D : va_G} {ad : Nat → Nat} {ck : Nat → ClassId} (C : LC p s m c b L xs D ck) {i : Nat} (hi : i + 4 ≤ L) {h h' : Nat → Int32} {ct ct' : Int32} {gc : Int32} {rE nM lD bF oR cH lf li us fe : Nat → Int32} {cf : Nat → Nat} {zo z' : Int64} {mc : Int32} {mg : Int32} {mO mG mF mA mU mR : Nat → Int32} {k : Int32} {f9 l9 : Nat} {w1 : va_W} {rm9 : Int32} {x1 : Int32} (e1 : xs (i + 1) = x1)
    (hW : ∀ sz : Nat, Met l y_L_figure (Cond.codeWith y_L_figure c_L_figure 4 (some .int) hh_L_figure :: BS) { frames := 9, cells := 1, slots := 6, locals := 170 } (va_Pc [.ref (ad 0), .int x1, .ref (ad 17)] (xLw D (CWl ad ck h ct gc rE nM lD bF oR cH lf li us fe cf zo) (TC ck) sz)) (xQe D (CWl ad ck h ct gc rE nM lD bF oR cH lf li us fe cf zo) (TC ck) sz k (CWs ad ck h' ct' z')) 1 6 (va_A (CWl ad ck h ct gc rE nM lD bF oR cH lf li us fe cf zo) sz))
    (hM : ∀ sz : Nat, Met l y_M_figure (Cond.code y_M_figure c_M_figure 2 (some .int) :: BS) { frames := f9, cells := 0, slots := 0, locals := l9 } (va_Pc [.ref (ad 18), .int x1] (xWp D (MWl ad ck h ct mc mg mO mG mF mA mU mR) (TM ck) sz)) (xQi D (MWl ad ck h ct mc mg mO mG mF mA mU mR) w1 (TM ck) sz (rm9)) 0 0 (va_A (MWl ad ck h ct mc mg mO mG mF mA mU mR) sz))
    (hw1 : MWs ad ck h' ct' k w1) (hz9 : k = 0 → z' = rm9.toInt64) (hrf : f9 + 1 ≤ 12) (hrl : 8 + (2 + 11) + l9 ≤ 430)
    {H : Heap} {locs : List Loc} {cells slots : Nat} {ls : Array Slot} (hl : lv_has ls 7 [(0, .ref b), (1, .ref (ad 0)), (2, .ref (ad 18)), (3, .ref (ad 17)), (4, .int (nI i))]) (hP : va_P D cls (CWl ad ck h ct gc rE nM lD bF oR cH lf li us fe cf zo ++ MWl ad ck h ct mc mg mO mG mF mA mU mR) H) (hD : va_D (AL s) (CWl ad ck h ct gc rE nM lD bF oR cH lf li us fe cf zo ++ MWl ad ck h ct mc mg mO mG mF mA mU mR)) (hS : va_S (AL s) s.heap H locs) (hc9 : cells + 1 ≤ 1058) (hs9 : slots + 6 ≤ 8685)
    (kk : ∀ (H : Heap) (locs : List Loc) (ls : Array Slot), lv_has ls 7 [(0, .ref b), (1, .ref (ad 0)), (2, .ref (ad 18)), (3, .ref (ad 17)), (4, .int (nI i))] → LI D ad ck s h' ct' H locs → W p l e room_1 s m #[Value.ref b] below meth c H locs (cells + 1) (slots + 6) Q (F0 m 1050 ls [])) : W p l e room_1 s m #[Value.ref b] below meth c H locs cells slots Q (F0 m 994 ls []) := by
  obtain ⟨hx, hb, hml, hown, hB, hK, hN, hz, hsr, hat, han, hnc, hX, hbl, hL2⟩ := C
  obtain ⟨mg1, mO1, mG1, mF1, mA1, mU1, mR1, rfl⟩ := hw1
  refine lv_aload_n hx hb d_law_994 rfl (lv_at hl 1 rfl) ?_
  refine lv_aload_n hx hb d_law_995 rfl (lv_at hl 0 rfl) ?_
  refine lv_iload hx hb d_law_996 (lv_at hl 4 rfl) ?_
  refine lv_iconst (v := nI 1) hx hb d_law_998 (by decide) ?_
  refine lv_iadd hx hb d_law_999 ?_
  refine xv_top (x' := nI (i + 1)) (nI_ad i 1) ?_
  refine xs_ld (x := x1) hx hb hX hbl (Nat.not_le.mpr hbl) hS (by omega) hL2 e1 d_law_1000 ?_
  refine lv_aload_n hx hb d_law_1001 rfl (lv_at hl 3 rfl) ?_
  refine xw_e (wc := CWl ad ck h ct gc rE nM lD bF oR cH lf li us fe cf zo) (wr := MWl ad ck h ct mc mg mO mG mF mA mU mR) (vx_runSW (As := [.ref (ad 0), .int x1, .ref (ad 17)]) (rest := []) ⟨hx, hb, hml, hown, hB⟩ (hW _) (vx_cwSW 3 hB (xgS ml_L_119 ms_L_figure mz_L mc_L_figure) rfl rfl rfl (by decide +kernel) ⟨Nat.le_of_ble_eq_true rfl, Nat.le_of_ble_eq_true rfl⟩) (xqSl (ws := CWl ad ck h ct gc rE nM lD bF oR cH lf li us fe cf zo) (tys := TC ck) (hP.sub [0, 1, 2, 3, 4, 5, 6, 7, 8, 9, 10, 11, 12, 13, 14, 15, 16, 17] rfl) (hD.sub [0, 1, 2, 3, 4, 5, 6, 7, 8, 9, 10, 11, 12, 13, 14, 15, 16, 17] (by decide) rfl) (hK.sub [0, 1, 2, 3, 4, 5, 6, 7, 8, 9, 10, 11, 12] rfl) hN hz (fun q h => h) hS hsr hat han hnc) rfl rfl hl.1 rfl (lv_room (Nat.le_of_ble_eq_true rfl)) d_law_1002 ⟨hc9, hs9⟩) hP hD hS (fun q h => h) [0, 1, 2, 3, 4, 5, 6, 7, 8, 9, 10, 11, 12, 13, 14, 15, 16, 17] [18, 19, 20, 21, 22, 23, 24, 25] rfl rfl (by decide) (by decide) (fun w9 H locs hw9 hP hD hS => ?_)
  obtain ⟨gc1, rE1, nM1, lD1, bF1, oR1, cH1, lf1, li1, us1, fe1, cf1, hcf1, rfl⟩ := hw9
  refine lv_istore hx hb d_law_1005 hl (by decide) rfl (fun ls hl => ?_)
  have hl : lv_has ls 7 [(5, .int k), (0, .ref b), (1, .ref (ad 0)), (2, .ref (ad 18)), (3, .ref (ad 17)), (4, .int (nI i))] := hl
  refine lv_aload_n hx hb d_law_1007 rfl (lv_at hl 3 rfl) ?_
  refine lv_aload_n hx hb d_law_1008 rfl (lv_at hl 1 rfl) ?_
  refine lv_iload hx hb d_law_1009 (lv_at hl 5 rfl) ?_
  refine lv_iconst (v := nI 1) hx hb d_law_1011 (by decide) ?_
  refine lv_iadd hx hb d_law_1012 ?_
  refine xv_top (x' := nI (i + 1)) (nI_ad i 1) ?_
  refine xs_ld (x := x1) hx hb hX hbl (Nat.not_le.mpr hbl) hS (by omega) hL2 e1 d_law_1013 ?_
  refine xw_i (wc := MWl ad ck h ct mc mg mO mG mF mA mU mR) (wr := CWl ad ck h' ct' gc1 rE1 nM1 lD1 bF1 oR1 cH1 lf1 li1 us1 fe1 cf1 z') (w1 := MWl ad ck h' ct' k mg1 mO1 mG1 mF1 mA1 mU1 mR1) (va_runV (As := [.int x1]) (rest := []) ⟨hx, hb, hml, hown, hB⟩ (hM _) ⟨callB_of 1 hB (xg0 mc_M_figure) rfl rfl rfl (hB _ mz_M) (hB _ ml_L_121) (by decide +kernel) ⟨hrf, hrl⟩, hB _ mi_M_figure, hB _ me_M_figure⟩ (xqV (ws := MWl ad ck h ct mc mg mO mG mF mA mU mR) (tys := TM ck) (hP.sub [0, 1, 2, 3, 4, 5, 6, 7] rfl) (hD.sub [0, 1, 2, 3, 4, 5, 6, 7] (by decide) rfl) (hK.sub [13, 14, 15, 16, 17, 18, 19] rfl) hN (va_recv (ci := 5) (q0 := 0) (q := (R_M, F_M, 10)) hK hP rfl rfl)) rfl rfl hl.1 rfl (lv_room (Nat.le_of_ble_eq_true rfl)) d_law_1014 ⟨hc9, hs9⟩) hP hD hS (fun q h => h) [0, 1, 2, 3, 4, 5, 6, 7] [8, 9, 10, 11, 12, 13, 14, 15, 16, 17, 18, 19, 20, 21, 22, 23, 24, 25] rfl rfl (by decide) (by decide) (fun H locs hP hD hS => ?_)
  refine lv_istore hx hb d_law_1017 hl (by decide) rfl (fun ls hl => ?_)
  have hl : lv_has ls 7 [(6, .int rm9), (5, .int k), (0, .ref b), (1, .ref (ad 0)), (2, .ref (ad 18)), (3, .ref (ad 17)), (4, .int (nI i))] := hl
  refine lv_aload_n hx hb d_law_1019 rfl (lv_at hl 4 rfl) ?_
  refine xr_cal (va_runV (As := []) (rest := []) ⟨hx, hb, hml, hown, hB⟩ (k_M_thrown l D (ad 18) (ad 19) (ad 20) (ad 21) (ad 22) (ad 23) (ad 24) (ad 25) (ck 19) (ck 20) (ck 21) (ck 22) (ck 23) (ck 24) (ck 25) k ct' mg1 h' mO1 mG1 mF1 mA1 mU1 mR1) ⟨callB_of 0 hB (xg0 mc_M_thrown) rfl rfl rfl (hB _ mz_M) (hB _ ml_L_73) (by decide +kernel) ⟨Nat.le_of_ble_eq_true rfl, Nat.le_of_ble_eq_true rfl⟩, hB _ mi_M_thrown, hB _ me_M_thrown⟩ (xpV (ws := MWl ad ck h' ct' k mg1 mO1 mG1 mF1 mA1 mU1 mR1) (tys := TM ck) (hP.sub [18, 19, 20, 21, 22, 23, 24, 25] rfl) (hK.sub [13, 14, 15, 16, 17, 18, 19] rfl) hN (va_recv (ci := 5) (q0 := 18) (q := (R_M, F_M, 10)) hK hP rfl rfl)) rfl rfl hl.1 rfl (lv_room (Nat.le_of_ble_eq_true rfl)) d_law_1020 ⟨hc9, hs9⟩) ?_
  refine lv_iload hx hb d_law_1023 (lv_at hl 1 rfl) ?_
  refine lv_icmp_eq (tgt := 1030) hx hb d_law_1025 rfl (fun _ => ?_) (fun q9 => absurd rfl q9)
  refine lv_iload hx hb d_law_1030 (lv_at hl 1 rfl) ?_
  refine lv_if_ne (tgt := 1047) hx hb d_law_1032 rfl (fun hk9 => ?_) (fun hk9 => ?_)
  · refine lv_goto (tgt := 1050) hx hb d_law_1047 rfl ?_
    exact kk H locs ls (lv_sub hl [2, 3, 4, 5, 6] rfl) ⟨gc1, rE1, nM1, lD1, bF1, oR1, cH1, lf1, li1, us1, fe1, cf1, z', k, mg1, mO1, mG1, mF1, mA1, mU1, mR1, hcf1, hP, hD, hS⟩
  · have hzz := hz9 hk9
    subst hzz
    refine lv_aload_n hx hb d_law_1035 rfl (lv_at hl 5 rfl) ?_
    refine lv_iconst (v := nI 0) hx hb d_law_1036 (by decide) ?_
    refine va_lald hx hb hK hP 17 12 rfl rfl (vp_in_nI (by decide) (by decide)) d_law_1037 ?_
    refine lv_iload hx hb d_law_1038 (lv_at hl 0 rfl) ?_
    refine lv_i2l hx hb d_law_1040 rfl ?_
    refine xl_cmp (x := rm9.toInt64) hx hb d_law_1041 ?_
    refine lv_if_eq (tgt := 1047) hx hb d_law_1042 rfl (fun _ => ?_) (fun q9 => absurd rfl q9)
    refine lv_goto (tgt := 1050) hx hb d_law_1047 rfl ?_
    exact kk H locs ls (lv_sub hl [2, 3, 4, 5, 6] rfl) ⟨gc1, rE1, nM1, lD1, bF1, oR1, cH1, lf1, li1, us1, fe1, cf1, _, k, mg1, mO1, mG1, mF1, mA1, mU1, mR1, hcf1, hP, hD, hS⟩
