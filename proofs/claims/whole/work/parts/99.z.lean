def R_law : String := "ArcAtlasLaw"
def lw_P (b : Addr) (xs : List Int32) (args : Array Value) (s : State) : Prop := args = #[.ref b] ∧ s.IntsAt b xs ∧ xs.length ≤ 2048 ∧ (Jvm.Cond.and given_1 narrow_1).before args s = true
def lw_Q (_ : Array Value) (s : State) (o : Outcome) (t : State) : Prop := o = .returned (some (.int 1)) ∧ Framed s o t [] 1058 8685
def lw_Z (below : List Frame) (a : Array Value) (s : State) : State → Prop := fun t => ∃ o, t.status = .running ∧ Ended t below o ∧ lw_Q a s o t
/-- the law's own end, with 1 on the stack, nothing written that was there before, its room as the claim has it -/
theorem lw_ret {p : Program} {l : Launch} {e : Env} {s : State} {m : MethodId} {below : List Frame} {meth : Method} {c : Code} {b : Nat} (hx : p.tables.exec = Jvm.exec) (hb : c.code = code) (hr : meth.sig.returnType = ret) (hlocks : meth.locks = false) {pc : Nat} {H : Heap} {ls : Array Slot} (hdg : decode code pc = .ok (.ireturn, 1)) : W p l e room_1 s m #[Value.ref b] below meth c H [] 1058 8685 (lw_Z below #[Value.ref b] s) (F0 m pc ls [.int 1]) := by
  intro T hT X
  obtain ⟨fs, hret, hrun, hended, hW, hframe⟩ := X.leave (v := some (.int 1)) (hlocks := hlocks) (fun h => by rw [hr] at h; cases h)
  have hmeth' : T.vm.method? m = some meth := X.method'
  refine ⟨T.setFrames fs, ?_, .returned (some (.int 1)), hrun, hended, rfl, ⟨_, rfl⟩, hW, hframe⟩
  jvm_step X.here [X.here.top, hx, hb, hdg, hmeth', hr, ret, narrow_b1]
  (try refine ⟨rfl, ?_⟩); (try refine ⟨rfl, ?_⟩)
  first | (intro acts; rw [hret _ acts rfl rfl rfl]) | rw [hret _ _ rfl rfl rfl]
  exact Steps.refl _
/-- what holds at the law's entry: the machine, the code, the tables' words (any of lw_tbl by 'hts w (by decide +kernel)'), the script of L ints xs at the cell b, what the Statement gives of the start (any of its parts by flat_of_before) -/
def lw_At (p : Program) (s : State) (m : MethodId) (meth : Method) (c : Code) (b L : Nat) (xs : Nat → Int32) : Prop :=
  p.tables.exec = Jvm.exec ∧ c.code = code ∧ meth.sig.returnType = ret ∧ c.maxLocals = 7 ∧ s.vm.findClass R_law = some m.cls ∧ (∀ w ∈ lw_tbl, w.before #[Value.ref b] s = true) ∧ va_X b L xs s s.heap ∧ b < s.heap.size ∧ meth.locks = false ∧ (Jvm.Cond.and given_1 narrow_1).before #[Value.ref b] s = true
theorem mo_arrL : Cond.arrayClass .long ∈ BS := BS_in (k := 717) (by decide +kernel) (by decide +kernel)
theorem xN_cellL (n : Nat) (cA : ClassId) : vp_cell cA (n, .inr (.inl (fun _ => 0))) = arrV cA n (fun _ => defaultValue .long) := by
  rw [vp_cell_l]
  rfl
theorem LI_S {D : va_G} {ad : Nat → Nat} {ck : Nat → ClassId} {s : State} {h : Nat → Int32} {cw : Int32} {H : Heap} {locs : List Loc} (hI : LI D ad ck s h cw H locs) : va_S (AL s) s.heap H locs := by
  obtain ⟨gc, rE, nM, lD, bF, oR, cH, lf, li, us, fe, cf, zo, mc, mg, mO, mG, mF, mA, mU, mR, hcf, hP, hD, hS⟩ := hI
  exact hS
set_option maxHeartbeats 4000000 in
set_option maxRecDepth 100000 in
theorem law_loop {p : Program} {l : Launch} {e : Env} {s : State} {m : MethodId} {below : List Frame} {meth : Method} {c : Code} {b L : Nat} {xs : Nat → Int32} {D : va_G} {ad : Nat → Nat} {ck : Nat → ClassId} (hlt : l.stackTraces = false) (C : LC p s m c b L xs D ck) (hr : meth.sig.returnType = ret) (hlocks : meth.locks = false) {H : Heap} {locs : List Loc} {ls : Array Slot} (hl : lv_has ls 7 [(0, .ref b), (1, .ref (ad 0)), (2, .ref (ad 18)), (3, .ref (ad 17)), (4, .int (nI 0))]) (hI : LI D ad ck s (fun _ => nI 0) (nI 0) H locs) : W p l e room_1 s m #[Value.ref b] below meth c H locs 26 445 (lw_Z below #[Value.ref b] s) (F0 m 23 ls []) := by
  have C' := C
  obtain ⟨hx, hb, hml, hown, hB, hK, hN, hz, hsr, hat, han, hnc, hX, hbl, hL2⟩ := C'
  refine xl_c (σ := Nat × (Nat → Int32) × Int32) (fun a ls H locs => 4 * a.1 ≤ L ∧ iv a.2.1 a.2.2 ∧ lv_has ls 7 [(0, .ref b), (1, .ref (ad 0)), (2, .ref (ad 18)), (3, .ref (ad 17)), (4, .int (nI (4 * a.1)))] ∧ LI D ad ck s a.2.1 a.2.2 H locs) (fun a => L - 4 * a.1) (fun a => 26 + a.1) (fun a => 445 + 6 * a.1) ?_ (0, fun _ => nI 0, nI 0) ls ⟨Nat.zero_le _, iv_clr, hl, hI⟩
  rintro ⟨k, h, cw⟩ ls H locs ⟨hk, hv9, hl, hI⟩ ih
  dsimp only at hk hv9 hl hI ih ⊢
  have hS := LI_S hI
  refine lv_iload hx hb d_law_23 (lv_at hl 4 rfl) ?_
  refine lv_aload_n hx hb d_law_25 rfl (lv_at hl 0 rfl) ?_
  refine va_slen hx hb hX hbl (Nat.not_le.mpr hbl) hS d_law_26 ?_
  refine xv_top (x' := nI L) rfl ?_
  refine lv_iconst (v := nI 4) hx hb d_law_27 (by decide) ?_
  refine lv_isub hx hb d_law_28 ?_
  refine lv_icmp_gt (tgt := 1056) hx hb d_law_29 rfl (fun hc => ?_) (fun hc => ?_)
  · refine lv_iconst (v := 1) hx hb d_law_1056 (by decide) ?_
    refine va_forget (fun q hq => hS.2.2 q hq) ?_
    refine W.widen (k := 1058) (n := 8685) (by omega) (by omega) ?_
    exact lw_ret hx hb hr hlocks d_law_1057
  · have hi : 4 * k + 4 ≤ L := lp_le hk hL2 hc
    have KK : ∀ (h' : Nat → Int32) (c' : Int32), iv h' c' → ∀ (H : Heap) (locs : List Loc) (ls : Array Slot), lv_has ls 7 [(0, .ref b), (1, .ref (ad 0)), (2, .ref (ad 18)), (3, .ref (ad 17)), (4, .int (nI (4 * k)))] → LI D ad ck s h' c' H locs → W p l e room_1 s m #[Value.ref b] below meth c H locs (26 + k + 1) (445 + 6 * k + 6) (lw_Z below #[Value.ref b] s) (F0 m 1050 ls []) := by
      intro h' c' hv' H locs ls hl hI
      refine lv_iinc hx hb d_law_1050 hl (k := 4) rfl (v := nI (4 * (k + 1))) (nI_ad (4 * k) 4) (by decide) rfl (fun ls hl => ?_)
      refine lv_goto (tgt := 23) hx hb d_law_1053 rfl ?_
      refine W.widen (k := 26 + (k + 1)) (n := 445 + 6 * (k + 1)) (by omega) (by omega) ?_
      exact ih (k + 1, h', c') ls H locs ⟨by dsimp only; omega, hv', lv_sub hl [1, 2, 3, 4, 0] rfl, hI⟩ (by dsimp only; omega)
    refine lv_aload_n hx hb d_law_32 rfl (lv_at hl 0 rfl) ?_
    refine lv_iload hx hb d_law_33 (lv_at hl 4 rfl) ?_
    refine xs_ld (x := xs (4 * k)) hx hb hX hbl (Nat.not_le.mpr hbl) hS (by omega) hL2 rfl d_law_35 ?_
    refine lv_bipush (v := nI 15) hx hb d_law_36 (by decide) ?_
    refine lv_iand hx hb d_law_38 ?_
    obtain ⟨j, hj, hje⟩ := nib (xs (4 * k))
    refine xv_top (x' := nI j) hje ?_
    rcases (show j = 0 ∨ j = 1 ∨ j = 2 ∨ j = 3 ∨ j = 4 ∨ j = 5 ∨ j = 6 ∨ j = 7 ∨ j = 8 ∨ j = 9 ∨ j = 10 ∨ j = 11 ∨ j = 12 ∨ j = 13 ∨ j = 14 ∨ j = 15 by omega) with rfl | rfl | rfl | rfl | rfl | rfl | rfl | rfl | rfl | rfl | rfl | rfl | rfl | rfl | rfl | rfl
    · refine lv_tableIn (tgt := 112) (off := 73) hx hb d_law_39 (by decide) (by decide) (by decide) (by decide) ?_
      exact bd_add hlt C hi hv9 hl hI (by omega) (by omega) KK
    · refine lv_tableIn (tgt := 187) (off := 148) hx hb d_law_39 (by decide) (by decide) (by decide) (by decide) ?_
      exact bd_remove hlt C hi hv9 hl hI (by omega) (by omega) KK
    · refine lv_tableIn (tgt := 262) (off := 223) hx hb d_law_39 (by decide) (by decide) (by decide) (by decide) ?_
      exact bd_clear hlt C hi hv9 hl hI (by omega) (by omega) KK
    · refine lv_tableIn (tgt := 275) (off := 236) hx hb d_law_39 (by decide) (by decide) (by decide) (by decide) ?_
      exact bd_group hlt C hi hv9 hl hI (by omega) (by omega) KK
    · refine lv_tableIn (tgt := 331) (off := 292) hx hb d_law_39 (by decide) (by decide) (by decide) (by decide) ?_
      exact bd_members hlt C hi hv9 hl hI (by omega) (by omega) KK
    · refine lv_tableIn (tgt := 387) (off := 348) hx hb d_law_39 (by decide) (by decide) (by decide) (by decide) ?_
      exact bd_rank hlt C hi hv9 hl hI (by omega) (by omega) KK
    · refine lv_tableIn (tgt := 443) (off := 404) hx hb d_law_39 (by decide) (by decide) (by decide) (by decide) ?_
      exact bd_ranked hlt C hi hv9 hl hI (by omega) (by omega) KK
    · refine lv_tableIn (tgt := 499) (off := 460) hx hb d_law_39 (by decide) (by decide) (by decide) (by decide) ?_
      exact bd_reaches hlt C hi hv9 hl hI (by omega) (by omega) KK
    · refine lv_tableIn (tgt := 574) (off := 535) hx hb d_law_39 (by decide) (by decide) (by decide) (by decide) ?_
      exact bd_distance hlt C hi hv9 hl hI (by omega) (by omega) KK
    · refine lv_tableIn (tgt := 642) (off := 603) hx hb d_law_39 (by decide) (by decide) (by decide) (by decide) ?_
      exact bd_way hlt C hi hv9 hl hI (by omega) (by omega) KK
    · refine lv_tableIn (tgt := 722) (off := 683) hx hb d_law_39 (by decide) (by decide) (by decide) (by decide) ?_
      exact bd_gate hlt C hi hv9 hl hI (by omega) (by omega) KK
    · refine lv_tableIn (tgt := 790) (off := 751) hx hb d_law_39 (by decide) (by decide) (by decide) (by decide) ?_
      exact bd_gated hlt C hi hv9 hl hI (by omega) (by omega) KK
    · refine lv_tableIn (tgt := 858) (off := 819) hx hb d_law_39 (by decide) (by decide) (by decide) (by decide) ?_
      exact bd_places hlt C hi hv9 hl hI (by omega) (by omega) KK
    · refine lv_tableIn (tgt := 926) (off := 887) hx hb d_law_39 (by decide) (by decide) (by decide) (by decide) ?_
      exact bd_arrows hlt C hi hv9 hl hI (by omega) (by omega) KK
    · refine lv_tableIn (tgt := 994) (off := 955) hx hb d_law_39 (by decide) (by decide) (by decide) (by decide) ?_
      exact bd_figure hlt C hi hv9 hl hI (by omega) (by omega) KK
    · refine lv_tableOut (tgt := 1050) hx hb d_law_39 (by decide) (by decide) ?_
      refine W.widen (k := 26 + k + 1) (n := 445 + 6 * k + 6) (by omega) (by omega) ?_
      exact KK h cw hv9 H locs ls hl hI
set_option maxHeartbeats 4000000 in
set_option maxRecDepth 100000 in
theorem whole_start {p : Program} {e : Env} {s : State} {m : MethodId} {below : List Frame} {meth : Method} {c : Code} (l : Launch) (hlt : l.stackTraces = false) {b L : Nat} {xs : Nat → Int32} (hL : L ≤ 2048) (C0 : lw_At p s m meth c b L xs) : W p l e room_1 s m #[Value.ref b] below meth c s.heap [] 0 0 (lw_Z below #[Value.ref b] s) (entryFrame m ([Value.ref b] : List Value).toArray 7) := by
  obtain ⟨hx, hb, hr, hml, hown, hts, hX, hbl, hlocks, hgv⟩ := C0
  have hB : ∀ w ∈ BS, w.before #[Value.ref b] s = true := fun w hw => hts w (List.mem_filter.mp hw).1
  have hN : xn s := xn_of (fun w hw => hts w (List.mem_append_right _ hw))
  obtain ⟨cur, hcur⟩ := st_cur hB
  have hsr := st_sr hts hcur
  have hat := st_at hts
  have han := st_an hts
  have hnc := st_nc hts hgv
  have hz := st_zq hts hgv
  have hown : s.vm.findClass R_L = some m.cls := hown
  obtain ⟨D, hK⟩ := st_K hB
  have hP : va_P D cls [] s.heap := fun k q hk => nomatch hk
  have hD : va_D (AL s) [] := ⟨fun i j p q hp => (nomatch hp), fun k q hk => (nomatch hk)⟩
  have hA : ∀ q : Nat, s.heap.size ≤ q → AL s q := fun q h => h
  have hS : va_S (AL s) s.heap s.heap [] := va_S.rf
  have hl := lv_entry ([.ref b]) (n := 7) (Nat.le_of_ble_eq_true rfl)
  rw [lg_entry_eq]
  generalize (lg_sl ([.ref b]) ++ List.replicate (7 - (lg_sl ([.ref b])).length) Slot.unset).toArray = ls at hl ⊢
  have hl : lv_has ls 7 [(0, .ref b)] := hl
  refine va_new (ci := 0) (fs := [.null, .null, .null, .null]) (C := R_A) (T := F_A) (N := 4) hx hb hB in_A t_A t_A_ok hown (hB _ mq_L_A) (hB _ mn_A) (hB _ mz_A) hK hP hD hS hA rfl (fun j hj => by rcases (show j = 0 ∨ j = 1 ∨ j = 2 ∨ j = 3 by omega) with rfl | rfl | rfl | rfl <;> rfl) (Nat.le_of_ble_eq_true rfl) (Nat.le_of_ble_eq_true rfl) d_law_0 (fun qa H hP hD hS => ?_)
  have hP : va_P D cls [(qa, .inr (0, [.null, .null, .null, .null]))] H := hP
  have hD : va_D (AL s) [(qa, .inr (0, [.null, .null, .null, .null]))] := hD
  refine lv_dup hx hb d_law_3 rfl ?_
  have hFc := va_free (wc := [(qa, .inr (0, [.null, .null, .null, .null]))]) hD hS hA [0] rfl
  refine va_callv (va_runI (As := []) (rest := [.ref qa]) ⟨hx, hb, hml, hown, hB⟩ (k_A_init l D qa H.size) (cwI 0 hB (xg0 mc_A_init) rfl rfl rfl (hB _ mz_A) (hB _ ml_L_63) (hB _ mi_A_init) rfl (by decide +kernel) ⟨Nat.le_of_ble_eq_true rfl, Nat.le_of_ble_eq_true rfl⟩) (xqS (ws := [(qa, .inr (0, [.null, .null, .null, .null]))]) (tys := []) (hP.sub [0] rfl) (hD.sub [0] (by decide) rfl) (hK.sub [] rfl) hN) rfl rfl hl.1 rfl (lv_room (Nat.le_of_ble_eq_true rfl)) d_law_4 ⟨Nat.le_of_ble_eq_true rfl, Nat.le_of_ble_eq_true rfl⟩) hS (fun q _ h => hFc q h) hFc (fun u t H1 locs ht hvm _ hB1 hz1 hk1 hS => ?_)
  obtain ⟨hP1, hK1, hD1⟩ := hB1
  rw [ht] at hP1
  have hK1 := va_K.moved hvm.symm hK1
  obtain ⟨hP, hD⟩ := va_join (wr := []) (w1 := CW0 qa u.1 u.2) hP hD [0] [] rfl rfl (by decide) (by decide) hk1 hFc hP1 hD1
  have hK : va_K D cls (TC0 u.2) s := hK1
  generalize H1 = H at hP hS ⊢
  have hP : va_P D cls (CW0 qa u.1 u.2) H := hP
  have hD : va_D (AL s) (CW0 qa u.1 u.2) := hD
  refine lv_astore_n hx hb d_law_7 rfl hl (by decide) rfl (fun ls hl => ?_)
  have hl : lv_has ls 7 [(1, .ref qa), (0, .ref b)] := hl
  refine va_new (ci := 5) (fs := [.int 0, .int 0, .null, .int 0, .null, .null, .null, .null, .null, .null]) (C := R_M) (T := F_M) (N := 10) hx hb hB in_M t_M t_M_ok hown (hB _ mq_L_M) (hB _ mn_M) (hB _ mz_M) hK hP hD hS hA rfl (fun j hj => by rcases (show j = 0 ∨ j = 1 ∨ j = 2 ∨ j = 3 ∨ j = 4 ∨ j = 5 ∨ j = 6 ∨ j = 7 ∨ j = 8 ∨ j = 9 by omega) with rfl | rfl | rfl | rfl | rfl | rfl | rfl | rfl | rfl | rfl <;> rfl) (Nat.le_of_ble_eq_true rfl) (Nat.le_of_ble_eq_true rfl) d_law_8 (fun qm H hP hD hS => ?_)
  refine lv_dup hx hb d_law_11 rfl ?_
  have hFc := va_free (wc := [(qm, .inr (5, [.int 0, .int 0, .null, .int 0, .null, .null, .null, .null, .null, .null]))]) hD hS hA [17] rfl
  refine va_callv (va_runI (As := []) (rest := [.ref qm]) ⟨hx, hb, hml, hown, hB⟩ (k_M_init l D qm H.size) (cwI 0 hB (xg0 mc_M_init) rfl rfl rfl (hB _ mz_M) (hB _ ml_L_66) (hB _ mi_M_init) rfl (by decide +kernel) ⟨Nat.le_of_ble_eq_true rfl, Nat.le_of_ble_eq_true rfl⟩) (xqS (ws := [(qm, .inr (5, [.int 0, .int 0, .null, .int 0, .null, .null, .null, .null, .null, .null]))]) (tys := []) (hP.sub [17] rfl) (hD.sub [17] (by decide) rfl) (hK.sub [] rfl) hN) rfl rfl hl.1 rfl (lv_room (Nat.le_of_ble_eq_true rfl)) d_law_12 ⟨Nat.le_of_ble_eq_true rfl, Nat.le_of_ble_eq_true rfl⟩) hS (fun q _ h => hFc q h) hFc (fun v t H1 locs ht hvm _ hB1 hz1 hk1 hS => ?_)
  obtain ⟨qm0, zm0, qm1, zm1, qm2, zm2, qm3, zm3, qm4, zm4, qm5, zm5, qm6, zm6⟩ := v
  obtain ⟨hP1, hK1, hD1⟩ := hB1
  rw [ht] at hP1
  have hK1 := va_K.moved hvm.symm hK1
  obtain ⟨hP, hD⟩ := va_join (wr := CW0 qa u.1 u.2) (w1 := [(qm, .inr (5, [.int 0, .int 0, .ref qm0, .int 0, .ref qm1, .ref qm2, .ref qm3, .ref qm4, .ref qm5, .ref qm6])), (qm0, .inl (zm0, 16, .inl (fun _ => nI 0))), (qm1, .inl (zm1, 16, .inl (fun _ => nI 0))), (qm2, .inl (zm2, 16, .inl (fun _ => nI 0))), (qm3, .inl (zm3, 16, .inl (fun _ => nI 0))), (qm4, .inl (zm4, 32, .inl (fun _ => nI 0))), (qm5, .inl (zm5, 32, .inl (fun _ => nI 0))), (qm6, .inl (zm6, 32, .inl (fun _ => nI 0)))]) hP hD [17] [0, 1, 2, 3, 4, 5, 6, 7, 8, 9, 10, 11, 12, 13, 14, 15, 16] rfl rfl (by decide) (by decide) hk1 hFc hP1 hD1
  have hK : va_K D cls (TC0 u.2 ++ [(zm0, .int), (zm1, .int), (zm2, .int), (zm3, .int), (zm4, .int), (zm5, .int), (zm6, .int)]) s := hK.app hK1
  generalize H1 = H at hP hS ⊢
  refine lv_astore_n hx hb d_law_15 rfl hl (by decide) rfl (fun ls hl => ?_)
  have hl : lv_has ls 7 [(2, .ref qm), (1, .ref qa), (0, .ref b)] := hl
  refine lv_iconst (v := nI 1) hx hb d_law_16 (by decide) ?_
  refine va_newa (atype := .long) (ty := .long) (n := nI 1) (a0 := (1, .inr (.inl (fun _ => 0)))) (N' := 1) hx hb (hB _ mo_arrL) rfl hK hP hD hS hA (xN_cellL 1) (by decide) (by decide) (by show 1 * 8 ≤ 536870912; omega) (Nat.le_of_ble_eq_true rfl) (Nat.le_of_ble_eq_true rfl) d_law_17 (fun qo zo H hK hP hD hS => ?_)
  refine lv_astore_n hx hb d_law_19 rfl hl (by decide) rfl (fun ls hl => ?_)
  have hl : lv_has ls 7 [(3, .ref qo), (2, .ref qm), (1, .ref qa), (0, .ref b)] := hl
  refine lv_iconst (v := nI 0) hx hb d_law_20 (by decide) ?_
  refine lv_istore hx hb d_law_21 hl (by decide) rfl (fun ls hl => ?_)
  have hl : lv_has ls 7 [(4, .int (nI 0)), (3, .ref qo), (2, .ref qm), (1, .ref qa), (0, .ref b)] := hl
  refine W.widen (k := 26) (n := 445) (by decide) (by decide) ?_
  obtain ⟨ad, had⟩ : ∃ ad : Nat → Nat, ad = (fun i => ([qa, (u.1 1), (u.1 2), (u.1 3), (u.1 4), (u.1 5), (u.1 6), (u.1 7), (u.1 8), (u.1 9), (u.1 10), (u.1 11), (u.1 12), (u.1 13), (u.1 14), (u.1 15), (u.1 16), qo, qm, qm0, qm1, qm2, qm3, qm4, qm5, qm6] : List Nat).getD i 0) := ⟨_, rfl⟩
  obtain ⟨ck, hck⟩ : ∃ ck : Nat → ClassId, ck = (fun i => ([zo, zo, (u.2 2), zo, (u.2 4), (u.2 5), (u.2 6), (u.2 7), (u.2 8), (u.2 9), zo, (u.2 11), zo, (u.2 13), (u.2 14), (u.2 15), (u.2 16), zo, zo, zm0, zm1, zm2, zm3, zm4, zm5, zm6] : List ClassId).getD i zo) := ⟨_, rfl⟩
  have hI : LI D ad ck s (fun _ => nI 0) (nI 0) H locs := by
    rw [had, hck]
    exact ⟨0, fun _ => nI 0, fun _ => nI 0, fun _ => nI 0, fun _ => nI 0, fun _ => nI 0, fun _ => nI 0, fun _ => nI 0, fun _ => nI 0, fun _ => nI 0, fun _ => nI 0, fun _ => 0, 0, 0, 0, fun _ => nI 0, fun _ => nI 0, fun _ => nI 0, fun _ => nI 0, fun _ => nI 0, fun _ => nI 0, fun _ _ => Nat.zero_lt_succ _, hP.sub [0, 1, 2, 3, 4, 5, 6, 7, 8, 9, 10, 11, 12, 13, 14, 15, 16, 25, 17, 18, 19, 20, 21, 22, 23, 24] rfl, hD.sub [0, 1, 2, 3, 4, 5, 6, 7, 8, 9, 10, 11, 12, 13, 14, 15, 16, 25, 17, 18, 19, 20, 21, 22, 23, 24] (by decide) rfl, hS⟩
  have hKK : va_K D cls (TC ck ++ TM ck) s := by
    rw [hck]
    exact hK.sub [0, 1, 2, 3, 4, 5, 6, 7, 8, 9, 10, 11, 19, 12, 13, 14, 15, 16, 17, 18] rfl
  exact law_loop hlt ⟨hx, hb, hml, hown, hB, hKK, hN, hz, hsr, hat, han, hnc, hX, hbl, hL⟩ hr hlocks (by rw [had]; exact lv_sub hl [4, 3, 2, 1, 0] rfl) hI
set_option maxHeartbeats 4000000 in
theorem lw_walk (l : Launch) (hlt : l.stackTraces = false) (b : Addr) (xs : List Int32) : MetFree l x (headSpec (Jvm.Cond.code x code maxLocals ret :: tables_1) room_1) (lw_P b xs) (fun _ _ _ _ _ => True) lw_Q := by
  refine MetFree.of_bodyS (code := code) (maxLocals := maxLocals) (ret := ret) (by decide) ?_ ?_
  · intro args s m h hn
    obtain ⟨meth, c, h1, h2, h3, h4, h5, h6, -, -⟩ := Cond.code_spec hn (atoms_spec (ws := Jvm.Cond.code x code maxLocals ret :: tables_1) h _ List.mem_cons_self)
    exact ⟨meth, c, h1, h2, h3, h4, h5, h6⟩
  · intro p e s m args below meth c s₁ B hml0 hP _
    obtain ⟨rfl, hx, hbd, hgv⟩ := hP
    obtain ⟨scr, harrAt, hlist, hof, hsmall⟩ := hx
    obtain ⟨hcb, hkn, -, -⟩ := State.arrayAt?_spec harrAt
    have hown : s.vm.findClass R_law = some m.cls := findClass_of_methodNamed B.named
    have hts0 : ∀ c ∈ (Jvm.Cond.code x code maxLocals ret :: tables_1), c.before #[Value.ref b] s = true := atoms_spec (ws := Jvm.Cond.code x code maxLocals ret :: tables_1) B.pre
    have hts : ∀ w ∈ lw_tbl, w.before #[Value.ref b] s = true := k2_hts_sels lw_privs (fun w hw => hts0 w (List.mem_cons_of_mem _ hw)) lw_privs_ok
    have hml : c.maxLocals = 7 := B.maxLocals_eq (hts0 _ List.mem_cons_self)
    have X₀ : Stand p l e room_1 s m #[Value.ref b] below meth c s₁ [] 0 0 := Stand.of_body B
    have hh0 : s₁.heap = s.heap := by rw [B.state]; rfl
    have hsz : scr.slots.size = xs.length := by rw [← Array.length_toList, hlist, List.length_map]
    have hval : ∀ j : Nat, j < xs.length → scr.slots[j]? = some (.int (xs.getD j 0)) := fun j hj => by
      rw [← Array.getElem?_toList, hlist]
      simp [hj]
    have hbl : b < s.heap.size := (Array.getElem?_eq_some_iff.mp hcb).1
    have hX : va_X b xs.length (fun j => xs.getD j 0) s s.heap := ⟨scr, hcb, hof, hkn, hsz, hval⟩
    have K : W p l e room_1 s m #[Value.ref b] below meth c s₁.heap [] 0 0 (lw_Z below #[Value.ref b] s) (entryFrame m ([Value.ref b] : List Value).toArray 7) := by
      rw [hh0]
      exact whole_start l hlt hbd ⟨B.exec, B.bytes, B.returns, hml, hown, hts, hX, hbl, B.notSynchronized, hgv⟩
    obtain ⟨t, a1, o, b1, b2, b3⟩ := K s₁ rfl X₀
    exact ⟨t, o, a1, b1, b2, b3⟩
theorem lw_pre_spec {args : Array Value} {s : State} (h : (Jvm.Cond.and given_1 narrow_1).before args s = true) (hr : rest_1_c.before args s = true) : ∃ (b : Addr) (xs : List Int32), lw_P b xs args s := by
  have hs := flat_of_before _ h
  have hq := flat_of_before _ hr
  have hc : (Cond.count 1).before args s = true := hs _ (by decide +kernel)
  have harr : (Cond.arrayOf (.arg 0) .int).before args s = true := hs _ (by decide +kernel)
  have hle : (Cond.le (.length (.arg 0)) (.int 2048)).before args s = true := hs _ (by decide +kernel)
  have hlen : (Cond.isInt (.length (.arg 0))).before args s = true := hq _ (by decide +kernel)
  have hall : (Cond.all (.arg 0) (.isInt (.elem (.arg 0) (.index 0)))).before args s = true := hq _ (by decide +kernel)
  obtain ⟨b, xs, hb, hx⟩ := State.ints_of_pre rfl harr hlen hall
  have hsm : xs.length < 2 ^ 31 := hx.choose_spec.2.2.2
  have hev : (Term.length (.arg 0)).eval args s none [] s = some (.int xs.length.toInt32) := hx.length_eval hb
  have hv := Cond.le_ints hev (show (Term.int 2048).eval args s none [] s = some (.int 2048) from rfl)
  have hd : xs.length.toInt32 ≤ 2048 := by
    simpa [Cond.before, Cond.holds, hv] using hle
  have hN : xs.length ≤ 2048 := (Int32.ofNat_le_ofNat hsm (by decide)).mp (show Int32.ofNat xs.length ≤ Int32.ofNat 2048 from hd)
  exact ⟨b, xs, Cond.one_arg hc (show args[0]? = some (.ref b) from hb), hx, hN, h⟩
theorem lw_comes (l : Launch) (hlt : l.stackTraces = false) : Comes l x (Jvm.Cond.code x code maxLocals ret :: tables_1) room_1 (fun tb e args s => Calls_1 tb e args s ∧ rest_1 tb e args s ∧ Pre_1 tb e args s)
    (fun _ _ args s o t => lw_Q args s o t) := by
  intro p e ha hc hk s m args below hf hfit hheap happ hpre
  obtain ⟨b, xs, hP⟩ := lw_pre_spec hpre.2.2 hpre.2.1
  obtain ⟨k, o, h1, h2, h3, hQ⟩ := lw_walk l hlt b xs p e ha hc hk s m args below hf ((Spec.applies_iff_loose hf).mp happ).1 hP trivial
  exact ⟨k, o, h1, h2, h3, hQ⟩
theorem lw_frame {s t : State} {o : Outcome} {args : Array Value} (h : Framed s o t [] 1058 8685) :
    Framed s o t (fieldLocs frame_1_writes args s ++ arrayLocs frame_1_arrays args s ++ staticLocs frame_1_statics s) 1058 8685 := h
theorem lw_limb (L : Cond) (hL : ∀ (args : Array Value) (s t : State), L.after args s (.returned (some (.int 1))) t = true) :
    ArmFor flags0 classFile x code maxLocals ret World_1 tables_1 room_1 Calls_1 rest_1 Pre_1
      (fun tb e a s o t => postC L tb e a s o t ∧ Framed s o t (fieldLocs frame_1_writes a s ++ arrayLocs frame_1_arrays a s ++ staticLocs frame_1_statics s) 1058 8685) := by
  intro l hfl _ _ p e ha hc hk s m args below hf hfit hheap happ hpre
  obtain ⟨k, o, h1, h2, h3, rfl, hF⟩ := lw_comes l (lw_nt hfl) p e ha hc hk s m args below hf hfit hheap happ hpre
  exact ⟨k, _, h1, h2, h3, hL args s _, lw_frame hF⟩
theorem i_vc : Claimed_1_1 ∧ Claimed_1_2 := ⟨lw_limb limb_1_1 (fun args s t => by simp [limb_1_1, Cond.after, Cond.holds, Cond.value]), lw_limb limb_1_2 (fun args s t => Cond.after_iff.mpr (by
  first | (rw [show limb_1_2 = Cond.eq .result (.int 1) from rfl, Cond.eq_ints (x := 1) (y := 1) rfl rfl]; simp; done) | (simp [limb_1_2, Cond.value, Term.eval]; done)))⟩
