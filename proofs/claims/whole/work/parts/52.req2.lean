def xQ0 : Array Value → State → Outcome → State → Prop := fun _ st o t => o = .returned none ∧ t.heap = st.heap
def xTT : State → Prop := fun _ => True
theorem xTT_pre {s : State} {H : Heap} {av : List Value} : PreS s H (va_Pc av xTT) av := ⟨fun a U g mk q => ⟨q.1, trivial⟩, fun U hU hW => ⟨rfl, trivial⟩⟩
section XT
variable {p : Program} {l : Launch} {e : Env} {R : Room} {s : State} {m : MethodId} {args : Array Value} {below : List Frame} {meth : Method} {c : Code} {H : Heap} {locs : List Loc} {cells slots : Nat} {Q : State → Prop} {pc : Nat} {ls : Array Slot} {rest st0 : List Value} {a : Array Value} {A : Nat → Prop} {mc ms : Nat} {free : Addr → Prop}
theorem xr_v (hr : va_Run p l e R s m args below meth c H locs cells slots 0 0 (F0 m pc ls st0) rest (xQ0 a) (fun _ => False)) (kk : W p l e R s m args below meth c H locs cells slots Q (F0 m (pc + 3) ls rest)) : W p l e R s m args below meth c H locs cells slots Q (F0 m pc ls st0) := by
  intro T hT X
  obtain ⟨v, st₀, t, T', L, h0, X', hL, e1, -, ⟨hv, hh⟩, st⟩ := hr T hT X
  cases hv
  obtain ⟨t2, a1, b1⟩ := kk T' (by rw [e1, hh, h0]) (Stand.forget X' (fun q h => (hL q h).elim))
  exact ⟨t2, st t2 a1, b1⟩
theorem xt_call {E : String} (hr : vx_Run p l e R s m args below meth c H locs cells slots mc ms (F0 m pc ls st0) rest (fun _ _ _ => False) (xXf E H.size) free) (hS : va_S A s.heap H locs) (hA : ∀ q, s.heap.size ≤ q → A q) (hf : ∀ q, free q → A q)
    (kx : ∀ (ce : Cell) (q9 : Addr) (H1 : Heap) (locs1 : List Loc), H.size ≤ H1.size → (∀ q : Nat, q < H.size → H1[q]? = H[q]?) → va_S A s.heap H1 locs1 → H1[q9]? = some ce → ce.vm = .none → s.vm.findClass E = some ce.cls → vx_W p l e R s m args below meth c H1 locs1 (cells + mc) (slots + ms) Q (F0 m pc ls rest) q9) : W p l e R s m args below meth c H locs cells slots Q (F0 m pc ls st0) := by
  intro T hT X
  rcases hr T hT X with ⟨v, st₀, t, T', L, h0, X', hL, e1, e2, hF, st⟩ | ⟨q, st₀, t, T', L, E', ce, h0, X', hL, e1, e2, ⟨u, hp, hb, hF⟩, hce, hcv, hcl, st⟩
  · exact hF.elim
  · subst hb
    obtain ⟨k1, k2, k3⟩ := vx_keep (A0 := A) (H0 := s.heap) h0 e1 hS (fun q h1 h2 => absurd h1 (Nat.not_lt.mpr h2)) hf hL hF
    obtain ⟨t2, a1, b1⟩ := kx ce q T'.heap (locs ++ L) k1 (fun q h => k2 q h (Nat.not_le.mpr h)) k3 (by rw [e1]; exact hce) hcv hcl T' rfl X'
    exact ⟨t2, st.trans a1, b1⟩
end XT
theorem xTe_preS {s : State} {H : Heap} {av : List Value} {A : Nat → Prop} {locs : List Loc} (hz : xzq A s s.heap) (hA : ∀ q, s.heap.size ≤ q → A q) (hS : va_S A s.heap H locs) (hs : xsr s) (ha : xat s) : PreS s H (va_Pc av (xTe H.size)) av := ⟨fun a U g mk q => ⟨q.1, xTe_blind q.2⟩, fun U hU hW => ⟨rfl, xTe_at hz hA hS hs ha hU hW⟩⟩
theorem isP_lt {x : Int32} (h : isP x = true) : ∃ u, u < 16 ∧ x = nI u := by
  unfold isP at h
  rw [Bool.and_eq_true, decide_eq_true_eq, decide_eq_true_eq] at h
  obtain ⟨j, hj, hx⟩ := nI_of h.1
  subst hx
  exact ⟨j, by
    apply Nat.lt_of_not_le
    intro h1
    exact h.2 (nI_lt (by omega) (by omega)), rfl⟩
set_option maxHeartbeats 4000000 in
set_option maxRecDepth 100000 in
theorem k_A_requirePlace (l : Launch) (x : Int32) (hp : isP x = true) : Met l y_A_requirePlace (Cond.code y_A_requirePlace c_A_requirePlace 1 none :: BS) { frames := 0, cells := 0, slots := 0, locals := 0 } (va_Pc [.int x] xTT) xQ0 0 0 (fun _ => False) := by
  refine Met.ofW (cc := c_A_requirePlace) (maxL := 1) (ret := none) (by decide) rfl ?_
  intro p e s m args below meth c s₁ B hml hv
  obtain ⟨rfl, -⟩ := hv
  have hx := B.exec
  have hb := B.bytes
  have hr := B.returns
  have hlocks := B.notSynchronized
  have hl := lv_entry ([.int x]) (n := 1) (Nat.le_of_ble_eq_true rfl)
  rw [lg_entry_eq]
  generalize (lg_sl ([.int x]) ++ List.replicate (1 - (lg_sl ([.int x])).length) Slot.unset).toArray = ls at hl ⊢
  have hl : lv_has ls 1 [(0, .int x)] := hl
  obtain ⟨u, hu, hxu⟩ := isP_lt hp
  refine lv_iload_n hx hb d_A_requirePlace_0 rfl (lv_at hl 0 rfl) ?_
  refine lv_if_lt (tgt := 10) hx hb d_A_requirePlace_1 rfl (fun hc => absurd hc (by rw [hxu]; exact nI_pos (by omega))) (fun hc1 => ?_)
  refine lv_iload_n hx hb d_A_requirePlace_4 rfl (lv_at hl 0 rfl) ?_
  refine lv_bipush (v := nI 16) hx hb d_A_requirePlace_5 (by decide) ?_
  refine lv_icmp_lt (tgt := 20) hx hb d_A_requirePlace_7 rfl (fun hc7 => ?_) (fun hc => absurd (show x < nI 16 by rw [hxu]; exact nI_lt hu (by omega)) hc)
  exact W.vret hx hb hr (fun t ht hW => ⟨rfl, ht⟩) (fun _ h => by cases h) d_A_requirePlace_20
theorem xcS {R : Room} {s : State} {args : Array Value} {own : String} {index : Nat} {y : MethodName} {bytes : ByteArray} {maxL n mc ms : Nat} {ret : Option FieldType} {rm : Room} (hB : ∀ w ∈ BS, w.before args s = true) (hc : Cond.code y bytes maxL ret ∈ BS) (hi : Cond.initialized y.cls ∈ BS) (hl : Cond.methodLink own index y ∈ BS) (hst : Cond.static y ∈ BS) (hrc : rm.cells = mc) (hrs : rm.slots = ms) (hd : y.cls ≠ "java/lang/invoke/MethodHandle" ∧ y.cls ≠ "java/lang/invoke/VarHandle" ∧ (parseMethodDescriptor y.desc).map (fun d => d.parameters.length) = some n) (hR : rm.frames + 1 ≤ R.frames ∧ 8 + (maxL + 11) + rm.locals ≤ R.locals) : CallB R s args own index y bytes maxL ret (Cond.code y bytes maxL ret :: BS) rm mc ms n ∧ (Cond.static y).before args s = true := ⟨callB_of n hB (xg0 hc) rfl hrc hrs (hB _ hi) (hB _ hl) hd hR, hB _ hst⟩
set_option maxHeartbeats 4000000 in
set_option maxRecDepth 100000 in
theorem k_A_requirePlaces (l : Launch) (x y : Int32) (hp : (isP x && isP y) = true) : Met l y_A_requirePlaces (Cond.code y_A_requirePlaces c_A_requirePlaces 2 none :: BS) { frames := 1, cells := 0, slots := 0, locals := 20 } (va_Pc [.int x, .int y] xTT) xQ0 0 0 (fun _ => False) := by
  refine Met.ofW (cc := c_A_requirePlaces) (maxL := 2) (ret := none) (by decide) rfl ?_
  intro p e s m args below meth c s₁ B hml hv
  obtain ⟨rfl, -⟩ := hv
  have hx := B.exec
  have hb := B.bytes
  have hr := B.returns
  have hB := xB B.pre
  have hown : s.vm.findClass R_A = some m.cls := findClass_of_methodNamed B.named
  have hlocks := B.notSynchronized
  rw [Bool.and_eq_true] at hp
  have hl := lv_entry ([.int x, .int y]) (n := 2) (Nat.le_of_ble_eq_true rfl)
  rw [lg_entry_eq]
  generalize (lg_sl ([.int x, .int y]) ++ List.replicate (2 - (lg_sl ([.int x, .int y])).length) Slot.unset).toArray = ls at hl ⊢
  have hl : lv_has ls 2 [(0, .int x), (1, .int y)] := hl
  refine lv_iload_n hx hb d_A_requirePlaces_0 rfl (lv_at hl 0 rfl) ?_
  refine xr_v (va_runS (As := [.int x]) (rest := []) ⟨hx, hb, hml, hown, hB⟩ (k_A_requirePlace l x hp.1) (xcS (n := 1) hB mc_A_requirePlace mz_A ml_A_70 ms_A_requirePlace rfl rfl (by decide +kernel) ⟨Nat.le_of_ble_eq_true rfl, Nat.le_of_ble_eq_true rfl⟩) xTT_pre rfl rfl hl.1 rfl (lv_room (Nat.le_of_ble_eq_true rfl)) d_A_requirePlaces_1 ⟨Nat.le_of_ble_eq_true rfl, Nat.le_of_ble_eq_true rfl⟩) ?_
  refine lv_iload_n hx hb d_A_requirePlaces_4 rfl (lv_at hl 1 rfl) ?_
  refine xr_v (va_runS (As := [.int y]) (rest := []) ⟨hx, hb, hml, hown, hB⟩ (k_A_requirePlace l y hp.2) (xcS (n := 1) hB mc_A_requirePlace mz_A ml_A_70 ms_A_requirePlace rfl rfl (by decide +kernel) ⟨Nat.le_of_ble_eq_true rfl, Nat.le_of_ble_eq_true rfl⟩) xTT_pre rfl rfl hl.1 rfl (lv_room (Nat.le_of_ble_eq_true rfl)) d_A_requirePlaces_5 ⟨Nat.le_of_ble_eq_true rfl, Nat.le_of_ble_eq_true rfl⟩) ?_
  exact W.vret hx hb hr (fun t ht hW => ⟨rfl, ht⟩) (fun _ h => by cases h) d_A_requirePlaces_8
set_option maxHeartbeats 4000000 in
set_option maxRecDepth 100000 in
theorem t_A_requirePlaces (l : Launch) (hlt : l.stackTraces = false) (x y : Int32) (hb9 : (isP x && isP y) = false) (sz : Nat) : vx_Met l y_A_requirePlaces (Cond.code y_A_requirePlaces c_A_requirePlaces 2 none :: BS) { frames := 7, cells := 1, slots := 6, locals := 120 } (va_Pc [.int x, .int y] (xTe sz)) (fun _ _ _ _ => False) (xXf eIA sz) 1 6 (fun q => sz ≤ q) := by
  refine vx_ofW (cc := c_A_requirePlaces) (maxL := 2) (ret := none) (by decide) rfl ?_
  intro p e s m args below meth c s₁ B hml hnt hv
  obtain ⟨rfl, hsz, hz, hsr, hat⟩ := hv
  have hx := B.exec
  have hb := B.bytes
  have hB := xB B.pre
  have hown : s.vm.findClass R_A = some m.cls := findClass_of_methodNamed B.named
  have hlocks := B.notSynchronized
  subst hsz
  have hS : va_S (fun q => s.heap.size ≤ q) s.heap s.heap [] := va_S.rf
  have hl := lv_entry ([.int x, .int y]) (n := 2) (Nat.le_of_ble_eq_true rfl)
  rw [lg_entry_eq]
  generalize (lg_sl ([.int x, .int y]) ++ List.replicate (2 - (lg_sl ([.int x, .int y])).length) Slot.unset).toArray = ls at hl ⊢
  have hl : lv_has ls 2 [(0, .int x), (1, .int y)] := hl
  have K : ∀ (z : Int32) (pc : Nat), isP z = false → decode c_A_requirePlaces pc = .ok (.invokestatic 70, 3) → W p l e (headSpec (Cond.code y_A_requirePlaces c_A_requirePlaces 2 none :: BS) { frames := 7, cells := 1, slots := 6, locals := 120 }).room s m #[Value.int x, Value.int y] below meth c s.heap [] 0 0 (vx_MQ below (fun _ _ _ _ => False) (xXf eIA s.heap.size) #[Value.int x, Value.int y] s 1 6 (fun q => s.heap.size ≤ q)) (F0 m pc ls [.int z]) := by
    intro z pc hzb hdg
    refine xt_call (vx_runS (As := [.int z]) (rest := []) ⟨hx, hb, hml, hown, hB⟩ (t_A_requirePlace l hlt z hzb s.heap.size) (xcS (n := 1) hB mc_A_requirePlace mz_A ml_A_70 ms_A_requirePlace rfl rfl (by decide +kernel) ⟨Nat.le_of_ble_eq_true rfl, Nat.le_of_ble_eq_true rfl⟩) (xTe_preS hz (fun q h => h) hS hsr hat) rfl rfl hl.1 rfl (lv_room (Nat.le_of_ble_eq_true rfl)) hdg ⟨Nat.le_of_ble_eq_true rfl, Nat.le_of_ble_eq_true rfl⟩) hS (fun q h => h) (fun q h => h) (fun ce q9 H1 locs1 h1 h2 hS1 hce hcv hcl => ?_)
    exact vx_out (fun x hx => (hnt x hx).elim) hlocks hce hcv hcl (fun t ht _ => ⟨(), trivial, rfl, by rw [ht]; exact h1, fun q hq _ => by rw [ht]; exact h2 q hq⟩) hS1.2.2 (Nat.le_refl _) (Nat.le_refl _)
  refine lv_iload_n hx hb d_A_requirePlaces_0 rfl (lv_at hl 0 rfl) ?_
  cases hpx : isP x with
  | false => exact K x _ hpx d_A_requirePlaces_1
  | true =>
    rw [hpx, Bool.true_and] at hb9
    refine xr_v (va_runS (As := [.int x]) (rest := []) ⟨hx, hb, hml, hown, hB⟩ (k_A_requirePlace l x hpx) (xcS (n := 1) hB mc_A_requirePlace mz_A ml_A_70 ms_A_requirePlace rfl rfl (by decide +kernel) ⟨Nat.le_of_ble_eq_true rfl, Nat.le_of_ble_eq_true rfl⟩) xTT_pre rfl rfl hl.1 rfl (lv_room (Nat.le_of_ble_eq_true rfl)) d_A_requirePlaces_1 ⟨Nat.le_of_ble_eq_true rfl, Nat.le_of_ble_eq_true rfl⟩) ?_
    refine lv_iload_n hx hb d_A_requirePlaces_4 rfl (lv_at hl 1 rfl) ?_
    exact K y _ hb9 d_A_requirePlaces_5
