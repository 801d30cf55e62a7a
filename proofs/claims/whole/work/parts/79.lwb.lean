def CWl (ad : Nat → Nat) (ck : Nat → ClassId) (h : Nat → Int32) (ct : Int32) (gc : Int32) (rE nM lD bF oR cH lf li us fe : Nat → Int32) (cf : Nat → Nat) (z : Int64) : va_W := [(ad 0, .inr (0, [.ref (ad 1), .ref (ad 3), .ref (ad 10), .ref (ad 12)])), (ad 1, .inr (1, [.ref (ad 2), .int ct])), (ad 2, .inl ((ck 2), 16, .inl h)), (ad 3, .inr (2, [.ref (ad 4), .ref (ad 5), .ref (ad 6), .ref (ad 7), .ref (ad 8), .ref (ad 9), .int gc])), (ad 4, .inl ((ck 4), 16, .inl rE)), (ad 5, .inl ((ck 5), 16, .inl nM)), (ad 6, .inl ((ck 6), 16, .inl lD)), (ad 7, .inl ((ck 7), 16, .inl bF)), (ad 8, .inl ((ck 8), 16, .inl oR)), (ad 9, .inl ((ck 9), 16, .inl cH)), (ad 10, .inr (3, [.ref (ad 11)])), (ad 11, .inl ((ck 11), 16, .inl lf)), (ad 12, .inr (4, [.ref (ad 13), .ref (ad 14), .ref (ad 15), .ref (ad 16)])), (ad 13, .inl ((ck 13), 32, .inl li)), (ad 14, .inl ((ck 14), 32, .inl us)), (ad 15, .inl ((ck 15), 32, .inl fe)), (ad 16, .inl ((ck 16), 32, .inl (fun k => nI (cf k)))), (ad 17, .inl (ck 17, 1, .inr (.inl (fun _ => z))))]
def TC (ck : Nat → ClassId) : List (ClassId × FieldType) := [(ck 2, .int), (ck 4, .int), (ck 5, .int), (ck 6, .int), (ck 7, .int), (ck 8, .int), (ck 9, .int), (ck 11, .int), (ck 13, .int), (ck 14, .int), (ck 15, .int), (ck 16, .int), (ck 17, .long)]
def MWl (ad : Nat → Nat) (ck : Nat → ClassId) (h : Nat → Int32) (mn mc : Int32) (mg : Int32) (mO mG mF mA mU mR : Nat → Int32) : va_W := [(ad 18, .inr (5, [.int mc, .int mn, .ref (ad 19), .int mg, .ref (ad 20), .ref (ad 21), .ref (ad 22), .ref (ad 23), .ref (ad 24), .ref (ad 25)])), (ad 19, .inl ((ck 19), 16, .inl h)), (ad 20, .inl ((ck 20), 16, .inl mO)), (ad 21, .inl ((ck 21), 16, .inl mG)), (ad 22, .inl ((ck 22), 16, .inl mF)), (ad 23, .inl ((ck 23), 32, .inl mA)), (ad 24, .inl ((ck 24), 32, .inl mU)), (ad 25, .inl ((ck 25), 32, .inl mR))]
def TM (ck : Nat → ClassId) : List (ClassId × FieldType) := [(ck 19, .int), (ck 20, .int), (ck 21, .int), (ck 22, .int), (ck 23, .int), (ck 24, .int), (ck 25, .int)]
def CWs (ad : Nat → Nat) (ck : Nat → ClassId) (h : Nat → Int32) (ct : Int32) (z : Int64) (w : va_W) : Prop := ∃ (gc : Int32) (rE nM lD bF oR cH lf li us fe : Nat → Int32) (cf : Nat → Nat), (∀ k, k < 32 → cf k < 32) ∧ w = CWl ad ck h ct gc rE nM lD bF oR cH lf li us fe cf z
def MWs (ad : Nat → Nat) (ck : Nat → ClassId) (h : Nat → Int32) (mn mc : Int32) (w : va_W) : Prop := ∃ (mg : Int32) (mO mG mF mA mU mR : Nat → Int32), w = MWl ad ck h mn mc mg mO mG mF mA mU mR
def ATC : List Cond := [Cond.castable eIA eIA, Cond.castable eIS eIS, Cond.castable eIO eIO, Cond.castable eNS eNS]
theorem ATC_ok : ∀ w ∈ ATC, (w.keepsFace && w.onTables) = true := by decide +kernel
theorem ATC_in : ∀ w ∈ ATC, w ∈ lw_tbl := by decide +kernel
def xaC (U : State) : Prop := ∀ w ∈ ATC, va_Nw w U
theorem xaC_moved {s U : State} (hW : s.WarmedH U.vm) (h : xaC s) : xaC U := fun w hw => by
  have hk := ATC_ok w hw
  rw [Bool.and_eq_true] at hk
  exact va_tabs hk.2 (rfl : (s.setVm U.vm).vm = U.vm) (Cond.before_shiftedFace (args := #[]) (State.Shifted.of_warmed hW) w hk.1 (h w hw))
theorem xaC_same {s U : State} (hv : s.vm = U.vm) (h : xaC s) : xaC U := fun w hw => by
  have hk := ATC_ok w hw
  rw [Bool.and_eq_true] at hk
  exact va_Nw.same hk.2 hv (h w hw)
theorem xaC_use {args : Array Value} {U : State} (h : xaC U) {w : Cond} (hw : w ∈ ATC) : w.before args U = true := by
  have hk := ATC_ok w hw
  rw [Bool.and_eq_true] at hk
  exact va_Nw.use hk.2 (h w hw)
def xNc (U : State) : Prop := (va_Nc eIS eIA U ∧ va_Nc eNS eIA U ∧ va_Nc eIO eIA U ∧ va_Nc eIO eNS U) ∧ xaC U
theorem xNc_moved {s U : State} (hW : s.WarmedH U.vm) (h : xNc s) : xNc U := ⟨⟨va_Nc.moved hW.alike h.1.1, va_Nc.moved hW.alike h.1.2.1, va_Nc.moved hW.alike h.1.2.2.1, va_Nc.moved hW.alike h.1.2.2.2⟩, xaC_moved hW h.2⟩
theorem xNc_same {U : State} {g : JFrame} {mk : MethodId} {a : Array Value} (h : xNc U) : xNc (U.calling g mk a) := ⟨⟨va_Nc.moved (u := U) (U := U.calling g mk a) (Vm.Alike.refl U.vm) h.1.1, va_Nc.moved (u := U) (U := U.calling g mk a) (Vm.Alike.refl U.vm) h.1.2.1, va_Nc.moved (u := U) (U := U.calling g mk a) (Vm.Alike.refl U.vm) h.1.2.2.1, va_Nc.moved (u := U) (U := U.calling g mk a) (Vm.Alike.refl U.vm) h.1.2.2.2⟩, xaC_same (s := U) (U := U.calling g mk a) rfl h.2⟩
def xLw (D : va_G) (ws : va_W) (tys : List (ClassId × FieldType)) (sz : Nat) (U : State) : Prop := xWn D ws tys sz U ∧ xNc U
theorem xWp_blind {D : va_G} {ws : va_W} {tys : List (ClassId × FieldType)} {sz : Nat} {a : Array Value} {U : State} {g : JFrame} {mk : MethodId} (q : xWp D ws tys sz U) : xWp D ws tys sz (U.calling g mk a) := ⟨q.1, q.2.1, va_K.moved (u := U) (U := U.calling g mk a) (Vm.Alike.refl U.vm) q.2.2.1, q.2.2.2.1, xn_same rfl q.2.2.2.2⟩
theorem xWt_blind {D : va_G} {ws : va_W} {tys : List (ClassId × FieldType)} {sz : Nat} {a : Array Value} {U : State} {g : JFrame} {mk : MethodId} (q : xWt D ws tys sz U) : xWt D ws tys sz (U.calling g mk a) := ⟨xWp_blind q.1, xTe_blind q.2⟩
theorem xWn_blind {D : va_G} {ws : va_W} {tys : List (ClassId × FieldType)} {sz : Nat} {a : Array Value} {U : State} {g : JFrame} {mk : MethodId} (q : xWn D ws tys sz U) : xWn D ws tys sz (U.calling g mk a) := ⟨xWt_blind q.1, xaN_same (s := U) (U := U.calling g mk a) rfl q.2⟩
theorem xLw_blind {D : va_G} {ws : va_W} {tys : List (ClassId × FieldType)} {sz : Nat} {a : Array Value} {U : State} {g : JFrame} {mk : MethodId} (q : xLw D ws tys sz U) : xLw D ws tys sz (U.calling g mk a) := ⟨xWn_blind q.1, xNc_same q.2⟩
theorem xWp_at {D : va_G} {ws : va_W} {tys : List (ClassId × FieldType)} {s U : State} {H : Heap} {A : Nat → Prop} (hP : va_P D cls ws H) (hD : va_D A ws) (hK : va_K D cls tys s) (hN : xn s) (hU : U.heap = H) (hW : s.WarmedH U.vm) : xWp D ws tys H.size U := ⟨by rw [hU], by rw [hU]; exact hP, va_K.moved hW.alike hK, hD.weaken (fun _ _ _ _ => trivial), xn_moved hW hN⟩
theorem xqVt {D : va_G} {ws : va_W} {tys : List (ClassId × FieldType)} {b : Nat} {As : List Value} {s : State} {H : Heap} {C : String} {A : Nat → Prop} {locs : List Loc} (hP : va_P D cls ws H) (hD : va_D A ws) (hK : va_K D cls tys s) (hN : xn s) (hz : xzq A s s.heap) (hA : ∀ q, s.heap.size ≤ q → A q) (hS : va_S A s.heap H locs) (hs : xsr s) (ha : xat s) (hr : ∃ cellB : Cell, H[b]? = some cellB ∧ cellB.vm.isStatics = false ∧ s.vm.findClass C = some cellB.cls) : PreV s H C b (va_Pc (.ref b :: As) (xWt D ws tys H.size)) As := ⟨fun a U g mk q => ⟨q.1, xWt_blind q.2⟩, hr, fun U hU hW => ⟨rfl, xWp_at hP hD hK hN hU hW, xTe_at hz hA hS hs ha hU hW⟩⟩
theorem xqVn {D : va_G} {ws : va_W} {tys : List (ClassId × FieldType)} {b : Nat} {As : List Value} {s : State} {H : Heap} {C : String} {A : Nat → Prop} {locs : List Loc} (hP : va_P D cls ws H) (hD : va_D A ws) (hK : va_K D cls tys s) (hN : xn s) (hz : xzq A s s.heap) (hA : ∀ q, s.heap.size ≤ q → A q) (hS : va_S A s.heap H locs) (hs : xsr s) (ha : xat s) (han : xaN s) (hr : ∃ cellB : Cell, H[b]? = some cellB ∧ cellB.vm.isStatics = false ∧ s.vm.findClass C = some cellB.cls) : PreV s H C b (va_Pc (.ref b :: As) (xWn D ws tys H.size)) As := ⟨fun a U g mk q => ⟨q.1, xWn_blind q.2⟩, hr, fun U hU hW => ⟨rfl, ⟨xWp_at hP hD hK hN hU hW, xTe_at hz hA hS hs ha hU hW⟩, xaN_moved hW han⟩⟩
theorem xqVe {b : Nat} {As : List Value} {s : State} {H : Heap} {C : String} {A : Nat → Prop} {locs : List Loc} (hz : xzq A s s.heap) (hA : ∀ q, s.heap.size ≤ q → A q) (hS : va_S A s.heap H locs) (hs : xsr s) (ha : xat s) (hr : ∃ cellB : Cell, H[b]? = some cellB ∧ cellB.vm.isStatics = false ∧ s.vm.findClass C = some cellB.cls) : PreV s H C b (va_Pc (.ref b :: As) (xTe H.size)) As := ⟨fun a U g mk q => ⟨q.1, xTe_blind q.2⟩, hr, fun U hU hW => ⟨rfl, xTe_at hz hA hS hs ha hU hW⟩⟩
theorem xqSl {D : va_G} {ws : va_W} {tys : List (ClassId × FieldType)} {As : List Value} {s : State} {H : Heap} {A : Nat → Prop} {locs : List Loc} (hP : va_P D cls ws H) (hD : va_D A ws) (hK : va_K D cls tys s) (hN : xn s) (hz : xzq A s s.heap) (hA : ∀ q, s.heap.size ≤ q → A q) (hS : va_S A s.heap H locs) (hs : xsr s) (ha : xat s) (han : xaN s) (hnc : xNc s) : PreS s H (va_Pc As (xLw D ws tys H.size)) As := ⟨fun a U g mk q => ⟨q.1, xLw_blind q.2⟩, fun U hU hW => ⟨rfl, ⟨⟨xWp_at hP hD hK hN hU hW, xTe_at hz hA hS hs ha hU hW⟩, xaN_moved hW han⟩, xNc_moved hW hnc⟩⟩
theorem xD_map {A : Nat → Prop} {ws ws' : va_W} (hD : va_D A ws) (h : ws'.map (fun q => q.1) = ws.map (fun q => q.1)) : va_D A ws' := by
  have key : ∀ (i : Nat) (q : Nat × va_E), ws'[i]? = some q → ∃ q', ws[i]? = some q' ∧ q'.1 = q.1 := by
    intro i q hq
    have h1 : (ws'.map (fun q => q.1))[i]? = some q.1 := by rw [List.getElem?_map, hq]; rfl
    rw [h, List.getElem?_map] at h1
    cases hw : ws[i]? with
    | none => rw [hw] at h1; cases h1
    | some q' => rw [hw] at h1; exact ⟨q', rfl, Option.some.inj h1⟩
  refine ⟨fun i j p q hp hq hpq => ?_, fun i q hq => ?_⟩
  · obtain ⟨p', h1, h2⟩ := key i p hp
    obtain ⟨q', h3, h4⟩ := key j q hq
    exact hD.1 i j p' q' h1 h3 (by rw [h2, h4]; exact hpq)
  · obtain ⟨q', h1, h2⟩ := key i q hq
    rw [← h2]; exact hD.2 i q' h1
theorem xP_extL {D : va_G} {ws : va_W} {H : Heap} (hP : va_P D cls ws H) (k : Nat) {a : Nat} {cA : ClassId} {n : Nat} {f : Nat → Int64} (g : Nat → Int64) (he : ws[k]? = some (a, .inl (cA, n, .inr (.inl f)))) (hfg : ∀ j, j < n → f j = g j) : va_P D cls (ws.set k (a, .inl (cA, n, .inr (.inl g)))) H := by
  intro i q hq
  by_cases hi : i = k
  · subst hi
    have hlt : i < ws.length := (List.getElem?_eq_some_iff.mp he).1
    rw [List.getElem?_set_self hlt] at hq
    cases hq
    have h1 : H[a]? = some (vp_cell cA (n, .inr (.inl f))) := hP i _ he
    show H[a]? = some (vp_cell cA (n, .inr (.inl g)))
    rw [h1, vp_cell_l, vp_cell_l, arrV_ext (fun j hj => by rw [hfg j hj])]
  · rw [List.getElem?_set_ne (fun q => hi q.symm)] at hq
    exact hP i q hq
theorem updL1 (z x : Int64) : ∀ j, j < 1 → vp_updL (fun _ => z) (nI 0).toNatClampNeg x j = (fun _ => x) j := by
  intro j hj
  have : j = 0 := by omega
  subst this
  exact if_pos rfl
abbrev xQe (D : va_G) (ws : va_W) (tys : List (ClassId × FieldType)) (sz : Nat) (r : Int32) (Ws : va_W → Prop) : Array Value → State → Outcome → State → Prop := va_Qi (fun (r' : Int32) (_ : Unit) => r' = r) (fun _ t => ∃ w', Ws w' ∧ xAt D w' tys (va_A ws sz) t) (va_A ws sz)
section XL
variable {p : Program} {l : Launch} {e : Env} {R : Room} {s : State} {m : MethodId} {args : Array Value} {below : List Frame} {meth : Method} {c : Code} {H : Heap} {locs : List Loc} {cells slots mc ms : Nat} {Q : State → Prop} {pc : Nat} {ls : Array Slot} {rest st0 : List Value} {D : va_G} {ws wc wr w1 : va_W} {tyc : List (ClassId × FieldType)} {A : Nat → Prop} {a : Array Value} {cc : ByteArray}
theorem xw_x {E : String} (hr : vx_Run p l e R s m args below meth c H locs cells slots mc ms (F0 m pc ls st0) rest (fun _ _ _ => False) (xXw E D w1 (va_A wc H.size)) (va_A wc H.size)) (hP : va_P D cls ws H) (hD : va_D A ws) (hS : va_S A s.heap H locs) (hA : ∀ q, s.heap.size ≤ q → A q) (isC isR : List Nat) (hC : isC.map (fun i => ws[i]?) = wc.map some) (hnC : va_nd isC = true) (hR : isR.map (fun i => ws[i]?) = wr.map some) (hn : va_nd isR = true) (hdis : ∀ i ∈ isR, i ∉ isC) (hm : w1.map (fun q => q.1) = wc.map (fun q => q.1))
    (kk : ∀ (ce : Cell) (q9 : Addr) (H1 : Heap) (locs1 : List Loc), va_P D cls (wr ++ w1) H1 → va_D A (wr ++ w1) → va_S A s.heap H1 locs1 → H1[q9]? = some ce → ce.vm = .none → s.vm.findClass E = some ce.cls → vx_W p l e R s m args below meth c H1 locs1 (cells + mc) (slots + ms) Q (F0 m pc ls rest) q9) : W p l e R s m args below meth c H locs cells slots Q (F0 m pc ls st0) := by
  have hFc := va_free (wc := wc) hD hS hA isC hC
  have hDc : va_D (va_A wc H.size) wc := (hD.sub isC hnC hC).self
  intro T hT X
  rcases hr T hT X with ⟨v, st₀, t, T', L, h0, X', hL, e1, e2, hF, st⟩ | ⟨q, st₀, t, T', L, E', ce, h0, X', hL, e1, e2, ⟨u, hp, ⟨hb, hP1⟩, hF⟩, hce, hcv, hcl, st⟩
  · exact hF.elim
  · subst hb
    obtain ⟨k1, k2, k3⟩ := vx_keep (A0 := A) (H0 := s.heap) h0 e1 hS (fun q _ h => hFc q h) hFc hL hF
    rw [← e1] at hP1
    obtain ⟨hP2, hD2⟩ := va_join hP hD isC isR hC hR hn hdis k2 hFc hP1 (xD_map hDc hm)
    obtain ⟨t2, a1, b1⟩ := kk ce q T'.heap (locs ++ L) hP2 hD2 k3 (by rw [e1]; exact hce) hcv hcl T' rfl X'
    exact ⟨t2, st.trans a1, b1⟩
theorem xw_e {r : Int32} {Ws : va_W → Prop} (hr : va_Run p l e R s m args below meth c H locs cells slots mc ms (F0 m pc ls st0) rest (xQe D wc tyc H.size r Ws a) (va_A wc H.size)) (hP : va_P D cls ws H) (hD : va_D A ws) (hS : va_S A s.heap H locs) (hA : ∀ q, s.heap.size ≤ q → A q) (isC isR : List Nat) (hC : isC.map (fun i => ws[i]?) = wc.map some) (hR : isR.map (fun i => ws[i]?) = wr.map some) (hn : va_nd isR = true) (hdis : ∀ i ∈ isR, i ∉ isC)
    (kk : ∀ (w1 : va_W) (H1 : Heap) (locs1 : List Loc), Ws w1 → va_P D cls (wr ++ w1) H1 → va_D A (wr ++ w1) → va_S A s.heap H1 locs1 → W p l e R s m args below meth c H1 locs1 (cells + mc) (slots + ms) Q (F0 m (pc + 3) ls (.int r :: rest))) : W p l e R s m args below meth c H locs cells slots Q (F0 m pc ls st0) := by
  have hFc := va_free (wc := wc) hD hS hA isC hC
  refine va_calli hr hS (fun q _ h => hFc q h) hFc (fun r' u t H1 locs1 ht hvm hw hB hz1 hk1 hS1 => ?_)
  obtain ⟨w1, hw1, hP1, hK1, hD1⟩ := hB
  rw [ht] at hP1
  obtain ⟨hP2, hD2⟩ := va_join hP hD isC isR hC hR hn hdis hk1 hFc hP1 hD1
  rw [hw]
  exact kk w1 H1 locs1 hw1 hP2 hD2 hS1
theorem xl_cmp (hexec : p.tables.exec = Jvm.exec) (hb : c.code = cc) {x : Int64} (hdg : decode cc pc = .ok (.lcmp, 1)) (k : W p l e R s m args below meth c H locs cells slots Q (F0 m (pc + 1) ls (.int 0 :: rest))) : W p l e R s m args below meth c H locs cells slots Q (F0 m pc ls (.long x :: .long x :: rest)) := by
  intro T hT X
  obtain ⟨t, a, b⟩ := k T hT X
  refine ⟨t, ?_, b⟩
  have h1 : ¬ x < x := Int64.lt_irrefl
  jvm_step X.here [X.here.top, hexec, hb, hdg, h1]
  exact a
theorem xl_c {σ : Type} {L : Nat} {st : List Value} (I : σ → Array Slot → Heap → List Loc → Prop) (μ fc fs : σ → Nat)
    (hs : ∀ (a : σ) (ls : Array Slot) (H : Heap) (locs : List Loc), I a ls H locs → (∀ (b : σ) (ls' : Array Slot) (H' : Heap) (locs' : List Loc), I b ls' H' locs' → μ b < μ a → W p l e R s m args below meth c H' locs' (fc b) (fs b) Q (F0 m L ls' st)) → W p l e R s m args below meth c H locs (fc a) (fs a) Q (F0 m L ls st))
    (a : σ) (ls : Array Slot) (h : I a ls H locs) : W p l e R s m args below meth c H locs (fc a) (fs a) Q (F0 m L ls st) := by
  have key : ∀ (n : Nat) (a : σ) (ls : Array Slot) (H : Heap) (locs : List Loc), μ a < n → I a ls H locs → W p l e R s m args below meth c H locs (fc a) (fs a) Q (F0 m L ls st) := by
    intro n
    induction n with
    | zero => intro a ls H locs h1; omega
    | succ n ih =>
      intro a ls H locs h1 h2
      exact hs a ls H locs h2 (fun b ls' H' locs' h3 h4 => ih b ls' H' locs' (by omega) h3)
  exact key (μ a + 1) a ls H locs (by omega) h
end XL
theorem my_IA : Cond.classLink R_L 13 eIA ∈ BS := BS_in (k := 127) (by decide +kernel) (by decide +kernel)
theorem my_IS : Cond.classLink R_L 15 eIS ∈ BS := BS_in (k := 128) (by decide +kernel) (by decide +kernel)
theorem my_IO : Cond.classLink R_L 33 eIO ∈ BS := BS_in (k := 322) (by decide +kernel) (by decide +kernel)
theorem my_NS : Cond.classLink R_L 46 eNS ∈ BS := BS_in (k := 392) (by decide +kernel) (by decide +kernel)
abbrev hh_L_add : List (Nat × Nat × Nat × Nat) := [(0, 17, 20, 13), (0, 17, 24, 15)]
theorem mc_L_add : Cond.codeWith y_L_add c_L_add 5 (some .int) hh_L_add ∈ BS := BS_in (k := 126) (by decide +kernel) (by decide +kernel)
abbrev hh_L_remove : List (Nat × Nat × Nat × Nat) := [(0, 17, 20, 13)]
theorem mc_L_remove : Cond.codeWith y_L_remove c_L_remove 5 (some .int) hh_L_remove ∈ BS := BS_in (k := 241) (by decide +kernel) (by decide +kernel)
abbrev hh_L_group : List (Nat × Nat × Nat × Nat) := [(0, 9, 12, 13)]
theorem mc_L_group : Cond.codeWith y_L_group c_L_group 4 (some .int) hh_L_group ∈ BS := BS_in (k := 252) (by decide +kernel) (by decide +kernel)
abbrev hh_L_members : List (Nat × Nat × Nat × Nat) := [(0, 9, 12, 13)]
theorem mc_L_members : Cond.codeWith y_L_members c_L_members 4 (some .int) hh_L_members ∈ BS := BS_in (k := 299) (by decide +kernel) (by decide +kernel)
abbrev hh_L_rank : List (Nat × Nat × Nat × Nat) := [(0, 9, 12, 13)]
theorem mc_L_rank : Cond.codeWith y_L_rank c_L_rank 4 (some .int) hh_L_rank ∈ BS := BS_in (k := 310) (by decide +kernel) (by decide +kernel)
abbrev hh_L_ranked : List (Nat × Nat × Nat × Nat) := [(0, 9, 12, 33)]
theorem mc_L_ranked : Cond.codeWith y_L_ranked c_L_ranked 4 (some .int) hh_L_ranked ∈ BS := BS_in (k := 321) (by decide +kernel) (by decide +kernel)
abbrev hh_L_reaches : List (Nat × Nat × Nat × Nat) := [(0, 17, 20, 13)]
theorem mc_L_reaches : Cond.codeWith y_L_reaches c_L_reaches 5 (some .int) hh_L_reaches ∈ BS := BS_in (k := 353) (by decide +kernel) (by decide +kernel)
abbrev hh_L_distance : List (Nat × Nat × Nat × Nat) := [(0, 10, 13, 13)]
theorem mc_L_distance : Cond.codeWith y_L_distance c_L_distance 5 (some .int) hh_L_distance ∈ BS := BS_in (k := 370) (by decide +kernel) (by decide +kernel)
abbrev hh_L_way : List (Nat × Nat × Nat × Nat) := [(0, 12, 15, 13), (0, 12, 19, 46), (0, 12, 23, 33)]
theorem mc_L_way : Cond.codeWith y_L_way c_L_way 6 (some .int) hh_L_way ∈ BS := BS_in (k := 391) (by decide +kernel) (by decide +kernel)
abbrev hh_L_gate : List (Nat × Nat × Nat × Nat) := [(0, 10, 13, 13), (0, 10, 17, 46)]
theorem mc_L_gate : Cond.codeWith y_L_gate c_L_gate 5 (some .int) hh_L_gate ∈ BS := BS_in (k := 423) (by decide +kernel) (by decide +kernel)
abbrev hh_L_gated : List (Nat × Nat × Nat × Nat) := [(0, 10, 13, 13)]
theorem mc_L_gated : Cond.codeWith y_L_gated c_L_gated 5 (some .int) hh_L_gated ∈ BS := BS_in (k := 438) (by decide +kernel) (by decide +kernel)
abbrev hh_L_places : List (Nat × Nat × Nat × Nat) := [(0, 10, 13, 13)]
theorem mc_L_places : Cond.codeWith y_L_places c_L_places 5 (some .int) hh_L_places ∈ BS := BS_in (k := 451) (by decide +kernel) (by decide +kernel)
abbrev hh_L_arrows : List (Nat × Nat × Nat × Nat) := [(0, 10, 13, 13)]
theorem mc_L_arrows : Cond.codeWith y_L_arrows c_L_arrows 5 (some .int) hh_L_arrows ∈ BS := BS_in (k := 490) (by decide +kernel) (by decide +kernel)
abbrev hh_L_figure : List (Nat × Nat × Nat × Nat) := [(0, 9, 12, 13)]
theorem mc_L_figure : Cond.codeWith y_L_figure c_L_figure 4 (some .int) hh_L_figure ∈ BS := BS_in (k := 501) (by decide +kernel) (by decide +kernel)
