theorem ATS_1 : ∀ w ∈ vx_atS R_A 45 eIA eUp, w ∈ ATS := fun w h => List.mem_append_left _ h
theorem ATS_2 : ∀ w ∈ vx_atS R_A 60 eIS eUp, w ∈ ATS := fun w h => List.mem_append_right _ (List.mem_append_left _ h)
theorem ATS_3 : ∀ w ∈ vx_atS R_A 93 eIO eUp, w ∈ ATS := fun w h => List.mem_append_right _ (List.mem_append_right _ (List.mem_append_left _ h))
theorem ATS_k {k : Nat} {w : Cond} (h : [Cond.classLink R_A 41 eIA, Cond.initialized eIA, Cond.classLink R_A 56 eIS, Cond.initialized eIS, Cond.classLink R_A 89 eIO, Cond.initialized eIO, Cond.classLink R_A 114 eNS, Cond.initialized eNS][k]? = some w) : w ∈ ATS := List.mem_append_right _ (List.mem_append_right _ (List.mem_append_right _ (List.mem_of_getElem? h)))
abbrev xXf (E : String) (sz : Nat) : String → State → State → Prop := vx_X (fun _ : Unit => True) (fun E' _ _ => E' = E) (fun q => sz ≤ q)
theorem xsz_A {sz : Nat} : (fun q => sz ≤ q) = va_A [] sz := by
  funext q
  apply propext
  constructor
  · exact Or.inr
  · rintro (⟨k, e, h⟩ | h)
    · simp at h
    · exact h
theorem eIA_fit : Bundle.fit eIA = true := by decide +kernel
theorem eIS_fit : Bundle.fit eIS = true := by decide +kernel
theorem eIO_fit : Bundle.fit eIO = true := by decide +kernel
theorem eUp_fit : ∀ n ∈ eUp, Bundle.fit n = true := by decide +kernel
set_option maxHeartbeats 4000000 in
set_option maxRecDepth 100000 in
theorem t_A_requirePlace (l : Launch) (hlt : l.stackTraces = false) (x : Int32) (hb9 : isP x = false) (sz : Nat) : vx_Met l y_A_requirePlace (Cond.code y_A_requirePlace c_A_requirePlace 1 none :: BS) { frames := 6, cells := 1, slots := 6, locals := 100 } (va_Pc [.int x] (xTe sz)) (fun _ _ _ _ => False) (xXf eIA sz) 1 6 (fun q => sz ≤ q) := by
  refine vx_ofW (cc := c_A_requirePlace) (maxL := 1) (ret := none) (by decide) rfl ?_
  intro p e s m args below meth c s₁ B hml hnt hv
  obtain ⟨rfl, hsz, hz, hsr, hat⟩ := hv
  have hx := B.exec
  have hb := B.bytes
  have hown : s.vm.findClass R_A = some m.cls := findClass_of_methodNamed B.named
  have hlocks := B.notSynchronized
  subst hsz
  have hS : va_S (fun q => s.heap.size ≤ q) s.heap s.heap [] := va_S.rf
  have hl := lv_entry ([.int x]) (n := 1) (Nat.le_of_ble_eq_true rfl)
  rw [lg_entry_eq]
  generalize (lg_sl ([.int x]) ++ List.replicate (1 - (lg_sl ([.int x])).length) Slot.unset).toArray = ls at hl ⊢
  have hl : lv_has ls 1 [(0, .int x)] := hl
  obtain ⟨⟨sa, hstr⟩, -⟩ := hsr
  have T : W p l e (headSpec (Cond.code y_A_requirePlace c_A_requirePlace 1 none :: BS) { frames := 6, cells := 1, slots := 6, locals := 100 }).room s m #[Value.int x] below meth c s.heap [] 0 0 (vx_MQ below (fun _ _ _ _ => False) (xXf eIA s.heap.size) #[Value.int x] s 1 6 (fun q => s.heap.size ≤ q)) (F0 m 10 ls []) := by
    refine vx_throwS hx hb hlt (cls := eIA) (names := eUp) (ik := 41) (is := 159) (ic := 45) hown eIA_fit eUp_fit (xat_use hat (ATS_k (k := 0) rfl)) (xat_use hat (ATS_k (k := 1) rfl)) hstr (fun w hw => xat_use hat (ATS_1 w hw)) (fun w hw => ?_) hz.1 hz.2 hS (hl.1.trans hml.symm) d_A_requirePlace_10 d_A_requirePlace_13 d_A_requirePlace_14 d_A_requirePlace_16 d_A_requirePlace_19 (fun x hx => (hnt x hx).elim) (by decide) (by decide) (by decide) (by decide) hlocks (fun t _ ht2 ht3 => ⟨(), trivial, rfl, ht2, fun q hq _ => ht3 q hq⟩) hS.2.2 (Nat.le_refl _) (Nat.le_refl _)
    rcases List.mem_cons.mp hw with h1 | h1
    · rw [h1]; exact ATS_ot _ (ATS_k (k := 0) rfl)
    · rcases List.mem_cons.mp h1 with h1 | h1
      · rw [h1]; exact ATS_ot _ (ATS_k (k := 1) rfl)
      · exact ATS_ot _ (ATS_1 w h1)
  refine lv_iload_n hx hb d_A_requirePlace_0 rfl (lv_at hl 0 rfl) ?_
  refine lv_if_lt (tgt := 10) hx hb d_A_requirePlace_1 rfl (fun _ => T) (fun hc1 => ?_)
  refine lv_iload_n hx hb d_A_requirePlace_4 rfl (lv_at hl 0 rfl) ?_
  refine lv_bipush (v := nI 16) hx hb d_A_requirePlace_5 (by decide) ?_
  refine lv_icmp_lt (tgt := 20) hx hb d_A_requirePlace_7 rfl (fun hc7 => ?_) (fun _ => T)
  exfalso
  obtain ⟨j, hj, hxj⟩ := nI_of hc1
  rw [hxj] at hc7 hb9
  have := (nI_ltI (by omega) (by omega)).mp hc7
  rw [isP_nI this] at hb9
  cases hb9
