def eIA : String := "java/lang/IllegalArgumentException"
def eIS : String := "java/lang/IllegalStateException"
def eIO : String := "java/lang/IndexOutOfBoundsException"
def eNS : String := "java/util/NoSuchElementException"
def eUp : List String := ["java/lang/RuntimeException", "java/lang/Exception"]
def ATS : List Cond := vx_atS R_A 45 eIA eUp ++ (vx_atS R_A 60 eIS eUp ++ (vx_atS R_A 93 eIO eUp ++ [Cond.classLink R_A 41 eIA, Cond.initialized eIA, Cond.classLink R_A 56 eIS, Cond.initialized eIS, Cond.classLink R_A 89 eIO, Cond.initialized eIO, Cond.classLink R_A 114 eNS, Cond.initialized eNS]))
theorem ATS_ok : ∀ w ∈ ATS, (w.keepsFace && w.onTables) = true := by decide +kernel
theorem ATS_ot : ∀ w ∈ ATS, vx_ot w = true := by decide +kernel
theorem ATS_i1 : ∀ w ∈ vx_atS R_A 45 eIA eUp, w ∈ lw_tbl := by decide +kernel
theorem ATS_i2 : ∀ w ∈ vx_atS R_A 60 eIS eUp, w ∈ lw_tbl := by decide +kernel
theorem ATS_i3 : ∀ w ∈ vx_atS R_A 93 eIO eUp, w ∈ lw_tbl := by decide +kernel
theorem ATS_i5 : ∀ w ∈ [Cond.classLink R_A 41 eIA, Cond.initialized eIA, Cond.classLink R_A 56 eIS, Cond.initialized eIS, Cond.classLink R_A 89 eIO, Cond.initialized eIO, Cond.classLink R_A 114 eNS, Cond.initialized eNS], w ∈ lw_tbl := by decide +kernel
theorem ATS_in : ∀ w ∈ ATS, w ∈ lw_tbl := fun w h => (List.mem_append.mp h).elim (ATS_i1 w) (fun h => (List.mem_append.mp h).elim (ATS_i2 w) (fun h => (List.mem_append.mp h).elim (ATS_i3 w) (ATS_i5 w)))
def xat (U : State) : Prop := ∀ w ∈ ATS, va_Nw w U
theorem xat_moved {s U : State} (hW : s.WarmedH U.vm) (h : xat s) : xat U := fun w hw => by
  have hk := ATS_ok w hw
  rw [Bool.and_eq_true] at hk
  exact va_tabs hk.2 (rfl : (s.setVm U.vm).vm = U.vm) (Cond.before_shiftedFace (args := #[]) (State.Shifted.of_warmed hW) w hk.1 (h w hw))
theorem xat_same {s U : State} (hv : s.vm = U.vm) (h : xat s) : xat U := fun w hw => by
  have hk := ATS_ok w hw
  rw [Bool.and_eq_true] at hk
  exact va_Nw.same hk.2 hv (h w hw)
theorem xat_use {args : Array Value} {U : State} (h : xat U) {w : Cond} (hw : w ∈ ATS) : w.before args U = true := by
  have hk := ATS_ok w hw
  rw [Bool.and_eq_true] at hk
  exact va_Nw.use hk.2 (h w hw)
def xsr (U : State) : Prop := (∃ q, vk_R R_A 159 "a place is 0 .. 15" q U) ∧ (∃ q, vk_R R_A 43 "an arrow leads to another place" q U) ∧ (∃ q, vk_R R_A 58 "there are 80 arrows" q U) ∧ (∃ q, vk_R R_A 91 "the order has no such group" q U) ∧ (∃ q, vk_R R_A 116 "there is no way" q U) ∧ (∃ q, vk_R R_A 119 "the way has no such place" q U) ∧ (∃ q, vk_R R_A 145 "there is no such figure" q U)
theorem xsr_moved {s U : State} (hW : s.WarmedH U.vm) (h : xsr s) : xsr U := by
  obtain ⟨⟨a1, h1⟩, ⟨a2, h2⟩, ⟨a3, h3⟩, ⟨a4, h4⟩, ⟨a5, h5⟩, ⟨a6, h6⟩, ⟨a7, h7⟩⟩ := h
  exact ⟨⟨a1, vk_R.warm hW h1⟩, ⟨a2, vk_R.warm hW h2⟩, ⟨a3, vk_R.warm hW h3⟩, ⟨a4, vk_R.warm hW h4⟩, ⟨a5, vk_R.warm hW h5⟩, ⟨a6, vk_R.warm hW h6⟩, ⟨a7, vk_R.warm hW h7⟩⟩
theorem xsr_same {s U : State} (hv : s.vm = U.vm) (h : xsr s) : xsr U := by
  obtain ⟨⟨a1, h1⟩, ⟨a2, h2⟩, ⟨a3, h3⟩, ⟨a4, h4⟩, ⟨a5, h5⟩, ⟨a6, h6⟩, ⟨a7, h7⟩⟩ := h
  exact ⟨⟨a1, vk_R.same hv.symm h1⟩, ⟨a2, vk_R.same hv.symm h2⟩, ⟨a3, vk_R.same hv.symm h3⟩, ⟨a4, vk_R.same hv.symm h4⟩, ⟨a5, vk_R.same hv.symm h5⟩, ⟨a6, vk_R.same hv.symm h6⟩, ⟨a7, vk_R.same hv.symm h7⟩⟩
def xzq (A : Nat → Prop) (U : State) (H : Heap) : Prop := vx_Zq Bundle.tN "UNASSIGNED_STACK" Bundle.steD A U H ∧ vx_Zq Bundle.tN "SUPPRESSED_SENTINEL" Bundle.listD A U H
theorem va_at_ns {D : va_G} {cl : List vw_C} {q : Nat × va_E} {H : Heap} (h : va_at D cl q H) {cell : Cell} (hc : H[q.1]? = some cell) : cell.vm.isStatics = false := by
  obtain ⟨a, x⟩ := q
  cases x with
  | inl y =>
    have h : H[a]? = some (vp_cell y.1 y.2) := h
    have hc : H[a]? = some cell := hc
    rw [h] at hc
    cases hc
    obtain ⟨cA, n, z⟩ := y
    rcases z with f | f | f | f | f <;> rfl
  | inr o =>
    obtain ⟨r, h1, cell', g1, g2, g3, -⟩ := h
    have hc : H[a]? = some cell := hc
    have g1 : H[a]? = some cell' := g1
    rw [g1] at hc
    cases hc
    rw [g3]; rfl
theorem xz_Z {C n d : String} {v : Value} {D : va_G} {cl : List vw_C} {ws : va_W} {U : State} {sz : Nat} {H : Heap} (hP : va_P D cl ws H) (h : va_Z C n d v (fun q => sz ≤ q) U H) : va_Z C n d v (va_A ws sz) U H := by
  obtain ⟨cf, kf, fi, f, a, cell, h1, h2, h3, h4, h5, h6, h7, h8⟩ := h
  refine ⟨cf, kf, fi, f, a, cell, h1, h2, h3, h4, h5, h6, h7, ?_⟩
  rintro (⟨k, e, hk⟩ | hq)
  · have := va_at_ns (hP k (a, e) hk) (cell := cell) h5
    rw [h6] at this; cases this
  · exact h8 hq
theorem xz_L {C n d : String} {D : va_G} {cl : List vw_C} {ws : va_W} {U : State} {sz : Nat} {H : Heap} (hP : va_P D cl ws H) (h : vx_L C n d (fun q => sz ≤ q) U H) : vx_L C n d (va_A ws sz) U H := by
  obtain ⟨c, k, i, f, a, cell, h1, h2, h3, h4, h5, h6, h7, h8, h9, h10⟩ := h
  refine ⟨c, k, i, f, a, cell, h1, h2, h3, h4, h5, h6, h7, h8, h9, ?_⟩
  rintro (⟨j, e, hk⟩ | hq)
  · have := va_at_ns (hP j (a, e) hk) (cell := cell) h5
    rw [h6] at this; cases this
  · exact h10 hq
theorem xz_up {D : va_G} {ws : va_W} {U : State} {sz : Nat} {H : Heap} (hP : va_P D cls ws H) (h : xzq (fun q => sz ≤ q) U H) : xzq (va_A ws sz) U H := by
  obtain ⟨⟨h1, h2⟩, ⟨h3, h4⟩⟩ := h
  refine ⟨⟨?_, xz_L hP h2⟩, ⟨?_, xz_L hP h4⟩⟩
  · rcases h1 with h1 | ⟨t, h1⟩
    · exact Or.inl (xz_Z hP h1)
    · exact Or.inr ⟨t, xz_Z hP h1⟩
  · rcases h3 with h3 | ⟨t, h3⟩
    · exact Or.inl (xz_Z hP h3)
    · exact Or.inr ⟨t, xz_Z hP h3⟩
def xTe (sz : Nat) (U : State) : Prop := U.heap.size = sz ∧ xzq (fun q => sz ≤ q) U U.heap ∧ xsr U ∧ xat U
theorem xTe_blind {sz : Nat} {a : Array Value} {U : State} {g : JFrame} {mk : MethodId} (h : xTe sz U) : xTe sz (U.calling g mk a) := ⟨h.1, ⟨vx_Zq.moved (u := U) (U := U.calling g mk a) (Vm.Alike.refl U.vm) h.2.1.1, vx_Zq.moved (u := U) (U := U.calling g mk a) (Vm.Alike.refl U.vm) h.2.1.2⟩, xsr_same (s := U) (U := U.calling g mk a) rfl h.2.2.1, xat_same (s := U) (U := U.calling g mk a) rfl h.2.2.2⟩
theorem xTe_at {A : Nat → Prop} {s U : State} {H : Heap} {locs : List Loc} (hz : xzq A s s.heap) (hA : ∀ q, s.heap.size ≤ q → A q) (hS : va_S A s.heap H locs) (hs : xsr s) (ha : xat s) (hU : U.heap = H) (hW : s.WarmedH U.vm) : xTe H.size U := by
  have key : ∀ q : Nat, q < s.heap.size → ¬ A q → H[q]? = s.heap[q]? := hS.2.1
  have nar : ∀ q, (fun q => H.size ≤ q) q → A q := fun q hq => hA q (Nat.le_trans hS.1 hq)
  refine ⟨by rw [hU], ⟨?_, ?_⟩, xsr_moved hW hs, xat_moved hW ha⟩
  · rw [hU]; exact vx_Zq.moved hW.alike ((hz.1.kept key).narrow nar)
  · rw [hU]; exact vx_Zq.moved hW.alike ((hz.2.kept key).narrow nar)
