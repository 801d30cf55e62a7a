def xWt (D : va_G) (ws : va_W) (tys : List (ClassId × FieldType)) (sz : Nat) (U : State) : Prop := xWp D ws tys sz U ∧ xTe sz U
abbrev xXw (E : String) (D : va_G) (ws' : va_W) (A : Nat → Prop) : String → State → State → Prop := vx_X (fun _ : Unit => True) (fun E' _ t => E' = E ∧ va_P D cls ws' t.heap) A
theorem xX_mk {E : String} {D : va_G} {ws' : va_W} {A : Nat → Prop} {s t : State} {H : Heap} {locs : List Loc} (hS : va_S A s.heap H locs) (hP : va_P D cls ws' H) (h2 : H.size ≤ t.heap.size) (h3 : ∀ q : Nat, q < H.size → t.heap[q]? = H[q]?) : xXw E D ws' A E s t := by
  refine ⟨(), trivial, ⟨rfl, hP.kept (fun k q hk => h3 q.1 (hP k q hk).lt)⟩, Nat.le_trans hS.1 h2, fun q hq hn => ?_⟩
  rw [h3 q (Nat.lt_of_lt_of_le hq hS.1)]
  exact hS.2.1 q hq hn
theorem ATS_g1 : ∀ w ∈ Cond.classLink R_A 41 eIA :: Cond.initialized eIA :: vx_atS R_A 45 eIA eUp, vx_ot w = true := by decide +kernel
theorem ATS_g2 : ∀ w ∈ Cond.classLink R_A 56 eIS :: Cond.initialized eIS :: vx_atS R_A 60 eIS eUp, vx_ot w = true := by decide +kernel
theorem ATS_g3 : ∀ w ∈ Cond.classLink R_A 89 eIO :: Cond.initialized eIO :: vx_atS R_A 93 eIO eUp, vx_ot w = true := by decide +kernel
