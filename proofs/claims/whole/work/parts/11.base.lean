def b2i (b : Bool) : Int32 := if b = true then 1 else 0
theorem b2i_0 {b : Bool} : b2i b = 0 ↔ b = false := by cases b <;> decide
theorem b2i_n {b : Bool} : ¬ b2i b = 0 ↔ b = true := by cases b <;> decide
theorem b2i_1 {b : Bool} : b2i b = 1 ↔ b = true := by cases b <;> decide
theorem b2i_nar (b : Bool) : narrow .boolean (.int (b2i b)) = .int (b2i b) := by cases b <;> decide
def BS : List Cond := lw_tbl.filter goodWord
theorem BS_in {w : Cond} {k : Nat} (h : tables_1[k]? = some w) (hg : goodWord w = true) : w ∈ BS := List.mem_filter.mpr ⟨List.mem_append_right _ (List.mem_of_getElem? h), hg⟩
theorem BS_sel {w : Cond} {k : Nat} (h : (k2_sels lw_privs)[k]? = some w) (hg : goodWord w = true) : w ∈ BS := List.mem_filter.mpr ⟨List.mem_append_left _ (List.mem_of_getElem? h), hg⟩
theorem xg {c1 c2 : Cond} (h : c2 ∈ BS) : GoodIn (c1 :: BS) (c2 :: BS) := by
  intro w hw
  have hm : w ∈ BS := by
    rcases List.mem_cons.mp hw with h1 | h1
    · rw [h1]; exact h
    · exact h1
  exact ⟨List.mem_cons_of_mem _ hm, good_of_word (List.mem_filter.mp hm).2⟩
section XB
variable {p : Program} {l : Launch} {e : Env} {R : Room} {s : State} {m : MethodId} {args : Array Value} {below : List Frame} {meth : Method} {c : Code} {H : Heap} {locs : List Loc} {cells slots : Nat} {Q : State → Prop} {cc : ByteArray} {pc : Nat} {ls : Array Slot} {rest : List Value}
theorem xv_top {x x' : Int32} (h : x = x') (k : W p l e R s m args below meth c H locs cells slots Q (F0 m pc ls (.int x' :: rest))) : W p l e R s m args below meth c H locs cells slots Q (F0 m pc ls (.int x :: rest)) := by
  rw [h]; exact k
theorem xr_call {r : Int32} {g : JFrame} {a : Array Value} (hr : va_Run p l e R s m args below meth c H locs cells slots 0 0 g rest (QcRead r a) (fun _ => False)) (kk : W p l e R s m args below meth c H locs cells slots Q { g with pc := g.pc + 3, stack := .int r :: rest }) : W p l e R s m args below meth c H locs cells slots Q g := by
  intro T hT X
  obtain ⟨v, st₀, t, T', L, h0, X', hL, e1, -, ⟨hv, hh⟩, st⟩ := hr T hT X
  cases hv
  obtain ⟨t2, a1, b1⟩ := kk T' (by rw [e1, hh, h0]) (Stand.forget X' (fun q h => (hL q h).elim))
  exact ⟨t2, st t2 a1, b1⟩
variable {D : va_G} {cl : List vw_C} {tys : List (ClassId × FieldType)} {ws : va_W} {A : Nat → Prop} {H0 : Heap} {a : Nat}
theorem xa_ld (hexec : p.tables.exec = Jvm.exec) (hb : c.code = cc) (hK : va_K D cl tys s) (hP : va_P D cl ws H) (q0 t0 : Nat) {cA : ClassId} {n : Nat} {f : Nat → Int32} (ha : ws[q0]? = some (a, .inl (cA, n, .inl f))) (ht : tys[t0]? = some (cA, .int)) {u : Nat} (hu : u < n) (hn : n < 2 ^ 31) (hdg : decode cc pc = .ok (.iaload, 1))
    (kk : W p l e R s m args below meth c H locs cells slots Q (F0 m (pc + 1) ls (.int (f u) :: rest))) : W p l e R s m args below meth c H locs cells slots Q (F0 m pc ls (.int (nI u) :: .ref a :: rest)) := by
  refine va_iald hexec hb hK hP q0 t0 ha ht (vp_in_nI hu hn) hdg ?_
  rw [nI_clamp (by omega)]
  exact kk
theorem xa_st (hexec : p.tables.exec = Jvm.exec) (hb : c.code = cc) (hK : va_K D cl tys s) (hP : va_P D cl ws H) (hD : va_D A ws) (hS : va_S A H0 H locs) (q0 t0 : Nat) {cA : ClassId} {n : Nat} {f : Nat → Int32} (ha : ws[q0]? = some (a, .inl (cA, n, .inl f))) (ht : tys[t0]? = some (cA, .int)) {u : Nat} {x : Int32} (hu : u < n) (hn : n < 2 ^ 31) (hdg : decode cc pc = .ok (.iastore, 1))
    (kk : ∀ (H1 : Heap) (locs1 : List Loc), va_P D cl (ws.set q0 (a, .inl (cA, n, .inl (upd f u x)))) H1 → va_D A (ws.set q0 (a, .inl (cA, n, .inl (upd f u x)))) → va_S A H0 H1 locs1 → W p l e R s m args below meth c H1 locs1 cells slots Q (F0 m (pc + 1) ls rest)) : W p l e R s m args below meth c H locs cells slots Q (F0 m pc ls (.int x :: .int (nI u) :: .ref a :: rest)) := by
  refine va_iast hexec hb hK hP hD hS q0 t0 ha ht (vp_in_nI hu hn) hdg ?_
  rw [nI_clamp (by omega)]
  exact kk
theorem xl_r {σ : Type} {L : Nat} {st : List Value} (I : σ → Array Slot → Prop) (μ : σ → Nat)
    (hs : ∀ (a : σ) (ls : Array Slot), I a ls → (∀ (b : σ) (ls' : Array Slot), I b ls' → μ b < μ a → W p l e R s m args below meth c H locs cells slots Q (F0 m L ls' st)) → W p l e R s m args below meth c H locs cells slots Q (F0 m L ls st))
    (a : σ) (ls : Array Slot) (h : I a ls) : W p l e R s m args below meth c H locs cells slots Q (F0 m L ls st) := by
  have key : ∀ (n : Nat) (a : σ) (ls : Array Slot), μ a < n → I a ls → W p l e R s m args below meth c H locs cells slots Q (F0 m L ls st) := by
    intro n
    induction n with
    | zero => intro a ls h1; omega
    | succ n ih =>
      intro a ls h1 h2
      exact hs a ls h2 (fun b ls' h3 h4 => ih b ls' (by omega) h3)
  exact key (μ a + 1) a ls (by omega) h
theorem xl_r2 {σ τ : Type} {L : Nat} {st : List Value} (I : σ → τ → Array Slot → Prop) (μ : σ → τ → Nat)
    (hs : ∀ (a : σ) (a2 : τ) (ls : Array Slot), I a a2 ls → (∀ (b : σ) (b2 : τ) (ls' : Array Slot), I b b2 ls' → μ b b2 < μ a a2 → W p l e R s m args below meth c H locs cells slots Q (F0 m L ls' st)) → W p l e R s m args below meth c H locs cells slots Q (F0 m L ls st))
    (a : σ) (a2 : τ) (ls : Array Slot) (h : I a a2 ls) : W p l e R s m args below meth c H locs cells slots Q (F0 m L ls st) :=
  xl_r (σ := σ × τ) (fun x ls => I x.1 x.2 ls) (fun x => μ x.1 x.2) (fun x ls h1 h2 => hs x.1 x.2 ls h1 (fun b b2 ls' h3 h4 => h2 (b, b2) ls' h3 h4)) (a, a2) ls h
theorem xl_w {σ : Type} {L : Nat} {st : List Value} (I : σ → Array Slot → Heap → List Loc → Prop) (μ : σ → Nat)
    (hs : ∀ (a : σ) (ls : Array Slot) (H : Heap) (locs : List Loc), I a ls H locs → (∀ (b : σ) (ls' : Array Slot) (H' : Heap) (locs' : List Loc), I b ls' H' locs' → μ b < μ a → W p l e R s m args below meth c H' locs' cells slots Q (F0 m L ls' st)) → W p l e R s m args below meth c H locs cells slots Q (F0 m L ls st))
    (a : σ) (ls : Array Slot) (h : I a ls H locs) : W p l e R s m args below meth c H locs cells slots Q (F0 m L ls st) := by
  have key : ∀ (n : Nat) (a : σ) (ls : Array Slot) (H : Heap) (locs : List Loc), μ a < n → I a ls H locs → W p l e R s m args below meth c H locs cells slots Q (F0 m L ls st) := by
    intro n
    induction n with
    | zero => intro a ls H locs h1; omega
    | succ n ih =>
      intro a ls H locs h1 h2
      exact hs a ls H locs h2 (fun b ls' H' locs' h3 h4 => ih b ls' H' locs' (by omega) h3)
  exact key (μ a + 1) a ls H locs (by omega) h
theorem xl_w2 {σ τ : Type} {L : Nat} {st : List Value} (I : σ → τ → Array Slot → Heap → List Loc → Prop) (μ : σ → τ → Nat)
    (hs : ∀ (a : σ) (a2 : τ) (ls : Array Slot) (H : Heap) (locs : List Loc), I a a2 ls H locs → (∀ (b : σ) (b2 : τ) (ls' : Array Slot) (H' : Heap) (locs' : List Loc), I b b2 ls' H' locs' → μ b b2 < μ a a2 → W p l e R s m args below meth c H' locs' cells slots Q (F0 m L ls' st)) → W p l e R s m args below meth c H locs cells slots Q (F0 m L ls st))
    (a : σ) (a2 : τ) (ls : Array Slot) (h : I a a2 ls H locs) : W p l e R s m args below meth c H locs cells slots Q (F0 m L ls st) :=
  xl_w (σ := σ × τ) (fun x ls H locs => I x.1 x.2 ls H locs) (fun x => μ x.1 x.2) (fun x ls H locs h1 h2 => hs x.1 x.2 ls H locs h1 (fun b b2 ls' H' locs' h3 h4 => h2 (b, b2) ls' H' locs' h3 h4)) (a, a2) ls h
theorem xl_w3 {σ τ υ : Type} {L : Nat} {st : List Value} (I : σ → τ → υ → Array Slot → Heap → List Loc → Prop) (μ : σ → τ → υ → Nat)
    (hs : ∀ (a : σ) (a2 : τ) (a3 : υ) (ls : Array Slot) (H : Heap) (locs : List Loc), I a a2 a3 ls H locs → (∀ (b : σ) (b2 : τ) (b3 : υ) (ls' : Array Slot) (H' : Heap) (locs' : List Loc), I b b2 b3 ls' H' locs' → μ b b2 b3 < μ a a2 a3 → W p l e R s m args below meth c H' locs' cells slots Q (F0 m L ls' st)) → W p l e R s m args below meth c H locs cells slots Q (F0 m L ls st))
    (a : σ) (a2 : τ) (a3 : υ) (ls : Array Slot) (h : I a a2 a3 ls H locs) : W p l e R s m args below meth c H locs cells slots Q (F0 m L ls st) :=
  xl_w (σ := σ × τ × υ) (fun x ls H locs => I x.1 x.2.1 x.2.2 ls H locs) (fun x => μ x.1 x.2.1 x.2.2) (fun x ls H locs h1 h2 => hs x.1 x.2.1 x.2.2 ls H locs h1 (fun b b2 b3 ls' H' locs' h3 h4 => h2 (b, b2, b3) ls' H' locs' h3 h4)) (a, a2, a3) ls h
end XB
