theorem xg0 {c2 : Cond} (h : c2 ∈ BS) : GoodIn BS (c2 :: BS) := by
  intro w hw
  have hm : w ∈ BS := by
    rcases List.mem_cons.mp hw with h1 | h1
    · rw [h1]; exact h
    · exact h1
  exact ⟨hm, good_of_word (List.mem_filter.mp hm).2⟩
theorem xB {x : Cond} {rm : Room} {args : Array Value} {s : State} (h : (headSpec (x :: BS) rm).pre.before args s = true) : ∀ w ∈ BS, w.before args s = true := fun w hw => atoms_spec (ws := x :: BS) h w (List.mem_cons_of_mem _ hw)
def xR (D : va_G) (ws : va_W) (tys : List (ClassId × FieldType)) (U : State) : Prop := va_P D cls ws U.heap ∧ va_K D cls tys U ∧ xn U
theorem xR_blind {D : va_G} {ws : va_W} {tys : List (ClassId × FieldType)} {av : List Value} : FrameBlind (va_Pc av (xR D ws tys)) := fun a U g mk q => ⟨q.1, q.2.1, va_K.moved (u := U) (U := U.calling g mk a) (Vm.Alike.refl U.vm) q.2.2.1, xn_same rfl q.2.2.2⟩
theorem xpS {D : va_G} {ws : va_W} {tys : List (ClassId × FieldType)} {av : List Value} {s : State} {H : Heap} (hP : va_P D cls ws H) (hK : va_K D cls tys s) (hN : xn s) : PreS s H (va_Pc av (xR D ws tys)) av := ⟨xR_blind, fun U hU hW => ⟨rfl, by rw [hU]; exact hP, va_K.moved hW.alike hK, xn_moved hW hN⟩⟩
theorem xpV {D : va_G} {ws : va_W} {tys : List (ClassId × FieldType)} {b : Nat} {As : List Value} {s : State} {H : Heap} {C : String} (hP : va_P D cls ws H) (hK : va_K D cls tys s) (hN : xn s) (hr : ∃ cellB : Cell, H[b]? = some cellB ∧ cellB.vm.isStatics = false ∧ s.vm.findClass C = some cellB.cls) : PreV s H C b (va_Pc (.ref b :: As) (xR D ws tys)) As := ⟨xR_blind, hr, fun U hU hW => ⟨rfl, by rw [hU]; exact hP, va_K.moved hW.alike hK, xn_moved hW hN⟩⟩
section XC
variable {p : Program} {l : Launch} {e : Env} {R : Room} {s : State} {m : MethodId} {args : Array Value} {below : List Frame} {meth : Method} {c : Code} {H : Heap} {locs : List Loc} {cells slots : Nat} {Q : State → Prop} {pc : Nat} {ls : Array Slot} {rest : List Value}
theorem xr_cal {r : Int32} {st0 : List Value} {a : Array Value} (hr : va_Run p l e R s m args below meth c H locs cells slots 0 0 (F0 m pc ls st0) rest (QcRead r a) (fun _ => False)) (kk : W p l e R s m args below meth c H locs cells slots Q (F0 m (pc + 3) ls (.int r :: rest))) : W p l e R s m args below meth c H locs cells slots Q (F0 m pc ls st0) := xr_call hr kk
end XC
