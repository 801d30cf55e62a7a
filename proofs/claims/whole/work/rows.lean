section
-- ===== PART A: goes FIRST, ahead of the names: the tables' words, and 'selects' of the private methods out of them =====
/-- a private method of a class that the tables say can be made, by its rows of tables_1 -/
def lw_okq (q : MethodName × Nat) : Prop := (q.1.cls ≠ "java/lang/invoke/MethodHandle" ∧ q.1.cls ≠ "java/lang/invoke/VarHandle") ∧ Cond.instantiable q.1.cls q.2 ∈ tables_1 ∧ Cond.privateMethod q.1 ∈ tables_1 ∧ Cond.instanceMethod q.1 ∈ tables_1
theorem lw_p0 : lw_okq (⟨"java/lang/Throwable", "fillInStackTrace", "(I)Ljava/lang/Throwable;"⟩, 6) := ⟨⟨by decide +kernel, by decide +kernel⟩, List.mem_of_getElem? (i := 179) (by decide +kernel), List.mem_of_getElem? (i := 177) (by decide +kernel), List.mem_of_getElem? (i := 178) (by decide +kernel)⟩
theorem lw_p1 : lw_okq (⟨"ArcAtlas$Groups", "readReached", "(LArcAtlas$Web;)V"⟩, 7) := ⟨⟨by decide +kernel, by decide +kernel⟩, List.mem_of_getElem? (i := 40) (by decide +kernel), List.mem_of_getElem? (i := 262) (by decide +kernel), List.mem_of_getElem? (i := 263) (by decide +kernel)⟩
theorem lw_p2 : lw_okq (⟨"ArcAtlas$Groups", "readNames", "()V"⟩, 7) := ⟨⟨by decide +kernel, by decide +kernel⟩, List.mem_of_getElem? (i := 40) (by decide +kernel), List.mem_of_getElem? (i := 272) (by decide +kernel), List.mem_of_getElem? (i := 273) (by decide +kernel)⟩
theorem lw_p3 : lw_okq (⟨"ArcAtlas$Groups", "leastWith", "(I)I"⟩, 7) := ⟨⟨by decide +kernel, by decide +kernel⟩, List.mem_of_getElem? (i := 40) (by decide +kernel), List.mem_of_getElem? (i := 276) (by decide +kernel), List.mem_of_getElem? (i := 277) (by decide +kernel)⟩
theorem lw_p4 : lw_okq (⟨"ArcAtlas$Groups", "readLeads", "(LArcAtlas$Web;)V"⟩, 7) := ⟨⟨by decide +kernel, by decide +kernel⟩, List.mem_of_getElem? (i := 40) (by decide +kernel), List.mem_of_getElem? (i := 280) (by decide +kernel), List.mem_of_getElem? (i := 281) (by decide +kernel)⟩
theorem lw_p5 : lw_okq (⟨"ArcAtlas$Groups", "readOrder", "()V"⟩, 7) := ⟨⟨by decide +kernel, by decide +kernel⟩, List.mem_of_getElem? (i := 40) (by decide +kernel), List.mem_of_getElem? (i := 286) (by decide +kernel), List.mem_of_getElem? (i := 287) (by decide +kernel)⟩
theorem lw_p6 : lw_okq (⟨"ArcAtlas$Groups", "leastFree", "(I)I"⟩, 7) := ⟨⟨by decide +kernel, by decide +kernel⟩, List.mem_of_getElem? (i := 40) (by decide +kernel), List.mem_of_getElem? (i := 290) (by decide +kernel), List.mem_of_getElem? (i := 291) (by decide +kernel)⟩
theorem lw_p7 : lw_okq (⟨"ArcAtlas$Web", "headsOfAll", "(I)I"⟩, 2) := ⟨⟨by decide +kernel, by decide +kernel⟩, List.mem_of_getElem? (i := 26) (by decide +kernel), List.mem_of_getElem? (i := 364) (by decide +kernel), List.mem_of_getElem? (i := 365) (by decide +kernel)⟩
theorem lw_p8 : lw_okq (⟨"ArcAtlas", "lastBefore", "(II)I"⟩, 4) := ⟨⟨by decide +kernel, by decide +kernel⟩, List.mem_of_getElem? (i := 18) (by decide +kernel), List.mem_of_getElem? (i := 429) (by decide +kernel), List.mem_of_getElem? (i := 430) (by decide +kernel)⟩
theorem lw_p9 : lw_okq (⟨"ArcAtlas", "needsAll", "(III)Z"⟩, 4) := ⟨⟨by decide +kernel, by decide +kernel⟩, List.mem_of_getElem? (i := 18) (by decide +kernel), List.mem_of_getElem? (i := 433) (by decide +kernel), List.mem_of_getElem? (i := 434) (by decide +kernel)⟩
theorem lw_p10 : lw_okq (⟨"ArcAtlas$Flow", "findMore", "(II)Z"⟩, 4) := ⟨⟨by decide +kernel, by decide +kernel⟩, List.mem_of_getElem? (i := 78) (by decide +kernel), List.mem_of_getElem? (i := 472) (by decide +kernel), List.mem_of_getElem? (i := 473) (by decide +kernel)⟩
theorem lw_p11 : lw_okq (⟨"ArcAtlas$Flow", "markFrom", "(II)V"⟩, 4) := ⟨⟨by decide +kernel, by decide +kernel⟩, List.mem_of_getElem? (i := 78) (by decide +kernel), List.mem_of_getElem? (i := 477) (by decide +kernel), List.mem_of_getElem? (i := 478) (by decide +kernel)⟩
theorem lw_p12 : lw_okq (⟨"ArcAtlas$Flow", "pushOne", "(II)V"⟩, 4) := ⟨⟨by decide +kernel, by decide +kernel⟩, List.mem_of_getElem? (i := 78) (by decide +kernel), List.mem_of_getElem? (i := 481) (by decide +kernel), List.mem_of_getElem? (i := 482) (by decide +kernel)⟩
theorem lw_p13 : lw_okq (⟨"ArcAtlas$Flow", "pushOver", "(II)V"⟩, 4) := ⟨⟨by decide +kernel, by decide +kernel⟩, List.mem_of_getElem? (i := 78) (by decide +kernel), List.mem_of_getElem? (i := 485) (by decide +kernel), List.mem_of_getElem? (i := 486) (by decide +kernel)⟩
theorem lw_p14 : lw_okq (⟨"ArcAtlas", "neededArrows", "()I"⟩, 4) := ⟨⟨by decide +kernel, by decide +kernel⟩, List.mem_of_getElem? (i := 18) (by decide +kernel), List.mem_of_getElem? (i := 508) (by decide +kernel), List.mem_of_getElem? (i := 509) (by decide +kernel)⟩
theorem lw_p15 : lw_okq (⟨"ArcAtlas", "hasDetour", "(II)Z"⟩, 4) := ⟨⟨by decide +kernel, by decide +kernel⟩, List.mem_of_getElem? (i := 18) (by decide +kernel), List.mem_of_getElem? (i := 512) (by decide +kernel), List.mem_of_getElem? (i := 513) (by decide +kernel)⟩
def lw_privs_1 : List (MethodName × Nat) := [(⟨"java/lang/Throwable", "fillInStackTrace", "(I)Ljava/lang/Throwable;"⟩, 6), (⟨"ArcAtlas$Groups", "readReached", "(LArcAtlas$Web;)V"⟩, 7), (⟨"ArcAtlas$Groups", "readNames", "()V"⟩, 7), (⟨"ArcAtlas$Groups", "leastWith", "(I)I"⟩, 7), (⟨"ArcAtlas$Groups", "readLeads", "(LArcAtlas$Web;)V"⟩, 7), (⟨"ArcAtlas$Groups", "readOrder", "()V"⟩, 7), (⟨"ArcAtlas$Groups", "leastFree", "(I)I"⟩, 7), (⟨"ArcAtlas$Web", "headsOfAll", "(I)I"⟩, 2), (⟨"ArcAtlas", "lastBefore", "(II)I"⟩, 4), (⟨"ArcAtlas", "needsAll", "(III)Z"⟩, 4), (⟨"ArcAtlas$Flow", "findMore", "(II)Z"⟩, 4), (⟨"ArcAtlas$Flow", "markFrom", "(II)V"⟩, 4), (⟨"ArcAtlas$Flow", "pushOne", "(II)V"⟩, 4), (⟨"ArcAtlas$Flow", "pushOver", "(II)V"⟩, 4), (⟨"ArcAtlas", "neededArrows", "()I"⟩, 4), (⟨"ArcAtlas", "hasDetour", "(II)Z"⟩, 4)]
theorem lw_r1 : ∀ q ∈ lw_privs_1, lw_okq q := List.forall_mem_cons.mpr ⟨lw_p0, List.forall_mem_cons.mpr ⟨lw_p1, List.forall_mem_cons.mpr ⟨lw_p2, List.forall_mem_cons.mpr ⟨lw_p3, List.forall_mem_cons.mpr ⟨lw_p4, List.forall_mem_cons.mpr ⟨lw_p5, List.forall_mem_cons.mpr ⟨lw_p6, List.forall_mem_cons.mpr ⟨lw_p7, List.forall_mem_cons.mpr ⟨lw_p8, List.forall_mem_cons.mpr ⟨lw_p9, List.forall_mem_cons.mpr ⟨lw_p10, List.forall_mem_cons.mpr ⟨lw_p11, List.forall_mem_cons.mpr ⟨lw_p12, List.forall_mem_cons.mpr ⟨lw_p13, List.forall_mem_cons.mpr ⟨lw_p14, List.forall_mem_cons.mpr ⟨lw_p15, fun _ h => absurd h List.not_mem_nil⟩⟩⟩⟩⟩⟩⟩⟩⟩⟩⟩⟩⟩⟩⟩⟩
theorem lw_p16 : lw_okq (⟨"ArcAtlas$Groups", "reachedFromOneOf", "(II)Z"⟩, 7) := ⟨⟨by decide +kernel, by decide +kernel⟩, List.mem_of_getElem? (i := 40) (by decide +kernel), List.mem_of_getElem? (i := 526) (by decide +kernel), List.mem_of_getElem? (i := 527) (by decide +kernel)⟩
theorem lw_p17 : lw_okq (⟨"ArcAtlas$Groups", "longestOf", "(I)I"⟩, 7) := ⟨⟨by decide +kernel, by decide +kernel⟩, List.mem_of_getElem? (i := 40) (by decide +kernel), List.mem_of_getElem? (i := 534) (by decide +kernel), List.mem_of_getElem? (i := 535) (by decide +kernel)⟩
theorem lw_p18 : lw_okq (⟨"ArcAtlasModel", "lacks", "(II)Z"⟩, 10) := ⟨⟨by decide +kernel, by decide +kernel⟩, List.mem_of_getElem? (i := 541) (by decide +kernel), List.mem_of_getElem? (i := 604) (by decide +kernel), List.mem_of_getElem? (i := 605) (by decide +kernel)⟩
theorem lw_p19 : lw_okq (⟨"ArcAtlasModel", "findGroups", "()V"⟩, 10) := ⟨⟨by decide +kernel, by decide +kernel⟩, List.mem_of_getElem? (i := 541) (by decide +kernel), List.mem_of_getElem? (i := 608) (by decide +kernel), List.mem_of_getElem? (i := 609) (by decide +kernel)⟩
theorem lw_p20 : lw_okq (⟨"ArcAtlasModel", "reach", "(I)I"⟩, 10) := ⟨⟨by decide +kernel, by decide +kernel⟩, List.mem_of_getElem? (i := 541) (by decide +kernel), List.mem_of_getElem? (i := 612) (by decide +kernel), List.mem_of_getElem? (i := 613) (by decide +kernel)⟩
theorem lw_p21 : lw_okq (⟨"ArcAtlasModel", "spread", "(II)I"⟩, 10) := ⟨⟨by decide +kernel, by decide +kernel⟩, List.mem_of_getElem? (i := 541) (by decide +kernel), List.mem_of_getElem? (i := 617) (by decide +kernel), List.mem_of_getElem? (i := 618) (by decide +kernel)⟩
theorem lw_p22 : lw_okq (⟨"ArcAtlasModel", "findOrder", "()V"⟩, 10) := ⟨⟨by decide +kernel, by decide +kernel⟩, List.mem_of_getElem? (i := 541) (by decide +kernel), List.mem_of_getElem? (i := 635) (by decide +kernel), List.mem_of_getElem? (i := 636) (by decide +kernel)⟩
theorem lw_p23 : lw_okq (⟨"ArcAtlasModel", "ends", "(I)I"⟩, 10) := ⟨⟨by decide +kernel, by decide +kernel⟩, List.mem_of_getElem? (i := 541) (by decide +kernel), List.mem_of_getElem? (i := 639) (by decide +kernel), List.mem_of_getElem? (i := 640) (by decide +kernel)⟩
theorem lw_p24 : lw_okq (⟨"ArcAtlasModel", "measure", "(I)V"⟩, 10) := ⟨⟨by decide +kernel, by decide +kernel⟩, List.mem_of_getElem? (i := 541) (by decide +kernel), List.mem_of_getElem? (i := 655) (by decide +kernel), List.mem_of_getElem? (i := 656) (by decide +kernel)⟩
theorem lw_p25 : lw_okq (⟨"ArcAtlasModel", "dependent", "(III)Z"⟩, 10) := ⟨⟨by decide +kernel, by decide +kernel⟩, List.mem_of_getElem? (i := 541) (by decide +kernel), List.mem_of_getElem? (i := 667) (by decide +kernel), List.mem_of_getElem? (i := 668) (by decide +kernel)⟩
theorem lw_p26 : lw_okq (⟨"ArcAtlasModel", "apart", "(II)I"⟩, 10) := ⟨⟨by decide +kernel, by decide +kernel⟩, List.mem_of_getElem? (i := 541) (by decide +kernel), List.mem_of_getElem? (i := 679) (by decide +kernel), List.mem_of_getElem? (i := 680) (by decide +kernel)⟩
theorem lw_p27 : lw_okq (⟨"ArcAtlasModel", "finds", "(II)Z"⟩, 10) := ⟨⟨by decide +kernel, by decide +kernel⟩, List.mem_of_getElem? (i := 541) (by decide +kernel), List.mem_of_getElem? (i := 683) (by decide +kernel), List.mem_of_getElem? (i := 684) (by decide +kernel)⟩
theorem lw_p28 : lw_okq (⟨"ArcAtlasModel", "pairs", "(Z)I"⟩, 10) := ⟨⟨by decide +kernel, by decide +kernel⟩, List.mem_of_getElem? (i := 541) (by decide +kernel), List.mem_of_getElem? (i := 698) (by decide +kernel), List.mem_of_getElem? (i := 699) (by decide +kernel)⟩
theorem lw_p29 : lw_okq (⟨"ArcAtlasModel", "leads", "(II)Z"⟩, 10) := ⟨⟨by decide +kernel, by decide +kernel⟩, List.mem_of_getElem? (i := 541) (by decide +kernel), List.mem_of_getElem? (i := 702) (by decide +kernel), List.mem_of_getElem? (i := 703) (by decide +kernel)⟩
theorem lw_p30 : lw_okq (⟨"ArcAtlasModel", "otherwise", "(II)Z"⟩, 10) := ⟨⟨by decide +kernel, by decide +kernel⟩, List.mem_of_getElem? (i := 541) (by decide +kernel), List.mem_of_getElem? (i := 706) (by decide +kernel), List.mem_of_getElem? (i := 707) (by decide +kernel)⟩
theorem lw_p31 : lw_okq (⟨"ArcAtlasModel", "longest", "()I"⟩, 10) := ⟨⟨by decide +kernel, by decide +kernel⟩, List.mem_of_getElem? (i := 541) (by decide +kernel), List.mem_of_getElem? (i := 710) (by decide +kernel), List.mem_of_getElem? (i := 711) (by decide +kernel)⟩
def lw_privs_2 : List (MethodName × Nat) := [(⟨"ArcAtlas$Groups", "reachedFromOneOf", "(II)Z"⟩, 7), (⟨"ArcAtlas$Groups", "longestOf", "(I)I"⟩, 7), (⟨"ArcAtlasModel", "lacks", "(II)Z"⟩, 10), (⟨"ArcAtlasModel", "findGroups", "()V"⟩, 10), (⟨"ArcAtlasModel", "reach", "(I)I"⟩, 10), (⟨"ArcAtlasModel", "spread", "(II)I"⟩, 10), (⟨"ArcAtlasModel", "findOrder", "()V"⟩, 10), (⟨"ArcAtlasModel", "ends", "(I)I"⟩, 10), (⟨"ArcAtlasModel", "measure", "(I)V"⟩, 10), (⟨"ArcAtlasModel", "dependent", "(III)Z"⟩, 10), (⟨"ArcAtlasModel", "apart", "(II)I"⟩, 10), (⟨"ArcAtlasModel", "finds", "(II)Z"⟩, 10), (⟨"ArcAtlasModel", "pairs", "(Z)I"⟩, 10), (⟨"ArcAtlasModel", "leads", "(II)Z"⟩, 10), (⟨"ArcAtlasModel", "otherwise", "(II)Z"⟩, 10), (⟨"ArcAtlasModel", "longest", "()I"⟩, 10)]
theorem lw_r2 : ∀ q ∈ lw_privs_2, lw_okq q := List.forall_mem_cons.mpr ⟨lw_p16, List.forall_mem_cons.mpr ⟨lw_p17, List.forall_mem_cons.mpr ⟨lw_p18, List.forall_mem_cons.mpr ⟨lw_p19, List.forall_mem_cons.mpr ⟨lw_p20, List.forall_mem_cons.mpr ⟨lw_p21, List.forall_mem_cons.mpr ⟨lw_p22, List.forall_mem_cons.mpr ⟨lw_p23, List.forall_mem_cons.mpr ⟨lw_p24, List.forall_mem_cons.mpr ⟨lw_p25, List.forall_mem_cons.mpr ⟨lw_p26, List.forall_mem_cons.mpr ⟨lw_p27, List.forall_mem_cons.mpr ⟨lw_p28, List.forall_mem_cons.mpr ⟨lw_p29, List.forall_mem_cons.mpr ⟨lw_p30, List.forall_mem_cons.mpr ⟨lw_p31, fun _ h => absurd h List.not_mem_nil⟩⟩⟩⟩⟩⟩⟩⟩⟩⟩⟩⟩⟩⟩⟩⟩
theorem lw_p32 : lw_okq (⟨"ArcAtlasModel", "bridges", "()I"⟩, 10) := ⟨⟨by decide +kernel, by decide +kernel⟩, List.mem_of_getElem? (i := 541) (by decide +kernel), List.mem_of_getElem? (i := 714) (by decide +kernel), List.mem_of_getElem? (i := 715) (by decide +kernel)⟩
def lw_privs_3 : List (MethodName × Nat) := [(⟨"ArcAtlasModel", "bridges", "()I"⟩, 10)]
theorem lw_r3 : ∀ q ∈ lw_privs_3, lw_okq q := List.forall_mem_cons.mpr ⟨lw_p32, fun _ h => absurd h List.not_mem_nil⟩
def lw_privs : List (MethodName × Nat) := lw_privs_1 ++ (lw_privs_2 ++ (lw_privs_3))
def lw_tbl : List Cond := k2_sels lw_privs ++ tables_1
theorem lw_privs_ok : ∀ q ∈ lw_privs, lw_okq q := by
  show ∀ q ∈ lw_privs_1 ++ (lw_privs_2 ++ (lw_privs_3)), lw_okq q
  exact List.forall_mem_append.mpr ⟨lw_r1, List.forall_mem_append.mpr ⟨lw_r2, lw_r3⟩⟩
/-! ===== BEGIN words of one list among another's, by their places ===== -/
theorem goodIn_r {big : List Cond} (ws : List Cond) (ps : List Nat) (hp : ws = ps.filterMap (fun i => big[i]?)) (h : ws.all goodWord = true) : GoodIn big ws := by
  intro w hw
  have h1 := List.all_eq_true.mp h w hw
  rw [hp] at hw
  obtain ⟨i, -, hi⟩ := List.mem_filterMap.mp hw
  have hm : w ∈ big := by first | exact List.mem_of_getElem? hi | exact List.getElem?_mem hi
  exact ⟨hm, good_of_word h1⟩
theorem goodIn_app {big a b : List Cond} (ha : GoodIn big a) (hb : GoodIn big b) : GoodIn big (a ++ b) := fun w h => (List.mem_append.mp h).elim (ha w) (hb w)
theorem goodIn_ca {big a b : List Cond} {c : Cond} (ha : GoodIn big (c :: a)) (hb : GoodIn big b) : GoodIn big (c :: (a ++ b)) := fun w h => (List.mem_cons.mp h).elim (fun e => ha w (List.mem_cons.mpr (Or.inl e))) (fun h => (List.mem_append.mp h).elim (fun h => ha w (List.mem_cons.mpr (Or.inr h))) (hb w))
theorem goodIn_sub {big ws : List Cond} (hm : ∀ w ∈ ws, w ∈ big) (h : ws.all goodWord = true) : GoodIn big ws := fun w hw => ⟨hm w hw, good_of_word (List.all_eq_true.mp h w hw)⟩
/-! ===== END ===== -/

/-! ===== BEGIN exceptions that leave a method, and their catching by the caller (launches without stack traces) ===== -/
section VXA
/-! The laws vx_back, vx_callV, vx_callS, vx_callSW, vx_throw0, vx_throwS follow proofs of the library, with one case more: JvmDerived/Free/Laws.lean (Back.of_free), Shelf42/LK1.lean (callV, callS), Shelf/KitTraced.lean (throwNew0V, throwNewS). -/
/-- where a method has thrown q: the class by its name, the cell, what was written, the world -/
def vx_T (XC : String → State → State → Prop) (st : State) (q : Addr) (t : State) (mc ms : Nat) (free : Addr → Prop) : Prop :=
  ∃ (E : String) (ce : Cell) (L : List Loc), XC E st t ∧ t.heap[q]? = some ce ∧ ce.vm = .none ∧ st.vm.findClass E = some ce.cls ∧ st.WarmedH t.vm ∧ st.sameButNew ({ t with vm := st.vm } : State) L mc ms ∧ ∀ z ∈ L, free z.base
def vx_Q (Qc : Array Value → State → Outcome → State → Prop) (XC : String → State → State → Prop) (mc ms : Nat) (free : Addr → Prop) : Array Value → State → Outcome → State → Prop := fun a st o t =>
  (Qc a st o t ∧ ∃ L, FrameEnd st o t L mc ms ∧ ∀ q ∈ L, free q.base) ∨ ∃ q, o = .threw q ∧ vx_T XC st q t mc ms free
/-- a callee that returns or throws -/
def vx_Met (l : Launch) (y : MethodName) (ws : List Cond) (rm : Room) (Pc : Array Value → State → Prop) (Qc : Array Value → State → Outcome → State → Prop) (XC : String → State → State → Prop) (mc ms : Nat) (free : Addr → Prop) : Prop :=
  MetFree l y (headSpec ws rm) Pc (fun _ _ _ _ _ => True) (vx_Q Qc XC mc ms free)
def vx_Post (XC : String → State → State → Prop) (mc ms : Nat) (free : Addr → Prop) : Pt → Array Value → Addr → Pt → Prop := fun A a q B =>
  ∃ (g : JFrame) (mk : MethodId) (t : State) (L : List Loc) (E : String) (ce : Cell), B.U.heap = t.heap ∧ B.U.vm = t.vm ∧ XC E (A.U.calling g mk a) t ∧ t.heap[q]? = some ce ∧ ce.vm = .none ∧ A.U.vm.findClass E = some ce.cls ∧ B.locs = A.locs ++ L ∧ (∀ z ∈ L, free z.base) ∧ B.cells = A.cells + mc ∧ B.slots = A.slots + ms
def vx_Back (l : Launch) (R : Room) (p : Program) (e : Env) (below : List Frame) (s : State) (sargs : Array Value) (y : MethodName) (len W9 : Nat)
    (Pre : Pt → Array Value → Prop) (Post : Pt → Array Value → Option Value → Pt → Prop) (PostX : Pt → Array Value → Addr → Pt → Prop) : Prop :=
  ∀ (m : MethodId) (meth : Method) (c : Code) (A : Pt) (g : JFrame) (ig : Instr) (mk : MethodId) (a : Array Value),
    Stand p l e R s m sargs below meth c A.U A.locs A.cells A.slots → g.method = m → g.locals.size = c.maxLocals → decode c.code g.pc = .ok (ig, len) →
    2 * g.monitorRoom + (g.stack.map fun v => v.category).sum ≤ W9 → A.U.methodNamed? y = some mk → Pre A a →
    (∃ (v : Option Value) (B : Pt), Stand p l e R s m sargs below meth c B.U B.locs B.cells B.slots ∧ Post A a v B ∧
      Steps p.tables e below (doInvoke e (A.U.setTop g) [] mk a).1 (B.U.setTop { g with pc := g.pc + len, stack := v.toList ++ g.stack })) ∨
    (∃ (q : Addr) (B : Pt), Stand p l e R s m sargs below meth c B.U B.locs B.cells B.slots ∧ PostX A a q B ∧
      Steps p.tables e below (doInvoke e (A.U.setTop g) [] mk a).1 ((B.U.setTop g).pushFrame (.throwing q)))
section Payer
variable {l : Launch} {R : Room} {p : Program} {e : Env} {below : List Frame} {s : State} {sargs : Array Value} {y : MethodName} {len W9 : Nat}
theorem vx_back {ws : List Cond} {rm : Room} {Pc : Array Value → State → Prop} {Qc : Array Value → State → Outcome → State → Prop} {XC : String → State → State → Prop} {mc ms : Nat} {free : Addr → Prop} {bytes : ByteArray} {maxL : Nat} {ret : Option FieldType}
    (hM : vx_Met l y ws rm Pc Qc XC mc ms free) (hblind : FrameBlind Pc) (hrc : rm.cells = mc) (hrs : rm.slots = ms)
    (hframes : rm.frames + 1 ≤ R.frames) (hlocals : W9 + (maxL + 11) + rm.locals ≤ R.locals)
    (hws : ∀ w ∈ ws, ∀ a' U, s.WarmedH U.vm → w.before a' U = true) (hcode : Cond.code y bytes maxL ret ∈ ws) (hinit : ∀ a' U, s.WarmedH U.vm → (Cond.initialized y.cls).before a' U = true) :
    vx_Back l R p e below s sargs y len W9 (PreOf R mc ms Pc) (PostOf Qc mc ms free) (vx_Post XC mc ms free) := by
  intro m meth c A g ig mk a X hg hsize hdg hW hn hp
  have h1 : (headSpec ws rm).pre.before a A.U = true := atoms_intro fun w hw => hws w hw _ _ X.warmed
  have h2 : (Cond.code y bytes maxL ret).before a A.U = true := hws _ hcode _ _ X.warmed
  have h3 : (Cond.initialized y.cls).before a A.U = true := hinit _ _ X.warmed
  have h4 : A.cells + (headSpec ws rm).room.cells ≤ R.cells := by rw [show (headSpec ws rm).room.cells = mc from hrc]; exact hp.1
  have h5 : A.slots + (headSpec ws rm).room.slots ≤ R.slots := by rw [show (headSpec ws rm).room.slots = ms from hrs]; exact hp.2.1
  have hPc : Pc a (A.U.calling g mk a) := hblind _ _ _ _ hp.2.2
  obtain ⟨U, Ls, c0, s0⟩ := A
  dsimp only [Pt.U, Pt.locs, Pt.cells, Pt.slots] at h1 h2 h3 h4 h5 X hn hPc ⊢
  obtain ⟨methY, cY, hmY, hcY, -, hlY, -, -, -, -⟩ := Cond.code_spec hn h2
  obtain ⟨kY, hkY, -⟩ := className_of_methodNamed hn
  have hinitY : kY.init = .initialized := Cond.initialized_spec (findClass_of_methodNamed hn) hkY h3
  have h : At U g.method c below := by rw [hg]; exact X.here
  have hlocals9 : W9 + (maxL + 11) + (headSpec ws rm).room.locals ≤ R.locals := hlocals
  have happ : (headSpec ws rm).appliesLoose y e.platform (U.calling g mk a) = true :=
    Spec.appliesLoose_calling (g := g) h hdg hn hkY hinitY
      (X.room_calling (g := g) (R' := (headSpec ws rm).room) hsize hmY hcY hframes (by rw [hlY]; omega) h4 h5) h1
  obtain ⟨mid, hmid⟩ := h.above
  have hfr : (U.setTop g).frames = (.java g :: mid) ++ below := by rw [State.frames_setTop' g h.top, hmid]; rfl
  obtain ⟨o, s₂, hsteps, -, hend, hq⟩ := Steps.callFree hM p X.admits X.cas X.clock (acts := []) hfr happ hPc trivial
  have hq' : vx_Q Qc XC mc ms free a (U.calling g mk a) o s₂ := hq
  rw [State.frames_setTop' g h.top] at hend
  obtain ⟨g₀, hg0⟩ := Option.isSome_iff_exists.mp h.top
  obtain ⟨r, hr⟩ := State.topJava?_eq_some.mp hg0
  have hr' : (({ U with heap := s₂.heap, slotsUsed := s₂.slotsUsed } : State).setVm s₂.vm).frames = .java g₀ :: r := hr
  rcases hq' with ⟨hqc, L, hfe, hL⟩ | ⟨q, rfl, E, ce, L, hx, hce, hcv, hcl, hW₂, hsm, hL⟩
  · obtain ⟨⟨v, rfl⟩, hW₂, e2, q2, q3, q4, q5, q6⟩ := id hfe
    have e3 : s₂ = ({ (U.calling g mk a).setFrames s₂.frames with heap := s₂.heap, slotsUsed := s₂.slotsUsed } : State).setVm s₂.vm := by
      have : s₂ = ({ s₂ with vm := (U.calling g mk a).vm } : State).setVm s₂.vm := rfl
      rw [e2] at this
      exact this
    obtain ⟨c₂, i₂, len₂, hc₂, hd₂, hf₂⟩ := hend
    have hW' : U.WarmedH s₂.vm := hW₂
    have hcc : c₂ = c := by
      have h1 : s₂.code? g.method = U.code? g.method := by
        rw [State.code?_eq, State.code?_eq, hW'.alike.method?]
      exact Option.some.inj (hc₂.symm.trans (h1.trans h.code))
    subst hcc
    have hlen : len₂ = len := by rw [hdg] at hd₂; cases hd₂; rfl
    subst hlen
    have hs₂ : s₂ = (({ U with heap := s₂.heap, slotsUsed := s₂.slotsUsed } : State).setVm s₂.vm).setTop { g with pc := g.pc + len₂, stack := v.toList ++ g.stack } := by
      refine e3.trans ?_
      rw [hf₂, State.calling_eq h.top, State.setFrames_setFrames, State.setTop_of_frames _ hr', hr]
      rfl
    have hsame : U.sameButNew ({ U with heap := s₂.heap, slotsUsed := s₂.slotsUsed } : State) L mc ms := by
      refine ⟨?_, q2, q3, q4, q5, q6⟩
      obtain ⟨t, ht, -⟩ := State.frames_cons hr
      show ({ U with heap := s₂.heap, slotsUsed := s₂.slotsUsed } : State) = { U.setFrames U.frames with heap := s₂.heap, slotsUsed := s₂.slotsUsed }
      rw [State.setFrames_self ht]
    subst hg
    refine Or.inl ⟨v, ⟨(({ U with heap := s₂.heap, slotsUsed := s₂.slotsUsed } : State).setVm s₂.vm), Ls ++ L, c0 + mc, s0 + ms⟩,
      ⟨X.admits, X.cas, X.clock, X.frames, X.room, X.hears, X.method, X.code, (X.here.setHeapUsed s₂.heap s₂.slotsUsed).setVm hW'.alike, X.tail, State.WarmedH.trans X.warmed hW', X.limits, X.bytes, X.same.trans (hsame.setVm s.vm)⟩,
      ⟨g, mk, s₂, L, rfl, rfl, hqc, rfl, hL, rfl, rfl⟩, ?_⟩
    show Steps p.tables e below _ ((({ U with heap := s₂.heap, slotsUsed := s₂.slotsUsed } : State).setVm s₂.vm).setTop { g with pc := g.pc + len₂, stack := v.toList ++ g.stack })
    rw [← hs₂]
    exact hsteps
  · obtain ⟨e2, q2, q3, q4, q5, q6⟩ := id hsm
    have e3 : s₂ = ({ (U.calling g mk a).setFrames s₂.frames with heap := s₂.heap, slotsUsed := s₂.slotsUsed } : State).setVm s₂.vm := by
      have : s₂ = ({ s₂ with vm := (U.calling g mk a).vm } : State).setVm s₂.vm := rfl
      rw [e2] at this
      exact this
    have hf₂ : s₂.frames = .throwing q :: .java g :: U.frames.tail := hend
    have hW' : U.WarmedH s₂.vm := hW₂
    have hs₂ : s₂ = ((({ U with heap := s₂.heap, slotsUsed := s₂.slotsUsed } : State).setVm s₂.vm).setTop g).pushFrame (.throwing q) := by
      refine e3.trans ?_
      rw [hf₂, State.calling_eq h.top, State.setFrames_setFrames, State.pushFrame, State.frames_setTop _ hr', State.setTop_of_frames _ hr', State.setFrames_setFrames, hr]
      rfl
    have hsame : U.sameButNew ({ U with heap := s₂.heap, slotsUsed := s₂.slotsUsed } : State) L mc ms := by
      refine ⟨?_, q2, q3, q4, q5, q6⟩
      obtain ⟨t, ht, -⟩ := State.frames_cons hr
      show ({ U with heap := s₂.heap, slotsUsed := s₂.slotsUsed } : State) = { U.setFrames U.frames with heap := s₂.heap, slotsUsed := s₂.slotsUsed }
      rw [State.setFrames_self ht]
    subst hg
    refine Or.inr ⟨q, ⟨(({ U with heap := s₂.heap, slotsUsed := s₂.slotsUsed } : State).setVm s₂.vm), Ls ++ L, c0 + mc, s0 + ms⟩,
      ⟨X.admits, X.cas, X.clock, X.frames, X.room, X.hears, X.method, X.code, (X.here.setHeapUsed s₂.heap s₂.slotsUsed).setVm hW'.alike, X.tail, State.WarmedH.trans X.warmed hW', X.limits, X.bytes, X.same.trans (hsame.setVm s.vm)⟩,
      ⟨g, mk, s₂, L, E, ce, rfl, rfl, hx, hce, hcv, hcl, rfl, hL, rfl, rfl⟩, ?_⟩
    show Steps p.tables e below _ (((({ U with heap := s₂.heap, slotsUsed := s₂.slotsUsed } : State).setVm s₂.vm).setTop g).pushFrame (.throwing q))
    rw [← hs₂]
    exact hsteps
end Payer
section Calls
variable {p : Program} {l : Launch} {e : Env} {R : Room} {s : State} {m : MethodId} {args : Array Value} {below : List Frame} {meth : Method} {c : Code} {T : State} {locs : List Loc} {cells slots : Nat}
theorem vx_callV (X : Stand p l e R s m args below meth c T locs cells slots) (hexec : p.tables.exec = Jvm.exec) {own C : String} {index : Nat} {y : MethodName} {bytes : ByteArray} {maxL : Nat} {ret : Option FieldType}
    (hown : s.vm.findClass own = some m.cls) (hlink : (Cond.methodLink own index y).before args s = true) (hinst : (Cond.instanceMethod y).before args s = true) (hsel : (Cond.selects C y y).before args s = true)
    (hcode : (Cond.code y bytes maxL ret).before args s = true) (hy : y.cls ≠ "java/lang/invoke/MethodHandle" ∧ y.cls ≠ "java/lang/invoke/VarHandle")
    {W9 : Nat} {Pre : Pt → Array Value → Prop} {Post : Pt → Array Value → Option Value → Pt → Prop} {PostX : Pt → Array Value → Addr → Pt → Prop} (hK : vx_Back l R p e below s args y 3 W9 Pre Post PostX)
    {b : Addr} {cellB : Cell} (hcell : T.heap[b]? = some cellB) (hobj : cellB.vm.isStatics = false) (hcls : s.vm.findClass C = some cellB.cls)
    {g : JFrame} (hg : g.method = m) (hsize : g.locals.size = c.maxLocals) {argsL rest : List Value} (hlen : ∀ sig, parseMethodDescriptor y.desc = some sig → argsL.length = sig.parameters.length)
    (hstack : g.stack = argsL.reverse ++ .ref b :: rest) (hW : 2 * g.monitorRoom + (rest.map fun v => v.category).sum ≤ W9) (hdg : decode c.code g.pc = .ok (.invokevirtual index, 3))
    (hpre : ∀ vm₁, s.WarmedH vm₁ → Pre ⟨T.setVm vm₁, locs, cells, slots⟩ (Value.ref b :: argsL).toArray) :
    (∃ (v : Option Value) (vm₁ : Vm) (B : Pt), s.WarmedH vm₁ ∧ Stand p l e R s m args below meth c B.U B.locs B.cells B.slots ∧ Post ⟨T.setVm vm₁, locs, cells, slots⟩ (Value.ref b :: argsL).toArray v B ∧
      ∀ target, Steps p.tables e below (B.U.setTop { g with pc := g.pc + 3, stack := v.toList ++ rest }) target → Steps p.tables e below (T.setTop g) target) ∨
    (∃ (q : Addr) (vm₁ : Vm) (B : Pt), s.WarmedH vm₁ ∧ Stand p l e R s m args below meth c B.U B.locs B.cells B.slots ∧ PostX ⟨T.setVm vm₁, locs, cells, slots⟩ (Value.ref b :: argsL).toArray q B ∧
      Steps p.tables e below (T.setTop g) ((B.U.setTop { g with stack := rest }).pushFrame (.throwing q))) := by
  obtain ⟨mk, methM, hnamed, hmethM, hstM, habM⟩ := Cond.instanceMethod_spec hinst
  obtain ⟨methM', cM, hmethM', -, -, -, -, -, -, hsigM⟩ := Cond.code_spec hnamed hcode
  cases hmethM.symm.trans hmethM'
  obtain ⟨c2, r2, m2, q1, q2, q3, q4, kP, hkP, hkPi⟩ := Cond.selects_spec hsel
  cases hcls.symm.trans q1
  cases (State.methodFound?_of_named hnamed hy).symm.trans q2
  cases hnamed.symm.trans q3
  have hselP : selectMethod e.platform s.vm cellB.cls mk = .method mk := by rw [Launch.admits_selectMethod X.admits]; exact q4
  obtain ⟨vm₁, X₁, hstep₁⟩ := X.invokevirtual hexec hown hlink hnamed hmethM hstM hkP hkPi hy (a := b) (cell := cellB) hcell
    (fun z h => by rw [h] at hobj; cases hobj) hselP hmethM habM hkP hkPi (g := g) hg (argsL := argsL) (rest := rest) (hlen _ hsigM) hstack hdg
  rcases hK m meth c ⟨T.setVm vm₁, locs, cells, slots⟩ { g with stack := rest } (.invokevirtual index) mk (Value.ref b :: argsL).toArray X₁ hg hsize hdg hW (X₁.named hnamed) (hpre vm₁ X₁.warmed) with ⟨v, B, X', hpost, hsteps⟩ | ⟨q, B, X', hpost, hsteps⟩
  · exact Or.inl ⟨v, vm₁, B, X₁.warmed, X', hpost, fun target h => hstep₁ _ fun acts => by rw [doInvoke_state]; exact hsteps.trans h⟩
  · exact Or.inr ⟨q, vm₁, B, X₁.warmed, X', hpost, hstep₁ _ fun acts => by rw [doInvoke_state]; exact hsteps⟩
theorem vx_callS (X : Stand p l e R s m args below meth c T locs cells slots) (hexec : p.tables.exec = Jvm.exec) {own : String} {index : Nat} {y : MethodName} {bytes : ByteArray} {maxL : Nat} {ret : Option FieldType}
    (hown : s.vm.findClass own = some m.cls) (hlink : (Cond.methodLink own index y).before args s = true) (hstat : (Cond.static y).before args s = true) (hinit : (Cond.initialized y.cls).before args s = true)
    (hcode : (Cond.code y bytes maxL ret).before args s = true) (hy : y.cls ≠ "java/lang/invoke/MethodHandle" ∧ y.cls ≠ "java/lang/invoke/VarHandle")
    {W9 : Nat} {Pre : Pt → Array Value → Prop} {Post : Pt → Array Value → Option Value → Pt → Prop} {PostX : Pt → Array Value → Addr → Pt → Prop} (hK : vx_Back l R p e below s args y 3 W9 Pre Post PostX)
    {g : JFrame} (hg : g.method = m) (hsize : g.locals.size = c.maxLocals) {argsL rest : List Value} (hlen : ∀ sig, parseMethodDescriptor y.desc = some sig → argsL.length = sig.parameters.length)
    (hstack : g.stack = argsL.reverse ++ rest) (hW : 2 * g.monitorRoom + (rest.map fun v => v.category).sum ≤ W9) (hdg : decode c.code g.pc = .ok (.invokestatic index, 3))
    (hpre : ∀ vm₁, s.WarmedH vm₁ → Pre ⟨T.setVm vm₁, locs, cells, slots⟩ argsL.toArray) :
    (∃ (v : Option Value) (vm₁ : Vm) (B : Pt), s.WarmedH vm₁ ∧ Stand p l e R s m args below meth c B.U B.locs B.cells B.slots ∧ Post ⟨T.setVm vm₁, locs, cells, slots⟩ argsL.toArray v B ∧
      ∀ target, Steps p.tables e below (B.U.setTop { g with pc := g.pc + 3, stack := v.toList ++ rest }) target → Steps p.tables e below (T.setTop g) target) ∨
    (∃ (q : Addr) (vm₁ : Vm) (B : Pt), s.WarmedH vm₁ ∧ Stand p l e R s m args below meth c B.U B.locs B.cells B.slots ∧ PostX ⟨T.setVm vm₁, locs, cells, slots⟩ argsL.toArray q B ∧
      Steps p.tables e below (T.setTop g) ((B.U.setTop { g with stack := rest }).pushFrame (.throwing q))) := by
  obtain ⟨mk, hnamed⟩ := Cond.code_named hcode
  obtain ⟨methM, cM, hmethM, -, -, -, -, -, -, hsigM⟩ := Cond.code_spec hnamed hcode
  have hstatic : methM.isStatic = true := Cond.static_spec hnamed hmethM hstat
  obtain ⟨kP, hkP, -⟩ := className_of_methodNamed hnamed
  have hinitP : kP.init = .initialized := Cond.initialized_spec (findClass_of_methodNamed hnamed) hkP hinit
  obtain ⟨vm₁, X₁, hstep₁⟩ := X.invokestatic hexec hown hlink hnamed hmethM hstatic hkP hinitP hy (g := g) hg (argsL := argsL) (rest := rest) (hlen _ hsigM) hstack hdg
  rcases hK m meth c ⟨T.setVm vm₁, locs, cells, slots⟩ { g with stack := rest } (.invokestatic index) mk argsL.toArray X₁ hg hsize hdg hW (X₁.named hnamed) (hpre vm₁ X₁.warmed) with ⟨v, B, X', hpost, hsteps⟩ | ⟨q, B, X', hpost, hsteps⟩
  · exact Or.inl ⟨v, vm₁, B, X₁.warmed, X', hpost, fun target h => hstep₁ _ fun acts => by rw [doInvoke_state]; exact hsteps.trans h⟩
  · exact Or.inr ⟨q, vm₁, B, X₁.warmed, X', hpost, hstep₁ _ fun acts => by rw [doInvoke_state]; exact hsteps⟩
end Calls
theorem vx_cls {s : State} {T : State} {vm₁ : Vm} {E : String} {k : ClassId} (hW : s.WarmedH vm₁) (h : (T.setVm vm₁).vm.findClass E = some k) : s.vm.findClass E = some k := by
  have h1 : vm₁.findClass E = some k := h
  rw [hW.alike.findClass] at h1
  exact h1
/-- the method's frame g, with q thrown over it -/
def vx_W (p : Program) (l : Launch) (e : Env) (R : Room) (s : State) (m : MethodId) (args : Array Value) (below : List Frame) (meth : Method) (c : Code) (H : Heap) (locs : List Loc) (cells slots : Nat) (Q : State → Prop) (g : JFrame) (q : Addr) : Prop :=
  ∀ T : State, T.heap = H → Stand p l e R s m args below meth c T locs cells slots → ∃ t, Steps p.tables e below ((T.setTop g).pushFrame (.throwing q)) t ∧ Q t
def vx_Run (p : Program) (l : Launch) (e : Env) (R : Room) (s : State) (m : MethodId) (args : Array Value) (below : List Frame) (meth : Method) (c : Code) (H : Heap) (locs : List Loc) (cells slots mc ms : Nat) (g : JFrame) (rest : List Value) (Qa : State → Outcome → State → Prop) (XC : String → State → State → Prop) (free : Addr → Prop) : Prop :=
  ∀ T : State, T.heap = H → Stand p l e R s m args below meth c T locs cells slots →
    (∃ (v : Option Value) (st₀ t T' : State) (L : List Loc), st₀.heap = H ∧ Stand p l e R s m args below meth c T' (locs ++ L) (cells + mc) (slots + ms) ∧ (∀ q ∈ L, free q.base) ∧ T'.heap = t.heap ∧ T'.vm = t.vm ∧ Qa st₀ (.returned v) t ∧
      Goes p e below T g T' { g with pc := g.pc + 3, stack := v.toList ++ rest }) ∨
    (∃ (q : Addr) (st₀ t T' : State) (L : List Loc) (E : String) (ce : Cell), st₀.heap = H ∧ Stand p l e R s m args below meth c T' (locs ++ L) (cells + mc) (slots + ms) ∧ (∀ z ∈ L, free z.base) ∧ T'.heap = t.heap ∧ T'.vm = t.vm ∧ XC E st₀ t ∧ t.heap[q]? = some ce ∧ ce.vm = .none ∧ s.vm.findClass E = some ce.cls ∧
      Steps p.tables e below (T.setTop g) ((T'.setTop { g with stack := rest }).pushFrame (.throwing q)))
def vx_X {S : Type} (px : S → Prop) (B : String → S → State → Prop) (A : Nat → Prop) : String → State → State → Prop := fun E st t => ∃ u : S, px u ∧ B E u t ∧ va_F A st t
section Runs
variable {p : Program} {l : Launch} {e : Env} {R : Room} {s : State} {m : MethodId} {args : Array Value} {below : List Frame} {meth : Method} {c : Code} {H : Heap} {locs : List Loc} {cells slots : Nat}
variable {y : MethodName} {bytes cc : ByteArray} {maxL nL mc ms n index : Nat} {ret : Option FieldType} {ws : List Cond} {rm : Room} {Pc : Array Value → State → Prop} {Qc : Array Value → State → Outcome → State → Prop} {XC : String → State → State → Prop} {free : Addr → Prop} {Ts : List Cond} {own C : String} {b : Addr} {As rest : List Value} {g : JFrame}
theorem vx_callBack (cb : CallB R s args own index y bytes maxL ret ws rm mc ms n) (hM : vx_Met l y ws rm Pc Qc XC mc ms free) (hbl : FrameBlind Pc) : vx_Back l R p e below s args y 3 8 (PreOf R mc ms Pc) (PostOf Qc mc ms free) (vx_Post XC mc ms free) := by
  obtain ⟨hrc, hrs, hfr, hlo, hws, hcw, -, hini, -⟩ := cb
  exact vx_back (bytes := bytes) (maxL := maxL) (ret := ret) hM hbl hrc hrs hfr hlo hws hcw (fun a' U hW => word_at hW (Or.inl (by first | rfl | simp [Cond.onTables, Cond.keeps, Cond.steady])) hini)
theorem vx_runV (S : CallFix p m c cc nL s args Ts own) (hM : vx_Met l y ws rm Pc Qc XC mc ms free) (cw : CallW R s args own C index y bytes maxL ret ws rm mc ms n) (hp : PreV s H C b Pc As)
    (hg : g.method = m) (hn : As.length = n) (hsize : g.locals.size = nL) (hstack : g.stack = As.reverse ++ .ref b :: rest) (hW : 2 * g.monitorRoom + (rest.map fun v => v.category).sum ≤ 8) (hdg : decode cc g.pc = .ok (.invokevirtual index, 3)) (hf : cells + mc ≤ R.cells ∧ slots + ms ≤ R.slots) :
    vx_Run p l e R s m args below meth c H locs cells slots mc ms g rest (Qc (Value.ref b :: As).toArray) XC free := by
  have hK : vx_Back l R p e below s args y 3 8 (PreOf R mc ms Pc) (PostOf Qc mc ms free) (vx_Post XC mc ms free) := vx_callBack cw.1 hM hp.1
  obtain ⟨⟨-, -, -, -, -, -, hcode, -, hy, hlen, hl⟩, hin, hse⟩ := cw
  obtain ⟨hx, hb, hml, ho, -⟩ := S
  obtain ⟨-, ⟨cellB, hcB, hoB, hclB⟩, hPc⟩ := hp
  intro T hT X
  rcases vx_callV X hx (C := C) (bytes := bytes) (maxL := maxL) (ret := ret) ho hl hin hse hcode hy hK (by rw [hT]; exact hcB) hoB hclB hg (hsize.trans hml.symm) (argsL := As) (rest := rest) (fun sig h => hn.trans (hlen sig h)) hstack hW (by rw [hb]; exact hdg)
    (fun vm₁ hW₁ => ⟨hf.1, hf.2, hPc (T.setVm vm₁) hT hW₁⟩) with ⟨v, vm₁, ⟨U', l2, c2, s2⟩, hW₁, X', ⟨g', mk, t, L, e1, e2, hq, h1, hL, h2, h3⟩, st⟩ | ⟨q, vm₁, ⟨U', l2, c2, s2⟩, hW₁, X', ⟨g', mk, t, L, E, ce, e1, e2, hq, hce, hcv, hcl, h1, hL, h2, h3⟩, st⟩
  · dsimp only [Pt.U, Pt.locs, Pt.cells, Pt.slots] at X' e1 e2 h1 h2 h3 st
    subst h1; subst h2; subst h3
    exact Or.inl ⟨v, (T.setVm vm₁).calling g' mk (Value.ref b :: As).toArray, t, U', L, hT, X', hL, e1, e2, hq, st⟩
  · dsimp only [Pt.U, Pt.locs, Pt.cells, Pt.slots] at X' e1 e2 h1 h2 h3 st hcl
    subst h1; subst h2; subst h3
    exact Or.inr ⟨q, (T.setVm vm₁).calling g' mk (Value.ref b :: As).toArray, t, U', L, E, ce, hT, X', hL, e1, e2, hq, hce, hcv, vx_cls hW₁ hcl, st⟩
theorem vx_runS (S : CallFix p m c cc nL s args Ts own) (hM : vx_Met l y ws rm Pc Qc XC mc ms free) (cw : CallB R s args own index y bytes maxL ret ws rm mc ms n ∧ (Cond.static y).before args s = true) (hp : PreS s H Pc As)
    (hg : g.method = m) (hn : As.length = n) (hsize : g.locals.size = nL) (hstack : g.stack = As.reverse ++ rest) (hW : 2 * g.monitorRoom + (rest.map fun v => v.category).sum ≤ 8) (hdg : decode cc g.pc = .ok (.invokestatic index, 3)) (hf : cells + mc ≤ R.cells ∧ slots + ms ≤ R.slots) :
    vx_Run p l e R s m args below meth c H locs cells slots mc ms g rest (Qc As.toArray) XC free := by
  have hK : vx_Back l R p e below s args y 3 8 (PreOf R mc ms Pc) (PostOf Qc mc ms free) (vx_Post XC mc ms free) := vx_callBack cw.1 hM hp.1
  obtain ⟨⟨-, -, -, -, -, -, hcode, hini, hy, hlen, hl⟩, hstt⟩ := cw
  obtain ⟨hx, hb, hml, ho, -⟩ := S
  intro T hT X
  rcases vx_callS X hx (bytes := bytes) (maxL := maxL) (ret := ret) ho hl hstt hini hcode hy hK hg (hsize.trans hml.symm) (argsL := As) (rest := rest) (fun sig h => hn.trans (hlen sig h)) hstack hW (by rw [hb]; exact hdg)
    (fun vm₁ hW₁ => ⟨hf.1, hf.2, hp.2 (T.setVm vm₁) hT hW₁⟩) with ⟨v, vm₁, ⟨U', l2, c2, s2⟩, hW₁, X', ⟨g', mk, t, L, e1, e2, hq, h1, hL, h2, h3⟩, st⟩ | ⟨q, vm₁, ⟨U', l2, c2, s2⟩, hW₁, X', ⟨g', mk, t, L, E, ce, e1, e2, hq, hce, hcv, hcl, h1, hL, h2, h3⟩, st⟩
  · dsimp only [Pt.U, Pt.locs, Pt.cells, Pt.slots] at X' e1 e2 h1 h2 h3 st
    subst h1; subst h2; subst h3
    exact Or.inl ⟨v, (T.setVm vm₁).calling g' mk As.toArray, t, U', L, hT, X', hL, e1, e2, hq, st⟩
  · dsimp only [Pt.U, Pt.locs, Pt.cells, Pt.slots] at X' e1 e2 h1 h2 h3 st hcl
    subst h1; subst h2; subst h3
    exact Or.inr ⟨q, (T.setVm vm₁).calling g' mk As.toArray, t, U', L, E, ce, hT, X', hL, e1, e2, hq, hce, hcv, vx_cls hW₁ hcl, st⟩
end Runs
section Rows
variable {p : Program} {l : Launch} {e : Env} {R : Room} {s : State} {m : MethodId} {args : Array Value} {below : List Frame} {meth : Method} {c : Code} {H : Heap} {locs : List Loc} {cells slots : Nat} {Q : State → Prop}
variable {mc ms : Nat} {free : Addr → Prop} {A0 A1 : Nat → Prop} {H0 : Heap} {a : Array Value} {pc : Nat} {ls : Array Slot} {st0 rest : List Value}
theorem vx_keep {st₀ t T' : State} {L : List Loc} (h0 : st₀.heap = H) (e1 : T'.heap = t.heap) (hS : va_S A0 H0 H locs) (hA : ∀ q, q < H.size → A1 q → A0 q) (hf : ∀ q, free q → A0 q) (hL : ∀ q ∈ L, free q.base) (hF : va_F A1 st₀ t) :
    H.size ≤ T'.heap.size ∧ (∀ q : Nat, q < H.size → ¬ A1 q → T'.heap[q]? = H[q]?) ∧ va_S A0 H0 T'.heap (locs ++ L) := by
  obtain ⟨hz, hk⟩ := hF
  rw [h0] at hz hk
  exact ⟨by rw [e1]; exact hz, fun q h1 h2 => by rw [e1]; exact hk q h1 h2,
    ⟨Nat.le_trans hS.1 (by rw [e1]; exact hz), fun q h1 h2 => by rw [e1, hk q (Nat.lt_of_lt_of_le h1 hS.1) (fun z => h2 (hA q (Nat.lt_of_lt_of_le h1 hS.1) z))]; exact hS.2.1 q h1 h2, fun q hq => by
      rcases List.mem_append.mp hq with h | h
      · exact hS.2.2 q h
      · exact hf _ (hL q h)⟩⟩
theorem vx_calli {S SX : Type} {post : Int32 → S → Prop} {px : SX → Prop} {B : S → State → Prop} {BX : String → SX → State → Prop} {AX : Nat → Prop} (hr : vx_Run p l e R s m args below meth c H locs cells slots mc ms (F0 m pc ls st0) rest (va_Qi post B A1 a) (vx_X px BX AX) free) (hS : va_S A0 H0 H locs) (hA : ∀ q, q < H.size → A1 q → A0 q) (hf : ∀ q, free q → A0 q) (hAX : ∀ q, q < H.size → AX q → A0 q)
    (kx : ∀ (E : String) (ce : Cell) (q9 : Addr) (u : SX) (t : State) (H1 : Heap) (locs1 : List Loc), t.heap = H1 → s.vm.Alike t.vm → px u → BX E u t → H.size ≤ H1.size → (∀ q : Nat, q < H.size → ¬ AX q → H1[q]? = H[q]?) → va_S A0 H0 H1 locs1 → H1[q9]? = some ce → ce.vm = .none → s.vm.findClass E = some ce.cls → vx_W p l e R s m args below meth c H1 locs1 (cells + mc) (slots + ms) Q (F0 m pc ls rest) q9)
    (kk : ∀ (r : Int32) (u : S) (t : State) (H1 : Heap) (locs1 : List Loc), t.heap = H1 → s.vm.Alike t.vm → post r u → B u t → H.size ≤ H1.size → (∀ q : Nat, q < H.size → ¬ A1 q → H1[q]? = H[q]?) → va_S A0 H0 H1 locs1 → W p l e R s m args below meth c H1 locs1 (cells + mc) (slots + ms) Q (F0 m (pc + 3) ls (.int r :: rest))) : W p l e R s m args below meth c H locs cells slots Q (F0 m pc ls st0) := by
  intro T hT X
  rcases hr T hT X with ⟨v, st₀, t, T', L, h0, X', hL, e1, e2, ⟨⟨r, u, hv, hp, hb⟩, hF⟩, st⟩ | ⟨q, st₀, t, T', L, E, ce, h0, X', hL, e1, e2, ⟨u, hp, hb, hF⟩, hce, hcv, hcl, st⟩
  · cases hv
    obtain ⟨k1, k2, k3⟩ := vx_keep h0 e1 hS hA hf hL hF
    obtain ⟨t2, a1, b1⟩ := kk r u t T'.heap (locs ++ L) e1.symm (by rw [← e2]; exact X'.warmed.alike) hp hb k1 k2 k3 T' rfl X'
    exact ⟨t2, st t2 a1, b1⟩
  · obtain ⟨k1, k2, k3⟩ := vx_keep h0 e1 hS hAX hf hL hF
    obtain ⟨t2, a1, b1⟩ := kx E ce q u t T'.heap (locs ++ L) e1.symm (by rw [← e2]; exact X'.warmed.alike) hp hb k1 k2 k3 (by rw [e1]; exact hce) hcv hcl T' rfl X'
    exact ⟨t2, st.trans a1, b1⟩
theorem vx_calll {S SX : Type} {post : Int64 → S → Prop} {px : SX → Prop} {B : S → State → Prop} {BX : String → SX → State → Prop} {AX : Nat → Prop} (hr : vx_Run p l e R s m args below meth c H locs cells slots mc ms (F0 m pc ls st0) rest (va_Ql post B A1 a) (vx_X px BX AX) free) (hS : va_S A0 H0 H locs) (hA : ∀ q, q < H.size → A1 q → A0 q) (hf : ∀ q, free q → A0 q) (hAX : ∀ q, q < H.size → AX q → A0 q)
    (kx : ∀ (E : String) (ce : Cell) (q9 : Addr) (u : SX) (t : State) (H1 : Heap) (locs1 : List Loc), t.heap = H1 → s.vm.Alike t.vm → px u → BX E u t → H.size ≤ H1.size → (∀ q : Nat, q < H.size → ¬ AX q → H1[q]? = H[q]?) → va_S A0 H0 H1 locs1 → H1[q9]? = some ce → ce.vm = .none → s.vm.findClass E = some ce.cls → vx_W p l e R s m args below meth c H1 locs1 (cells + mc) (slots + ms) Q (F0 m pc ls rest) q9)
    (kk : ∀ (r : Int64) (u : S) (t : State) (H1 : Heap) (locs1 : List Loc), t.heap = H1 → s.vm.Alike t.vm → post r u → B u t → H.size ≤ H1.size → (∀ q : Nat, q < H.size → ¬ A1 q → H1[q]? = H[q]?) → va_S A0 H0 H1 locs1 → W p l e R s m args below meth c H1 locs1 (cells + mc) (slots + ms) Q (F0 m (pc + 3) ls (.long r :: rest))) : W p l e R s m args below meth c H locs cells slots Q (F0 m pc ls st0) := by
  intro T hT X
  rcases hr T hT X with ⟨v, st₀, t, T', L, h0, X', hL, e1, e2, ⟨⟨r, u, hv, hp, hb⟩, hF⟩, st⟩ | ⟨q, st₀, t, T', L, E, ce, h0, X', hL, e1, e2, ⟨u, hp, hb, hF⟩, hce, hcv, hcl, st⟩
  · cases hv
    obtain ⟨k1, k2, k3⟩ := vx_keep h0 e1 hS hA hf hL hF
    obtain ⟨t2, a1, b1⟩ := kk r u t T'.heap (locs ++ L) e1.symm (by rw [← e2]; exact X'.warmed.alike) hp hb k1 k2 k3 T' rfl X'
    exact ⟨t2, st t2 a1, b1⟩
  · obtain ⟨k1, k2, k3⟩ := vx_keep h0 e1 hS hAX hf hL hF
    obtain ⟨t2, a1, b1⟩ := kx E ce q u t T'.heap (locs ++ L) e1.symm (by rw [← e2]; exact X'.warmed.alike) hp hb k1 k2 k3 (by rw [e1]; exact hce) hcv hcl T' rfl X'
    exact ⟨t2, st.trans a1, b1⟩
theorem vx_callf {S SX : Type} {post : UInt32 → S → Prop} {px : SX → Prop} {B : S → State → Prop} {BX : String → SX → State → Prop} {AX : Nat → Prop} (hr : vx_Run p l e R s m args below meth c H locs cells slots mc ms (F0 m pc ls st0) rest (va_Qf post B A1 a) (vx_X px BX AX) free) (hS : va_S A0 H0 H locs) (hA : ∀ q, q < H.size → A1 q → A0 q) (hf : ∀ q, free q → A0 q) (hAX : ∀ q, q < H.size → AX q → A0 q)
    (kx : ∀ (E : String) (ce : Cell) (q9 : Addr) (u : SX) (t : State) (H1 : Heap) (locs1 : List Loc), t.heap = H1 → s.vm.Alike t.vm → px u → BX E u t → H.size ≤ H1.size → (∀ q : Nat, q < H.size → ¬ AX q → H1[q]? = H[q]?) → va_S A0 H0 H1 locs1 → H1[q9]? = some ce → ce.vm = .none → s.vm.findClass E = some ce.cls → vx_W p l e R s m args below meth c H1 locs1 (cells + mc) (slots + ms) Q (F0 m pc ls rest) q9)
    (kk : ∀ (r : UInt32) (u : S) (t : State) (H1 : Heap) (locs1 : List Loc), t.heap = H1 → s.vm.Alike t.vm → post r u → B u t → H.size ≤ H1.size → (∀ q : Nat, q < H.size → ¬ A1 q → H1[q]? = H[q]?) → va_S A0 H0 H1 locs1 → W p l e R s m args below meth c H1 locs1 (cells + mc) (slots + ms) Q (F0 m (pc + 3) ls (.float r :: rest))) : W p l e R s m args below meth c H locs cells slots Q (F0 m pc ls st0) := by
  intro T hT X
  rcases hr T hT X with ⟨v, st₀, t, T', L, h0, X', hL, e1, e2, ⟨⟨r, u, hv, hp, hb⟩, hF⟩, st⟩ | ⟨q, st₀, t, T', L, E, ce, h0, X', hL, e1, e2, ⟨u, hp, hb, hF⟩, hce, hcv, hcl, st⟩
  · cases hv
    obtain ⟨k1, k2, k3⟩ := vx_keep h0 e1 hS hA hf hL hF
    obtain ⟨t2, a1, b1⟩ := kk r u t T'.heap (locs ++ L) e1.symm (by rw [← e2]; exact X'.warmed.alike) hp hb k1 k2 k3 T' rfl X'
    exact ⟨t2, st t2 a1, b1⟩
  · obtain ⟨k1, k2, k3⟩ := vx_keep h0 e1 hS hAX hf hL hF
    obtain ⟨t2, a1, b1⟩ := kx E ce q u t T'.heap (locs ++ L) e1.symm (by rw [← e2]; exact X'.warmed.alike) hp hb k1 k2 k3 (by rw [e1]; exact hce) hcv hcl T' rfl X'
    exact ⟨t2, st.trans a1, b1⟩
theorem vx_calld {S SX : Type} {post : UInt64 → S → Prop} {px : SX → Prop} {B : S → State → Prop} {BX : String → SX → State → Prop} {AX : Nat → Prop} (hr : vx_Run p l e R s m args below meth c H locs cells slots mc ms (F0 m pc ls st0) rest (va_Qd post B A1 a) (vx_X px BX AX) free) (hS : va_S A0 H0 H locs) (hA : ∀ q, q < H.size → A1 q → A0 q) (hf : ∀ q, free q → A0 q) (hAX : ∀ q, q < H.size → AX q → A0 q)
    (kx : ∀ (E : String) (ce : Cell) (q9 : Addr) (u : SX) (t : State) (H1 : Heap) (locs1 : List Loc), t.heap = H1 → s.vm.Alike t.vm → px u → BX E u t → H.size ≤ H1.size → (∀ q : Nat, q < H.size → ¬ AX q → H1[q]? = H[q]?) → va_S A0 H0 H1 locs1 → H1[q9]? = some ce → ce.vm = .none → s.vm.findClass E = some ce.cls → vx_W p l e R s m args below meth c H1 locs1 (cells + mc) (slots + ms) Q (F0 m pc ls rest) q9)
    (kk : ∀ (r : UInt64) (u : S) (t : State) (H1 : Heap) (locs1 : List Loc), t.heap = H1 → s.vm.Alike t.vm → post r u → B u t → H.size ≤ H1.size → (∀ q : Nat, q < H.size → ¬ A1 q → H1[q]? = H[q]?) → va_S A0 H0 H1 locs1 → W p l e R s m args below meth c H1 locs1 (cells + mc) (slots + ms) Q (F0 m (pc + 3) ls (.double r :: rest))) : W p l e R s m args below meth c H locs cells slots Q (F0 m pc ls st0) := by
  intro T hT X
  rcases hr T hT X with ⟨v, st₀, t, T', L, h0, X', hL, e1, e2, ⟨⟨r, u, hv, hp, hb⟩, hF⟩, st⟩ | ⟨q, st₀, t, T', L, E, ce, h0, X', hL, e1, e2, ⟨u, hp, hb, hF⟩, hce, hcv, hcl, st⟩
  · cases hv
    obtain ⟨k1, k2, k3⟩ := vx_keep h0 e1 hS hA hf hL hF
    obtain ⟨t2, a1, b1⟩ := kk r u t T'.heap (locs ++ L) e1.symm (by rw [← e2]; exact X'.warmed.alike) hp hb k1 k2 k3 T' rfl X'
    exact ⟨t2, st t2 a1, b1⟩
  · obtain ⟨k1, k2, k3⟩ := vx_keep h0 e1 hS hAX hf hL hF
    obtain ⟨t2, a1, b1⟩ := kx E ce q u t T'.heap (locs ++ L) e1.symm (by rw [← e2]; exact X'.warmed.alike) hp hb k1 k2 k3 (by rw [e1]; exact hce) hcv hcl T' rfl X'
    exact ⟨t2, st.trans a1, b1⟩
theorem vx_callv {S SX : Type} {post : S → Prop} {px : SX → Prop} {B : S → State → Prop} {BX : String → SX → State → Prop} {AX : Nat → Prop} (hr : vx_Run p l e R s m args below meth c H locs cells slots mc ms (F0 m pc ls st0) rest (va_Qv post B A1 a) (vx_X px BX AX) free) (hS : va_S A0 H0 H locs) (hA : ∀ q, q < H.size → A1 q → A0 q) (hf : ∀ q, free q → A0 q) (hAX : ∀ q, q < H.size → AX q → A0 q)
    (kx : ∀ (E : String) (ce : Cell) (q9 : Addr) (u : SX) (t : State) (H1 : Heap) (locs1 : List Loc), t.heap = H1 → s.vm.Alike t.vm → px u → BX E u t → H.size ≤ H1.size → (∀ q : Nat, q < H.size → ¬ AX q → H1[q]? = H[q]?) → va_S A0 H0 H1 locs1 → H1[q9]? = some ce → ce.vm = .none → s.vm.findClass E = some ce.cls → vx_W p l e R s m args below meth c H1 locs1 (cells + mc) (slots + ms) Q (F0 m pc ls rest) q9)
    (kk : ∀ (u : S) (t : State) (H1 : Heap) (locs1 : List Loc), t.heap = H1 → s.vm.Alike t.vm → post u → B u t → H.size ≤ H1.size → (∀ q : Nat, q < H.size → ¬ A1 q → H1[q]? = H[q]?) → va_S A0 H0 H1 locs1 → W p l e R s m args below meth c H1 locs1 (cells + mc) (slots + ms) Q (F0 m (pc + 3) ls (rest))) : W p l e R s m args below meth c H locs cells slots Q (F0 m pc ls st0) := by
  intro T hT X
  rcases hr T hT X with ⟨v, st₀, t, T', L, h0, X', hL, e1, e2, ⟨⟨u, hv, hp, hb⟩, hF⟩, st⟩ | ⟨q, st₀, t, T', L, E, ce, h0, X', hL, e1, e2, ⟨u, hp, hb, hF⟩, hce, hcv, hcl, st⟩
  · cases hv
    obtain ⟨k1, k2, k3⟩ := vx_keep h0 e1 hS hA hf hL hF
    obtain ⟨t2, a1, b1⟩ := kk u t T'.heap (locs ++ L) e1.symm (by rw [← e2]; exact X'.warmed.alike) hp hb k1 k2 k3 T' rfl X'
    exact ⟨t2, st t2 a1, b1⟩
  · obtain ⟨k1, k2, k3⟩ := vx_keep h0 e1 hS hAX hf hL hF
    obtain ⟨t2, a1, b1⟩ := kx E ce q u t T'.heap (locs ++ L) e1.symm (by rw [← e2]; exact X'.warmed.alike) hp hb k1 k2 k3 (by rw [e1]; exact hce) hcv hcl T' rfl X'
    exact ⟨t2, st.trans a1, b1⟩
/-- caught by the row x of this method's table; the rows ahead don't take it -/
theorem vx_catch {own name : String} {E : String} {ce : Cell} {q : Addr} (hown : s.vm.findClass own = some m.cls) (pre : List ExceptionTableEntry) (x : ExceptionTableEntry) (suf : List ExceptionTableEntry) (hsplit : c.exceptionTable.toList = pre ++ x :: suf)
    (hpass : ∀ z ∈ pre, covers z pc = false ∨ (z.catchType ≠ 0 ∧ ∃ nm : String, (Cond.classLink own z.catchType nm).before args s = true ∧ va_Nc E nm s)) (hx : covers x pc = true) (h0 : x.catchType ≠ 0)
    (hlink : (Cond.classLink own x.catchType name).before args s = true) (hcast : (Cond.castable E name).before args s = true) (hcell : H[q]? = some ce) (hv : ce.vm = .none) (hcl : s.vm.findClass E = some ce.cls)
    (kk : W p l e R s m args below meth c H locs cells slots Q (F0 m x.handlerPc ls [.ref q])) : vx_W p l e R s m args below meth c H locs cells slots Q (F0 m pc ls rest) q := by
  intro T hT X
  have hpl : e.platform.magicAccessors = ({} : Platform).magicAccessors := by rw [X.admits.platform]
  obtain ⟨c3, c4, hc3, hc4, hasg⟩ := Cond.castable_spec hcast
  cases Option.some.inj (hc3.symm.trans hcl)
  obtain ⟨c5, hc5, hcl5⟩ := Cond.classLink_spec hown hlink e.platform hpl
  cases Option.some.inj (hc4.symm.trans hc5)
  obtain ⟨vm', X', st⟩ := X.thenCaughtThrough q (g := F0 m pc ls rest) rfl (Steps.refl _) (by rw [hT]; exact hcell) (by rw [hv]; rfl) (by obtain ⟨k9, h9, -⟩ := Vm.findClass_spec hcl; exact ⟨k9, h9⟩) pre x suf hsplit
    (fun z hz => by
      rcases hpass z hz with h | ⟨hz0, nm, hl1, hn1⟩
      · exact Or.inl h
      · obtain ⟨c6, hc6, hcl6⟩ := Cond.classLink_spec hown hl1 e.platform hpl
        obtain ⟨a8, b8, h1, h2, h3⟩ := hn1
        cases Option.some.inj (h1.symm.trans hcl)
        cases Option.some.inj (h2.symm.trans hc6)
        exact Or.inr ⟨hz0, _, hcl6, h3⟩) hx (Or.inr ⟨h0, c4, hcl5, hasg⟩)
  obtain ⟨t, a1, b1⟩ := kk (T.setVm vm') hT X'
  exact ⟨t, st.trans a1, b1⟩
end Rows
section Ends
variable {p : Program} {l : Launch} {e : Env} {R : Room} {s : State} {m : MethodId} {args : Array Value} {below : List Frame} {meth : Method} {c : Code} {H : Heap} {locs : List Loc} {cells slots : Nat} {Q : State → Prop}
variable {mc ms : Nat} {free : Addr → Prop} {A0 A1 : Nat → Prop} {H0 : Heap} {a : Array Value} {ls : Array Slot} {st0 rest : List Value}
variable {Qc : Array Value → State → Outcome → State → Prop} {XC : String → State → State → Prop}
/-- what a body that may throw owes at its end -/
def vx_MQ (below : List Frame) (Qc : Array Value → State → Outcome → State → Prop) (XC : String → State → State → Prop) (a : Array Value) (s : State) (mc ms : Nat) (free : Addr → Prop) : State → Prop := fun t =>
  ∃ o, t.status = .running ∧ Ended t below o ∧ vx_Q Qc XC mc ms free a s o t
theorem vx_ret {g : JFrame} {mc ms : Nat} (k : W p l e R s m args below meth c H locs cells slots (MQ below Qc args s mc ms free) g) : W p l e R s m args below meth c H locs cells slots (vx_MQ below Qc XC args s mc ms free) g := by
  intro T hT X
  obtain ⟨t, a1, o, b1, b2, b3, b4⟩ := k T hT X
  exact ⟨t, a1, o, b1, b2, Or.inl ⟨b3, b4⟩⟩
/-- not caught here: it goes on to the caller -/
theorem vx_widen {g : JFrame} {q : Addr} {k n : Nat} (h1 : cells ≤ k) (h2 : slots ≤ n) (kk : vx_W p l e R s m args below meth c H locs k n Q g q) : vx_W p l e R s m args below meth c H locs cells slots Q g q := fun T hT X => kk T hT (stand_widen X h1 h2)
theorem vx_out {pc : Nat} {E : String} {ce : Cell} {q : Addr} {mc ms : Nat} (hout : ∀ x ∈ c.exceptionTable.toList, covers x pc = false) (hlocks : meth.locks = false) (hcell : H[q]? = some ce) (hv : ce.vm = .none) (hcl : s.vm.findClass E = some ce.cls)
    (hx : ∀ t : State, t.heap = H → s.vm.Alike t.vm → XC E s t) (hf : ∀ z ∈ locs, free z.base) (hc : cells ≤ mc) (hs : slots ≤ ms) :
    vx_W p l e R s m args below meth c H locs cells slots (vx_MQ below Qc XC args s mc ms free) (F0 m pc ls rest) q := by
  intro T hT X
  obtain ⟨st1, hrun, hend, hW, hsm⟩ := X.leaveThrown q (g := F0 m pc ls rest) rfl rfl rfl hout hlocks
  have hcell9 : (T.setFrames (.throwing q :: below)).heap[q]? = some ce := by
    show T.heap[q]? = some ce
    rw [hT]; exact hcell
  exact ⟨_, st1, .threw q, hrun, hend, Or.inr ⟨q, rfl, E, ce, locs, hx _ hT hW.alike, hcell9, hv, hcl, hW, hsm.mono hc hs, hf⟩⟩
theorem vx_frame {U : State} {k n : Nat} (h : s.sameButNew ({ U with vm := s.vm } : State) locs k n) : s.heap.size ≤ U.heap.size ∧ ∀ q : Nat, q < s.heap.size → (∀ z ∈ locs, z.base ≠ q) → U.heap[q]? = s.heap[q]? := by
  obtain ⟨-, h2, -, -, -, h6⟩ := h
  refine ⟨h2, fun q hq hz => ?_⟩
  obtain ⟨c9, e1, e2, e3, e4⟩ := h6 q _ (Array.getElem?_eq_getElem hq)
  have hs : c9.slots = (s.heap[q]).slots := Array.ext_getElem? fun i => e4 i fun hm => hz _ hm rfl
  have h9 : c9 = s.heap[q] := by
    rw [hs] at e2
    exact e2
  have e5 : U.heap[q]? = some c9 := e1
  rw [e5, h9, Array.getElem?_eq_getElem hq]
/-- the words of a throw but the four that speak of the heap -/
def vx_no (w : Cond) : Bool := decide (w ≠ .isRef (.static Bundle.tN "UNASSIGNED_STACK" Bundle.steD)) && decide (w ≠ .isRef (.static Bundle.tN "SUPPRESSED_SENTINEL" Bundle.listD)) && decide (w ≠ .laysStatic Bundle.tN "UNASSIGNED_STACK" Bundle.steD) && decide (w ≠ .laysStatic Bundle.tN "SUPPRESSED_SENTINEL" Bundle.listD)
def vx_at0 (own : String) (ic : Nat) (X : String) (names : List String) : List Cond := (Bundle.ownAtoms0 own ic X names).filter vx_no
def vx_atS (own : String) (ic : Nat) (X : String) (names : List String) : List Cond := (Bundle.ownAtoms own ic X names).filter vx_no
/-- a word that the tables alone decide, or a good one -/
def vx_ot (w : Cond) : Bool := w.onTables || goodWord w
theorem vx_ot_at {args a' : Array Value} {s U : State} {w : Cond} (hW : s.WarmedH U.vm) (hvm : s.vm = U.vm) (hg : vx_ot w = true) (h : w.before args s = true) : w.before a' U = true := by
  simp only [vx_ot, Bool.or_eq_true] at hg
  rcases hg with hg | hg
  · exact va_tabs hg hvm h
  · exact word_at hW (good_of_word hg) h
/-- a list's words: the good ones out of the method's own list, the others by premises of their own -/
theorem vx_hat {args : Array Value} {s : State} {L B : List Cond} (h1 : ∀ w ∈ L.filter goodWord, w.before args s = true) (h2 : ∀ w ∈ L.filter (fun w => !goodWord w), w ∈ B) (h3 : ∀ w ∈ B, w.before args s = true) : ∀ w ∈ L, w.before args s = true := by
  intro w hw
  by_cases g : goodWord w = true
  · exact h1 w (List.mem_filter.mpr ⟨hw, g⟩)
  · refine h3 w (h2 w (List.mem_filter.mpr ⟨hw, ?_⟩))
    show (!goodWord w) = true
    cases hgw : goodWord w
    · rfl
    · exact absurd hgw g
theorem vx_c {args : Array Value} {s : State} {w : Cond} {B : List Cond} (h : w.before args s = true) (t : ∀ w ∈ B, w.before args s = true) : ∀ w' ∈ w :: B, w'.before args s = true := fun w' h' => (List.mem_cons.mp h').elim (fun e => by rw [e]; exact h) (t w')
theorem vx_n {args : Array Value} {s : State} : ∀ w ∈ ([] : List Cond), w.before args s = true := fun _ h => nomatch h
theorem vx_own {args : Array Value} {s : State} {L : List Cond} (h1 : ∀ w ∈ L.filter vx_no, w.before args s = true)
    (hU : (Cond.isRef (.static Bundle.tN "UNASSIGNED_STACK" Bundle.steD)).before args s = true) (hN : (Cond.isRef (.static Bundle.tN "SUPPRESSED_SENTINEL" Bundle.listD)).before args s = true)
    (lU : (Cond.laysStatic Bundle.tN "UNASSIGNED_STACK" Bundle.steD).before args s = true) (lN : (Cond.laysStatic Bundle.tN "SUPPRESSED_SENTINEL" Bundle.listD).before args s = true) : ∀ w ∈ L, w.before args s = true := by
  intro w hw
  by_cases e1 : w = .isRef (.static Bundle.tN "UNASSIGNED_STACK" Bundle.steD)
  · rw [e1]; exact hU
  · by_cases e2 : w = .isRef (.static Bundle.tN "SUPPRESSED_SENTINEL" Bundle.listD)
    · rw [e2]; exact hN
    · by_cases e3 : w = .laysStatic Bundle.tN "UNASSIGNED_STACK" Bundle.steD
      · rw [e3]; exact lU
      · by_cases e4 : w = .laysStatic Bundle.tN "SUPPRESSED_SENTINEL" Bundle.listD
        · rw [e4]; exact lN
        · exact h1 w (List.mem_filter.mpr ⟨hw, by unfold vx_no; rw [decide_eq_true e1, decide_eq_true e2, decide_eq_true e3, decide_eq_true e4]; rfl⟩)
/-- where a static field lies, its class's statics cell in H -/
def vx_L (C n d : String) (A : Nat → Prop) (U : State) (H : Heap) : Prop := ∃ (c : ClassId) (k : Class) (i : Nat) (f : Field) (a : Nat) (cell : Cell), U.vm.findClass C = some c ∧ U.fieldFound? C n d = some (c, k, i, f) ∧ f.isStatic = true ∧ k.statics = some a ∧ H[a]? = some cell ∧ cell.vm.isStatics = true ∧ cell.cls = c ∧ f.slot < cell.slots.size ∧ k.staticTypes[f.slot]? = some f.type ∧ ¬ A a
theorem vx_L.moved {C n d : String} {A : Nat → Prop} {u U : State} {H : Heap} (hvm : u.vm.Alike U.vm) (h : vx_L C n d A u H) : vx_L C n d A U H := by
  obtain ⟨c, k, i, f, a, cell, h1, h2, h3, h4, h5, h6, h7, h8, h9, h10⟩ := h
  obtain ⟨k', hi', he⟩ := State.fieldFound?_setVm hvm h2
  exact ⟨c, k', i, f, a, cell, by rw [hvm.findClass]; exact h1, hi', h3, by rw [he]; exact h4, h5, h6, h7, h8, by rw [he]; exact h9, h10⟩
theorem vx_L.kept {C n d : String} {A : Nat → Prop} {U : State} {H H1 : Heap} (h : vx_L C n d A U H) (hq : ∀ a : Nat, a < H.size → ¬ A a → H1[a]? = H[a]?) : vx_L C n d A U H1 := by
  obtain ⟨c, k, i, f, a, cell, h1, h2, h3, h4, h5, h6, h7, h8, h9, h10⟩ := h
  exact ⟨c, k, i, f, a, cell, h1, h2, h3, h4, by rw [hq a (Array.getElem?_eq_some_iff.mp h5).1 h10]; exact h5, h6, h7, h8, h9, h10⟩
theorem vx_L.narrow {C n d : String} {A B : Nat → Prop} {U : State} {H : Heap} (h : vx_L C n d A U H) (hAB : ∀ q, B q → A q) : vx_L C n d B U H := by
  obtain ⟨c, k, i, f, a, cell, h1, h2, h3, h4, h5, h6, h7, h8, h9, h10⟩ := h
  exact ⟨c, k, i, f, a, cell, h1, h2, h3, h4, h5, h6, h7, h8, h9, fun z => h10 (hAB _ z)⟩
theorem vx_L.word {C n d : String} {A : Nat → Prop} {s : State} {args : Array Value} (h : vx_L C n d A s s.heap) : (Cond.laysStatic C n d).before args s = true := by
  obtain ⟨c, k, i, f, a, cell, h1, h2, h3, h4, h5, h6, h7, h8, h9, -⟩ := h
  show (Cond.laysStatic C n d).holds args s none s [] = true
  exact Cond.laysStatic_of h1 h2 h3 h4 h5 h6 h7 h8 h9
/-- .. and what it holds: null or some reference -/
def vx_Zq (C n d : String) (A : Nat → Prop) (U : State) (H : Heap) : Prop := va_Zq C n d A U H ∧ vx_L C n d A U H
theorem vx_Zq.moved {C n d : String} {A : Nat → Prop} {u U : State} {H : Heap} (hvm : u.vm.Alike U.vm) (h : vx_Zq C n d A u H) : vx_Zq C n d A U H := ⟨va_Zq.moved hvm h.1, vx_L.moved hvm h.2⟩
theorem vx_Zq.kept {C n d : String} {A : Nat → Prop} {U : State} {H H1 : Heap} (h : vx_Zq C n d A U H) (hq : ∀ a : Nat, a < H.size → ¬ A a → H1[a]? = H[a]?) : vx_Zq C n d A U H1 := ⟨va_Zq.kept h.1 hq, vx_L.kept h.2 hq⟩
theorem vx_Zq.narrow {C n d : String} {A B : Nat → Prop} {U : State} {H : Heap} (h : vx_Zq C n d A U H) (hAB : ∀ q, B q → A q) : vx_Zq C n d B U H := ⟨va_Zq.narrow h.1 hAB, vx_L.narrow h.2 hAB⟩
theorem vx_Zqof {args : Array Value} {s : State} {C n d : String} {A : Nat → Prop} (hl : (Cond.laysStatic C n d).before args s = true) (hini : (Cond.initialized C).before args s = true) (h : (Cond.isRef (.static C n d)).before args s = true) (hA : ∀ a : Nat, a < s.heap.size → ¬ A a) : vx_Zq C n d A s s.heap := by
  refine ⟨va_Zqof hl hini h hA, ?_⟩
  obtain ⟨c, k, i, f, a, cell, h1, h2, h3, h4, h5, h6, h7, h8, h9⟩ := Cond.laysStatic_spec hl
  exact ⟨c, k, i, f, a, cell, h1, h2, h3, h4, h5, h6, h7, h8, h9, hA a (Array.getElem?_eq_some_iff.mp h5).1⟩
theorem vx_isRef {C n d : String} {v : Value} {A : Nat → Prop} {s : State} {args : Array Value} (h : va_Z C n d v A s s.heap) (hv : v.isRef = true) : (Cond.isRef (.static C n d)).before args s = true := by
  obtain ⟨cf, kf, fi, f, a, cell, h1, h2, h3, h4, h5, h6, h7, -⟩ := h
  have he : (Term.static C n d).eval args s none [] s = some v := by
    simp [Term.eval, State.fieldNamed?, h1, h2, h4, h5, h6, h7]
  simp only [Cond.before, Cond.holds, Cond.value, he]
  cases v <;> simp_all [Value.isRef]
theorem vx_isRefq {C n d : String} {A : Nat → Prop} {s : State} {args : Array Value} (h : va_Zq C n d A s s.heap) : (Cond.isRef (.static C n d)).before args s = true := by
  rcases h with h | ⟨t, h⟩
  · exact vx_isRef h rfl
  · exact vx_isRef h rfl
/-- the same frame, seen from here: as if the method were called anew in this heap -/
theorem vx_rebase {T : State} (X : Stand p l e R s m args below meth c T locs cells slots) {R' : Room} (hf : R'.frames ≤ R.frames) (hl : R'.locals ≤ R.locals) (hc : cells + R'.cells ≤ R.cells) (hs : slots + R'.slots ≤ R.slots) :
    Stand p l e R' ((T.setVm s.vm).setFrames (.invoking m args :: below)) m args below meth c T [] 0 0 := by
  have htop : (T.setVm s.vm).topJava?.isSome := X.here.top
  have hF : ((T.setVm s.vm).setFrames (.invoking m args :: below)).frames = .invoking m args :: below := State.frames_setFrames _ (State.cur_lt_of_top htop)
  obtain ⟨g₀, hg0⟩ := Option.isSome_iff_exists.mp htop
  obtain ⟨r, hr⟩ := State.topJava?_eq_some.mp hg0
  have hl9 : e.platform.stackLimits (T.setVm s.vm).me = e.platform.stackLimits s.me := X.limits
  have hb9 : (T.setVm s.vm).me.stackBytes = s.me.stackBytes := X.bytes
  refine ⟨X.admits, X.cas, X.clock, hF, ?_, X.hears, X.method, X.code, X.here, X.tail, X.warmed, ?_, ?_, ?_⟩
  · have h := X.room
    have hU : ((T.setVm s.vm).setFrames (.invoking m args :: below)).localsInUse = s.localsInUse := by
      rw [State.localsInUse_invoking hF (meth := meth) (c := c) X.method X.code, State.localsInUse_invoking X.frames X.method X.code]
    simp only [State.hasRoom, Bool.and_eq_true, decide_eq_true_eq] at h ⊢
    obtain ⟨⟨⟨⟨h1, h2, h3, h4, h5, h6⟩, h7⟩, h8⟩, h9⟩ := h
    rw [X.frames, List.length_cons] at h2 h3
    have q1 := X.heapSize
    have q2 := X.used
    simp only [hF, hU, List.length_cons, State.stackLimits_setFrames, State.stackBytes_setFrames, hl9, hb9]
    refine ⟨⟨⟨⟨by omega, by omega, by omega, by omega, by omega, h6⟩, ?_⟩, ?_⟩, X.book⟩
    · show T.heap.size + R'.cells ≤ e.platform.maxCells
      omega
    · show T.slotsUsed + R'.slots ≤ e.platform.maxSlots
      omega
  · rw [State.stackLimits_setFrames]; rfl
  · rw [State.stackBytes_setFrames]; rfl
  · refine ⟨?_, Nat.le_refl _, Nat.le_refl _, ?_, ?_, fun a c9 h9 => ⟨c9, h9, rfl, rfl, fun _ _ => rfl⟩⟩
    · obtain ⟨t, ht, -⟩ := State.frames_cons hr
      show T.setVm s.vm = { ((T.setVm s.vm).setFrames (.invoking m args :: below)).setFrames (T.setVm s.vm).frames with heap := T.heap, slotsUsed := T.slotsUsed }
      rw [State.setFrames_setFrames, State.setFrames_self ht]
      rfl
    · show T.slotsUsed = T.slotsUsed + ((T.heap.toList.drop T.heap.size).map (·.slots.size)).sum
      rw [List.drop_eq_nil_of_le (Nat.le_of_eq Array.length_toList)]
      rfl
    · show ((T.heap.toList.drop T.heap.size).map (·.slots.size)).sum ≤ 0
      rw [List.drop_eq_nil_of_le (Nat.le_of_eq Array.length_toList)]
      exact Nat.le_refl _
/-- 'throw new E()': new; dup; invokespecial; athrow -/
theorem vx_throw0 {cc : ByteArray} {pc : Nat} (hexec : p.tables.exec = Jvm.exec) (hb : c.code = cc) (hl : l.stackTraces = false) {own cls : String} {names : List String} {ik ic mc ms : Nat} {A : Nat → Prop}
    (hown : s.vm.findClass own = some m.cls) (hcls : Bundle.fit cls = true) (hnames : ∀ n ∈ names, Bundle.fit n = true)
    (hk : (Cond.classLink own ik cls).before args s = true) (hini : (Cond.initialized cls).before args s = true) (hat : ∀ w ∈ vx_at0 own ic cls names, w.before args s = true)
    (hgood : ∀ w ∈ Cond.classLink own ik cls :: Cond.initialized cls :: vx_at0 own ic cls names, vx_ot w = true)
    (hU : vx_Zq Bundle.tN "UNASSIGNED_STACK" Bundle.steD A s s.heap) (hN : vx_Zq Bundle.tN "SUPPRESSED_SENTINEL" Bundle.listD A s s.heap) (hS : va_S A s.heap H locs) (hsize : ls.size = c.maxLocals)
    (d0 : decode cc pc = .ok (.new ik, 3)) (d3 : decode cc (pc + 3) = .ok (.dup, 1)) (d4 : decode cc (pc + 4) = .ok (.invokespecial ic, 3)) (d7 : decode cc (pc + 7) = .ok (.athrow, 1))
    (hout : ∀ x ∈ c.exceptionTable.toList, covers x (pc + 7) = false)
    (hRframes : names.length + 3 < R.frames) (hRlocals : (rest.map fun v => v.category).sum + (13 * (names.length + 1) + 42) ≤ R.locals) (hRcells : cells + 1 ≤ R.cells) (hRslots : slots + 6 ≤ R.slots) (hlocks : meth.locks = false)
    (hx : ∀ t : State, s.vm.Alike t.vm → H.size ≤ t.heap.size → (∀ q : Nat, q < H.size → t.heap[q]? = H[q]?) → XC cls s t)
    (hf : ∀ z ∈ locs, free z.base) (hc : cells + 1 ≤ mc) (hs : slots + 6 ≤ ms) :
    W p l e R s m args below meth c H locs cells slots (vx_MQ below Qc XC args s mc ms free) (F0 m pc ls rest) := by
  intro T hT X
  have htr : e.platform.stackTraces = false := (show e.platform.stackTraces = l.stackTraces by rw [X.admits.platform]).trans hl
  have Y := vx_rebase X (R' := { frames := R.frames, locals := R.locals, cells := 1, slots := 6 }) (Nat.le_refl _) (Nat.le_refl _) hRcells hRslots
  obtain ⟨s', hA⟩ : ∃ z, z = (T.setVm s.vm).setFrames (.invoking m args :: below) := ⟨_, rfl⟩
  rw [← hA] at Y
  have hvm : s'.vm = s.vm := by rw [hA]; rfl
  have hhp : s'.heap = H := by rw [hA]; exact hT
  have hW0 : s.WarmedH s'.vm := by rw [hvm]; exact State.WarmedH.refl s
  have hat' : ∀ w ∈ vx_at0 own ic cls names, w.before args s' = true := fun w hw => vx_ot_at hW0 hvm.symm (hgood w (List.mem_cons_of_mem _ (List.mem_cons_of_mem _ hw))) (hat w hw)
  have hk' : (Cond.classLink own ik cls).before args s' = true := vx_ot_at hW0 hvm.symm (hgood _ List.mem_cons_self) hk
  have hini' : (Cond.initialized cls).before args s' = true := vx_ot_at hW0 hvm.symm (hgood _ (List.mem_cons_of_mem _ List.mem_cons_self)) hini
  have hU' : vx_Zq Bundle.tN "UNASSIGNED_STACK" Bundle.steD A s' s'.heap := by rw [hhp]; exact vx_Zq.moved hW0.alike (hU.kept hS.2.1)
  have hN' : vx_Zq Bundle.tN "SUPPRESSED_SENTINEL" Bundle.listD A s' s'.heap := by rw [hhp]; exact vx_Zq.moved hW0.alike (hN.kept hS.2.1)
  have h : ∀ w ∈ Bundle.ownAtoms0 own ic cls names, w.before args s' = true := vx_own hat' (vx_isRefq hU'.1) (vx_isRefq hN'.1) hU'.2.word hN'.2.word
  have hown' : s'.vm.findClass own = some m.cls := by rw [hvm]; exact hown
  have hins : (Cond.instantiable cls 6).before args s' = true := h _ (by simp [Bundle.ownAtoms0])
  obtain ⟨vm₁, cX, kX, hfX, hkX, -, -, X₁, st1⟩ := Y.newCold hexec (own := own) (C := cls) (index := ik) (n := 6) hown' hk' hins hini'
    (g := F0 m pc ls rest) rfl (by rw [hb]; exact d0) (Nat.le_refl _) (Nat.le_refl _)
  generalize hT1 : (T.setVm vm₁).pushCell { cls := cX, slots := kX.instanceTypes.map defaultValue, vm := .none } = T1 at X₁ st1
  have hcat : (Value.ref T.heap.size).category = 1 := rfl
  have hcellA : T1.heap[T.heap.size]? = some (freshCell cX kX) := by rw [← hT1]; exact State.heap_pushCell_size _ _
  have d3' : decode c.code (pc + 3) = .ok (.dup, 1) := by rw [hb]; exact d3
  obtain ⟨U, hsteps, hrun, hend, hW, hsame, ce, hce, hO⟩ := X₁.ctorThrow0 hexec htr (own := own) (cls := cls) (names := names) (ic := ic) hown' hcls hnames h (fun x hx => nomatch hx) hfX hkX hcellA (by rw [hhp, hT]; exact Nat.le_refl _)
    (g := { method := m, pc := pc + 4, locals := ls, stack := .ref T.heap.size :: .ref T.heap.size :: rest, locked := none }) rfl hsize rfl rfl (rest := rest) rfl
    (by rw [hb]; exact d4) (by rw [hb]; exact d7) hout hRframes (by simp only [List.map_cons, List.sum_cons, hcat]; omega) hlocks
  obtain ⟨f1, f2⟩ := vx_frame hsame
  rw [hhp] at f1 f2
  have hWs : s.WarmedH U.vm := State.WarmedH.trans hW0 hW
  have hcl : s.vm.findClass cls = some ce.cls := by
    have h9 := hO.cls
    rw [hvm] at h9
    exact h9
  have hall : s.sameButNew ({ U with vm := s.vm } : State) locs mc ms := by
    subst hA
    obtain ⟨e1, e2⟩ := hsame
    rw [State.setFrames_setFrames] at e1
    have h2 : (T.setVm s.vm).sameButNew ({ U with vm := s.vm } : State) [] (0 + 1) (0 + 6) := ⟨e1, e2⟩
    have h3 := X.same.trans h2
    rw [List.append_nil] at h3
    exact h3.mono hc hs
  refine ⟨U, ?_, .threw T.heap.size, hrun, hend, Or.inr ⟨T.heap.size, rfl, cls, ce, locs, hx U hWs.alike f1 (fun q hq => f2 q hq (fun z hz => nomatch hz)), hce, hO.vm, hcl, hWs, hall, hf⟩⟩
  refine st1 _ ?_
  show Steps p.tables e below (T1.setTop { method := m, pc := pc + 3, locals := ls, stack := .ref T.heap.size :: rest, locked := none }) _
  jvm_step X₁.here [X₁.here.top, hexec, d3', Value.category]
  exact hsteps
/-- 'throw new E("text")': new; dup; ldc; invokespecial; athrow -/
theorem vx_throwS {cc : ByteArray} {pc : Nat} (hexec : p.tables.exec = Jvm.exec) (hb : c.code = cc) (hl : l.stackTraces = false) {own cls text : String} {names : List String} {ik is ic mc ms sa : Nat} {A : Nat → Prop}
    (hown : s.vm.findClass own = some m.cls) (hcls : Bundle.fit cls = true) (hnames : ∀ n ∈ names, Bundle.fit n = true)
    (hk : (Cond.classLink own ik cls).before args s = true) (hini : (Cond.initialized cls).before args s = true) (hstr : vk_R own is text sa s) (hat : ∀ w ∈ vx_atS own ic cls names, w.before args s = true)
    (hgood : ∀ w ∈ Cond.classLink own ik cls :: Cond.initialized cls :: vx_atS own ic cls names, vx_ot w = true)
    (hU : vx_Zq Bundle.tN "UNASSIGNED_STACK" Bundle.steD A s s.heap) (hN : vx_Zq Bundle.tN "SUPPRESSED_SENTINEL" Bundle.listD A s s.heap) (hS : va_S A s.heap H locs) (hsize : ls.size = c.maxLocals)
    (d0 : decode cc pc = .ok (.new ik, 3)) (d3 : decode cc (pc + 3) = .ok (.dup, 1)) (d4 : decode cc (pc + 4) = .ok (.ldc is, 2)) (d6 : decode cc (pc + 6) = .ok (.invokespecial ic, 3)) (d9 : decode cc (pc + 9) = .ok (.athrow, 1))
    (hout : ∀ x ∈ c.exceptionTable.toList, covers x (pc + 9) = false)
    (hRframes : names.length + 3 < R.frames) (hRlocals : (rest.map fun v => v.category).sum + (13 * (names.length + 1) + 43) ≤ R.locals) (hRcells : cells + 1 ≤ R.cells) (hRslots : slots + 6 ≤ R.slots) (hlocks : meth.locks = false)
    (hx : ∀ t : State, s.vm.Alike t.vm → H.size ≤ t.heap.size → (∀ q : Nat, q < H.size → t.heap[q]? = H[q]?) → XC cls s t)
    (hf : ∀ z ∈ locs, free z.base) (hc : cells + 1 ≤ mc) (hs : slots + 6 ≤ ms) :
    W p l e R s m args below meth c H locs cells slots (vx_MQ below Qc XC args s mc ms free) (F0 m pc ls rest) := by
  intro T hT X
  have htr : e.platform.stackTraces = false := (show e.platform.stackTraces = l.stackTraces by rw [X.admits.platform]).trans hl
  have Y := vx_rebase X (R' := { frames := R.frames, locals := R.locals, cells := 1, slots := 6 }) (Nat.le_refl _) (Nat.le_refl _) hRcells hRslots
  obtain ⟨s', hA⟩ : ∃ z, z = (T.setVm s.vm).setFrames (.invoking m args :: below) := ⟨_, rfl⟩
  rw [← hA] at Y
  have hvm : s'.vm = s.vm := by rw [hA]; rfl
  have hhp : s'.heap = H := by rw [hA]; exact hT
  have hW0 : s.WarmedH s'.vm := by rw [hvm]; exact State.WarmedH.refl s
  have hat' : ∀ w ∈ vx_atS own ic cls names, w.before args s' = true := fun w hw => vx_ot_at hW0 hvm.symm (hgood w (List.mem_cons_of_mem _ (List.mem_cons_of_mem _ hw))) (hat w hw)
  have hk' : (Cond.classLink own ik cls).before args s' = true := vx_ot_at hW0 hvm.symm (hgood _ List.mem_cons_self) hk
  have hini' : (Cond.initialized cls).before args s' = true := vx_ot_at hW0 hvm.symm (hgood _ (List.mem_cons_of_mem _ List.mem_cons_self)) hini
  have hU' : vx_Zq Bundle.tN "UNASSIGNED_STACK" Bundle.steD A s' s'.heap := by rw [hhp]; exact vx_Zq.moved hW0.alike (hU.kept hS.2.1)
  have hN' : vx_Zq Bundle.tN "SUPPRESSED_SENTINEL" Bundle.listD A s' s'.heap := by rw [hhp]; exact vx_Zq.moved hW0.alike (hN.kept hS.2.1)
  have h : ∀ w ∈ Bundle.ownAtoms own ic cls names, w.before args s' = true := vx_own hat' (vx_isRefq hU'.1) (vx_isRefq hN'.1) hU'.2.word hN'.2.word
  have hown' : s'.vm.findClass own = some m.cls := by rw [hvm]; exact hown
  have hins : (Cond.instantiable cls 6).before args s' = true := h _ (by simp [Bundle.ownAtoms])
  obtain ⟨vm₁, cX, kX, hfX, hkX, -, -, X₁, st1⟩ := Y.newCold hexec (own := own) (C := cls) (index := ik) (n := 6) hown' hk' hins hini'
    (g := F0 m pc ls rest) rfl (by rw [hb]; exact d0) (Nat.le_refl _) (Nat.le_refl _)
  generalize hT1 : (T.setVm vm₁).pushCell { cls := cX, slots := kX.instanceTypes.map defaultValue, vm := .none } = T1 at X₁ st1
  have hcat : (Value.ref T.heap.size).category = 1 := rfl
  have hcellA : T1.heap[T.heap.size]? = some (freshCell cX kX) := by rw [← hT1]; exact State.heap_pushCell_size _ _
  have d3' : decode c.code (pc + 3) = .ok (.dup, 1) := by rw [hb]; exact d3
  have d4' : decode c.code (pc + 4) = .ok (.ldc is, 2) := by rw [hb]; exact d4
  have hstr' : vk_R own is text sa s' := vk_R.warm hW0 hstr
  obtain ⟨U, hsteps, hrun, hend, hW, hsame, ce, hce, hO⟩ := X₁.ctorThrowS hexec htr (own := own) (cls := cls) (names := names) (ic := ic) hown' hcls hnames h (fun x hx => nomatch hx) hfX hkX hcellA (by rw [hhp, hT]; exact Nat.le_refl _) (msg := .ref sa) rfl
    (g := { method := m, pc := pc + 6, locals := ls, stack := .ref sa :: .ref T.heap.size :: .ref T.heap.size :: rest, locked := none }) rfl hsize rfl rfl (rest := rest) rfl
    (by rw [hb]; exact d6) (by rw [hb]; exact d9) hout hRframes (by simp only [List.map_cons, List.sum_cons, hcat]; omega) hlocks
  obtain ⟨f1, f2⟩ := vx_frame hsame
  rw [hhp] at f1 f2
  have hWs : s.WarmedH U.vm := State.WarmedH.trans hW0 hW
  have hcl : s.vm.findClass cls = some ce.cls := by
    have h9 := hO.cls
    rw [hvm] at h9
    exact h9
  have hall : s.sameButNew ({ U with vm := s.vm } : State) locs mc ms := by
    subst hA
    obtain ⟨e1, e2⟩ := hsame
    rw [State.setFrames_setFrames] at e1
    have h2 : (T.setVm s.vm).sameButNew ({ U with vm := s.vm } : State) [] (0 + 1) (0 + 6) := ⟨e1, e2⟩
    have h3 := X.same.trans h2
    rw [List.append_nil] at h3
    exact h3.mono hc hs
  refine ⟨U, ?_, .threw T.heap.size, hrun, hend, Or.inr ⟨T.heap.size, rfl, cls, ce, locs, hx U hWs.alike f1 (fun q hq => f2 q hq (fun z hz => nomatch hz)), hce, hO.vm, hcl, hWs, hall, hf⟩⟩
  refine st1 _ ?_
  show Steps p.tables e below (T1.setTop { method := m, pc := pc + 3, locals := ls, stack := .ref T.heap.size :: rest, locked := none }) _
  jvm_step X₁.here [X₁.here.top, hexec, d3', Value.category]
  exact X₁.ldcString hexec (own := own) (text := text) (index := is) (a := sa) hown' hstr'.1 hstr'.2
    (g := { method := m, pc := pc + 4, locals := ls, stack := .ref T.heap.size :: .ref T.heap.size :: rest, locked := none }) rfl d4' _ hsteps
/-- 'throw new E("text")', the text by a wide index -/
theorem vx_throwSW {cc : ByteArray} {pc : Nat} (hexec : p.tables.exec = Jvm.exec) (hb : c.code = cc) (hl : l.stackTraces = false) {own cls text : String} {names : List String} {ik is ic mc ms sa : Nat} {A : Nat → Prop}
    (hown : s.vm.findClass own = some m.cls) (hcls : Bundle.fit cls = true) (hnames : ∀ n ∈ names, Bundle.fit n = true)
    (hk : (Cond.classLink own ik cls).before args s = true) (hini : (Cond.initialized cls).before args s = true) (hstr : vk_R own is text sa s) (hat : ∀ w ∈ vx_atS own ic cls names, w.before args s = true)
    (hgood : ∀ w ∈ Cond.classLink own ik cls :: Cond.initialized cls :: vx_atS own ic cls names, vx_ot w = true)
    (hU : vx_Zq Bundle.tN "UNASSIGNED_STACK" Bundle.steD A s s.heap) (hN : vx_Zq Bundle.tN "SUPPRESSED_SENTINEL" Bundle.listD A s s.heap) (hS : va_S A s.heap H locs) (hsize : ls.size = c.maxLocals)
    (d0 : decode cc pc = .ok (.new ik, 3)) (d3 : decode cc (pc + 3) = .ok (.dup, 1)) (d4 : decode cc (pc + 4) = .ok (.ldc_w is, 3)) (d7 : decode cc (pc + 7) = .ok (.invokespecial ic, 3)) (d10 : decode cc (pc + 10) = .ok (.athrow, 1))
    (hout : ∀ x ∈ c.exceptionTable.toList, covers x (pc + 10) = false)
    (hRframes : names.length + 3 < R.frames) (hRlocals : (rest.map fun v => v.category).sum + (13 * (names.length + 1) + 43) ≤ R.locals) (hRcells : cells + 1 ≤ R.cells) (hRslots : slots + 6 ≤ R.slots) (hlocks : meth.locks = false)
    (hx : ∀ t : State, s.vm.Alike t.vm → H.size ≤ t.heap.size → (∀ q : Nat, q < H.size → t.heap[q]? = H[q]?) → XC cls s t)
    (hf : ∀ z ∈ locs, free z.base) (hc : cells + 1 ≤ mc) (hs : slots + 6 ≤ ms) :
    W p l e R s m args below meth c H locs cells slots (vx_MQ below Qc XC args s mc ms free) (F0 m pc ls rest) := by
  intro T hT X
  have htr : e.platform.stackTraces = false := (show e.platform.stackTraces = l.stackTraces by rw [X.admits.platform]).trans hl
  have Y := vx_rebase X (R' := { frames := R.frames, locals := R.locals, cells := 1, slots := 6 }) (Nat.le_refl _) (Nat.le_refl _) hRcells hRslots
  obtain ⟨s', hA⟩ : ∃ z, z = (T.setVm s.vm).setFrames (.invoking m args :: below) := ⟨_, rfl⟩
  rw [← hA] at Y
  have hvm : s'.vm = s.vm := by rw [hA]; rfl
  have hhp : s'.heap = H := by rw [hA]; exact hT
  have hW0 : s.WarmedH s'.vm := by rw [hvm]; exact State.WarmedH.refl s
  have hat' : ∀ w ∈ vx_atS own ic cls names, w.before args s' = true := fun w hw => vx_ot_at hW0 hvm.symm (hgood w (List.mem_cons_of_mem _ (List.mem_cons_of_mem _ hw))) (hat w hw)
  have hk' : (Cond.classLink own ik cls).before args s' = true := vx_ot_at hW0 hvm.symm (hgood _ List.mem_cons_self) hk
  have hini' : (Cond.initialized cls).before args s' = true := vx_ot_at hW0 hvm.symm (hgood _ (List.mem_cons_of_mem _ List.mem_cons_self)) hini
  have hU' : vx_Zq Bundle.tN "UNASSIGNED_STACK" Bundle.steD A s' s'.heap := by rw [hhp]; exact vx_Zq.moved hW0.alike (hU.kept hS.2.1)
  have hN' : vx_Zq Bundle.tN "SUPPRESSED_SENTINEL" Bundle.listD A s' s'.heap := by rw [hhp]; exact vx_Zq.moved hW0.alike (hN.kept hS.2.1)
  have h : ∀ w ∈ Bundle.ownAtoms own ic cls names, w.before args s' = true := vx_own hat' (vx_isRefq hU'.1) (vx_isRefq hN'.1) hU'.2.word hN'.2.word
  have hown' : s'.vm.findClass own = some m.cls := by rw [hvm]; exact hown
  have hins : (Cond.instantiable cls 6).before args s' = true := h _ (by simp [Bundle.ownAtoms])
  obtain ⟨vm₁, cX, kX, hfX, hkX, -, -, X₁, st1⟩ := Y.newCold hexec (own := own) (C := cls) (index := ik) (n := 6) hown' hk' hins hini'
    (g := F0 m pc ls rest) rfl (by rw [hb]; exact d0) (Nat.le_refl _) (Nat.le_refl _)
  generalize hT1 : (T.setVm vm₁).pushCell { cls := cX, slots := kX.instanceTypes.map defaultValue, vm := .none } = T1 at X₁ st1
  have hcat : (Value.ref T.heap.size).category = 1 := rfl
  have hcellA : T1.heap[T.heap.size]? = some (freshCell cX kX) := by rw [← hT1]; exact State.heap_pushCell_size _ _
  have d3' : decode c.code (pc + 3) = .ok (.dup, 1) := by rw [hb]; exact d3
  have d4' : decode c.code (pc + 4) = .ok (.ldc_w is, 3) := by rw [hb]; exact d4
  have hstr' : vk_R own is text sa s' := vk_R.warm hW0 hstr
  obtain ⟨U, hsteps, hrun, hend, hW, hsame, ce, hce, hO⟩ := X₁.ctorThrowS hexec htr (own := own) (cls := cls) (names := names) (ic := ic) hown' hcls hnames h (fun x hx => nomatch hx) hfX hkX hcellA (by rw [hhp, hT]; exact Nat.le_refl _) (msg := .ref sa) rfl
    (g := { method := m, pc := pc + 7, locals := ls, stack := .ref sa :: .ref T.heap.size :: .ref T.heap.size :: rest, locked := none }) rfl hsize rfl rfl (rest := rest) rfl
    (by rw [hb]; exact d7) (by rw [hb]; exact d10) hout hRframes (by simp only [List.map_cons, List.sum_cons, hcat]; omega) hlocks
  obtain ⟨f1, f2⟩ := vx_frame hsame
  rw [hhp] at f1 f2
  have hWs : s.WarmedH U.vm := State.WarmedH.trans hW0 hW
  have hcl : s.vm.findClass cls = some ce.cls := by
    have h9 := hO.cls
    rw [hvm] at h9
    exact h9
  have hall : s.sameButNew ({ U with vm := s.vm } : State) locs mc ms := by
    subst hA
    obtain ⟨e1, e2⟩ := hsame
    rw [State.setFrames_setFrames] at e1
    have h2 : (T.setVm s.vm).sameButNew ({ U with vm := s.vm } : State) [] (0 + 1) (0 + 6) := ⟨e1, e2⟩
    have h3 := X.same.trans h2
    rw [List.append_nil] at h3
    exact h3.mono hc hs
  refine ⟨U, ?_, .threw T.heap.size, hrun, hend, Or.inr ⟨T.heap.size, rfl, cls, ce, locs, hx U hWs.alike f1 (fun q hq => f2 q hq (fun z hz => nomatch hz)), hce, hO.vm, hcl, hWs, hall, hf⟩⟩
  refine st1 _ ?_
  show Steps p.tables e below (T1.setTop { method := m, pc := pc + 3, locals := ls, stack := .ref T.heap.size :: rest, locked := none }) _
  jvm_step X₁.here [X₁.here.top, hexec, d3', Value.category]
  exact X₁.ldcStringW hexec (own := own) (text := text) (index := is) (a := sa) hown' hstr'.1 hstr'.2
    (g := { method := m, pc := pc + 4, locals := ls, stack := .ref T.heap.size :: .ref T.heap.size :: rest, locked := none }) rfl d4' _ hsteps
end Ends
section Bodies
variable {l : Launch}
theorem vx_ofW {y : MethodName} {ws ws' : List Cond} {rm : Room} {Pc : Array Value → State → Prop} {Qc : Array Value → State → Outcome → State → Prop} {XC : String → State → State → Prop} {mc ms : Nat} {free : Addr → Prop} {cc : ByteArray} {maxL : Nat} {ret : Option FieldType}
    (hy : plainName y.cls = true) (hw : ws = Cond.code y cc maxL ret :: ws')
    (body : ∀ p e s m args below meth c s₁, BodyLoose p l y (headSpec ws rm) cc maxL ret e s m args below meth c s₁ → c.maxLocals = maxL → (∀ x ∈ c.exceptionTable.toList, False) → Pc args s →
      W p l e (headSpec ws rm).room s m args below meth c s.heap [] 0 0 (vx_MQ below Qc XC args s mc ms free) (entryFrame m args maxL)) : vx_Met l y ws rm Pc Qc XC mc ms free := by
  refine MetFree.of_bodyS (code := cc) (maxLocals := maxL) (ret := ret) hy ?_ ?_
  · intro args s m h hn
    obtain ⟨meth, c, h1, h2, h3, h4, h5, h6, -, -⟩ := Cond.code_spec hn (atoms_spec (ws := ws) h _ (by rw [hw]; exact List.mem_cons_self))
    exact ⟨meth, c, h1, h2, h3, h4, h5, h6⟩
  · intro p e s m args below meth c s₁ B hml hP _
    have hh0 : s₁.heap = s.heap := by rw [B.state]; rfl
    have ht : ∀ x ∈ c.exceptionTable.toList, False := by
      obtain ⟨meth9, c9, h1, h2, -, -, -, -, h7, -⟩ := Cond.code_spec B.named (atoms_spec (ws := ws) B.pre _ (by rw [hw]; exact List.mem_cons_self))
      cases Option.some.inj (h1.symm.trans B.method)
      cases Option.some.inj (h2.symm.trans (Stand.of_body B).code)
      intro x hx
      rw [Array.isEmpty_iff.mp h7] at hx
      cases hx
    obtain ⟨t, a1, o, b1, b2, b3⟩ := body p e s m args below meth c s₁ B hml ht hP s₁ hh0 (Stand.of_body B)
    exact ⟨t, o, a1, b1, b2, b3⟩
/-- the table of a body with handlers -/
theorem vx_table {p : Program} {x y : MethodName} {S : Spec} {cc bytes : ByteArray} {maxL maxL' : Nat} {ret ret' : Option FieldType} {e : Env} {s s₁ : State} {m : MethodId} {args : Array Value} {below : List Frame} {meth : Method} {c : Code} {hh : List (Nat × Nat × Nat × Nat)}
    (B : BodyLoose p l y S cc maxL ret e s m args below meth c s₁) (h : (Cond.codeWith y bytes maxL' ret' hh).before args s = true) : c.exceptionTable.toList = tableOf hh := by
  obtain ⟨m9, meth9, c9, hn9, h1, h2, -, -, h6, -⟩ := Cond.codeWith_spec h
  cases Option.some.inj (hn9.symm.trans B.named)
  cases Option.some.inj (h1.symm.trans B.method)
  cases Option.some.inj (h2.symm.trans (Stand.of_body B).code)
  rw [← h6, table_eq]
end Bodies
end VXA
/-! ===== END ===== -/
/-! ===== BEGIN a static call of a method with an exception table ===== -/
section VXS
variable {p : Program} {l : Launch} {e : Env} {R : Room} {s : State} {m : MethodId} {args : Array Value} {below : List Frame} {meth : Method} {c : Code} {T : State} {H : Heap} {locs : List Loc} {cells slots : Nat}
abbrev vx_CSW (R : Room) (s : State) (args : Array Value) (own : String) (index : Nat) (y : MethodName) (bytes : ByteArray) (maxL : Nat) (ret : Option FieldType) (hh : List (Nat × Nat × Nat × Nat)) (ws : List Cond) (rm : Room) (mc ms n : Nat) : Prop :=
  (rm.cells = mc ∧ rm.slots = ms ∧ rm.frames + 1 ≤ R.frames ∧ 8 + (maxL + 11) + rm.locals ≤ R.locals ∧ (∀ w ∈ ws, ∀ (a' : Array Value) (U : State), s.WarmedH U.vm → w.before a' U = true) ∧ Cond.codeWith y bytes maxL ret hh ∈ ws) ∧
  (Cond.codeWith y bytes maxL ret hh).before args s = true ∧ (Cond.initialized y.cls).before args s = true ∧ (y.cls ≠ "java/lang/invoke/MethodHandle" ∧ y.cls ≠ "java/lang/invoke/VarHandle") ∧
  (∀ sig, parseMethodDescriptor y.desc = some sig → n = sig.parameters.length) ∧ (Cond.methodLink own index y).before args s = true ∧ (Cond.static y).before args s = true
theorem vx_cwSW {own : String} {index maxL mc ms : Nat} {y : MethodName} {bytes : ByteArray} {ret : Option FieldType} {hh : List (Nat × Nat × Nat × Nat)} {Ts ws ws' : List Cond} {rm : Room} (n : Nat) (ht : ∀ w ∈ Ts, w.before args s = true) (hT : GoodIn Ts (va_wsS own index y ws)) (hw : ws = Cond.codeWith y bytes maxL ret hh :: ws') (hrc : rm.cells = mc) (hrs : rm.slots = ms)
    (hd : y.cls ≠ "java/lang/invoke/MethodHandle" ∧ y.cls ≠ "java/lang/invoke/VarHandle" ∧ (parseMethodDescriptor y.desc).map (fun d => d.parameters.length) = some n) (hR : rm.frames + 1 ≤ R.frames ∧ 8 + (maxL + 11) + rm.locals ≤ R.locals) :
    vx_CSW R s args own index y bytes maxL ret hh ws rm mc ms n := by
  have ok : ∀ w ∈ va_wsS own index y ws, w.before args s = true := fun w h => ht w (hT w h).1
  have hG : GoodIn Ts ws := fun w h => hT w (by unfold va_wsS; exact List.mem_append_right _ h)
  have hc : Cond.codeWith y bytes maxL ret hh ∈ ws := by rw [hw]; exact List.mem_cons_self
  refine ⟨⟨hrc, hrs, hR.1, hR.2, pay_in ht hG, hc⟩, ht _ (hG _ hc).1, ok _ (by simp [va_wsS]), ⟨hd.1, hd.2.1⟩, fun sig h => ?_, ok _ (by simp [va_wsS]), ok _ (by simp [va_wsS])⟩
  have h2 := hd.2.2
  rw [h] at h2
  exact (Option.some.inj h2).symm
theorem vx_callSW (X : Stand p l e R s m args below meth c T locs cells slots) (hexec : p.tables.exec = Jvm.exec) {own : String} {index : Nat} {y : MethodName} {bytes : ByteArray} {maxL : Nat} {ret : Option FieldType} {hh : List (Nat × Nat × Nat × Nat)}
    (hown : s.vm.findClass own = some m.cls) (hlink : (Cond.methodLink own index y).before args s = true) (hstat : (Cond.static y).before args s = true) (hinit : (Cond.initialized y.cls).before args s = true)
    (hcode : (Cond.codeWith y bytes maxL ret hh).before args s = true) (hy : y.cls ≠ "java/lang/invoke/MethodHandle" ∧ y.cls ≠ "java/lang/invoke/VarHandle")
    {W9 : Nat} {Pre : Pt → Array Value → Prop} {Post : Pt → Array Value → Option Value → Pt → Prop} (hK : Back l R p e below s args y 3 W9 Pre Post)
    {g : JFrame} (hg : g.method = m) (hsize : g.locals.size = c.maxLocals) {argsL rest : List Value} (hlen : ∀ sig, parseMethodDescriptor y.desc = some sig → argsL.length = sig.parameters.length)
    (hstack : g.stack = argsL.reverse ++ rest) (hW : 2 * g.monitorRoom + (rest.map fun v => v.category).sum ≤ W9) (hdg : decode c.code g.pc = .ok (.invokestatic index, 3))
    (hpre : ∀ vm₁, s.WarmedH vm₁ → Pre ⟨T.setVm vm₁, locs, cells, slots⟩ argsL.toArray) :
    ∃ (v : Option Value) (vm₁ : Vm) (B : Pt), s.WarmedH vm₁ ∧ Stand p l e R s m args below meth c B.U B.locs B.cells B.slots ∧ Post ⟨T.setVm vm₁, locs, cells, slots⟩ argsL.toArray v B ∧
      ∀ target, Steps p.tables e below (B.U.setTop { g with pc := g.pc + 3, stack := v.toList ++ rest }) target → Steps p.tables e below (T.setTop g) target := by
  obtain ⟨mk, methM, cM, hnamed, hmethM, -, -, -, -, -, -, hsigM⟩ := Cond.codeWith_spec hcode
  have hstatic : methM.isStatic = true := Cond.static_spec hnamed hmethM hstat
  obtain ⟨kP, hkP, -⟩ := className_of_methodNamed hnamed
  have hinitP : kP.init = .initialized := Cond.initialized_spec (findClass_of_methodNamed hnamed) hkP hinit
  obtain ⟨vm₁, X₁, hstep₁⟩ := X.invokestatic hexec hown hlink hnamed hmethM hstatic hkP hinitP hy (g := g) hg (argsL := argsL) (rest := rest) (hlen _ hsigM) hstack hdg
  obtain ⟨v, B, X', hpost, hsteps⟩ := hK m meth c ⟨T.setVm vm₁, locs, cells, slots⟩ { g with stack := rest } (.invokestatic index) mk argsL.toArray X₁ hg hsize hdg hW (X₁.named hnamed) (hpre vm₁ X₁.warmed)
  exact ⟨v, vm₁, B, X₁.warmed, X', hpost, fun target h => hstep₁ _ fun acts => by rw [doInvoke_state]; exact hsteps.trans h⟩
theorem vx_runSW {y : MethodName} {bytes cc : ByteArray} {maxL nL mc ms n index : Nat} {ret : Option FieldType} {hh : List (Nat × Nat × Nat × Nat)} {ws : List Cond} {rm : Room} {Pc : Array Value → State → Prop} {Qc : Array Value → State → Outcome → State → Prop} {free : Addr → Prop} {Ts : List Cond} {own : String} {As rest : List Value} {g : JFrame}
    (S : CallFix p m c cc nL s args Ts own) (hM : Met l y ws rm Pc Qc mc ms free) (cw : vx_CSW R s args own index y bytes maxL ret hh ws rm mc ms n) (hp : PreS s H Pc As)
    (hg : g.method = m) (hn : As.length = n) (hsize : g.locals.size = nL) (hstack : g.stack = As.reverse ++ rest) (hW : 2 * g.monitorRoom + (rest.map fun v => v.category).sum ≤ 8) (hdg : decode cc g.pc = .ok (.invokestatic index, 3)) (hf : cells + mc ≤ R.cells ∧ slots + ms ≤ R.slots) :
    va_Run p l e R s m args below meth c H locs cells slots mc ms g rest (Qc As.toArray) (free) := by
  obtain ⟨⟨hrc, hrs, hfr, hlo, hws, hcw⟩, hcode, hini, hy, hlen, hl, hstt⟩ := cw
  have hK : Back l R p e below s args y 3 8 (PreOf R mc ms Pc) (PostOf Qc mc ms free) := va_backW (hh := hh) (bytes := bytes) (maxL := maxL) (ret := ret) hM hp.1 hrc hrs hfr hlo hws hcw (fun a' U hW => word_at hW (Or.inl (by first | rfl | simp [Cond.onTables, Cond.keeps, Cond.steady])) hini)
  obtain ⟨hx, hb, hml, ho, -⟩ := S
  intro T hT X
  obtain ⟨v, vm₁, ⟨U', l2, c2, s2⟩, hW₁, X', ⟨g', mk, t, L, e1, e2, hq, h1, hL, h2, h3⟩, st⟩ := vx_callSW X hx (hh := hh) (bytes := bytes) (maxL := maxL) (ret := ret) ho hl hstt hini hcode hy hK hg (hsize.trans hml.symm) (argsL := As) (rest := rest) (fun sig h => hn.trans (hlen sig h)) hstack hW (by rw [hb]; exact hdg)
    (fun vm₁ hW₁ => ⟨hf.1, hf.2, hp.2 (T.setVm vm₁) hT hW₁⟩)
  dsimp only [Pt.U, Pt.locs, Pt.cells, Pt.slots] at X' e1 e2 h1 h2 h3 st
  subst h1; subst h2; subst h3
  exact ⟨v, (T.setVm vm₁).calling g' mk As.toArray, t, U', L, hT, X', hL, e1, e2, hq, st⟩
/-- not caught here, past rows that name other classes: it goes on to the caller -/
theorem vx_outP {p : Program} {l : Launch} {e : Env} {R : Room} {s : State} {m : MethodId} {args : Array Value} {below : List Frame} {meth : Method} {c : Code} {H : Heap} {locs : List Loc} {cells slots : Nat} {free : Addr → Prop} {ls : Array Slot} {rest : List Value} {Qc : Array Value → State → Outcome → State → Prop} {XC : String → State → State → Prop}
    {pc : Nat} {own E : String} {ce : Cell} {q : Addr} {mc ms : Nat} (hown : s.vm.findClass own = some m.cls) (hlocks : meth.locks = false)
    (hpass : ∀ z ∈ c.exceptionTable.toList, covers z pc = false ∨ (z.catchType ≠ 0 ∧ ∃ nm : String, (Cond.classLink own z.catchType nm).before args s = true ∧ va_Nc E nm s)) (hcell : H[q]? = some ce) (hv : ce.vm = .none) (hcl : s.vm.findClass E = some ce.cls)
    (hx : ∀ t : State, t.heap = H → s.vm.Alike t.vm → XC E s t) (hf : ∀ z ∈ locs, free z.base) (hc : cells ≤ mc) (hs : slots ≤ ms) :
    vx_W p l e R s m args below meth c H locs cells slots (vx_MQ below Qc XC args s mc ms free) (F0 m pc ls rest) q := by
  intro T hT X
  have hpl : e.platform.magicAccessors = ({} : Platform).magicAccessors := by rw [X.admits.platform]
  obtain ⟨vm', hW', X', st⟩ := X.outThrough hlocks q (g := F0 m pc ls rest) rfl rfl rfl (cell := ce) (by rw [hT]; exact hcell) (by rw [hv]; rfl)
    (by obtain ⟨k9, h9, -⟩ := Vm.findClass_spec hcl; exact ⟨k9, h9⟩) (fun z hz => by
      rcases hpass z hz with h | ⟨hz0, nm, hl1, hn1⟩
      · exact Or.inl h
      · obtain ⟨c6, hc6, hcl6⟩ := Cond.classLink_spec hown hl1 e.platform hpl
        obtain ⟨a8, b8, h1, h2, h3⟩ := hn1
        cases Option.some.inj (h1.symm.trans hcl)
        cases Option.some.inj (h2.symm.trans hc6)
        exact Or.inr ⟨hz0, _, hcl6, h3⟩)
  obtain ⟨g₀, hfr⟩ := X'.frames_eq
  have hcell9 : ((T.setVm vm').setFrames (.throwing q :: below)).heap[q]? = some ce := by
    show T.heap[q]? = some ce
    rw [hT]; exact hcell
  have hend : Ended ((T.setVm vm').setFrames (.throwing q :: below)) below (.threw q) := State.frames_setFrames _ (State.cur_lt_of_frames hfr)
  refine ⟨(T.setVm vm').setFrames (.throwing q :: below), ?_, .threw q, X'.here.running, hend, Or.inr ⟨q, rfl, E, ce, locs, hx _ hT (X'.ends _).1.alike, hcell9, hv, hcl, (X'.ends _).1, (X'.ends _).2.mono hc hs, hf⟩⟩
  rw [X.pushThrowing_eq]
  exact st
/-- a thing of a world lies in the heap -/
theorem vx_lt {D : va_G} {cl : List vw_C} {ws : va_W} {H1 : Heap} (h : va_P D cl ws H1) {k : Nat} {q : Nat × va_E} (hk : ws[k]? = some q) : q.1 < H1.size := (h k q hk).lt
end VXS
/-! ===== END ===== -/
/-! ===== BEGIN methods with a table of their own: called by a name, returning or throwing ===== -/
section VXH
/-! vx_backW, vx_callVX, vx_callSX, vx_callVW, vx_runVW, vx_runVX, vx_runSX, vx_ofWH follow the same proofs as their sisters above (Free/Laws.lean, Shelf42/LK1.lean); vx_outP calls Shelf42/NT130.lean (outThrough). -/
section
variable {l : Launch} {R : Room} {p : Program} {e : Env} {below : List Frame} {s : State} {sargs : Array Value} {y : MethodName} {len W9 : Nat}
theorem vx_backW {ws : List Cond} {rm : Room} {Pc : Array Value → State → Prop} {Qc : Array Value → State → Outcome → State → Prop} {XC : String → State → State → Prop} {mc ms : Nat} {free : Addr → Prop} {bytes : ByteArray} {maxL : Nat} {ret : Option FieldType} {hh : List (Nat × Nat × Nat × Nat)}
    (hM : vx_Met l y ws rm Pc Qc XC mc ms free) (hblind : FrameBlind Pc) (hrc : rm.cells = mc) (hrs : rm.slots = ms)
    (hframes : rm.frames + 1 ≤ R.frames) (hlocals : W9 + (maxL + 11) + rm.locals ≤ R.locals)
    (hws : ∀ w ∈ ws, ∀ a' U, s.WarmedH U.vm → w.before a' U = true) (hcode : Cond.codeWith y bytes maxL ret hh ∈ ws) (hinit : ∀ a' U, s.WarmedH U.vm → (Cond.initialized y.cls).before a' U = true) :
    vx_Back l R p e below s sargs y len W9 (PreOf R mc ms Pc) (PostOf Qc mc ms free) (vx_Post XC mc ms free) := by
  intro m meth c A g ig mk a X hg hsize hdg hW hn hp
  have h1 : (headSpec ws rm).pre.before a A.U = true := atoms_intro fun w hw => hws w hw _ _ X.warmed
  have h2 : (Cond.codeWith y bytes maxL ret hh).before a A.U = true := hws _ hcode _ _ X.warmed
  have h3 : (Cond.initialized y.cls).before a A.U = true := hinit _ _ X.warmed
  have h4 : A.cells + (headSpec ws rm).room.cells ≤ R.cells := by rw [show (headSpec ws rm).room.cells = mc from hrc]; exact hp.1
  have h5 : A.slots + (headSpec ws rm).room.slots ≤ R.slots := by rw [show (headSpec ws rm).room.slots = ms from hrs]; exact hp.2.1
  have hPc : Pc a (A.U.calling g mk a) := hblind _ _ _ _ hp.2.2
  obtain ⟨U, Ls, c0, s0⟩ := A
  dsimp only [Pt.U, Pt.locs, Pt.cells, Pt.slots] at h1 h2 h3 h4 h5 X hn hPc ⊢
  obtain ⟨m9, methY, cY, hn9, hmY, hcY, -, hlY, -⟩ := Cond.codeWith_spec h2
  cases Option.some.inj (hn9.symm.trans hn)
  obtain ⟨kY, hkY, -⟩ := className_of_methodNamed hn
  have hinitY : kY.init = .initialized := Cond.initialized_spec (findClass_of_methodNamed hn) hkY h3
  have h : At U g.method c below := by rw [hg]; exact X.here
  have hlocals9 : W9 + (maxL + 11) + (headSpec ws rm).room.locals ≤ R.locals := hlocals
  have happ : (headSpec ws rm).appliesLoose y e.platform (U.calling g mk a) = true :=
    Spec.appliesLoose_calling (g := g) h hdg hn hkY hinitY
      (X.room_calling (g := g) (R' := (headSpec ws rm).room) hsize hmY hcY hframes (by rw [hlY]; omega) h4 h5) h1
  obtain ⟨mid, hmid⟩ := h.above
  have hfr : (U.setTop g).frames = (.java g :: mid) ++ below := by rw [State.frames_setTop' g h.top, hmid]; rfl
  obtain ⟨o, s₂, hsteps, -, hend, hq⟩ := Steps.callFree hM p X.admits X.cas X.clock (acts := []) hfr happ hPc trivial
  have hq' : vx_Q Qc XC mc ms free a (U.calling g mk a) o s₂ := hq
  rw [State.frames_setTop' g h.top] at hend
  obtain ⟨g₀, hg0⟩ := Option.isSome_iff_exists.mp h.top
  obtain ⟨r, hr⟩ := State.topJava?_eq_some.mp hg0
  have hr' : (({ U with heap := s₂.heap, slotsUsed := s₂.slotsUsed } : State).setVm s₂.vm).frames = .java g₀ :: r := hr
  rcases hq' with ⟨hqc, L, hfe, hL⟩ | ⟨q, rfl, E, ce, L, hx, hce, hcv, hcl, hW₂, hsm, hL⟩
  · obtain ⟨⟨v, rfl⟩, hW₂, e2, q2, q3, q4, q5, q6⟩ := id hfe
    have e3 : s₂ = ({ (U.calling g mk a).setFrames s₂.frames with heap := s₂.heap, slotsUsed := s₂.slotsUsed } : State).setVm s₂.vm := by
      have : s₂ = ({ s₂ with vm := (U.calling g mk a).vm } : State).setVm s₂.vm := rfl
      rw [e2] at this
      exact this
    obtain ⟨c₂, i₂, len₂, hc₂, hd₂, hf₂⟩ := hend
    have hW' : U.WarmedH s₂.vm := hW₂
    have hcc : c₂ = c := by
      have h1 : s₂.code? g.method = U.code? g.method := by
        rw [State.code?_eq, State.code?_eq, hW'.alike.method?]
      exact Option.some.inj (hc₂.symm.trans (h1.trans h.code))
    subst hcc
    have hlen : len₂ = len := by rw [hdg] at hd₂; cases hd₂; rfl
    subst hlen
    have hs₂ : s₂ = (({ U with heap := s₂.heap, slotsUsed := s₂.slotsUsed } : State).setVm s₂.vm).setTop { g with pc := g.pc + len₂, stack := v.toList ++ g.stack } := by
      refine e3.trans ?_
      rw [hf₂, State.calling_eq h.top, State.setFrames_setFrames, State.setTop_of_frames _ hr', hr]
      rfl
    have hsame : U.sameButNew ({ U with heap := s₂.heap, slotsUsed := s₂.slotsUsed } : State) L mc ms := by
      refine ⟨?_, q2, q3, q4, q5, q6⟩
      obtain ⟨t, ht, -⟩ := State.frames_cons hr
      show ({ U with heap := s₂.heap, slotsUsed := s₂.slotsUsed } : State) = { U.setFrames U.frames with heap := s₂.heap, slotsUsed := s₂.slotsUsed }
      rw [State.setFrames_self ht]
    subst hg
    refine Or.inl ⟨v, ⟨(({ U with heap := s₂.heap, slotsUsed := s₂.slotsUsed } : State).setVm s₂.vm), Ls ++ L, c0 + mc, s0 + ms⟩,
      ⟨X.admits, X.cas, X.clock, X.frames, X.room, X.hears, X.method, X.code, (X.here.setHeapUsed s₂.heap s₂.slotsUsed).setVm hW'.alike, X.tail, State.WarmedH.trans X.warmed hW', X.limits, X.bytes, X.same.trans (hsame.setVm s.vm)⟩,
      ⟨g, mk, s₂, L, rfl, rfl, hqc, rfl, hL, rfl, rfl⟩, ?_⟩
    show Steps p.tables e below _ ((({ U with heap := s₂.heap, slotsUsed := s₂.slotsUsed } : State).setVm s₂.vm).setTop { g with pc := g.pc + len₂, stack := v.toList ++ g.stack })
    rw [← hs₂]
    exact hsteps
  · obtain ⟨e2, q2, q3, q4, q5, q6⟩ := id hsm
    have e3 : s₂ = ({ (U.calling g mk a).setFrames s₂.frames with heap := s₂.heap, slotsUsed := s₂.slotsUsed } : State).setVm s₂.vm := by
      have : s₂ = ({ s₂ with vm := (U.calling g mk a).vm } : State).setVm s₂.vm := rfl
      rw [e2] at this
      exact this
    have hf₂ : s₂.frames = .throwing q :: .java g :: U.frames.tail := hend
    have hW' : U.WarmedH s₂.vm := hW₂
    have hs₂ : s₂ = ((({ U with heap := s₂.heap, slotsUsed := s₂.slotsUsed } : State).setVm s₂.vm).setTop g).pushFrame (.throwing q) := by
      refine e3.trans ?_
      rw [hf₂, State.calling_eq h.top, State.setFrames_setFrames, State.pushFrame, State.frames_setTop _ hr', State.setTop_of_frames _ hr', State.setFrames_setFrames, hr]
      rfl
    have hsame : U.sameButNew ({ U with heap := s₂.heap, slotsUsed := s₂.slotsUsed } : State) L mc ms := by
      refine ⟨?_, q2, q3, q4, q5, q6⟩
      obtain ⟨t, ht, -⟩ := State.frames_cons hr
      show ({ U with heap := s₂.heap, slotsUsed := s₂.slotsUsed } : State) = { U.setFrames U.frames with heap := s₂.heap, slotsUsed := s₂.slotsUsed }
      rw [State.setFrames_self ht]
    subst hg
    refine Or.inr ⟨q, ⟨(({ U with heap := s₂.heap, slotsUsed := s₂.slotsUsed } : State).setVm s₂.vm), Ls ++ L, c0 + mc, s0 + ms⟩,
      ⟨X.admits, X.cas, X.clock, X.frames, X.room, X.hears, X.method, X.code, (X.here.setHeapUsed s₂.heap s₂.slotsUsed).setVm hW'.alike, X.tail, State.WarmedH.trans X.warmed hW', X.limits, X.bytes, X.same.trans (hsame.setVm s.vm)⟩,
      ⟨g, mk, s₂, L, E, ce, rfl, rfl, hx, hce, hcv, hcl, rfl, hL, rfl, rfl⟩, ?_⟩
    show Steps p.tables e below _ (((({ U with heap := s₂.heap, slotsUsed := s₂.slotsUsed } : State).setVm s₂.vm).setTop g).pushFrame (.throwing q))
    rw [← hs₂]
    exact hsteps
end
variable {p : Program} {l : Launch} {e : Env} {R : Room} {s : State} {m : MethodId} {args : Array Value} {below : List Frame} {meth : Method} {c : Code} {T : State} {H : Heap} {locs : List Loc} {cells slots : Nat}
theorem vx_callVX (X : Stand p l e R s m args below meth c T locs cells slots) (hexec : p.tables.exec = Jvm.exec) {own C : String} {index : Nat} {y : MethodName} {bytes : ByteArray} {maxL : Nat} {ret : Option FieldType} {hh : List (Nat × Nat × Nat × Nat)}
    (hown : s.vm.findClass own = some m.cls) (hlink : (Cond.methodLink own index y).before args s = true) (hinst : (Cond.instanceMethod y).before args s = true) (hsel : (Cond.selects C y y).before args s = true)
    (hcode : (Cond.codeWith y bytes maxL ret hh).before args s = true) (hy : y.cls ≠ "java/lang/invoke/MethodHandle" ∧ y.cls ≠ "java/lang/invoke/VarHandle")
    {W9 : Nat} {Pre : Pt → Array Value → Prop} {Post : Pt → Array Value → Option Value → Pt → Prop} {PostX : Pt → Array Value → Addr → Pt → Prop} (hK : vx_Back l R p e below s args y 3 W9 Pre Post PostX)
    {b : Addr} {cellB : Cell} (hcell : T.heap[b]? = some cellB) (hobj : cellB.vm.isStatics = false) (hcls : s.vm.findClass C = some cellB.cls)
    {g : JFrame} (hg : g.method = m) (hsize : g.locals.size = c.maxLocals) {argsL rest : List Value} (hlen : ∀ sig, parseMethodDescriptor y.desc = some sig → argsL.length = sig.parameters.length)
    (hstack : g.stack = argsL.reverse ++ .ref b :: rest) (hW : 2 * g.monitorRoom + (rest.map fun v => v.category).sum ≤ W9) (hdg : decode c.code g.pc = .ok (.invokevirtual index, 3))
    (hpre : ∀ vm₁, s.WarmedH vm₁ → Pre ⟨T.setVm vm₁, locs, cells, slots⟩ (Value.ref b :: argsL).toArray) :
    (∃ (v : Option Value) (vm₁ : Vm) (B : Pt), s.WarmedH vm₁ ∧ Stand p l e R s m args below meth c B.U B.locs B.cells B.slots ∧ Post ⟨T.setVm vm₁, locs, cells, slots⟩ (Value.ref b :: argsL).toArray v B ∧
      ∀ target, Steps p.tables e below (B.U.setTop { g with pc := g.pc + 3, stack := v.toList ++ rest }) target → Steps p.tables e below (T.setTop g) target) ∨
    (∃ (q : Addr) (vm₁ : Vm) (B : Pt), s.WarmedH vm₁ ∧ Stand p l e R s m args below meth c B.U B.locs B.cells B.slots ∧ PostX ⟨T.setVm vm₁, locs, cells, slots⟩ (Value.ref b :: argsL).toArray q B ∧
      Steps p.tables e below (T.setTop g) ((B.U.setTop { g with stack := rest }).pushFrame (.throwing q))) := by
  obtain ⟨mk, methM, hnamed, hmethM, hstM, habM⟩ := Cond.instanceMethod_spec hinst
  obtain ⟨m8, methM', cM, hn8, hmethM', -, -, -, -, -, -, hsigM⟩ := Cond.codeWith_spec hcode
  cases Option.some.inj (hn8.symm.trans hnamed)
  cases hmethM.symm.trans hmethM'
  obtain ⟨c2, r2, m2, q1, q2, q3, q4, kP, hkP, hkPi⟩ := Cond.selects_spec hsel
  cases hcls.symm.trans q1
  cases (State.methodFound?_of_named hnamed hy).symm.trans q2
  cases hnamed.symm.trans q3
  have hselP : selectMethod e.platform s.vm cellB.cls mk = .method mk := by rw [Launch.admits_selectMethod X.admits]; exact q4
  obtain ⟨vm₁, X₁, hstep₁⟩ := X.invokevirtual hexec hown hlink hnamed hmethM hstM hkP hkPi hy (a := b) (cell := cellB) hcell
    (fun z h => by rw [h] at hobj; cases hobj) hselP hmethM habM hkP hkPi (g := g) hg (argsL := argsL) (rest := rest) (hlen _ hsigM) hstack hdg
  rcases hK m meth c ⟨T.setVm vm₁, locs, cells, slots⟩ { g with stack := rest } (.invokevirtual index) mk (Value.ref b :: argsL).toArray X₁ hg hsize hdg hW (X₁.named hnamed) (hpre vm₁ X₁.warmed) with ⟨v, B, X', hpost, hsteps⟩ | ⟨q, B, X', hpost, hsteps⟩
  · exact Or.inl ⟨v, vm₁, B, X₁.warmed, X', hpost, fun target h => hstep₁ _ fun acts => by rw [doInvoke_state]; exact hsteps.trans h⟩
  · exact Or.inr ⟨q, vm₁, B, X₁.warmed, X', hpost, hstep₁ _ fun acts => by rw [doInvoke_state]; exact hsteps⟩
theorem vx_callSX (X : Stand p l e R s m args below meth c T locs cells slots) (hexec : p.tables.exec = Jvm.exec) {own : String} {index : Nat} {y : MethodName} {bytes : ByteArray} {maxL : Nat} {ret : Option FieldType} {hh : List (Nat × Nat × Nat × Nat)}
    (hown : s.vm.findClass own = some m.cls) (hlink : (Cond.methodLink own index y).before args s = true) (hstat : (Cond.static y).before args s = true) (hinit : (Cond.initialized y.cls).before args s = true)
    (hcode : (Cond.codeWith y bytes maxL ret hh).before args s = true) (hy : y.cls ≠ "java/lang/invoke/MethodHandle" ∧ y.cls ≠ "java/lang/invoke/VarHandle")
    {W9 : Nat} {Pre : Pt → Array Value → Prop} {Post : Pt → Array Value → Option Value → Pt → Prop} {PostX : Pt → Array Value → Addr → Pt → Prop} (hK : vx_Back l R p e below s args y 3 W9 Pre Post PostX)
    {g : JFrame} (hg : g.method = m) (hsize : g.locals.size = c.maxLocals) {argsL rest : List Value} (hlen : ∀ sig, parseMethodDescriptor y.desc = some sig → argsL.length = sig.parameters.length)
    (hstack : g.stack = argsL.reverse ++ rest) (hW : 2 * g.monitorRoom + (rest.map fun v => v.category).sum ≤ W9) (hdg : decode c.code g.pc = .ok (.invokestatic index, 3))
    (hpre : ∀ vm₁, s.WarmedH vm₁ → Pre ⟨T.setVm vm₁, locs, cells, slots⟩ argsL.toArray) :
    (∃ (v : Option Value) (vm₁ : Vm) (B : Pt), s.WarmedH vm₁ ∧ Stand p l e R s m args below meth c B.U B.locs B.cells B.slots ∧ Post ⟨T.setVm vm₁, locs, cells, slots⟩ argsL.toArray v B ∧
      ∀ target, Steps p.tables e below (B.U.setTop { g with pc := g.pc + 3, stack := v.toList ++ rest }) target → Steps p.tables e below (T.setTop g) target) ∨
    (∃ (q : Addr) (vm₁ : Vm) (B : Pt), s.WarmedH vm₁ ∧ Stand p l e R s m args below meth c B.U B.locs B.cells B.slots ∧ PostX ⟨T.setVm vm₁, locs, cells, slots⟩ argsL.toArray q B ∧
      Steps p.tables e below (T.setTop g) ((B.U.setTop { g with stack := rest }).pushFrame (.throwing q))) := by
  obtain ⟨mk, methM, cM, hnamed, hmethM, -, -, -, -, -, -, hsigM⟩ := Cond.codeWith_spec hcode
  have hstatic : methM.isStatic = true := Cond.static_spec hnamed hmethM hstat
  obtain ⟨kP, hkP, -⟩ := className_of_methodNamed hnamed
  have hinitP : kP.init = .initialized := Cond.initialized_spec (findClass_of_methodNamed hnamed) hkP hinit
  obtain ⟨vm₁, X₁, hstep₁⟩ := X.invokestatic hexec hown hlink hnamed hmethM hstatic hkP hinitP hy (g := g) hg (argsL := argsL) (rest := rest) (hlen _ hsigM) hstack hdg
  rcases hK m meth c ⟨T.setVm vm₁, locs, cells, slots⟩ { g with stack := rest } (.invokestatic index) mk argsL.toArray X₁ hg hsize hdg hW (X₁.named hnamed) (hpre vm₁ X₁.warmed) with ⟨v, B, X', hpost, hsteps⟩ | ⟨q, B, X', hpost, hsteps⟩
  · exact Or.inl ⟨v, vm₁, B, X₁.warmed, X', hpost, fun target h => hstep₁ _ fun acts => by rw [doInvoke_state]; exact hsteps.trans h⟩
  · exact Or.inr ⟨q, vm₁, B, X₁.warmed, X', hpost, hstep₁ _ fun acts => by rw [doInvoke_state]; exact hsteps⟩
theorem vx_callVW (X : Stand p l e R s m args below meth c T locs cells slots) (hexec : p.tables.exec = Jvm.exec) {own C : String} {index : Nat} {y : MethodName} {bytes : ByteArray} {maxL : Nat} {ret : Option FieldType} {hh : List (Nat × Nat × Nat × Nat)}
    (hown : s.vm.findClass own = some m.cls) (hlink : (Cond.methodLink own index y).before args s = true) (hinst : (Cond.instanceMethod y).before args s = true) (hsel : (Cond.selects C y y).before args s = true)
    (hcode : (Cond.codeWith y bytes maxL ret hh).before args s = true) (hy : y.cls ≠ "java/lang/invoke/MethodHandle" ∧ y.cls ≠ "java/lang/invoke/VarHandle")
    {W9 : Nat} {Pre : Pt → Array Value → Prop} {Post : Pt → Array Value → Option Value → Pt → Prop} (hK : Back l R p e below s args y 3 W9 Pre Post)
    {b : Addr} {cellB : Cell} (hcell : T.heap[b]? = some cellB) (hobj : cellB.vm.isStatics = false) (hcls : s.vm.findClass C = some cellB.cls)
    {g : JFrame} (hg : g.method = m) (hsize : g.locals.size = c.maxLocals) {argsL rest : List Value} (hlen : ∀ sig, parseMethodDescriptor y.desc = some sig → argsL.length = sig.parameters.length)
    (hstack : g.stack = argsL.reverse ++ .ref b :: rest) (hW : 2 * g.monitorRoom + (rest.map fun v => v.category).sum ≤ W9) (hdg : decode c.code g.pc = .ok (.invokevirtual index, 3))
    (hpre : ∀ vm₁, s.WarmedH vm₁ → Pre ⟨T.setVm vm₁, locs, cells, slots⟩ (Value.ref b :: argsL).toArray) :
    ∃ (v : Option Value) (vm₁ : Vm) (B : Pt), s.WarmedH vm₁ ∧ Stand p l e R s m args below meth c B.U B.locs B.cells B.slots ∧ Post ⟨T.setVm vm₁, locs, cells, slots⟩ (Value.ref b :: argsL).toArray v B ∧
      ∀ target, Steps p.tables e below (B.U.setTop { g with pc := g.pc + 3, stack := v.toList ++ rest }) target → Steps p.tables e below (T.setTop g) target := by
  obtain ⟨mk, methM, hnamed, hmethM, hstM, habM⟩ := Cond.instanceMethod_spec hinst
  obtain ⟨m8, methM', cM, hn8, hmethM', -, -, -, -, -, -, hsigM⟩ := Cond.codeWith_spec hcode
  cases Option.some.inj (hn8.symm.trans hnamed)
  cases hmethM.symm.trans hmethM'
  obtain ⟨c2, r2, m2, q1, q2, q3, q4, kP, hkP, hkPi⟩ := Cond.selects_spec hsel
  cases hcls.symm.trans q1
  cases (State.methodFound?_of_named hnamed hy).symm.trans q2
  cases hnamed.symm.trans q3
  have hselP : selectMethod e.platform s.vm cellB.cls mk = .method mk := by rw [Launch.admits_selectMethod X.admits]; exact q4
  obtain ⟨vm₁, X₁, hstep₁⟩ := X.invokevirtual hexec hown hlink hnamed hmethM hstM hkP hkPi hy (a := b) (cell := cellB) hcell
    (fun z h => by rw [h] at hobj; cases hobj) hselP hmethM habM hkP hkPi (g := g) hg (argsL := argsL) (rest := rest) (hlen _ hsigM) hstack hdg
  obtain ⟨v, B, X', hpost, hsteps⟩ := hK m meth c ⟨T.setVm vm₁, locs, cells, slots⟩ { g with stack := rest } (.invokevirtual index) mk (Value.ref b :: argsL).toArray X₁ hg hsize hdg hW (X₁.named hnamed) (hpre vm₁ X₁.warmed)
  exact ⟨v, vm₁, B, X₁.warmed, X', hpost, fun target h => hstep₁ _ fun acts => by rw [doInvoke_state]; exact hsteps.trans h⟩
abbrev vx_CVW (R : Room) (s : State) (args : Array Value) (own C : String) (index : Nat) (y : MethodName) (bytes : ByteArray) (maxL : Nat) (ret : Option FieldType) (hh : List (Nat × Nat × Nat × Nat)) (ws : List Cond) (rm : Room) (mc ms n : Nat) : Prop :=
  (rm.cells = mc ∧ rm.slots = ms ∧ rm.frames + 1 ≤ R.frames ∧ 8 + (maxL + 11) + rm.locals ≤ R.locals ∧ (∀ w ∈ ws, ∀ (a' : Array Value) (U : State), s.WarmedH U.vm → w.before a' U = true) ∧ Cond.codeWith y bytes maxL ret hh ∈ ws) ∧
  (Cond.codeWith y bytes maxL ret hh).before args s = true ∧ (Cond.initialized y.cls).before args s = true ∧ (y.cls ≠ "java/lang/invoke/MethodHandle" ∧ y.cls ≠ "java/lang/invoke/VarHandle") ∧
  (∀ sig, parseMethodDescriptor y.desc = some sig → n = sig.parameters.length) ∧ (Cond.methodLink own index y).before args s = true ∧ (Cond.instanceMethod y).before args s = true ∧ (Cond.selects C y y).before args s = true
theorem vx_cwVW {own C : String} {index maxL mc ms : Nat} {y : MethodName} {bytes : ByteArray} {ret : Option FieldType} {hh : List (Nat × Nat × Nat × Nat)} {Ts ws ws' : List Cond} {rm : Room} (n : Nat) (ht : ∀ w ∈ Ts, w.before args s = true) (hT : GoodIn Ts (wsV own index C y ws)) (hw : ws = Cond.codeWith y bytes maxL ret hh :: ws') (hrc : rm.cells = mc) (hrs : rm.slots = ms)
    (hd : y.cls = C ∧ y.cls ≠ "java/lang/invoke/MethodHandle" ∧ y.cls ≠ "java/lang/invoke/VarHandle" ∧ (parseMethodDescriptor y.desc).map (fun d => d.parameters.length) = some n) (hR : rm.frames + 1 ≤ R.frames ∧ 8 + (maxL + 11) + rm.locals ≤ R.locals) :
    vx_CVW R s args own C index y bytes maxL ret hh ws rm mc ms n := by
  obtain ⟨hC, hd⟩ := hd
  subst hC
  have ok : ∀ w ∈ wsV own index y.cls y ws, w.before args s = true := fun w h => ht w (hT w h).1
  have hG : GoodIn Ts ws := fun w h => hT w (by unfold wsV; exact List.mem_append_right _ h)
  have hc : Cond.codeWith y bytes maxL ret hh ∈ ws := by rw [hw]; exact List.mem_cons_self
  refine ⟨⟨hrc, hrs, hR.1, hR.2, pay_in ht hG, hc⟩, ht _ (hG _ hc).1, ok _ (by simp [wsV]), ⟨hd.1, hd.2.1⟩, fun sig h => ?_, ok _ (by simp [wsV]), ok _ (by simp [wsV]), ok _ (by simp [wsV])⟩
  have h2 := hd.2.2
  rw [h] at h2
  exact (Option.some.inj h2).symm
theorem vx_runVW {y : MethodName} {bytes cc : ByteArray} {maxL nL mc ms n index : Nat} {ret : Option FieldType} {hh : List (Nat × Nat × Nat × Nat)} {ws : List Cond} {rm : Room} {Pc : Array Value → State → Prop} {Qc : Array Value → State → Outcome → State → Prop} {free : Addr → Prop} {Ts : List Cond} {own C : String} {b : Addr} {As rest : List Value} {g : JFrame}
    (S : CallFix p m c cc nL s args Ts own) (hM : Met l y ws rm Pc Qc mc ms free) (cw : vx_CVW R s args own C index y bytes maxL ret hh ws rm mc ms n) (hp : PreV s H C b Pc As)
    (hg : g.method = m) (hn : As.length = n) (hsize : g.locals.size = nL) (hstack : g.stack = As.reverse ++ .ref b :: rest) (hW : 2 * g.monitorRoom + (rest.map fun v => v.category).sum ≤ 8) (hdg : decode cc g.pc = .ok (.invokevirtual index, 3)) (hf : cells + mc ≤ R.cells ∧ slots + ms ≤ R.slots) :
    va_Run p l e R s m args below meth c H locs cells slots mc ms g rest (Qc (Value.ref b :: As).toArray) free := by
  obtain ⟨⟨hrc, hrs, hfr, hlo, hws, hcw⟩, hcode, hini, hy, hlen, hl, hin, hse⟩ := cw
  have hK : Back l R p e below s args y 3 8 (PreOf R mc ms Pc) (PostOf Qc mc ms free) := va_backW (hh := hh) (bytes := bytes) (maxL := maxL) (ret := ret) hM hp.1 hrc hrs hfr hlo hws hcw (fun a' U hW => word_at hW (Or.inl (by first | rfl | simp [Cond.onTables, Cond.keeps, Cond.steady])) hini)
  obtain ⟨hx, hb, hml, ho, -⟩ := S
  obtain ⟨-, ⟨cellB, hcB, hoB, hclB⟩, hPc⟩ := hp
  intro T hT X
  obtain ⟨v, vm₁, ⟨U', l2, c2, s2⟩, hW₁, X', ⟨g', mk, t, L, e1, e2, hq, h1, hL, h2, h3⟩, st⟩ := vx_callVW X hx (C := C) (hh := hh) (bytes := bytes) (maxL := maxL) (ret := ret) ho hl hin hse hcode hy hK (by rw [hT]; exact hcB) hoB hclB hg (hsize.trans hml.symm) (argsL := As) (rest := rest) (fun sig h => hn.trans (hlen sig h)) hstack hW (by rw [hb]; exact hdg)
    (fun vm₁ hW₁ => ⟨hf.1, hf.2, hPc (T.setVm vm₁) hT hW₁⟩)
  dsimp only [Pt.U, Pt.locs, Pt.cells, Pt.slots] at X' e1 e2 h1 h2 h3 st
  subst h1; subst h2; subst h3
  exact ⟨v, (T.setVm vm₁).calling g' mk (Value.ref b :: As).toArray, t, U', L, hT, X', hL, e1, e2, hq, st⟩
section
variable {y : MethodName} {bytes cc : ByteArray} {maxL nL mc ms n index : Nat} {ret : Option FieldType} {ws : List Cond} {rm : Room} {Pc : Array Value → State → Prop} {Qc : Array Value → State → Outcome → State → Prop} {XC : String → State → State → Prop} {free : Addr → Prop} {Ts : List Cond} {own C : String} {b : Addr} {As rest : List Value} {g : JFrame}
theorem vx_runVX {hh : List (Nat × Nat × Nat × Nat)} (S : CallFix p m c cc nL s args Ts own) (hM : vx_Met l y ws rm Pc Qc XC mc ms free) (cw : vx_CVW R s args own C index y bytes maxL ret hh ws rm mc ms n) (hp : PreV s H C b Pc As)
    (hg : g.method = m) (hn : As.length = n) (hsize : g.locals.size = nL) (hstack : g.stack = As.reverse ++ .ref b :: rest) (hW : 2 * g.monitorRoom + (rest.map fun v => v.category).sum ≤ 8) (hdg : decode cc g.pc = .ok (.invokevirtual index, 3)) (hf : cells + mc ≤ R.cells ∧ slots + ms ≤ R.slots) :
    vx_Run p l e R s m args below meth c H locs cells slots mc ms g rest (Qc (Value.ref b :: As).toArray) XC free := by
  obtain ⟨⟨hrc, hrs, hfr, hlo, hws, hcw⟩, hcode, hini, hy, hlen, hl, hin, hse⟩ := cw
  have hK : vx_Back l R p e below s args y 3 8 (PreOf R mc ms Pc) (PostOf Qc mc ms free) (vx_Post XC mc ms free) := vx_backW (hh := hh) (bytes := bytes) (maxL := maxL) (ret := ret) hM hp.1 hrc hrs hfr hlo hws hcw (fun a' U hW => word_at hW (Or.inl (by first | rfl | simp [Cond.onTables, Cond.keeps, Cond.steady])) hini)
  obtain ⟨hx, hb, hml, ho, -⟩ := S
  obtain ⟨-, ⟨cellB, hcB, hoB, hclB⟩, hPc⟩ := hp
  intro T hT X
  rcases vx_callVX X hx (C := C) (hh := hh) (bytes := bytes) (maxL := maxL) (ret := ret) ho hl hin hse hcode hy hK (by rw [hT]; exact hcB) hoB hclB hg (hsize.trans hml.symm) (argsL := As) (rest := rest) (fun sig h => hn.trans (hlen sig h)) hstack hW (by rw [hb]; exact hdg)
    (fun vm₁ hW₁ => ⟨hf.1, hf.2, hPc (T.setVm vm₁) hT hW₁⟩) with ⟨v, vm₁, ⟨U', l2, c2, s2⟩, hW₁, X', ⟨g', mk, t, L, e1, e2, hq, h1, hL, h2, h3⟩, st⟩ | ⟨q, vm₁, ⟨U', l2, c2, s2⟩, hW₁, X', ⟨g', mk, t, L, E, ce, e1, e2, hq, hce, hcv, hcl, h1, hL, h2, h3⟩, st⟩
  · dsimp only [Pt.U, Pt.locs, Pt.cells, Pt.slots] at X' e1 e2 h1 h2 h3 st
    subst h1; subst h2; subst h3
    exact Or.inl ⟨v, (T.setVm vm₁).calling g' mk (Value.ref b :: As).toArray, t, U', L, hT, X', hL, e1, e2, hq, st⟩
  · dsimp only [Pt.U, Pt.locs, Pt.cells, Pt.slots] at X' e1 e2 h1 h2 h3 st hcl
    subst h1; subst h2; subst h3
    exact Or.inr ⟨q, (T.setVm vm₁).calling g' mk (Value.ref b :: As).toArray, t, U', L, E, ce, hT, X', hL, e1, e2, hq, hce, hcv, vx_cls hW₁ hcl, st⟩
theorem vx_runSX {hh : List (Nat × Nat × Nat × Nat)} (S : CallFix p m c cc nL s args Ts own) (hM : vx_Met l y ws rm Pc Qc XC mc ms free) (cw : vx_CSW R s args own index y bytes maxL ret hh ws rm mc ms n) (hp : PreS s H Pc As)
    (hg : g.method = m) (hn : As.length = n) (hsize : g.locals.size = nL) (hstack : g.stack = As.reverse ++ rest) (hW : 2 * g.monitorRoom + (rest.map fun v => v.category).sum ≤ 8) (hdg : decode cc g.pc = .ok (.invokestatic index, 3)) (hf : cells + mc ≤ R.cells ∧ slots + ms ≤ R.slots) :
    vx_Run p l e R s m args below meth c H locs cells slots mc ms g rest (Qc As.toArray) XC free := by
  obtain ⟨⟨hrc, hrs, hfr, hlo, hws, hcw⟩, hcode, hini, hy, hlen, hl, hstt⟩ := cw
  have hK : vx_Back l R p e below s args y 3 8 (PreOf R mc ms Pc) (PostOf Qc mc ms free) (vx_Post XC mc ms free) := vx_backW (hh := hh) (bytes := bytes) (maxL := maxL) (ret := ret) hM hp.1 hrc hrs hfr hlo hws hcw (fun a' U hW => word_at hW (Or.inl (by first | rfl | simp [Cond.onTables, Cond.keeps, Cond.steady])) hini)
  obtain ⟨hx, hb, hml, ho, -⟩ := S
  intro T hT X
  rcases vx_callSX X hx (hh := hh) (bytes := bytes) (maxL := maxL) (ret := ret) ho hl hstt hini hcode hy hK hg (hsize.trans hml.symm) (argsL := As) (rest := rest) (fun sig h => hn.trans (hlen sig h)) hstack hW (by rw [hb]; exact hdg)
    (fun vm₁ hW₁ => ⟨hf.1, hf.2, hp.2 (T.setVm vm₁) hT hW₁⟩) with ⟨v, vm₁, ⟨U', l2, c2, s2⟩, hW₁, X', ⟨g', mk, t, L, e1, e2, hq, h1, hL, h2, h3⟩, st⟩ | ⟨q, vm₁, ⟨U', l2, c2, s2⟩, hW₁, X', ⟨g', mk, t, L, E, ce, e1, e2, hq, hce, hcv, hcl, h1, hL, h2, h3⟩, st⟩
  · dsimp only [Pt.U, Pt.locs, Pt.cells, Pt.slots] at X' e1 e2 h1 h2 h3 st
    subst h1; subst h2; subst h3
    exact Or.inl ⟨v, (T.setVm vm₁).calling g' mk As.toArray, t, U', L, hT, X', hL, e1, e2, hq, st⟩
  · dsimp only [Pt.U, Pt.locs, Pt.cells, Pt.slots] at X' e1 e2 h1 h2 h3 st hcl
    subst h1; subst h2; subst h3
    exact Or.inr ⟨q, (T.setVm vm₁).calling g' mk As.toArray, t, U', L, E, ce, hT, X', hL, e1, e2, hq, hce, hcv, vx_cls hW₁ hcl, st⟩
end
end VXH
theorem vx_ofWH {l : Launch} {y : MethodName} {ws ws' : List Cond} {rm : Room} {Pc : Array Value → State → Prop} {Qc : Array Value → State → Outcome → State → Prop} {XC : String → State → State → Prop} {mc ms : Nat} {free : Addr → Prop} {cc : ByteArray} {maxL : Nat} {ret : Option FieldType} {hh : List (Nat × Nat × Nat × Nat)}
    (hy : plainName y.cls = true) (hw : ws = Cond.codeWith y cc maxL ret hh :: ws')
    (body : ∀ p e s m args below meth c s₁, BodyLoose p l y (headSpec ws rm) cc maxL ret e s m args below meth c s₁ → c.maxLocals = maxL → Pc args s →
      W p l e (headSpec ws rm).room s m args below meth c s.heap [] 0 0 (vx_MQ below Qc XC args s mc ms free) (entryFrame m args maxL)) : vx_Met l y ws rm Pc Qc XC mc ms free := by
  refine MetFree.of_bodyS (code := cc) (maxLocals := maxL) (ret := ret) hy ?_ ?_
  · intro args s m h hn
    obtain ⟨m9, meth, c, hn9, h1, h2, h3, h4, -, h5, h6, -⟩ := Cond.codeWith_spec (atoms_spec (ws := ws) h _ (by rw [hw]; exact List.mem_cons_self))
    cases hn.symm.trans hn9
    exact ⟨meth, c, h1, h2, h3, h4, h5, h6⟩
  · intro p e s m args below meth c s₁ B hml hP _
    have hh0 : s₁.heap = s.heap := by rw [B.state]; rfl
    obtain ⟨t, a1, o, b1, b2, b3⟩ := body p e s m args below meth c s₁ B hml hP s₁ hh0 (Stand.of_body B)
    exact ⟨t, o, a1, b1, b2, b3⟩
/-! ===== END ===== -/
end
section
def bt (x : Int32) (i : Nat) : Bool := x.toBitVec.getLsbD i
theorem b_ext {x y : Int32} (h : ∀ i, i < 32 → bt x i = bt y i) : x = y := Int32.toBitVec_inj.mp (BitVec.eq_of_getLsbD_eq (fun i hi => h i hi))
theorem b_or (x y : Int32) (i : Nat) : bt (x ||| y) i = (bt x i || bt y i) := by unfold bt; rw [Int32.toBitVec_or, BitVec.getLsbD_or]
theorem b_and (x y : Int32) (i : Nat) : bt (x &&& y) i = (bt x i && bt y i) := by unfold bt; rw [Int32.toBitVec_and, BitVec.getLsbD_and]
theorem b_xor (x y : Int32) (i : Nat) : bt (x ^^^ y) i = (bt x i ^^ bt y i) := by unfold bt; rw [Int32.toBitVec_xor, BitVec.getLsbD_xor]
theorem b_big {x : Int32} {i : Nat} (h : 32 ≤ i) : bt x i = false := BitVec.getLsbD_of_ge _ _ h
theorem b_65535 (i : Nat) : bt 65535 i = decide (i < 16) := by
  rcases Nat.lt_or_ge i 32 with h | h
  · exact (by decide +kernel : ∀ i, i < 32 → bt 65535 i = decide (i < 16)) i h
  · rw [b_big h, decide_eq_false (by omega)]
theorem b_m1 : ∀ i, i < 32 → bt (-1) i = true := by decide +kernel
theorem b_0 (i : Nat) : bt 0 i = false := BitVec.getLsbD_zero
theorem b_1 : ∀ i, i < 32 → bt 1 i = decide (i = 0) := by decide +kernel
theorem s_l : ∀ n, n < 32 → ((nI n &&& 31).toBitVec.smod 32).toNat = n := by decide +kernel
theorem s_u : ∀ n, n < 32 → (((nI n).toUInt32 &&& Int32.toUInt32 31).toBitVec % 32).toNat = n := by decide +kernel
theorem b_shl (n : Nat) (hn : n < 32) (x : Int32) {i : Nat} (hi : i < 32) : bt (x <<< (nI n &&& 31)) i = (decide (n ≤ i) && bt x (i - n)) := by
  unfold bt
  rw [Int32.toBitVec_shiftLeft]
  show (x.toBitVec <<< ((nI n &&& 31).toBitVec.smod 32).toNat).getLsbD i = _
  rw [s_l n hn, BitVec.getLsbD_shiftLeft]
  rcases Nat.lt_or_ge i n with h | h
  · simp [h, Nat.not_le.mpr h]
  · simp [hi, h, Nat.not_lt.mpr h]
theorem b_ushr (n : Nat) (hn : n < 32) (x : Int32) (i : Nat) : bt ((x.toUInt32 >>> ((nI n).toUInt32 &&& Int32.toUInt32 31)).toInt32) i = bt x (n + i) := by
  show (x.toUInt32 >>> ((nI n).toUInt32 &&& Int32.toUInt32 31)).toBitVec.getLsbD i = x.toUInt32.toBitVec.getLsbD (n + i)
  rw [UInt32.toBitVec_shiftRight]
  show (x.toUInt32.toBitVec >>> (((nI n).toUInt32 &&& Int32.toUInt32 31).toBitVec % 32).toNat).getLsbD i = _
  rw [s_u n hn, BitVec.getLsbD_ushiftRight]
theorem b_sshr (n : Nat) (hn : n < 32) (x : Int32) {i : Nat} (hi : i < 32) : bt (x >>> (nI n &&& 31)) i = if n + i < 32 then bt x (n + i) else bt x 31 := by
  unfold bt
  rw [Int32.toBitVec_shiftRight]
  show (x.toBitVec.sshiftRight ((nI n &&& 31).toBitVec.smod 32).toNat).getLsbD i = _
  rw [s_l n hn, BitVec.getLsbD_sshiftRight, BitVec.msb_eq_getLsbD_last]
  simp [hi]
def bit (n : Nat) : Int32 := (1 : Int32) <<< (nI n &&& 31)
theorem bt_bit {n i : Nat} (hn : n < 32) (hi : i < 32) : bt (bit n) i = decide (i = n) := by
  unfold bit
  rw [b_shl n hn 1 hi, b_1 (i - n) (by omega)]
  by_cases h : n ≤ i
  · rw [decide_eq_true h, Bool.true_and]
    exact decide_eq_decide.mpr ⟨fun h1 => by omega, fun h1 => by omega⟩
  · rw [decide_eq_false h, Bool.false_and, decide_eq_false (by omega)]
theorem bt_not (x : Int32) {i : Nat} (hi : i < 32) : bt (x ^^^ (-1)) i = !(bt x i) := by
  rw [b_xor, b_m1 i hi]; cases bt x i <;> rfl
theorem xb_low (y : Int32) : (y &&& 1) = 0 ↔ bt y 0 = false := by
  constructor
  · intro h
    have h1 := b_and y 1 0
    rw [h, b_0, b_1 0 (by omega)] at h1
    cases hb : bt y 0 with
    | false => rfl
    | true => rw [hb] at h1; simp at h1
  · intro h
    apply b_ext
    intro i hi
    rw [b_and, b_0, b_1 i hi]
    by_cases h0 : i = 0
    · subst h0; rw [h]; rfl
    · rw [decide_eq_false h0, Bool.and_false]
theorem xb_low1 (y : Int32) : (y &&& 1) = 1 ↔ bt y 0 = true := by
  constructor
  · intro h
    have h1 := b_and y 1 0
    rw [h, b_1 0 (by omega)] at h1
    cases hb : bt y 0 with
    | true => rfl
    | false => rw [hb] at h1; simp at h1
  · intro h
    apply b_ext
    intro i hi
    rw [b_and, b_1 i hi]
    by_cases h0 : i = 0
    · subst h0; rw [h]; rfl
    · rw [decide_eq_false h0, Bool.and_false]
theorem has_u {x : Int32} {n : Nat} (hn : n < 32) : ((x.toUInt32 >>> ((nI n).toUInt32 &&& Int32.toUInt32 31)).toInt32 &&& 1) = 0 ↔ bt x n = false := by
  rw [xb_low, b_ushr n hn, Nat.add_zero]
theorem has_u1 {x : Int32} {n : Nat} (hn : n < 32) : ((x.toUInt32 >>> ((nI n).toUInt32 &&& Int32.toUInt32 31)).toInt32 &&& 1) = 1 ↔ bt x n = true := by
  rw [xb_low1, b_ushr n hn, Nat.add_zero]
theorem has_s {x : Int32} {n : Nat} (hn : n < 32) : ((x >>> (nI n &&& 31)) &&& 1) = 1 ↔ bt x n = true := by
  rw [xb_low1, b_sshr n hn x (by omega)]
  simp [hn]
theorem has_s0 {x : Int32} {n : Nat} (hn : n < 32) : ((x >>> (nI n &&& 31)) &&& 1) = if bt x n = true then 1 else 0 := by
  cases hb : bt x n with
  | true => rw [if_pos rfl]; exact (has_s hn).mpr hb
  | false =>
    rw [if_neg (by decide)]
    rw [xb_low, b_sshr n hn x (by omega)]
    simp [hn, hb]
def m16 (x : Int32) : Prop := ∀ i, 16 ≤ i → bt x i = false
theorem m16_ext {x y : Int32} (hx : m16 x) (hy : m16 y) (h : ∀ i, i < 16 → bt x i = bt y i) : x = y := by
  apply b_ext
  intro i _
  by_cases h1 : i < 16
  · exact h i h1
  · rw [hx i (by omega), hy i (by omega)]
theorem m16_0 : m16 0 := fun i _ => b_0 i
theorem m16_or {x y : Int32} (hx : m16 x) (hy : m16 y) : m16 (x ||| y) := fun i hi => by rw [b_or, hx i hi, hy i hi]; rfl
theorem m16_and {x y : Int32} (hx : m16 x) : m16 (x &&& y) := fun i hi => by rw [b_and, hx i hi]; rfl
theorem m16_and2 {x y : Int32} (hy : m16 y) : m16 (x &&& y) := fun i hi => by rw [b_and, hy i hi, Bool.and_false]
theorem m16_bit {n : Nat} (hn : n < 16) : m16 (bit n) := fun i hi => by
  by_cases h : i < 32
  · rw [bt_bit (by omega) h, decide_eq_false (by omega)]
  · exact b_big (by omega)
theorem m16_65535 : m16 65535 := fun i hi => by rw [b_65535, decide_eq_false (by omega)]
theorem m16_lt {x : Int32} (h : m16 x) {i : Nat} (hb : bt x i = true) : i < 16 := by
  rcases Nat.lt_or_ge i 16 with h1 | h1
  · exact h1
  · rw [h i h1] at hb; cases hb
theorem bt_lt {x : Int32} {i : Nat} (hb : bt x i = true) : i < 32 := by
  rcases Nat.lt_or_ge i 32 with h1 | h1
  · exact h1
  · rw [b_big h1] at hb; cases hb
def un (f : Nat → Int32) (t : Int32) : Nat → Int32
  | 0 => 0
  | k + 1 => if bt t k = true then un f t k ||| f k else un f t k
theorem bt_un {f : Nat → Int32} {t : Int32} {k i : Nat} : bt (un f t k) i = true ↔ ∃ u, u < k ∧ bt t u = true ∧ bt (f u) i = true := by
  induction k with
  | zero => constructor
            · intro h; rw [show un f t 0 = 0 from rfl, b_0] at h; cases h
            · rintro ⟨u, hu, -⟩; omega
  | succ k ih =>
    show bt (if bt t k = true then un f t k ||| f k else un f t k) i = true ↔ _
    by_cases hk : bt t k = true
    · rw [if_pos hk, b_or, Bool.or_eq_true, ih]
      constructor
      · rintro (⟨u, h1, h2, h3⟩ | h3)
        · exact ⟨u, by omega, h2, h3⟩
        · exact ⟨k, by omega, hk, h3⟩
      · rintro ⟨u, h1, h2, h3⟩
        rcases Nat.lt_or_ge u k with h4 | h4
        · exact Or.inl ⟨u, h4, h2, h3⟩
        · have : u = k := by omega
          subst this
          exact Or.inr h3
    · rw [if_neg hk, ih]
      constructor
      · rintro ⟨u, h1, h2, h3⟩; exact ⟨u, by omega, h2, h3⟩
      · rintro ⟨u, h1, h2, h3⟩
        rcases Nat.lt_or_ge u k with h4 | h4
        · exact ⟨u, h4, h2, h3⟩
        · have : u = k := by omega
          subst this
          exact absurd h2 hk
theorem un_m16 {f : Nat → Int32} {t : Int32} {k : Nat} (hf : ∀ u, u < k → m16 (f u)) : m16 (un f t k) := by
  intro i hi
  cases hb : bt (un f t k) i with
  | false => rfl
  | true =>
    obtain ⟨u, h1, _, h3⟩ := bt_un.mp hb
    rw [hf u h1 i hi] at h3; cases h3
def cn (x : Int32) : Nat → Nat
  | 0 => 0
  | k + 1 => cn x k + (if bt x k = true then 1 else 0)
theorem cn_le (x : Int32) (k : Nat) : cn x k ≤ k := by
  induction k with
  | zero => exact Nat.le_refl _
  | succ k ih => show cn x k + (if bt x k = true then 1 else 0) ≤ k + 1; split <;> omega
theorem cn_mono {x y : Int32} (h : ∀ i, bt x i = true → bt y i = true) (k : Nat) : cn x k ≤ cn y k := by
  induction k with
  | zero => exact Nat.le_refl _
  | succ k ih =>
    show cn x k + (if bt x k = true then 1 else 0) ≤ cn y k + (if bt y k = true then 1 else 0)
    by_cases hk : bt x k = true
    · rw [if_pos hk, if_pos (h k hk)]; omega
    · rw [if_neg hk]; split <;> omega
theorem cn_lt {x y : Int32} (h : ∀ i, bt x i = true → bt y i = true) {j k : Nat} (hj : j < k) (hx : bt x j = false) (hy : bt y j = true) : cn x k < cn y k := by
  induction k with
  | zero => omega
  | succ k ih =>
    show cn x k + (if bt x k = true then 1 else 0) < cn y k + (if bt y k = true then 1 else 0)
    rcases Nat.lt_or_ge j k with h1 | h1
    · have := ih h1
      by_cases hk : bt x k = true
      · rw [if_pos hk, if_pos (h k hk)]; omega
      · rw [if_neg hk]; split <;> omega
    · have : j = k := by omega
      subst this
      have := cn_mono h j
      rw [if_neg (by rw [hx]; decide), if_pos hy]; omega
theorem cn_pos {x : Int32} {j k : Nat} (hj : j < k) (hx : bt x j = true) : 0 < cn x k := by
  have h1 := cn_lt (x := 0) (y := x) (fun i h => by rw [b_0] at h; cases h) hj (b_0 j) hx
  omega
theorem cn_zero {x : Int32} {k : Nat} (h : cn x k = 0) {j : Nat} (hj : j < k) : bt x j = false := by
  cases hb : bt x j with
  | false => rfl
  | true => have := cn_pos hj hb; omega
theorem m16_zero {x : Int32} (hx : m16 x) (h : ∀ i, i < 16 → bt x i = false) : x = 0 := m16_ext hx m16_0 (fun i hi => by rw [h i hi, b_0])
theorem m16_some {x : Int32} (hx : m16 x) (h : x ≠ 0) : ∃ i, i < 16 ∧ bt x i = true := by
  apply Classical.byContradiction
  intro hn
  apply h
  apply m16_zero hx
  intro i hi
  cases hb : bt x i with
  | false => rfl
  | true => exact absurd ⟨i, hi, hb⟩ hn
theorem m16_diff {x y : Int32} (hx : m16 x) (hy : m16 y) (hs : ∀ i, bt x i = true → bt y i = true) (hne : x ≠ y) : cn x 16 < cn y 16 := by
  have : ∃ i, i < 16 ∧ bt x i = false ∧ bt y i = true := by
    apply Classical.byContradiction
    intro hn
    apply hne
    apply m16_ext hx hy
    intro i hi
    cases hb : bt x i with
    | true => rw [hs i hb]
    | false =>
      cases hc : bt y i with
      | false => rfl
      | true => exact absurd ⟨i, hi, hb, hc⟩ hn
  obtain ⟨i, h1, h2, h3⟩ := this
  exact cn_lt hs h1 h2 h3
end
section
def gd (h : Nat → Int32) : Prop := ∀ u, u < 16 → m16 (h u)
def stp (h : Nat → Int32) (c x : Int32) : Int32 := x ||| (un h x 16 &&& (c ^^^ (-1)))
def itr (h : Nat → Int32) (c : Int32) : Nat → Int32 → Int32
  | 0, x => x
  | n + 1, x => stp h c (itr h c n x)
def SP (h : Nat → Int32) (s c : Int32) : Int32 := itr h c 15 (s &&& (c ^^^ (-1)))
theorem stp_m16 {h : Nat → Int32} (hg : gd h) {c x : Int32} (hx : m16 x) : m16 (stp h c x) := m16_or hx (m16_and (un_m16 hg))
theorem stp_sub {h : Nat → Int32} {c x : Int32} {i : Nat} (hi : bt x i = true) : bt (stp h c x) i = true := by
  unfold stp; rw [b_or, hi]; rfl
theorem itr_m16 {h : Nat → Int32} (hg : gd h) {c x : Int32} (hx : m16 x) (n : Nat) : m16 (itr h c n x) := by
  induction n with
  | zero => exact hx
  | succ n ih => exact stp_m16 hg ih
theorem itr_sub {h : Nat → Int32} {c x : Int32} {i : Nat} (hi : bt x i = true) (n : Nat) : bt (itr h c n x) i = true := by
  induction n with
  | zero => exact hi
  | succ n ih => exact stp_sub ih
theorem itr_fix {h : Nat → Int32} {c x : Int32} {n : Nat} (hf : stp h c (itr h c n x) = itr h c n x) : ∀ k, itr h c (n + k) x = itr h c n x := by
  intro k
  induction k with
  | zero => rfl
  | succ k ih =>
    show stp h c (itr h c (n + k) x) = _
    rw [ih, hf]
theorem itr_grow {h : Nat → Int32} (hg : gd h) {c x : Int32} (hx : m16 x) (n : Nat) : (∃ k, k ≤ n ∧ stp h c (itr h c k x) = itr h c k x) ∨ cn x 16 + (n + 1) ≤ cn (itr h c (n + 1) x) 16 := by
  induction n with
  | zero =>
    by_cases hf : stp h c x = x
    · exact Or.inl ⟨0, Nat.le_refl _, hf⟩
    · right
      have := m16_diff hx (stp_m16 (c := c) hg hx) (fun i hi => stp_sub hi) (fun e => hf e.symm)
      show cn x 16 + 1 ≤ cn (stp h c x) 16
      omega
  | succ n ih =>
    rcases ih with ⟨k, h1, h2⟩ | h1
    · exact Or.inl ⟨k, by omega, h2⟩
    · by_cases hf : stp h c (itr h c (n + 1) x) = itr h c (n + 1) x
      · exact Or.inl ⟨n + 1, Nat.le_refl _, hf⟩
      · right
        have := m16_diff (itr_m16 hg hx (n + 1)) (stp_m16 (c := c) hg (itr_m16 hg hx (n + 1))) (fun i hi => stp_sub hi) (fun e => hf e.symm)
        show cn x 16 + (n + 1 + 1) ≤ cn (stp h c (itr h c (n + 1) x)) 16
        omega
theorem stp_0 (h : Nat → Int32) (c : Int32) : stp h c 0 = 0 := by
  apply b_ext
  intro i _
  rw [b_0]
  cases hb : bt (stp h c 0) i with
  | false => rfl
  | true =>
    unfold stp at hb
    rw [b_or, b_0, Bool.false_or, b_and, Bool.and_eq_true] at hb
    obtain ⟨u, _, h2, _⟩ := bt_un.mp hb.1
    rw [b_0] at h2; cases h2
theorem itr_fixed {h : Nat → Int32} (hg : gd h) {c x : Int32} (hx : m16 x) : ∃ k, k ≤ 15 ∧ stp h c (itr h c k x) = itr h c k x := by
  rcases itr_grow (c := c) hg hx 15 with h1 | h1
  · exact h1
  · have h2 := cn_le (itr h c (15 + 1) x) 16
    by_cases h0 : x = 0
    · subst h0; exact ⟨0, by omega, stp_0 h c⟩
    · obtain ⟨i, hi, hb⟩ := m16_some hx h0
      have := cn_pos hi hb
      omega
theorem itr_15 {h : Nat → Int32} (hg : gd h) {c x : Int32} (hx : m16 x) : stp h c (itr h c 15 x) = itr h c 15 x := by
  obtain ⟨k, hk, hf⟩ := itr_fixed (c := c) hg hx
  have h1 := itr_fix hf (15 - k)
  rw [show k + (15 - k) = 15 by omega] at h1
  rw [h1, hf]
theorem itr_at {h : Nat → Int32} {c x : Int32} {k : Nat} (hk : k ≤ 15) (hf : stp h c (itr h c k x) = itr h c k x) : itr h c 15 x = itr h c k x := by
  have h1 := itr_fix hf (15 - k)
  rw [show k + (15 - k) = 15 by omega] at h1
  exact h1
theorem itr_any {h : Nat → Int32} (hg : gd h) {c x : Int32} (hx : m16 x) {k : Nat} (hf : stp h c (itr h c k x) = itr h c k x) : itr h c 15 x = itr h c k x := by
  rcases Nat.le_total k 15 with h1 | h1
  · exact itr_at h1 hf
  · have h2 := itr_fix (itr_15 (c := c) hg hx) (k - 15)
    rw [show 15 + (k - 15) = k by omega] at h2
    exact h2.symm
def Wk (R : Nat → Nat → Prop) : Nat → Nat → Nat → Prop
  | 0, u, v => u = v
  | n + 1, u, v => ∃ w, Wk R n u w ∧ R w v
def Rc (R : Nat → Nat → Prop) (u v : Nat) : Prop := ∃ n, Wk R n u v
theorem Rc_rf {R : Nat → Nat → Prop} (u : Nat) : Rc R u u := ⟨0, rfl⟩
theorem Rc_st {R : Nat → Nat → Prop} {u w v : Nat} (h : Rc R u w) (e : R w v) : Rc R u v := by
  obtain ⟨n, hn⟩ := h
  exact ⟨n + 1, w, hn, e⟩
theorem Rc_one {R : Nat → Nat → Prop} {u v : Nat} (e : R u v) : Rc R u v := Rc_st (Rc_rf u) e
theorem Wk_add {R : Nat → Nat → Prop} {a b : Nat} : ∀ {n k : Nat} {c : Nat}, Wk R n a b → Wk R k b c → Wk R (n + k) a c := by
  intro n k
  induction k with
  | zero => intro c h1 h2; cases h2; exact h1
  | succ k ih =>
    intro c h1 h2
    obtain ⟨w, h3, h4⟩ := h2
    exact ⟨w, ih h1 h3, h4⟩
theorem Rc_tr {R : Nat → Nat → Prop} {a b c : Nat} (h1 : Rc R a b) (h2 : Rc R b c) : Rc R a c := by
  obtain ⟨n, h3⟩ := h1
  obtain ⟨k, h4⟩ := h2
  exact ⟨n + k, Wk_add h3 h4⟩
theorem Rc_ind {R : Nat → Nat → Prop} {u : Nat} {P : Nat → Prop} (h0 : P u) (hs : ∀ w v, P w → R w v → P v) {v : Nat} (h : Rc R u v) : P v := by
  obtain ⟨n, hn⟩ := h
  induction n generalizing v with
  | zero => cases hn; exact h0
  | succ n ih =>
    obtain ⟨w, h1, h2⟩ := hn
    exact hs w v (ih h1) h2
theorem Rc_mono {R R' : Nat → Nat → Prop} (h : ∀ a b, R a b → R' a b) {u v : Nat} (hr : Rc R u v) : Rc R' u v :=
  Rc_ind (P := fun x => Rc R' u x) (Rc_rf u) (fun w v hw e => Rc_st hw (h w v e)) hr
theorem Rc_head {R : Nat → Nat → Prop} {a b c : Nat} (e : R a b) (h : Rc R b c) : Rc R a c := Rc_tr (Rc_one e) h
theorem Rc_back {R : Nat → Nat → Prop} {v : Nat} {P : Nat → Prop} (h0 : P v) (hs : ∀ w x, P x → R w x → P w) {u : Nat} (h : Rc R u v) : P u :=
  Rc_ind (P := fun x => P x → P u) (fun h => h) (fun w x hw e hx => hw (hs w x hx e)) h h0
def Ed (h : Nat → Int32) (c : Int32) (u v : Nat) : Prop := u < 16 ∧ bt (h u) v = true ∧ bt c v = false
theorem SP_m16 {h : Nat → Int32} (hg : gd h) {s c : Int32} (hs : m16 s) : m16 (SP h s c) := itr_m16 hg (m16_and hs) 15
theorem SP_start {h : Nat → Int32} {s c : Int32} {u : Nat} (hu : bt s u = true) (hc : bt c u = false) : bt (SP h s c) u = true := by
  apply itr_sub
  rw [b_and, hu, bt_not c (bt_lt hu), hc]; rfl
theorem SP_step {h : Nat → Int32} (hg : gd h) {s c : Int32} (hs : m16 s) {u v : Nat} (hu : bt (SP h s c) u = true) (e : Ed h c u v) : bt (SP h s c) v = true := by
  have hf := itr_15 (c := c) hg (m16_and (y := c ^^^ (-1)) hs)
  show bt (itr h c 15 (s &&& (c ^^^ (-1)))) v = true
  rw [← hf]
  unfold stp
  rw [b_or, b_and, Bool.or_eq_true, Bool.and_eq_true]
  right
  refine ⟨bt_un.mpr ⟨u, e.1, hu, e.2.1⟩, ?_⟩
  rw [bt_not c (bt_lt e.2.1), e.2.2]; rfl
theorem itr_sound {h : Nat → Int32} {c x : Int32} {v n : Nat} (hv : bt (itr h c n x) v = true) : ∃ u, bt x u = true ∧ Rc (Ed h c) u v := by
  induction n generalizing v with
  | zero => exact ⟨v, hv, Rc_rf v⟩
  | succ n ih =>
    have hv : bt (stp h c (itr h c n x)) v = true := hv
    unfold stp at hv
    rw [b_or, b_and, Bool.or_eq_true, Bool.and_eq_true] at hv
    rcases hv with hv | ⟨h1, h2⟩
    · exact ih hv
    · obtain ⟨w, h3, h4, h5⟩ := bt_un.mp h1
      obtain ⟨u, h6, h7⟩ := ih h4
      refine ⟨u, h6, Rc_st h7 ⟨h3, h5, ?_⟩⟩
      rw [bt_not c (bt_lt h5)] at h2
      cases hc : bt c v with
      | false => rfl
      | true => rw [hc] at h2; cases h2
theorem SP_iff {h : Nat → Int32} (hg : gd h) {s c : Int32} (hs : m16 s) {v : Nat} : bt (SP h s c) v = true ↔ ∃ u, bt s u = true ∧ bt c u = false ∧ Rc (Ed h c) u v := by
  constructor
  · intro hv
    obtain ⟨u, h1, h2⟩ := itr_sound (h := h) (c := c) (x := s &&& (c ^^^ (-1))) (n := 15) hv
    rw [b_and, Bool.and_eq_true] at h1
    refine ⟨u, h1.1, ?_, h2⟩
    have h3 := h1.2
    rw [bt_not c (bt_lt h1.1)] at h3
    cases hc : bt c u with
    | false => rfl
    | true => rw [hc] at h3; cases h3
  · rintro ⟨u, h1, h2, h3⟩
    exact Rc_ind (P := fun x => bt (SP h s c) x = true) (SP_start h1 h2) (fun w x hw e => SP_step hg hs hw e) h3
def RE (h : Nat → Int32) (u : Nat) : Int32 := SP h (bit u) 0
def Eg (h : Nat → Int32) (u v : Nat) : Prop := u < 16 ∧ bt (h u) v = true
theorem Ed0 {h : Nat → Int32} {u v : Nat} : Ed h 0 u v ↔ Eg h u v := ⟨fun e => ⟨e.1, e.2.1⟩, fun e => ⟨e.1, e.2, b_0 v⟩⟩
theorem RE_iff {h : Nat → Int32} (hg : gd h) {u v : Nat} (hu : u < 16) : bt (RE h u) v = true ↔ Rc (Eg h) u v := by
  unfold RE
  rw [SP_iff hg (m16_bit hu)]
  constructor
  · rintro ⟨w, h1, _, h3⟩
    rw [bt_bit (by omega) (bt_lt h1), decide_eq_true_eq] at h1
    subst h1
    exact Rc_mono (fun a b e => Ed0.mp e) h3
  · intro h1
    exact ⟨u, by rw [bt_bit (by omega) (by omega), decide_eq_true rfl], b_0 u, Rc_mono (fun a b e => Ed0.mpr e) h1⟩
end
section
def fs (p : Nat → Bool) (d : Nat) : Nat → Nat → Nat
  | 0, _ => d
  | n + 1, i => if p i = true then i else fs p d n (i + 1)
def first (p : Nat → Bool) (d N : Nat) : Nat := fs p d N 0
theorem fs_eq {p : Nat → Bool} {d j : Nat} (hp : p j = true) : ∀ (n i : Nat), i ≤ j → j < i + n → (∀ k, i ≤ k → k < j → p k = false) → fs p d n i = j := by
  intro n
  induction n with
  | zero => intro i h1 h2; omega
  | succ n ih =>
    intro i h1 h2 hm
    show (if p i = true then i else fs p d n (i + 1)) = j
    by_cases h : i = j
    · subst h; rw [if_pos hp]
    · rw [if_neg (by rw [hm i (Nat.le_refl _) (by omega)]; decide)]
      exact ih (i + 1) (by omega) (by omega) (fun k h3 h4 => hm k (by omega) h4)
theorem fs_none {p : Nat → Bool} {d : Nat} : ∀ (n i : Nat), (∀ k, i ≤ k → k < i + n → p k = false) → fs p d n i = d := by
  intro n
  induction n with
  | zero => intro i _; rfl
  | succ n ih =>
    intro i hm
    show (if p i = true then i else fs p d n (i + 1)) = d
    rw [if_neg (by rw [hm i (Nat.le_refl _) (by omega)]; decide)]
    exact ih (i + 1) (fun k h3 h4 => hm k (by omega) (by omega))
theorem first_eq {p : Nat → Bool} {d N j : Nat} (hp : p j = true) (hj : j < N) (hm : ∀ k, k < j → p k = false) : first p d N = j := fs_eq hp N 0 (Nat.zero_le _) (by omega) (fun k _ h => hm k h)
theorem first_none {p : Nat → Bool} {d N : Nat} (hm : ∀ k, k < N → p k = false) : first p d N = d := fs_none N 0 (fun k _ h => hm k (by omega))
theorem least_ex {p : Nat → Bool} {N : Nat} (h : ∃ j, j < N ∧ p j = true) : ∃ j, j < N ∧ p j = true ∧ ∀ k, k < j → p k = false := by
  obtain ⟨j, hj, hm⟩ := pk_least (fun j => j < N ∧ p j = true) h
  refine ⟨j, hj.1, hj.2, fun k hk => ?_⟩
  cases hb : p k with
  | false => rfl
  | true => exact absurd ⟨by omega, hb⟩ (hm k hk)
theorem first_spec {p : Nat → Bool} {d N : Nat} (h : ∃ j, j < N ∧ p j = true) : first p d N < N ∧ p (first p d N) = true ∧ ∀ k, k < first p d N → p k = false := by
  obtain ⟨j, h1, h2, h3⟩ := least_ex h
  rw [first_eq h2 h1 h3]
  exact ⟨h1, h2, h3⟩
theorem first_congr {p q : Nat → Bool} {d N : Nat} (h : ∀ j, j < N → p j = q j) : first p d N = first q d N := by
  by_cases he : ∃ j, j < N ∧ p j = true
  · obtain ⟨j, h1, h2, h3⟩ := least_ex he
    rw [first_eq h2 h1 h3, first_eq (by rw [← h j h1]; exact h2) h1 (fun k hk => by rw [← h k (by omega)]; exact h3 k hk)]
  · have hn : ∀ k, k < N → p k = false := fun k hk => by
      cases hb : p k with
      | false => rfl
      | true => exact absurd ⟨k, hk, hb⟩ he
    rw [first_none hn, first_none (fun k hk => by rw [← h k hk]; exact hn k hk)]
def ws0 (h : Nat → Int32) : Nat → Int32 := fun u => bit u ||| h u
def wph (r : Nat → Int32) (m : Nat) : Nat → Int32 := fun x => if bt (r x) m = true then r x ||| r m else r x
def wsh (h : Nat → Int32) : Nat → Nat → Int32
  | 0 => ws0 h
  | k + 1 => wph (wsh h k) k
theorem wph_iff {r : Nat → Int32} {m u v : Nat} : bt (wph r m u) v = true ↔ bt (r u) v = true ∨ (bt (r u) m = true ∧ bt (r m) v = true) := by
  unfold wph
  by_cases h : bt (r u) m = true
  · rw [if_pos h, b_or, Bool.or_eq_true]
    exact ⟨fun h1 => h1.imp id (fun h2 => ⟨h, h2⟩), fun h1 => h1.imp id (fun h2 => h2.2)⟩
  · rw [if_neg h]
    exact ⟨Or.inl, fun h1 => h1.elim id (fun h2 => absurd h2.1 h)⟩
theorem wsh_m16 {h : Nat → Int32} (hg : gd h) : ∀ k u, k ≤ 16 → u < 16 → m16 (wsh h k u) := by
  intro k
  induction k with
  | zero => intro u _ hu; exact m16_or (m16_bit hu) (hg u hu)
  | succ k ih =>
    intro u hk hu
    show m16 (wph (wsh h k) k u)
    unfold wph
    split
    · exact m16_or (ih u (by omega) hu) (ih k (by omega) (by omega))
    · exact ih u (by omega) hu
theorem wsh_sound {h : Nat → Int32} : ∀ k u v, k ≤ 16 → u < 16 → bt (wsh h k u) v = true → Rc (Eg h) u v := by
  intro k
  induction k with
  | zero =>
    intro u v _ hu hb
    have hb : bt (bit u ||| h u) v = true := hb
    rw [b_or, Bool.or_eq_true] at hb
    rcases hb with hb | hb
    · rw [bt_bit (by omega) (bt_lt hb), decide_eq_true_eq] at hb
      subst hb; exact Rc_rf _
    · exact Rc_one ⟨hu, hb⟩
  | succ k ih =>
    intro u v hk hu hb
    rcases wph_iff.mp hb with h1 | ⟨h1, h2⟩
    · exact ih u v (by omega) hu h1
    · exact Rc_tr (ih u k (by omega) hu h1) (ih k v (by omega) (by omega) h2)
theorem wsh_base {h : Nat → Int32} : ∀ k u v, bt (ws0 h u) v = true → bt (wsh h k u) v = true := by
  intro k
  induction k with
  | zero => intro u v hb; exact hb
  | succ k ih => intro u v hb; exact wph_iff.mpr (Or.inl (ih u v hb))
theorem wsh_trans {h : Nat → Int32} : ∀ k m u v, m < k → bt (wsh h k u) m = true → bt (wsh h k m) v = true → bt (wsh h k u) v = true := by
  intro k
  induction k with
  | zero => intro m u v hm; omega
  | succ k ih =>
    intro m u v hm h1 h2
    have h1 := wph_iff.mp h1
    have h2 := wph_iff.mp h2
    show bt (wph (wsh h k) k u) v = true
    rw [wph_iff]
    by_cases hk : m = k
    · subst hk
      have a1 : bt (wsh h m u) m = true := h1.elim id (fun q => q.1)
      have a2 : bt (wsh h m m) v = true := h2.elim id (fun q => q.2)
      exact Or.inr ⟨a1, a2⟩
    · have hlt : m < k := by omega
      rcases h1 with h1 | ⟨h1, h1'⟩
      · rcases h2 with h2 | ⟨h2, h2'⟩
        · exact Or.inl (ih m u v hlt h1 h2)
        · exact Or.inr ⟨ih m u k hlt h1 h2, h2'⟩
      · rcases h2 with h2 | ⟨h2, h2'⟩
        · exact Or.inr ⟨h1, ih m k v hlt h1' h2⟩
        · exact Or.inr ⟨h1, h2'⟩
theorem wsh_RE {h : Nat → Int32} (hg : gd h) {u : Nat} (hu : u < 16) : wsh h 16 u = RE h u := by
  apply m16_ext (wsh_m16 hg 16 u (Nat.le_refl _) hu) (SP_m16 hg (m16_bit hu))
  intro v hv
  have : bt (wsh h 16 u) v = true ↔ bt (RE h u) v = true := by
    rw [RE_iff hg hu]
    constructor
    · exact wsh_sound 16 u v (Nat.le_refl _) hu
    · intro hr
      refine Rc_ind (P := fun x => bt (wsh h 16 u) x = true) ?_ ?_ hr
      · apply wsh_base
        unfold ws0
        rw [b_or, bt_bit (by omega) (by omega), decide_eq_true rfl]; rfl
      · intro w x hw e
        refine wsh_trans 16 w u x e.1 hw ?_
        apply wsh_base
        unfold ws0
        rw [b_or, e.2, Bool.or_true]
  cases h1 : bt (wsh h 16 u) v with
  | true => exact (this.mp h1).symm
  | false =>
    cases h2 : bt (RE h u) v with
    | false => exact h2.symm
    | true => rw [this.mpr h2] at h1; cases h1
def gr (h : Nat → Int32) (v : Nat) : Nat → Int32
  | 0 => bit v
  | w + 1 => if bt (RE h v) w = true ∧ bt (RE h w) v = true then gr h v w ||| bit w else gr h v w
def GR (h : Nat → Int32) (v : Nat) : Int32 := gr h v 16
theorem gr_iff {h : Nat → Int32} {v w : Nat} (hv : v < 16) : ∀ k, k ≤ 16 → (bt (gr h v k) w = true ↔ w = v ∨ (w < k ∧ bt (RE h v) w = true ∧ bt (RE h w) v = true)) := by
  intro k
  induction k with
  | zero =>
    intro _
    show bt (bit v) w = true ↔ _
    constructor
    · intro hb
      rw [bt_bit (by omega) (bt_lt hb), decide_eq_true_eq] at hb
      exact Or.inl hb
    · rintro (h1 | h1)
      · subst h1; rw [bt_bit (by omega) (by omega), decide_eq_true rfl]
      · omega
  | succ k ih =>
    intro hk
    show bt (if bt (RE h v) k = true ∧ bt (RE h k) v = true then gr h v k ||| bit k else gr h v k) w = true ↔ _
    have ih := ih (by omega)
    by_cases hc : bt (RE h v) k = true ∧ bt (RE h k) v = true
    · rw [if_pos hc, b_or, Bool.or_eq_true, ih]
      constructor
      · rintro ((h1 | h1) | h1)
        · exact Or.inl h1
        · exact Or.inr ⟨by omega, h1.2⟩
        · rw [bt_bit (by omega) (bt_lt h1), decide_eq_true_eq] at h1
          subst h1
          exact Or.inr ⟨by omega, hc⟩
      · rintro (h1 | ⟨h1, h2⟩)
        · exact Or.inl (Or.inl h1)
        · by_cases hw : w = k
          · subst hw; right; rw [bt_bit (by omega) (by omega), decide_eq_true rfl]
          · exact Or.inl (Or.inr ⟨by omega, h2⟩)
    · rw [if_neg hc, ih]
      constructor
      · rintro (h1 | h1)
        · exact Or.inl h1
        · exact Or.inr ⟨by omega, h1.2⟩
      · rintro (h1 | ⟨h1, h2⟩)
        · exact Or.inl h1
        · by_cases hw : w = k
          · subst hw; exact absurd h2 hc
          · exact Or.inr ⟨by omega, h2⟩
theorem GR_iff {h : Nat → Int32} (hg : gd h) {v w : Nat} (hv : v < 16) : bt (GR h v) w = true ↔ w < 16 ∧ Rc (Eg h) v w ∧ Rc (Eg h) w v := by
  unfold GR
  rw [gr_iff hv 16 (Nat.le_refl _)]
  constructor
  · rintro (h1 | ⟨h1, h2, h3⟩)
    · subst h1; exact ⟨hv, Rc_rf _, Rc_rf _⟩
    · exact ⟨h1, (RE_iff hg hv).mp h2, (RE_iff hg h1).mp h3⟩
  · rintro ⟨h1, h2, h3⟩
    exact Or.inr ⟨h1, (RE_iff hg hv).mpr h2, (RE_iff hg h1).mpr h3⟩
theorem GR_m16 {h : Nat → Int32} (hg : gd h) {v : Nat} (hv : v < 16) : m16 (GR h v) := fun i hi => by
  cases hb : bt (GR h v) i with
  | false => rfl
  | true => have := ((GR_iff hg hv).mp hb).1; omega
def NM (h : Nat → Int32) (v : Nat) : Nat := first (fun w => bt (GR h v) w) 0 16
theorem NM_spec {h : Nat → Int32} (hg : gd h) {v : Nat} (hv : v < 16) : NM h v < 16 ∧ Rc (Eg h) v (NM h v) ∧ Rc (Eg h) (NM h v) v ∧ ∀ k, k < NM h v → bt (GR h v) k = false := by
  have hs := first_spec (p := fun w => bt (GR h v) w) (d := 0) (N := 16) ⟨v, hv, (GR_iff hg hv).mpr ⟨hv, Rc_rf _, Rc_rf _⟩⟩
  have h2 := (GR_iff hg hv).mp hs.2.1
  exact ⟨hs.1, h2.2.1, h2.2.2, hs.2.2⟩
theorem NM_eq {h : Nat → Int32} (hg : gd h) {u v : Nat} (hu : u < 16) (hv : v < 16) (h1 : Rc (Eg h) u v) (h2 : Rc (Eg h) v u) : NM h u = NM h v := by
  apply first_congr
  intro j _
  have : bt (GR h u) j = true ↔ bt (GR h v) j = true := by
    rw [GR_iff hg hu, GR_iff hg hv]
    exact ⟨fun q => ⟨q.1, Rc_tr h2 q.2.1, Rc_tr q.2.2 h1⟩, fun q => ⟨q.1, Rc_tr h1 q.2.1, Rc_tr q.2.2 h2⟩⟩
  cases h3 : bt (GR h u) j with
  | true => exact (this.mp h3).symm
  | false =>
    cases h4 : bt (GR h v) j with
    | false => rfl
    | true => rw [this.mpr h4] at h3; cases h3
theorem NM_inj {h : Nat → Int32} (hg : gd h) {u v : Nat} (hu : u < 16) (hv : v < 16) (e : NM h u = NM h v) : Rc (Eg h) u v ∧ Rc (Eg h) v u := by
  have a := NM_spec hg hu
  have b := NM_spec hg hv
  rw [e] at a
  exact ⟨Rc_tr a.2.1 b.2.2.1, Rc_tr b.2.1 a.2.2.1⟩
theorem NM_NM {h : Nat → Int32} (hg : gd h) {v : Nat} (hv : v < 16) : NM h (NM h v) = NM h v := by
  have a := NM_spec hg hv
  exact (NM_eq hg hv a.1 a.2.1 a.2.2.1).symm
theorem NM_le {h : Nat → Int32} (hg : gd h) {v : Nat} (hv : v < 16) : NM h v ≤ v := by
  have a := NM_spec hg hv
  apply Nat.le_of_not_lt
  intro hlt
  have := a.2.2.2 v hlt
  rw [(GR_iff hg hv).mpr ⟨hv, Rc_rf _, Rc_rf _⟩] at this
  cases this
end
section
def mk (p : Nat → Bool) : Nat → Int32
  | 0 => 0
  | k + 1 => if p k = true then mk p k ||| bit k else mk p k
theorem bt_mk {p : Nat → Bool} {k i : Nat} (hk : k ≤ 32) : bt (mk p k) i = true ↔ i < k ∧ p i = true := by
  induction k with
  | zero =>
    constructor
    · intro h; rw [show mk p 0 = 0 from rfl, b_0] at h; cases h
    · intro h; omega
  | succ k ih =>
    have ih := ih (by omega)
    show bt (if p k = true then mk p k ||| bit k else mk p k) i = true ↔ _
    by_cases hc : p k = true
    · rw [if_pos hc, b_or, Bool.or_eq_true, ih]
      constructor
      · rintro (h1 | h1)
        · exact ⟨by omega, h1.2⟩
        · rw [bt_bit (by omega) (bt_lt h1), decide_eq_true_eq] at h1
          subst h1; exact ⟨by omega, hc⟩
      · rintro ⟨h1, h2⟩
        by_cases hi : i = k
        · subst hi; right; rw [bt_bit (by omega) (by omega), decide_eq_true rfl]
        · exact Or.inl ⟨by omega, h2⟩
    · rw [if_neg hc, ih]
      constructor
      · rintro ⟨h1, h2⟩; exact ⟨by omega, h2⟩
      · rintro ⟨h1, h2⟩
        by_cases hi : i = k
        · subst hi; exact absurd h2 hc
        · exact ⟨by omega, h2⟩
noncomputable def dp (P : Prop) : Bool := @decide P (Classical.propDecidable P)
theorem dp_t {P : Prop} : dp P = true ↔ P := by
  unfold dp
  exact @decide_eq_true_iff P (Classical.propDecidable P)
theorem dp_f {P : Prop} : dp P = false ↔ ¬ P := by
  unfold dp
  exact @decide_eq_false_iff_not P (Classical.propDecidable P)
theorem bt_iff {x y : Int32} {i : Nat} (h : bt x i = true ↔ bt y i = true) : bt x i = bt y i := by
  cases h1 : bt x i with
  | true => exact (h.mp h1).symm
  | false =>
    cases h2 : bt y i with
    | false => rfl
    | true => rw [h.mpr h2] at h1; cases h1
noncomputable def st (P : Nat → Prop) : Int32 := mk (fun i => dp (P i)) 16
theorem bt_st {P : Nat → Prop} {i : Nat} : bt (st P) i = true ↔ i < 16 ∧ P i := by
  unfold st
  rw [bt_mk (by omega), dp_t]
theorem m16_st (P : Nat → Prop) : m16 (st P) := fun i hi => by
  cases hb : bt (st P) i with
  | false => rfl
  | true => have := (bt_st.mp hb).1; omega
theorem st_eq {P : Nat → Prop} {x : Int32} (hx : m16 x) (h : ∀ i, i < 16 → (bt x i = true ↔ P i)) : x = st P :=
  m16_ext hx (m16_st P) (fun i hi => bt_iff (by rw [bt_st, h i hi]; exact ⟨fun q => ⟨hi, q⟩, fun q => q.2⟩))
def Ld (h : Nat → Int32) (g x : Nat) : Prop := g ≠ x ∧ ∃ u v, Eg h u v ∧ NM h u = g ∧ NM h v = x
theorem Ld_names {h : Nat → Int32} (hg : gd h) {g x : Nat} (e : Ld h g x) : g < 16 ∧ x < 16 ∧ NM h g = g ∧ NM h x = x := by
  obtain ⟨_, u, v, ⟨hu, hb⟩, h1, h2⟩ := e
  have hv := m16_lt (hg u hu) hb
  have a := NM_NM hg hu
  have b := NM_NM hg hv
  have a1 := (NM_spec hg hu).1
  have b1 := (NM_spec hg hv).1
  rw [h1] at a a1
  rw [h2] at b b1
  exact ⟨a1, b1, a, b⟩
theorem Ld_rc {h : Nat → Int32} (hg : gd h) {g x : Nat} (e : Ld h g x) : Rc (Eg h) g x ∧ ¬ Rc (Eg h) x g := by
  have hn := Ld_names hg e
  obtain ⟨hne, u, v, he, h1, h2⟩ := e
  have hv := m16_lt (hg u he.1) he.2
  have a := NM_spec hg he.1
  have b := NM_spec hg hv
  rw [h1] at a
  rw [h2] at b
  have h3 : Rc (Eg h) g x := Rc_tr a.2.2.1 (Rc_head he b.2.1)
  refine ⟨h3, fun h4 => hne ?_⟩
  have := NM_eq hg hn.1 hn.2.1 h3 h4
  rw [hn.2.2.1, hn.2.2.2] at this
  exact this
noncomputable def LT (h : Nat → Int32) (g : Nat) : Int32 := st (fun x => Ld h g x)
noncomputable def BF (h : Nat → Int32) (g : Nat) : Int32 := st (fun x => Ld h x g)
def fr (h : Nat → Int32) (p : Int32) (g : Nat) : Prop := NM h g = g ∧ bt p g = false ∧ ∀ x, Ld h x g → bt p x = true
noncomputable def nx (h : Nat → Int32) (p : Int32) : Nat := first (fun g => dp (fr h p g)) 0 16
noncomputable def pl (h : Nat → Int32) : Nat → Int32
  | 0 => 0
  | k + 1 => pl h k ||| bit (nx h (pl h k))
theorem max_ex {P : Nat → Prop} {f : Nat → Nat} : ∀ N, (∃ g, g < N ∧ P g) → ∃ g, g < N ∧ P g ∧ ∀ g', g' < N → P g' → f g' ≤ f g := by
  intro N
  induction N with
  | zero => rintro ⟨g, hg, _⟩; omega
  | succ N ih =>
    rintro ⟨g, hg, hp⟩
    by_cases he : ∃ g, g < N ∧ P g
    · obtain ⟨a, h1, h2, h3⟩ := ih he
      by_cases hN : P N ∧ f a < f N
      · refine ⟨N, by omega, hN.1, fun g' h4 h5 => ?_⟩
        rcases Nat.lt_or_ge g' N with h6 | h6
        · have := h3 g' h6 h5; omega
        · have : g' = N := by omega
          subst this; exact Nat.le_refl _
      · refine ⟨a, by omega, h2, fun g' h4 h5 => ?_⟩
        rcases Nat.lt_or_ge g' N with h6 | h6
        · exact h3 g' h6 h5
        · have : g' = N := by omega
          subst this
          apply Nat.le_of_not_lt
          intro h7
          exact hN ⟨h5, h7⟩
    · refine ⟨g, hg, hp, fun g' h4 h5 => ?_⟩
      have e1 : g = N := by
        apply Classical.byContradiction
        intro hn; exact he ⟨g, by omega, hp⟩
      have e2 : g' = N := by
        apply Classical.byContradiction
        intro hn; exact he ⟨g', by omega, h5⟩
      rw [e1, e2]; exact Nat.le_refl _
theorem fr_ex {h : Nat → Int32} (hg : gd h) {p : Int32} (he : ∃ g, g < 16 ∧ NM h g = g ∧ bt p g = false) : ∃ g, g < 16 ∧ fr h p g := by
  obtain ⟨g, h1, ⟨h2, h3⟩, h4⟩ := max_ex (P := fun g => NM h g = g ∧ bt p g = false) (f := fun g => cn (RE h g) 16) 16 he
  refine ⟨g, h1, h2, h3, fun x hx => ?_⟩
  have hn := Ld_names hg hx
  have hr := Ld_rc hg hx
  cases hb : bt p x with
  | true => rfl
  | false =>
    have h5 := h4 x hn.1 ⟨hn.2.2.1, hb⟩
    have h6 : cn (RE h g) 16 < cn (RE h x) 16 := by
      refine cn_lt (j := x) (fun i hi => (RE_iff hg hn.1).mpr (Rc_tr hr.1 ((RE_iff hg h1).mp hi))) hn.1 ?_ ((RE_iff hg hn.1).mpr (Rc_rf _))
      cases hc : bt (RE h g) x with
      | false => rfl
      | true => exact absurd ((RE_iff hg h1).mp hc) hr.2
    omega
theorem nx_spec {h : Nat → Int32} (hg : gd h) {p : Int32} (he : ∃ g, g < 16 ∧ NM h g = g ∧ bt p g = false) : nx h p < 16 ∧ fr h p (nx h p) ∧ ∀ k, k < nx h p → ¬ fr h p k := by
  obtain ⟨g, h1, h2⟩ := fr_ex hg he
  have hs := first_spec (p := fun g => dp (fr h p g)) (d := 0) (N := 16) ⟨g, h1, dp_t.mpr h2⟩
  exact ⟨hs.1, dp_t.mp hs.2.1, fun k hk => dp_f.mp (hs.2.2 k hk)⟩
noncomputable def nms (h : Nat → Int32) : Int32 := st (fun g => NM h g = g)
noncomputable def ct (h : Nat → Int32) : Nat := cn (nms h) 16
theorem cn_or_bit {x : Int32} {g : Nat} (hb : bt x g = false) : ∀ k, g < k → k ≤ 32 → cn (x ||| bit g) k = cn x k + 1 := by
  intro k
  induction k with
  | zero => intro h; omega
  | succ k ih =>
    intro h1 h2
    show cn (x ||| bit g) k + (if bt (x ||| bit g) k = true then 1 else 0) = cn x k + (if bt x k = true then 1 else 0) + 1
    have hk : bt (x ||| bit g) k = (bt x k || decide (k = g)) := by rw [b_or, bt_bit (by omega) (by omega)]
    rcases Nat.lt_or_ge g k with h3 | h3
    · rw [ih h3 (by omega), hk, decide_eq_false (by omega), Bool.or_false]; omega
    · have e : g = k := by omega
      subst e
      have h4 : ∀ j, j ≤ g → cn (x ||| bit g) j = cn x j := by
        intro j
        induction j with
        | zero => intro _; rfl
        | succ j ihj =>
          intro hj
          show cn (x ||| bit g) j + (if bt (x ||| bit g) j = true then 1 else 0) = cn x j + (if bt x j = true then 1 else 0)
          rw [ihj (by omega), b_or, bt_bit (by omega) (by omega), decide_eq_false (by omega), Bool.or_false]
      rw [h4 g (Nat.le_refl _), hk, hb, decide_eq_true rfl]; rfl
theorem cn_congr {x y : Int32} : ∀ k, (∀ i, i < k → bt x i = bt y i) → cn x k = cn y k := by
  intro k
  induction k with
  | zero => intro _; rfl
  | succ k ih =>
    intro h
    show cn x k + (if bt x k = true then 1 else 0) = cn y k + (if bt y k = true then 1 else 0)
    rw [ih (fun i hi => h i (by omega)), h k (by omega)]
theorem pl_sub {h : Nat → Int32} (hg : gd h) : ∀ k, k ≤ ct h → m16 (pl h k) ∧ (∀ i, bt (pl h k) i = true → NM h i = i) ∧ cn (pl h k) 16 = k := by
  intro k
  induction k with
  | zero =>
    intro _
    refine ⟨m16_0, ?_, ?_⟩
    · intro i hi
      rw [show pl h 0 = 0 from rfl, b_0] at hi
      cases hi
    · rw [show pl h 0 = 0 from rfl]
      decide +kernel
  | succ k ih =>
    intro hk
    obtain ⟨h1, h2, h3⟩ := ih (by omega)
    have hex : ∃ g, g < 16 ∧ NM h g = g ∧ bt (pl h k) g = false := by
      apply Classical.byContradiction
      intro hn
      have : cn (nms h) 16 ≤ cn (pl h k) 16 := by
        apply cn_mono
        intro i hi
        obtain ⟨h4, h5⟩ := bt_st.mp hi
        cases hb : bt (pl h k) i with
        | true => rfl
        | false => exact absurd ⟨i, h4, h5, hb⟩ hn
      have : ct h ≤ k := by rw [← h3]; exact this
      omega
    obtain ⟨n1, n2, _⟩ := nx_spec hg hex
    refine ⟨m16_or h1 (m16_bit n1), ?_, ?_⟩
    · intro i hi
      rw [show pl h (k + 1) = pl h k ||| bit (nx h (pl h k)) from rfl, b_or, Bool.or_eq_true] at hi
      rcases hi with hi | hi
      · exact h2 i hi
      · rw [bt_bit (by omega) (bt_lt hi), decide_eq_true_eq] at hi
        subst hi; exact n2.1
    · rw [show pl h (k + 1) = pl h k ||| bit (nx h (pl h k)) from rfl, cn_or_bit n2.2.1 16 n1 (by omega), h3]
end
section
theorem Wk_head {R : Nat → Nat → Prop} : ∀ (n u v : Nat), Wk R (n + 1) u v → ∃ w, R u w ∧ Wk R n w v := by
  intro n
  induction n with
  | zero =>
    intro u v h
    obtain ⟨w, h1, h2⟩ := h
    have h1 : u = w := h1
    subst h1
    exact ⟨v, h2, rfl⟩
  | succ n ih =>
    intro u v h
    obtain ⟨w, h1, h2⟩ := h
    obtain ⟨x, h3, h4⟩ := ih u w h1
    exact ⟨x, h3, w, h4, h2⟩
theorem Wk_cons {R : Nat → Nat → Prop} {n u w v : Nat} (e : R u w) (h : Wk R n w v) : Wk R (n + 1) u v := by
  have := Wk_add (n := 1) (k := n) (a := u) (b := w) (c := v) (show Wk R 1 u w from ⟨u, rfl, e⟩) h
  rw [Nat.add_comm 1 n] at this
  exact this
def Av (h : Nat → Int32) (d r v : Nat) : Prop := r ≠ d ∧ Rc (Ed h (bit d)) r v
theorem Ed_bit {h : Nat → Int32} {d u v : Nat} (hd : d < 16) : Ed h (bit d) u v ↔ Eg h u v ∧ v ≠ d := by
  unfold Ed Eg
  constructor
  · rintro ⟨h1, h2, h3⟩
    rw [bt_bit (by omega) (bt_lt h2), decide_eq_false_iff_not] at h3
    exact ⟨⟨h1, h2⟩, h3⟩
  · rintro ⟨⟨h1, h2⟩, h3⟩
    refine ⟨h1, h2, ?_⟩
    rw [bt_bit (by omega) (bt_lt h2), decide_eq_false_iff_not]
    exact h3
theorem SP_bit {h : Nat → Int32} (hg : gd h) {r d v : Nat} (hr : r < 16) (hd : d < 16) : bt (SP h (bit r) (bit d)) v = true ↔ Av h d r v := by
  rw [SP_iff hg (m16_bit hr)]
  unfold Av
  constructor
  · rintro ⟨u, h1, h2, h3⟩
    rw [bt_bit (by omega) (bt_lt h1), decide_eq_true_eq] at h1
    subst h1
    rw [bt_bit (by omega) (by omega), decide_eq_false_iff_not] at h2
    exact ⟨h2, h3⟩
  · rintro ⟨h1, h2⟩
    refine ⟨r, ?_, ?_, h2⟩
    · rw [bt_bit (by omega) (by omega), decide_eq_true rfl]
    · rw [bt_bit (by omega) (by omega), decide_eq_false_iff_not]; exact h1
def Ps (h : Nat → Int32) (r v d : Nat) : Prop := d < 16 ∧ d ≠ v ∧ ¬ Av h d r v
def Cd (h : Nat → Int32) (r v d : Nat) : Prop := Ps h r v d ∧ ∀ e, Ps h r v e → e ≠ d → ¬ Av h e r d
theorem Av_mono {h : Nat → Int32} {d r v : Nat} (hd : d < 16) (ha : Av h d r v) : Rc (Eg h) r v := Rc_mono (fun a b e => ((Ed_bit hd).mp e).1) ha.2
theorem Ps_reach {h : Nat → Int32} {r v d : Nat} (hrv : Rc (Eg h) r v) (hp : Ps h r v d) : Rc (Eg h) r d ∧ Rc (Eg h) d v := by
  obtain ⟨h1, h2, h3⟩ := hp
  by_cases hrd : r = d
  · subst hrd; exact ⟨Rc_rf _, hrv⟩
  · constructor
    · apply Classical.byContradiction
      intro hn
      apply h3
      refine ⟨hrd, ?_⟩
      have : Rc (Eg h) r v ∧ Rc (Ed h (bit d)) r v := by
        refine Rc_ind (P := fun x => Rc (Eg h) r x ∧ Rc (Ed h (bit d)) r x) ⟨Rc_rf _, Rc_rf _⟩ ?_ hrv
        intro w x hw e
        have h4 := Rc_st hw.1 e
        exact ⟨h4, Rc_st hw.2 ((Ed_bit h1).mpr ⟨e, fun q => hn (by rw [← q]; exact h4)⟩)⟩
      exact this.2
    · apply Classical.byContradiction
      intro hn
      apply h3
      refine ⟨hrd, ?_⟩
      have : Rc (Eg h) r v ∧ Rc (Ed h (bit d)) r v := by
        refine Rc_back (P := fun x => Rc (Eg h) x v ∧ Rc (Ed h (bit d)) x v) ⟨Rc_rf _, Rc_rf _⟩ ?_ hrv
        intro w x hx e
        exact ⟨Rc_head e hx.1, Rc_head ((Ed_bit h1).mpr ⟨e, fun q => hn (by rw [← q]; exact hx.1)⟩) hx.2⟩
      exact this.2
theorem Cd_one {h : Nat → Int32} {r v d1 d2 : Nat} (hrv : Rc (Eg h) r v) (h1 : Cd h r v d1) (h2 : Cd h r v d2) : d1 = d2 := by
  apply Classical.byContradiction
  intro hne
  have a1 : ¬ Av h d2 r d1 := h1.2 d2 h2.1 (fun q => hne q.symm)
  have a2 : ¬ Av h d1 r d2 := h2.2 d1 h1.1 hne
  by_cases r1 : r = d1
  · exact a1 ⟨fun q => hne (r1.symm.trans q), by rw [r1]; exact Rc_rf _⟩
  · by_cases r2 : r = d2
    · exact a2 ⟨r1, by rw [r2]; exact Rc_rf _⟩
    · have key : Rc (Ed h (bit d1)) r d1 ∧ Rc (Ed h (bit d2)) r d1 := by
        refine Rc_ind (P := fun x => Rc (Ed h (bit d1)) r x ∧ Rc (Ed h (bit d2)) r x) ⟨Rc_rf _, Rc_rf _⟩ ?_ (Ps_reach hrv h1.1).1
        intro w x hw e
        have hx1 : x ≠ d1 := fun q => a1 ⟨r2, Rc_st hw.2 ((Ed_bit h2.1.1).mpr ⟨by rw [← q]; exact e, hne⟩)⟩
        have hx2 : x ≠ d2 := fun q => a2 ⟨r1, Rc_st hw.1 ((Ed_bit h1.1.1).mpr ⟨by rw [← q]; exact e, fun z => hne z.symm⟩)⟩
        exact ⟨Rc_st hw.1 ((Ed_bit h1.1.1).mpr ⟨e, hx1⟩), Rc_st hw.2 ((Ed_bit h2.1.1).mpr ⟨e, hx2⟩)⟩
      exact a1 ⟨r2, key.2⟩
theorem Wk_avoid {h : Nat → Int32} {e v : Nat} (he : e < 16) : ∀ (n d : Nat), Wk (Eg h) n d v → (∀ k, k < n → ¬ Wk (Eg h) k e v) → Rc (Ed h (bit e)) d v := by
  intro n
  induction n with
  | zero => intro d hw _; have hw : d = v := hw; subst hw; exact Rc_rf _
  | succ n ih =>
    intro d hw hm
    obtain ⟨w, h1, h2⟩ := Wk_head n d v hw
    have h3 : w ≠ e := fun q => hm n (by omega) (by rw [← q]; exact h2)
    exact Rc_head ((Ed_bit he).mpr ⟨h1, h3⟩) (ih w h2 (fun k hk => hm k (by omega)))
theorem Cd_ex {h : Nat → Int32} {r v : Nat} (hr : r < 16) (hrv : Rc (Eg h) r v) (hne : r ≠ v) : ∃ d, Cd h r v d := by
  have hpr : Ps h r v r := ⟨hr, hne, fun q => q.1 rfl⟩
  obtain ⟨n0, hn0⟩ := hrv
  obtain ⟨n, ⟨d, hd, hw⟩, hm⟩ := pk_least (fun n => ∃ d, Ps h r v d ∧ Wk (Eg h) n d v) ⟨n0, r, hpr, hn0⟩
  refine ⟨d, hd, fun e he hed ha => ?_⟩
  apply he.2.2
  refine ⟨ha.1, Rc_tr ha.2 (Wk_avoid he.1 n d hw ?_)⟩
  intro k hk hke
  exact hm k hk ⟨e, he, hke⟩
end
section
theorem and_ne {x e : Int32} : x &&& e ≠ 0 ↔ ∃ i, bt x i = true ∧ bt e i = true := by
  constructor
  · intro h
    apply Classical.byContradiction
    intro hn
    apply h
    apply b_ext
    intro i _
    rw [b_and, b_0]
    cases h1 : bt x i with
    | false => rfl
    | true =>
      cases h2 : bt e i with
      | false => rfl
      | true => exact absurd ⟨i, h1, h2⟩ hn
  · rintro ⟨i, h1, h2⟩ h
    have := b_and x e i
    rw [h, b_0, h1, h2] at this
    cases this
def tl (h : Nat → Int32) (e : Int32) : Nat → Int32
  | 0 => 0
  | k + 1 => if h k &&& e = 0 then tl h e k else tl h e k ||| bit k
theorem bt_tl {h : Nat → Int32} {e : Int32} {u : Nat} : ∀ k, k ≤ 32 → (bt (tl h e k) u = true ↔ u < k ∧ h u &&& e ≠ 0) := by
  intro k
  induction k with
  | zero =>
    intro _
    constructor
    · intro h1; rw [show tl h e 0 = 0 from rfl, b_0] at h1; cases h1
    · intro h1; omega
  | succ k ih =>
    intro hk
    have ih := ih (by omega)
    show bt (if h k &&& e = 0 then tl h e k else tl h e k ||| bit k) u = true ↔ _
    by_cases hc : h k &&& e = 0
    · rw [if_pos hc, ih]
      constructor
      · rintro ⟨h1, h2⟩; exact ⟨by omega, h2⟩
      · rintro ⟨h1, h2⟩
        by_cases hu : u = k
        · subst hu; exact absurd hc h2
        · exact ⟨by omega, h2⟩
    · rw [if_neg hc, b_or, Bool.or_eq_true, ih]
      constructor
      · rintro (h1 | h1)
        · exact ⟨by omega, h1.2⟩
        · rw [bt_bit (by omega) (bt_lt h1), decide_eq_true_eq] at h1
          subst h1; exact ⟨by omega, hc⟩
      · rintro ⟨h1, h2⟩
        by_cases hu : u = k
        · subst hu; right; rw [bt_bit (by omega) (by omega), decide_eq_true rfl]
        · exact Or.inl ⟨by omega, h2⟩
def ly (h : Nat → Int32) (v : Nat) : Nat → Int32
  | 0 => bit v
  | n + 1 => tl h (ly h v n) 16
theorem ly_iff {h : Nat → Int32} {v : Nat} (hv : v < 16) : ∀ n u, (bt (ly h v n) u = true ↔ Wk (Eg h) n u v) := by
  intro n
  induction n with
  | zero =>
    intro u
    show bt (bit v) u = true ↔ u = v
    constructor
    · intro h1; rw [bt_bit (by omega) (bt_lt h1), decide_eq_true_eq] at h1; exact h1
    · intro h1; subst h1; rw [bt_bit (by omega) (by omega), decide_eq_true rfl]
  | succ n ih =>
    intro u
    show bt (tl h (ly h v n) 16) u = true ↔ _
    rw [bt_tl 16 (by omega), and_ne]
    constructor
    · rintro ⟨h1, i, h2, h3⟩
      exact Wk_cons ⟨h1, h2⟩ ((ih i).mp h3)
    · intro hw
      obtain ⟨w, h1, h2⟩ := Wk_head n u v hw
      exact ⟨h1.1, w, h1.2, (ih w).mpr h2⟩
theorem ly_m16 {h : Nat → Int32} {v : Nat} (hv : v < 16) (n : Nat) : m16 (ly h v n) := by
  intro i hi
  cases hb : bt (ly h v n) i with
  | false => rfl
  | true =>
    cases n with
    | zero =>
      have hb : bt (bit v) i = true := hb
      rw [m16_bit hv i hi] at hb; cases hb
    | succ n =>
      have := ((bt_tl 16 (by omega)).mp hb).1
      omega
def ds (h : Nat → Int32) (u v : Nat) : Nat := first (fun n => bt (ly h v n) u) 16 16
def DS (h : Nat → Int32) (u v : Nat) : Int32 := if ds h u v < 16 then nI (ds h u v) else -1
theorem ds_lt {h : Nat → Int32} {u v n : Nat} (hn : n < 16) (hb : bt (ly h v n) u = true) : ds h u v < 16 ∧ ds h u v ≤ n ∧ bt (ly h v (ds h u v)) u = true := by
  have hs := first_spec (p := fun n => bt (ly h v n) u) (d := 16) (N := 16) ⟨n, hn, hb⟩
  refine ⟨hs.1, ?_, hs.2.1⟩
  apply Nat.le_of_not_lt
  intro hlt
  have := hs.2.2 n hlt
  rw [show bt (ly h v n) u = true from hb] at this
  cases this
theorem ds_ge {h : Nat → Int32} {u v : Nat} (hd : ¬ ds h u v < 16) : ∀ n, n < 16 → bt (ly h v n) u = false := by
  intro n hn
  cases hb : bt (ly h v n) u with
  | false => rfl
  | true => exact absurd (ds_lt hn hb).1 hd
theorem ds_step {h : Nat → Int32} {u w v : Nat} (hv : v < 16) (hd : ds h u v < 16) (e : Eg h u w) {k : Nat} (hk : ds h u v = k + 1) : (bt (ly h v k) w = true ↔ ds h w v = k) := by
  constructor
  · intro hb
    obtain ⟨h1, h2, h3⟩ := ds_lt (by omega) hb
    apply Nat.le_antisymm h2
    apply Nat.le_of_not_lt
    intro hlt
    have h4 : bt (ly h v (ds h w v + 1)) u = true := (ly_iff hv _ u).mpr (Wk_cons e ((ly_iff hv _ w).mp h3))
    have := (ds_lt (by omega) h4).2.1
    omega
  · intro he
    have hs := first_spec (p := fun n => bt (ly h v n) w) (d := 16) (N := 16) (by
      apply Classical.byContradiction
      intro hn
      have : ds h w v = 16 := first_none (fun n h1 => by
        cases hb : bt (ly h v n) w with
        | false => rfl
        | true => exact absurd ⟨n, h1, hb⟩ hn)
      omega)
    have h2 : bt (ly h v (ds h w v)) w = true := hs.2.1
    rw [he] at h2
    exact h2
end
section
def sm (f : Nat → Int) : Nat → Int
  | 0 => 0
  | k + 1 => sm f k + f k
theorem sm_congr {f g : Nat → Int} : ∀ k, (∀ i, i < k → f i = g i) → sm f k = sm g k := by
  intro k
  induction k with
  | zero => intro _; rfl
  | succ k ih =>
    intro h
    show sm f k + f k = sm g k + g k
    rw [ih (fun i hi => h i (by omega)), h k (by omega)]
theorem sm_add (f g : Nat → Int) (k : Nat) : sm (fun i => f i + g i) k = sm f k + sm g k := by
  induction k with
  | zero => rfl
  | succ k ih =>
    show sm (fun i => f i + g i) k + (f k + g k) = sm f k + f k + (sm g k + g k)
    rw [ih]; omega
theorem sm_neg (f : Nat → Int) (k : Nat) : sm (fun i => - f i) k = - sm f k := by
  induction k with
  | zero => rfl
  | succ k ih =>
    show sm (fun i => - f i) k + - f k = - (sm f k + f k)
    rw [ih]; omega
theorem sm_le {f g : Nat → Int} : ∀ k, (∀ i, i < k → f i ≤ g i) → sm f k ≤ sm g k := by
  intro k
  induction k with
  | zero => intro _; exact Int.le_refl _
  | succ k ih =>
    intro h
    show sm f k + f k ≤ sm g k + g k
    have h1 := ih (fun i hi => h i (by omega))
    have h2 := h k (by omega)
    omega
theorem sm_0 {f : Nat → Int} : ∀ k, (∀ i, i < k → f i = 0) → sm f k = 0 := by
  intro k
  induction k with
  | zero => intro _; rfl
  | succ k ih =>
    intro h
    show sm f k + f k = 0
    rw [ih (fun i hi => h i (by omega)), h k (by omega)]; rfl
theorem sm_one {f : Nat → Int} {j : Nat} : ∀ k, j < k → (∀ i, i < k → i ≠ j → f i = 0) → sm f k = f j := by
  intro k
  induction k with
  | zero => intro h; omega
  | succ k ih =>
    intro h1 h
    show sm f k + f k = f j
    rcases Nat.lt_or_ge j k with h2 | h2
    · rw [ih h2 (fun i hi hn => h i (by omega) hn), h k (by omega) (by omega)]; omega
    · have e : j = k := by omega
      subst e
      rw [sm_0 j (fun i hi => h i (by omega) (by omega))]; omega
theorem sm_swap (f : Nat → Nat → Int) (n k : Nat) : sm (fun i => sm (fun j => f i j) k) n = sm (fun j => sm (fun i => f i j) n) k := by
  induction n with
  | zero =>
    show (0 : Int) = sm (fun j => 0) k
    rw [sm_0 k (fun _ _ => rfl)]
  | succ n ih =>
    show sm (fun i => sm (fun j => f i j) k) n + sm (fun j => f n j) k = sm (fun j => sm (fun i => f i j) n + f n j) k
    rw [ih, sm_add]
def i01 (b : Bool) : Int := if b = true then 1 else 0
theorem i01_t : i01 true = 1 := rfl
theorem i01_f : i01 false = 0 := rfl
theorem i01_ge (b : Bool) : 0 ≤ i01 b := by cases b <;> decide
theorem i01_le (b : Bool) : i01 b ≤ 1 := by cases b <;> decide
def FF (u : Nat → Int32) (a b : Nat) : Int := i01 (bt (u a) b) - i01 (bt (u b) a)
def nf (u : Nat → Int32) (a : Nat) : Int := sm (fun b => FF u a b) 32
def sc (S : Nat → Bool) (a : Nat) (x : Int) : Int := if S a = true then x else 0
def nS (S : Nat → Bool) : Nat → Bool := fun a => !(S a)
theorem FF_anti (u : Nat → Int32) (a b : Nat) : FF u a b = - FF u b a := by unfold FF; omega
theorem sc_split (S : Nat → Bool) (a : Nat) (x : Int) : x = sc S a x + sc (nS S) a x := by
  unfold sc nS
  cases S a <;> simp
theorem sm_sc {S : Nat → Bool} {a : Nat} (f : Nat → Int) (k : Nat) : sm (fun b => sc S a (f b)) k = sc S a (sm f k) := by
  unfold sc
  cases S a with
  | true => simp
  | false => simp only [Bool.false_eq_true, if_false]; exact sm_0 k (fun _ _ => rfl)
theorem cut_in {u : Nat → Int32} {S : Nat → Bool} : sm (fun a => sm (fun b => sc S a (sc S b (FF u a b))) 32) 32 = 0 := by
  have h1 := sm_swap (fun a b => sc S a (sc S b (FF u a b))) 32 32
  have h2 : sm (fun b => sm (fun a => sc S a (sc S b (FF u a b))) 32) 32 = - sm (fun a => sm (fun b => sc S a (sc S b (FF u a b))) 32) 32 := by
    rw [← sm_neg]
    apply sm_congr
    intro b _
    rw [← sm_neg]
    apply sm_congr
    intro a _
    rw [FF_anti u a b]
    unfold sc
    cases S a <;> cases S b <;> simp
  rw [h2] at h1
  omega
theorem cut_val {u : Nat → Int32} {S : Nat → Bool} {s : Nat} (hs : s < 32) (hS : S s = true) (hc : ∀ a, a < 32 → S a = true → a ≠ s → nf u a = 0) :
    nf u s = sm (fun a => sm (fun b => sc S a (sc (nS S) b (FF u a b))) 32) 32 := by
  have h1 : sm (fun a => sc S a (nf u a)) 32 = nf u s := by
    rw [sm_one (j := s) 32 hs]
    · unfold sc; rw [if_pos hS]
    · intro i hi hn
      unfold sc
      by_cases h : S i = true
      · rw [if_pos h, hc i hi h hn]
      · rw [if_neg h]
  have h2 : sm (fun a => sc S a (nf u a)) 32 = sm (fun a => sm (fun b => sc S a (sc S b (FF u a b))) 32) 32 + sm (fun a => sm (fun b => sc S a (sc (nS S) b (FF u a b))) 32) 32 := by
    rw [← sm_add]
    apply sm_congr
    intro a _
    rw [← sm_add]
    unfold nf
    rw [← sm_sc]
    apply sm_congr
    intro b _
    have := sc_split S b (FF u a b)
    unfold sc at this ⊢
    cases h : S a with
    | true => simpa using this
    | false => simp
  rw [← h1, h2, cut_in]; omega
def cap (L : Nat → Int32) (S : Nat → Bool) : Int := sm (fun a => sm (fun b => sc S a (sc (nS S) b (i01 (bt (L a) b)))) 32) 32
def wthn (u L : Nat → Int32) : Prop := ∀ a b, a < 32 → b < 32 → bt (u a) b = true → bt (L a) b = true
theorem flow_le {u L : Nat → Int32} {S : Nat → Bool} {s : Nat} (hw : wthn u L) (hs : s < 32) (hS : S s = true) (hc : ∀ a, a < 32 → S a = true → a ≠ s → nf u a = 0) : nf u s ≤ cap L S := by
  rw [cut_val hs hS hc]
  unfold cap
  apply sm_le
  intro a ha
  apply sm_le
  intro b hb
  unfold sc
  split
  · split
    · unfold FF
      have h1 := i01_ge (bt (u b) a)
      cases h2 : bt (u a) b with
      | false => have := i01_ge (bt (L a) b); rw [i01_f]; omega
      | true => rw [hw a b ha hb h2, i01_t]; omega
    · exact Int.le_refl _
  · exact Int.le_refl _
def rs (L u : Nat → Int32) (a b : Nat) : Prop := (bt (L a) b = true ∧ bt (u a) b = false) ∨ bt (u b) a = true
theorem flow_eq {u L : Nat → Int32} {S : Nat → Bool} {s : Nat} (hw : wthn u L) (hs : s < 32) (hS : S s = true) (hc : ∀ a, a < 32 → S a = true → a ≠ s → nf u a = 0)
    (hcl : ∀ a b, a < 32 → b < 32 → S a = true → rs L u a b → S b = true) : nf u s = cap L S := by
  rw [cut_val hs hS hc]
  unfold cap
  apply sm_congr
  intro a ha
  apply sm_congr
  intro b hb
  unfold sc
  by_cases h1 : S a = true
  · rw [if_pos h1, if_pos h1]
    by_cases h2 : nS S b = true
    · rw [if_pos h2, if_pos h2]
      have h3 : ¬ rs L u a b := fun h4 => by
        have := hcl a b ha hb h1 h4
        unfold nS at h2
        rw [this] at h2; cases h2
      unfold FF
      have h4 : bt (u b) a = false := by
        cases h5 : bt (u b) a with
        | false => rfl
        | true => exact absurd (Or.inr h5) h3
      rw [h4, i01_f]
      cases h6 : bt (u a) b with
      | true => rw [hw a b ha hb h6]; omega
      | false =>
        cases h7 : bt (L a) b with
        | false => omega
        | true => exact absurd (Or.inl ⟨h7, h6⟩) h3
    · rw [if_neg h2, if_neg h2]
  · rw [if_neg h1, if_neg h1]
def psh (u : Nat → Int32) (a b : Nat) : Nat → Int32 := if bt (u b) a = true then upd u b (u b &&& (bit a ^^^ (-1))) else upd u a (u a ||| bit b)
theorem psh_bt {u : Nat → Int32} {a b : Nat} (ha : a < 32) (hb : b < 32) {x y : Nat} (hy : y < 32) :
    bt (psh u a b x) y = if bt (u b) a = true then (bt (u x) y && !(decide (x = b ∧ y = a))) else (bt (u x) y || decide (x = a ∧ y = b)) := by
  unfold psh
  split
  · by_cases hx : x = b
    · subst hx
      rw [pk_us, b_and, bt_not _ hy, bt_bit ha hy]
      simp
    · rw [pk_un hx]
      simp [hx]
  · by_cases hx : x = a
    · subst hx
      rw [pk_us, b_or, bt_bit hb hy]
      simp
    · rw [pk_un hx]
      simp [hx]
theorem psh_FF {L u : Nat → Int32} {a b : Nat} (ha : a < 32) (hb : b < 32) (hab : a ≠ b) (hr : rs L u a b) {x y : Nat} (hx : x < 32) (hy : y < 32) :
    FF (psh u a b) x y = FF u x y + ((if x = a ∧ y = b then 1 else 0) - (if x = b ∧ y = a then 1 else 0)) := by
  unfold FF
  rw [psh_bt ha hb hy, psh_bt ha hb hx]
  by_cases h : bt (u b) a = true
  · rw [if_pos h, if_pos h]
    by_cases h1 : x = b ∧ y = a
    · obtain ⟨rfl, rfl⟩ := h1
      have h2 : ¬ (y = x ∧ x = y) := fun q => hab q.1
      have h3 : ¬ (x = y ∧ y = x) := fun q => hab q.2
      rw [h]
      simp only [h2, h3, decide_false, decide_true, and_self, Bool.not_true, Bool.not_false, Bool.and_true, Bool.and_false, if_true, if_false, i01_f, i01_t]
      omega
    · by_cases h2 : x = a ∧ y = b
      · obtain ⟨rfl, rfl⟩ := h2
        have h3 : ¬ (x = y ∧ y = x) := fun q => hab q.1
        rw [h]
        simp only [h3, decide_false, decide_true, and_self, Bool.not_true, Bool.not_false, Bool.and_true, Bool.and_false, if_true, if_false, i01_f, i01_t]
        omega
      · have h3 : ¬ (y = b ∧ x = a) := fun q => h2 ⟨q.2, q.1⟩
        simp only [h1, h2, h3, decide_false, Bool.not_false, Bool.and_true, if_false]
        omega
  · rw [if_neg h, if_neg h]
    have hu : bt (u a) b = false := by
      rcases hr with h1 | h1
      · exact h1.2
      · exact absurd h1 h
    by_cases h1 : x = a ∧ y = b
    · obtain ⟨rfl, rfl⟩ := h1
      have h2 : ¬ (y = x ∧ x = y) := fun q => hab q.2
      have h3 : ¬ (x = y ∧ y = x) := fun q => hab q.1
      rw [hu]
      simp only [h2, h3, decide_false, decide_true, and_self, Bool.or_true, Bool.or_false, if_true, if_false, i01_f, i01_t]
      omega
    · by_cases h2 : x = b ∧ y = a
      · obtain ⟨rfl, rfl⟩ := h2
        have h3 : ¬ (x = y ∧ y = x) := fun q => hab q.2
        rw [hu]
        simp only [h3, decide_false, decide_true, and_self, Bool.or_true, Bool.or_false, if_true, if_false, i01_f, i01_t]
        omega
      · have h3 : ¬ (y = a ∧ x = b) := fun q => h2 ⟨q.2, q.1⟩
        simp only [h1, h2, h3, decide_false, Bool.or_false, if_false]
        omega
theorem psh_nf {L u : Nat → Int32} {a b : Nat} (ha : a < 32) (hb : b < 32) (hab : a ≠ b) (hr : rs L u a b) {x : Nat} (hx : x < 32) :
    nf (psh u a b) x = nf u x + ((if x = a then 1 else 0) - (if x = b then 1 else 0)) := by
  unfold nf
  rw [sm_congr (g := fun y => FF u x y + ((if x = a ∧ y = b then 1 else 0) - (if x = b ∧ y = a then 1 else 0))) 32 (fun y hy => psh_FF ha hb hab hr hx hy), sm_add]
  have e : sm (fun y => ((if x = a ∧ y = b then 1 else 0) - (if x = b ∧ y = a then 1 else 0) : Int)) 32 = (if x = a then 1 else 0) - (if x = b then 1 else 0) := by
    by_cases h1 : x = a
    · have h2 : ¬ x = b := fun q => hab (h1.symm.trans q)
      rw [sm_one (j := b) 32 hb]
      · simp [h1, h2, hab]
      · intro i hi hn
        simp [h2, hn]
    · by_cases h2 : x = b
      · have h3 : ¬ b = a := fun q => hab q.symm
        rw [sm_one (j := a) 32 ha]
        · simp [h1, h2, h3]
        · intro i hi hn
          simp [h1, hn]
      · rw [sm_0 32 (fun i hi => by simp [h1, h2])]
        simp [h1, h2]
  rw [e]
theorem psh_in {L u : Nat → Int32} {a b : Nat} (ha : a < 32) (hb : b < 32) (hw : wthn u L) (hr : rs L u a b) : wthn (psh u a b) L := by
  intro x y hx hy h
  rw [psh_bt ha hb hy] at h
  by_cases h1 : bt (u b) a = true
  · rw [if_pos h1, Bool.and_eq_true] at h
    exact hw x y hx hy h.1
  · rw [if_neg h1, Bool.or_eq_true, decide_eq_true_eq] at h
    rcases h with h | ⟨rfl, rfl⟩
    · exact hw x y hx hy h
    · rcases hr with h2 | h2
      · exact h2.1
      · exact absurd h2 h1
end
section
def R_A : String := "ArcAtlas"
def R_Web : String := "ArcAtlas$Web"
def R_Gr : String := "ArcAtlas$Groups"
def R_Wy : String := "ArcAtlas$Ways"
def R_Fl : String := "ArcAtlas$Flow"
def R_M : String := "ArcAtlasModel"
def R_L : String := "ArcAtlasLaw"
def R_Ar : String := "java/util/Arrays"
def R_In : String := "java/lang/Integer"
def R_Ma : String := "java/lang/Math"
def F_A : u_T := fun k => match k with
  | 0 => ("ArcAtlas", "web", "LArcAtlas$Web;", true)
  | 1 => ("ArcAtlas", "groups", "LArcAtlas$Groups;", true)
  | 2 => ("ArcAtlas", "ways", "LArcAtlas$Ways;", true)
  | _ => ("ArcAtlas", "flow", "LArcAtlas$Flow;", true)
def t_A : Nat → FieldType := fun k => match k with
  | 0 => .object "ArcAtlas$Web"
  | 1 => .object "ArcAtlas$Groups"
  | 2 => .object "ArcAtlas$Ways"
  | _ => .object "ArcAtlas$Flow"
theorem n_A : ∀ a, a < 4 → ∀ b, b < 4 → a ≠ b → (F_A a).2.1 ≠ (F_A b).2.1 := by decide +kernel
theorem t_A_ok : ∀ k, k < 4 → parseFieldDescriptor (F_A k).2.2.1 = some (t_A k) := by decide +kernel
def F_Web : u_T := fun k => match k with
  | 0 => ("ArcAtlas$Web", "heads", "[I", true)
  | _ => ("ArcAtlas$Web", "count", "I", false)
def t_Web : Nat → FieldType := fun k => match k with
  | 0 => .array .int
  | _ => .int
theorem n_Web : ∀ a, a < 2 → ∀ b, b < 2 → a ≠ b → (F_Web a).2.1 ≠ (F_Web b).2.1 := by decide +kernel
theorem t_Web_ok : ∀ k, k < 2 → parseFieldDescriptor (F_Web k).2.2.1 = some (t_Web k) := by decide +kernel
def F_Gr : u_T := fun k => match k with
  | 0 => ("ArcAtlas$Groups", "reached", "[I", true)
  | 1 => ("ArcAtlas$Groups", "names", "[I", true)
  | 2 => ("ArcAtlas$Groups", "ledTo", "[I", true)
  | 3 => ("ArcAtlas$Groups", "before", "[I", true)
  | 4 => ("ArcAtlas$Groups", "order", "[I", true)
  | 5 => ("ArcAtlas$Groups", "chain", "[I", true)
  | _ => ("ArcAtlas$Groups", "count", "I", false)
def t_Gr : Nat → FieldType := fun k => match k with
  | 0 => .array .int
  | 1 => .array .int
  | 2 => .array .int
  | 3 => .array .int
  | 4 => .array .int
  | 5 => .array .int
  | _ => .int
theorem n_Gr : ∀ a, a < 7 → ∀ b, b < 7 → a ≠ b → (F_Gr a).2.1 ≠ (F_Gr b).2.1 := by decide +kernel
theorem t_Gr_ok : ∀ k, k < 7 → parseFieldDescriptor (F_Gr k).2.2.1 = some (t_Gr k) := by decide +kernel
def F_Wy : u_T := fun k => match k with
  | _ => ("ArcAtlas$Ways", "layers", "[I", true)
def t_Wy : Nat → FieldType := fun k => match k with
  | _ => .array .int
theorem n_Wy : ∀ a, a < 1 → ∀ b, b < 1 → a ≠ b → (F_Wy a).2.1 ≠ (F_Wy b).2.1 := by decide +kernel
theorem t_Wy_ok : ∀ k, k < 1 → parseFieldDescriptor (F_Wy k).2.2.1 = some (t_Wy k) := by decide +kernel
def F_Fl : u_T := fun k => match k with
  | 0 => ("ArcAtlas$Flow", "lines", "[I", true)
  | 1 => ("ArcAtlas$Flow", "used", "[I", true)
  | 2 => ("ArcAtlas$Flow", "fed", "[I", true)
  | _ => ("ArcAtlas$Flow", "cameFrom", "[I", true)
def t_Fl : Nat → FieldType := fun k => match k with
  | 0 => .array .int
  | 1 => .array .int
  | 2 => .array .int
  | _ => .array .int
theorem n_Fl : ∀ a, a < 4 → ∀ b, b < 4 → a ≠ b → (F_Fl a).2.1 ≠ (F_Fl b).2.1 := by decide +kernel
theorem t_Fl_ok : ∀ k, k < 4 → parseFieldDescriptor (F_Fl k).2.2.1 = some (t_Fl k) := by decide +kernel
def F_M : u_T := fun k => match k with
  | 0 => ("ArcAtlasModel", "code", "I", false)
  | 1 => ("ArcAtlasModel", "count", "I", false)
  | 2 => ("ArcAtlasModel", "out", "[I", true)
  | 3 => ("ArcAtlasModel", "groups", "I", false)
  | 4 => ("ArcAtlasModel", "order", "[I", true)
  | 5 => ("ArcAtlasModel", "group", "[I", true)
  | 6 => ("ArcAtlasModel", "far", "[I", true)
  | 7 => ("ArcAtlasModel", "arcs", "[I", true)
  | 8 => ("ArcAtlasModel", "used", "[I", true)
  | _ => ("ArcAtlasModel", "from", "[I", true)
def t_M : Nat → FieldType := fun k => match k with
  | 0 => .int
  | 1 => .int
  | 2 => .array .int
  | 3 => .int
  | 4 => .array .int
  | 5 => .array .int
  | 6 => .array .int
  | 7 => .array .int
  | 8 => .array .int
  | _ => .array .int
theorem n_M : ∀ a, a < 10 → ∀ b, b < 10 → a ≠ b → (F_M a).2.1 ≠ (F_M b).2.1 := by decide +kernel
theorem t_M_ok : ∀ k, k < 10 → parseFieldDescriptor (F_M k).2.2.1 = some (t_M k) := by decide +kernel
abbrev cls : List vw_C := [(R_A, F_A, 4), (R_Web, F_Web, 2), (R_Gr, F_Gr, 7), (R_Wy, F_Wy, 1), (R_Fl, F_Fl, 4), (R_M, F_M, 10)]
def y_A_init : MethodName := ⟨R_A, "<init>", "()V"⟩
abbrev c_A_init : ByteArray := prog_1_method_1_code
def y_Web_init : MethodName := ⟨R_Web, "<init>", "()V"⟩
abbrev c_Web_init : ByteArray := prog_5_method_1_code
def y_Gr_init : MethodName := ⟨R_Gr, "<init>", "()V"⟩
abbrev c_Gr_init : ByteArray := prog_3_method_1_code
def y_Wy_init : MethodName := ⟨R_Wy, "<init>", "()V"⟩
abbrev c_Wy_init : ByteArray := prog_4_method_1_code
def y_Fl_init : MethodName := ⟨R_Fl, "<init>", "()V"⟩
abbrev c_Fl_init : ByteArray := prog_2_method_1_code
def y_A_clear : MethodName := ⟨R_A, "clear", "()I"⟩
abbrev c_A_clear : ByteArray := prog_1_method_4_code
def y_Web_count : MethodName := ⟨R_Web, "count", "()I"⟩
abbrev c_Web_count : ByteArray := prog_5_method_2_code
def y_Web_takeAll : MethodName := ⟨R_Web, "takeAll", "()V"⟩
abbrev c_Web_takeAll : ByteArray := prog_5_method_7_code
def y_Ar_fill : MethodName := ⟨R_Ar, "fill", "([II)V"⟩
abbrev c_Ar_fill : ByteArray := prog_17_method_103_code
def y_L_add : MethodName := ⟨R_L, "add", "(LArcAtlas;II[J)I"⟩
abbrev c_L_add : ByteArray := method_3_code
def y_A_add : MethodName := ⟨R_A, "add", "(II)Z"⟩
abbrev c_A_add : ByteArray := prog_1_method_2_code
def y_A_requirePlaces : MethodName := ⟨R_A, "requirePlaces", "(II)V"⟩
abbrev c_A_requirePlaces : ByteArray := prog_1_method_17_code
def y_A_requirePlace : MethodName := ⟨R_A, "requirePlace", "(I)V"⟩
abbrev c_A_requirePlace : ByteArray := prog_1_method_18_code
def y_Web_holds : MethodName := ⟨R_Web, "holds", "(II)Z"⟩
abbrev c_Web_holds : ByteArray := prog_5_method_4_code
def y_A_has : MethodName := ⟨R_A, "has", "(II)Z"⟩
abbrev c_A_has : ByteArray := prog_1_method_20_code
def y_Web_put : MethodName := ⟨R_Web, "put", "(II)V"⟩
abbrev c_Web_put : ByteArray := prog_5_method_5_code
def y_A_only : MethodName := ⟨R_A, "only", "(I)I"⟩
abbrev c_A_only : ByteArray := prog_1_method_19_code
def y_L_remove : MethodName := ⟨R_L, "remove", "(LArcAtlas;II[J)I"⟩
abbrev c_L_remove : ByteArray := method_4_code
def y_A_remove : MethodName := ⟨R_A, "remove", "(II)Z"⟩
abbrev c_A_remove : ByteArray := prog_1_method_3_code
def y_Web_take : MethodName := ⟨R_Web, "take", "(II)V"⟩
abbrev c_Web_take : ByteArray := prog_5_method_6_code
def y_L_group : MethodName := ⟨R_L, "group", "(LArcAtlas;I[J)I"⟩
abbrev c_L_group : ByteArray := method_5_code
def y_A_group : MethodName := ⟨R_A, "group", "(I)I"⟩
abbrev c_A_group : ByteArray := prog_1_method_5_code
def y_Gr_read : MethodName := ⟨R_Gr, "read", "(LArcAtlas$Web;)V"⟩
abbrev c_Gr_read : ByteArray := prog_3_method_2_code
def y_Gr_readReached : MethodName := ⟨R_Gr, "readReached", "(LArcAtlas$Web;)V"⟩
abbrev c_Gr_readReached : ByteArray := prog_3_method_13_code
def y_Web_headsOf : MethodName := ⟨R_Web, "headsOf", "(I)I"⟩
abbrev c_Web_headsOf : ByteArray := prog_5_method_3_code
def y_Gr_readNames : MethodName := ⟨R_Gr, "readNames", "()V"⟩
abbrev c_Gr_readNames : ByteArray := prog_3_method_14_code
def y_Gr_leastWith : MethodName := ⟨R_Gr, "leastWith", "(I)I"⟩
abbrev c_Gr_leastWith : ByteArray := prog_3_method_15_code
def y_Gr_readLeads : MethodName := ⟨R_Gr, "readLeads", "(LArcAtlas$Web;)V"⟩
abbrev c_Gr_readLeads : ByteArray := prog_3_method_16_code
def y_Gr_readOrder : MethodName := ⟨R_Gr, "readOrder", "()V"⟩
abbrev c_Gr_readOrder : ByteArray := prog_3_method_17_code
def y_Gr_leastFree : MethodName := ⟨R_Gr, "leastFree", "(I)I"⟩
abbrev c_Gr_leastFree : ByteArray := prog_3_method_18_code
def y_Gr_nameOf : MethodName := ⟨R_Gr, "nameOf", "(I)I"⟩
abbrev c_Gr_nameOf : ByteArray := prog_3_method_4_code
def y_L_members : MethodName := ⟨R_L, "members", "(LArcAtlas;I[J)I"⟩
abbrev c_L_members : ByteArray := method_6_code
def y_A_members : MethodName := ⟨R_A, "members", "(I)I"⟩
abbrev c_A_members : ByteArray := prog_1_method_6_code
def y_Gr_sizeOf : MethodName := ⟨R_Gr, "sizeOf", "(I)I"⟩
abbrev c_Gr_sizeOf : ByteArray := prog_3_method_6_code
def y_L_rank : MethodName := ⟨R_L, "rank", "(LArcAtlas;I[J)I"⟩
abbrev c_L_rank : ByteArray := method_7_code
def y_A_rank : MethodName := ⟨R_A, "rank", "(I)I"⟩
abbrev c_A_rank : ByteArray := prog_1_method_7_code
def y_Gr_positionOf : MethodName := ⟨R_Gr, "positionOf", "(I)I"⟩
abbrev c_Gr_positionOf : ByteArray := prog_3_method_7_code
def y_L_ranked : MethodName := ⟨R_L, "ranked", "(LArcAtlas;I[J)I"⟩
abbrev c_L_ranked : ByteArray := method_8_code
def y_A_ranked : MethodName := ⟨R_A, "ranked", "(I)I"⟩
abbrev c_A_ranked : ByteArray := prog_1_method_8_code
def y_Gr_count : MethodName := ⟨R_Gr, "count", "()I"⟩
abbrev c_Gr_count : ByteArray := prog_3_method_3_code
def y_Gr_nameAt : MethodName := ⟨R_Gr, "nameAt", "(I)I"⟩
abbrev c_Gr_nameAt : ByteArray := prog_3_method_5_code
def y_L_reaches : MethodName := ⟨R_L, "reaches", "(LArcAtlas;II[J)I"⟩
abbrev c_L_reaches : ByteArray := method_9_code
def y_A_reaches : MethodName := ⟨R_A, "reaches", "(II)Z"⟩
abbrev c_A_reaches : ByteArray := prog_1_method_9_code
def y_Web_spread : MethodName := ⟨R_Web, "spread", "(II)I"⟩
abbrev c_Web_spread : ByteArray := prog_5_method_8_code
def y_Web_headsOfAll : MethodName := ⟨R_Web, "headsOfAll", "(I)I"⟩
abbrev c_Web_headsOfAll : ByteArray := prog_5_method_9_code
def y_L_distance : MethodName := ⟨R_L, "distance", "(LArcAtlas;II[J)I"⟩
abbrev c_L_distance : ByteArray := method_10_code
def y_A_distance : MethodName := ⟨R_A, "distance", "(II)I"⟩
abbrev c_A_distance : ByteArray := prog_1_method_10_code
def y_Wy_readTo : MethodName := ⟨R_Wy, "readTo", "(ILArcAtlas$Web;)V"⟩
abbrev c_Wy_readTo : ByteArray := prog_4_method_2_code
def y_Wy_tailsInto : MethodName := ⟨R_Wy, "tailsInto", "(ILArcAtlas$Web;)I"⟩
abbrev c_Wy_tailsInto : ByteArray := prog_4_method_6_code
def y_Wy_lengthFrom : MethodName := ⟨R_Wy, "lengthFrom", "(I)I"⟩
abbrev c_Wy_lengthFrom : ByteArray := prog_4_method_3_code
def y_L_way : MethodName := ⟨R_L, "way", "(LArcAtlas;III[J)I"⟩
abbrev c_L_way : ByteArray := method_11_code
def y_A_way : MethodName := ⟨R_A, "way", "(III)I"⟩
abbrev c_A_way : ByteArray := prog_1_method_11_code
def y_Wy_placeOnFirst : MethodName := ⟨R_Wy, "placeOnFirst", "(IIILArcAtlas$Web;)I"⟩
abbrev c_Wy_placeOnFirst : ByteArray := prog_4_method_4_code
def y_Wy_least : MethodName := ⟨R_Wy, "least", "(I)I"⟩
abbrev c_Wy_least : ByteArray := prog_4_method_5_code
def y_L_gate : MethodName := ⟨R_L, "gate", "(LArcAtlas;II[J)I"⟩
abbrev c_L_gate : ByteArray := method_12_code
def y_A_gate : MethodName := ⟨R_A, "gate", "(II)I"⟩
abbrev c_A_gate : ByteArray := prog_1_method_12_code
def y_A_lastBefore : MethodName := ⟨R_A, "lastBefore", "(II)I"⟩
abbrev c_A_lastBefore : ByteArray := prog_1_method_21_code
def y_A_needsAll : MethodName := ⟨R_A, "needsAll", "(III)Z"⟩
abbrev c_A_needsAll : ByteArray := prog_1_method_22_code
def y_L_gated : MethodName := ⟨R_L, "gated", "(LArcAtlas;II[J)I"⟩
abbrev c_L_gated : ByteArray := method_13_code
def y_A_gated : MethodName := ⟨R_A, "gated", "(II)I"⟩
abbrev c_A_gated : ByteArray := prog_1_method_13_code
def y_In_bitCount : MethodName := ⟨R_In, "bitCount", "(I)I"⟩
abbrev c_In_bitCount : ByteArray := prog_12_method_49_code
def y_L_places : MethodName := ⟨R_L, "places", "(LArcAtlas;II[J)I"⟩
abbrev c_L_places : ByteArray := method_14_code
def y_A_places : MethodName := ⟨R_A, "places", "(II)I"⟩
abbrev c_A_places : ByteArray := prog_1_method_14_code
def y_Fl_readPlaces : MethodName := ⟨R_Fl, "readPlaces", "(LArcAtlas$Web;)V"⟩
abbrev c_Fl_readPlaces : ByteArray := prog_2_method_3_code
def y_Fl_exitOf : MethodName := ⟨R_Fl, "exitOf", "(I)I"⟩
abbrev c_Fl_exitOf : ByteArray := prog_2_method_4_code
def y_Fl_most : MethodName := ⟨R_Fl, "most", "(II)I"⟩
abbrev c_Fl_most : ByteArray := prog_2_method_5_code
def y_Fl_findMore : MethodName := ⟨R_Fl, "findMore", "(II)Z"⟩
abbrev c_Fl_findMore : ByteArray := prog_2_method_6_code
def y_Fl_markFrom : MethodName := ⟨R_Fl, "markFrom", "(II)V"⟩
abbrev c_Fl_markFrom : ByteArray := prog_2_method_7_code
def y_Fl_pushOne : MethodName := ⟨R_Fl, "pushOne", "(II)V"⟩
abbrev c_Fl_pushOne : ByteArray := prog_2_method_8_code
def y_Fl_pushOver : MethodName := ⟨R_Fl, "pushOver", "(II)V"⟩
abbrev c_Fl_pushOver : ByteArray := prog_2_method_9_code
def y_L_arrows : MethodName := ⟨R_L, "arrows", "(LArcAtlas;II[J)I"⟩
abbrev c_L_arrows : ByteArray := method_15_code
def y_A_arrows : MethodName := ⟨R_A, "arrows", "(II)I"⟩
abbrev c_A_arrows : ByteArray := prog_1_method_15_code
def y_Fl_readArrows : MethodName := ⟨R_Fl, "readArrows", "(LArcAtlas$Web;)V"⟩
abbrev c_Fl_readArrows : ByteArray := prog_2_method_2_code
def y_L_figure : MethodName := ⟨R_L, "figure", "(LArcAtlas;I[J)I"⟩
abbrev c_L_figure : ByteArray := method_16_code
def y_A_figure : MethodName := ⟨R_A, "figure", "(I)I"⟩
abbrev c_A_figure : ByteArray := prog_1_method_16_code
def y_A_neededArrows : MethodName := ⟨R_A, "neededArrows", "()I"⟩
abbrev c_A_neededArrows : ByteArray := prog_1_method_23_code
def y_A_hasDetour : MethodName := ⟨R_A, "hasDetour", "(II)Z"⟩
abbrev c_A_hasDetour : ByteArray := prog_1_method_24_code
def y_Gr_pairs : MethodName := ⟨R_Gr, "pairs", "()I"⟩
abbrev c_Gr_pairs : ByteArray := prog_3_method_8_code
def y_Gr_pairsWithoutDetour : MethodName := ⟨R_Gr, "pairsWithoutDetour", "()I"⟩
abbrev c_Gr_pairsWithoutDetour : ByteArray := prog_3_method_9_code
def y_Gr_reachedFromOneOf : MethodName := ⟨R_Gr, "reachedFromOneOf", "(II)Z"⟩
abbrev c_Gr_reachedFromOneOf : ByteArray := prog_3_method_12_code
def y_Gr_longestChain : MethodName := ⟨R_Gr, "longestChain", "()I"⟩
abbrev c_Gr_longestChain : ByteArray := prog_3_method_10_code
def y_Gr_longestOf : MethodName := ⟨R_Gr, "longestOf", "(I)I"⟩
abbrev c_Gr_longestOf : ByteArray := prog_3_method_11_code
def y_Ma_max : MethodName := ⟨R_Ma, "max", "(II)I"⟩
abbrev c_Ma_max : ByteArray := prog_13_method_65_code
def y_M_init : MethodName := ⟨R_M, "<init>", "()V"⟩
abbrev c_M_init : ByteArray := prog_7_method_1_code
def y_M_thrown : MethodName := ⟨R_M, "thrown", "()I"⟩
abbrev c_M_thrown : ByteArray := prog_7_method_2_code
def y_M_add : MethodName := ⟨R_M, "add", "(II)Z"⟩
abbrev c_M_add : ByteArray := prog_7_method_9_code
def y_M_isPlace : MethodName := ⟨R_M, "isPlace", "(I)Z"⟩
abbrev c_M_isPlace : ByteArray := prog_7_method_3_code
def y_M_has : MethodName := ⟨R_M, "has", "(II)Z"⟩
abbrev c_M_has : ByteArray := prog_7_method_4_code
def y_M_remove : MethodName := ⟨R_M, "remove", "(II)Z"⟩
abbrev c_M_remove : ByteArray := prog_7_method_10_code
def y_M_clear : MethodName := ⟨R_M, "clear", "()I"⟩
abbrev c_M_clear : ByteArray := prog_7_method_11_code
def y_M_group : MethodName := ⟨R_M, "group", "(I)I"⟩
abbrev c_M_group : ByteArray := prog_7_method_16_code
def y_M_lacks : MethodName := ⟨R_M, "lacks", "(II)Z"⟩
abbrev c_M_lacks : ByteArray := prog_7_method_15_code
def y_M_findGroups : MethodName := ⟨R_M, "findGroups", "()V"⟩
abbrev c_M_findGroups : ByteArray := prog_7_method_12_code
def y_M_reach : MethodName := ⟨R_M, "reach", "(I)I"⟩
abbrev c_M_reach : ByteArray := prog_7_method_8_code
def y_M_spread : MethodName := ⟨R_M, "spread", "(II)I"⟩
abbrev c_M_spread : ByteArray := prog_7_method_7_code
def y_M_least : MethodName := ⟨R_M, "least", "(I)I"⟩
abbrev c_M_least : ByteArray := prog_7_method_6_code
def y_M_members : MethodName := ⟨R_M, "members", "(I)I"⟩
abbrev c_M_members : ByteArray := prog_7_method_17_code
def y_M_size : MethodName := ⟨R_M, "size", "(I)I"⟩
abbrev c_M_size : ByteArray := prog_7_method_5_code
def y_M_rank : MethodName := ⟨R_M, "rank", "(I)I"⟩
abbrev c_M_rank : ByteArray := prog_7_method_18_code
def y_M_findOrder : MethodName := ⟨R_M, "findOrder", "()V"⟩
abbrev c_M_findOrder : ByteArray := prog_7_method_14_code
def y_M_ends : MethodName := ⟨R_M, "ends", "(I)I"⟩
abbrev c_M_ends : ByteArray := prog_7_method_13_code
def y_M_ranked : MethodName := ⟨R_M, "ranked", "(I)I"⟩
abbrev c_M_ranked : ByteArray := prog_7_method_19_code
def y_M_reaches : MethodName := ⟨R_M, "reaches", "(II)Z"⟩
abbrev c_M_reaches : ByteArray := prog_7_method_20_code
def y_M_distance : MethodName := ⟨R_M, "distance", "(II)I"⟩
abbrev c_M_distance : ByteArray := prog_7_method_22_code
def y_M_measure : MethodName := ⟨R_M, "measure", "(I)V"⟩
abbrev c_M_measure : ByteArray := prog_7_method_21_code
def y_M_way : MethodName := ⟨R_M, "way", "(III)I"⟩
abbrev c_M_way : ByteArray := prog_7_method_23_code
def y_M_gate : MethodName := ⟨R_M, "gate", "(II)I"⟩
abbrev c_M_gate : ByteArray := prog_7_method_25_code
def y_M_dependent : MethodName := ⟨R_M, "dependent", "(III)Z"⟩
abbrev c_M_dependent : ByteArray := prog_7_method_24_code
def y_M_gated : MethodName := ⟨R_M, "gated", "(II)I"⟩
abbrev c_M_gated : ByteArray := prog_7_method_26_code
def y_M_places : MethodName := ⟨R_M, "places", "(II)I"⟩
abbrev c_M_places : ByteArray := prog_7_method_30_code
def y_M_apart : MethodName := ⟨R_M, "apart", "(II)I"⟩
abbrev c_M_apart : ByteArray := prog_7_method_29_code
def y_M_finds : MethodName := ⟨R_M, "finds", "(II)Z"⟩
abbrev c_M_finds : ByteArray := prog_7_method_28_code
def y_M_at : MethodName := ⟨R_M, "at", "(II)Z"⟩
abbrev c_M_at : ByteArray := prog_7_method_27_code
def y_M_arrows : MethodName := ⟨R_M, "arrows", "(II)I"⟩
abbrev c_M_arrows : ByteArray := prog_7_method_31_code
def y_M_figure : MethodName := ⟨R_M, "figure", "(I)I"⟩
abbrev c_M_figure : ByteArray := prog_7_method_37_code
def y_M_pairs : MethodName := ⟨R_M, "pairs", "(Z)I"⟩
abbrev c_M_pairs : ByteArray := prog_7_method_34_code
def y_M_leads : MethodName := ⟨R_M, "leads", "(II)Z"⟩
abbrev c_M_leads : ByteArray := prog_7_method_32_code
def y_M_otherwise : MethodName := ⟨R_M, "otherwise", "(II)Z"⟩
abbrev c_M_otherwise : ByteArray := prog_7_method_33_code
def y_M_longest : MethodName := ⟨R_M, "longest", "()I"⟩
abbrev c_M_longest : ByteArray := prog_7_method_35_code
def y_M_bridges : MethodName := ⟨R_M, "bridges", "()I"⟩
abbrev c_M_bridges : ByteArray := prog_7_method_36_code
end
section
def b2i (b : Bool) : Int32 := if b = true then 1 else 0
theorem b2i_0 {b : Bool} : b2i b = 0 ↔ b = false := by cases b <;> decide
theorem b2i_n {b : Bool} : ¬ b2i b = 0 ↔ b = true := by cases b <;> decide
theorem b2i_1 {b : Bool} : b2i b = 1 ↔ b = true := by cases b <;> decide
theorem b2i_nar (b : Bool) : narrow .boolean (.int (b2i b)) = .int (b2i b) := by cases b <;> decide
def BS : List Cond := lw_tbl.filter goodWord
theorem BS_in {w : Cond} {k : Nat} (h : tables_1[k]? = some w) (hg : goodWord w = true) : w ∈ BS := List.mem_filter.mpr ⟨List.mem_append_right _ (List.mem_of_getElem? h), hg⟩
theorem BS_sel {w : Cond} {k : Nat} (h : (k2_sels lw_privs)[k]? = some w) (hg : goodWord w = true) : w ∈ BS := List.mem_filter.mpr ⟨List.mem_append_left _ (List.mem_of_getElem? h), hg⟩
theorem xg {c1 c2 : Cond} (h : c2 ∈ BS) : GoodIn (c1 :: BS) (c2 :: BS) := by
  intro w hw
  have hm : w ∈ BS := by
    rcases List.mem_cons.mp hw with h1 | h1
    · rw [h1]; exact h
    · exact h1
  exact ⟨List.mem_cons_of_mem _ hm, good_of_word (List.mem_filter.mp hm).2⟩
section XB
variable {p : Program} {l : Launch} {e : Env} {R : Room} {s : State} {m : MethodId} {args : Array Value} {below : List Frame} {meth : Method} {c : Code} {H : Heap} {locs : List Loc} {cells slots : Nat} {Q : State → Prop} {cc : ByteArray} {pc : Nat} {ls : Array Slot} {rest : List Value}
theorem xv_top {x x' : Int32} (h : x = x') (k : W p l e R s m args below meth c H locs cells slots Q (F0 m pc ls (.int x' :: rest))) : W p l e R s m args below meth c H locs cells slots Q (F0 m pc ls (.int x :: rest)) := by
  rw [h]; exact k
theorem xr_call {r : Int32} {g : JFrame} {a : Array Value} (hr : va_Run p l e R s m args below meth c H locs cells slots 0 0 g rest (QcRead r a) (fun _ => False)) (kk : W p l e R s m args below meth c H locs cells slots Q { g with pc := g.pc + 3, stack := .int r :: rest }) : W p l e R s m args below meth c H locs cells slots Q g := by
  intro T hT X
  obtain ⟨v, st₀, t, T', L, h0, X', hL, e1, -, ⟨hv, hh⟩, st⟩ := hr T hT X
  cases hv
  obtain ⟨t2, a1, b1⟩ := kk T' (by rw [e1, hh, h0]) (Stand.forget X' (fun q h => (hL q h).elim))
  exact ⟨t2, st t2 a1, b1⟩
variable {D : va_G} {cl : List vw_C} {tys : List (ClassId × FieldType)} {ws : va_W} {A : Nat → Prop} {H0 : Heap} {a : Nat}
theorem xa_ld (hexec : p.tables.exec = Jvm.exec) (hb : c.code = cc) (hK : va_K D cl tys s) (hP : va_P D cl ws H) (q0 t0 : Nat) {cA : ClassId} {n : Nat} {f : Nat → Int32} (ha : ws[q0]? = some (a, .inl (cA, n, .inl f))) (ht : tys[t0]? = some (cA, .int)) {u : Nat} (hu : u < n) (hn : n < 2 ^ 31) (hdg : decode cc pc = .ok (.iaload, 1))
    (kk : W p l e R s m args below meth c H locs cells slots Q (F0 m (pc + 1) ls (.int (f u) :: rest))) : W p l e R s m args below meth c H locs cells slots Q (F0 m pc ls (.int (nI u) :: .ref a :: rest)) := by
  refine va_iald hexec hb hK hP q0 t0 ha ht (vp_in_nI hu hn) hdg ?_
  rw [nI_clamp (by omega)]
  exact kk
theorem xa_st (hexec : p.tables.exec = Jvm.exec) (hb : c.code = cc) (hK : va_K D cl tys s) (hP : va_P D cl ws H) (hD : va_D A ws) (hS : va_S A H0 H locs) (q0 t0 : Nat) {cA : ClassId} {n : Nat} {f : Nat → Int32} (ha : ws[q0]? = some (a, .inl (cA, n, .inl f))) (ht : tys[t0]? = some (cA, .int)) {u : Nat} {x : Int32} (hu : u < n) (hn : n < 2 ^ 31) (hdg : decode cc pc = .ok (.iastore, 1))
    (kk : ∀ (H1 : Heap) (locs1 : List Loc), va_P D cl (ws.set q0 (a, .inl (cA, n, .inl (upd f u x)))) H1 → va_D A (ws.set q0 (a, .inl (cA, n, .inl (upd f u x)))) → va_S A H0 H1 locs1 → W p l e R s m args below meth c H1 locs1 cells slots Q (F0 m (pc + 1) ls rest)) : W p l e R s m args below meth c H locs cells slots Q (F0 m pc ls (.int x :: .int (nI u) :: .ref a :: rest)) := by
  refine va_iast hexec hb hK hP hD hS q0 t0 ha ht (vp_in_nI hu hn) hdg ?_
  rw [nI_clamp (by omega)]
  exact kk
theorem xl_r {σ : Type} {L : Nat} {st : List Value} (I : σ → Array Slot → Prop) (μ : σ → Nat)
    (hs : ∀ (a : σ) (ls : Array Slot), I a ls → (∀ (b : σ) (ls' : Array Slot), I b ls' → μ b < μ a → W p l e R s m args below meth c H locs cells slots Q (F0 m L ls' st)) → W p l e R s m args below meth c H locs cells slots Q (F0 m L ls st))
    (a : σ) (ls : Array Slot) (h : I a ls) : W p l e R s m args below meth c H locs cells slots Q (F0 m L ls st) := by
  have key : ∀ (n : Nat) (a : σ) (ls : Array Slot), μ a < n → I a ls → W p l e R s m args below meth c H locs cells slots Q (F0 m L ls st) := by
    intro n
    induction n with
    | zero => intro a ls h1; omega
    | succ n ih =>
      intro a ls h1 h2
      exact hs a ls h2 (fun b ls' h3 h4 => ih b ls' (by omega) h3)
  exact key (μ a + 1) a ls (by omega) h
theorem xl_r2 {σ τ : Type} {L : Nat} {st : List Value} (I : σ → τ → Array Slot → Prop) (μ : σ → τ → Nat)
    (hs : ∀ (a : σ) (a2 : τ) (ls : Array Slot), I a a2 ls → (∀ (b : σ) (b2 : τ) (ls' : Array Slot), I b b2 ls' → μ b b2 < μ a a2 → W p l e R s m args below meth c H locs cells slots Q (F0 m L ls' st)) → W p l e R s m args below meth c H locs cells slots Q (F0 m L ls st))
    (a : σ) (a2 : τ) (ls : Array Slot) (h : I a a2 ls) : W p l e R s m args below meth c H locs cells slots Q (F0 m L ls st) :=
  xl_r (σ := σ × τ) (fun x ls => I x.1 x.2 ls) (fun x => μ x.1 x.2) (fun x ls h1 h2 => hs x.1 x.2 ls h1 (fun b b2 ls' h3 h4 => h2 (b, b2) ls' h3 h4)) (a, a2) ls h
theorem xl_w {σ : Type} {L : Nat} {st : List Value} (I : σ → Array Slot → Heap → List Loc → Prop) (μ : σ → Nat)
    (hs : ∀ (a : σ) (ls : Array Slot) (H : Heap) (locs : List Loc), I a ls H locs → (∀ (b : σ) (ls' : Array Slot) (H' : Heap) (locs' : List Loc), I b ls' H' locs' → μ b < μ a → W p l e R s m args below meth c H' locs' cells slots Q (F0 m L ls' st)) → W p l e R s m args below meth c H locs cells slots Q (F0 m L ls st))
    (a : σ) (ls : Array Slot) (h : I a ls H locs) : W p l e R s m args below meth c H locs cells slots Q (F0 m L ls st) := by
  have key : ∀ (n : Nat) (a : σ) (ls : Array Slot) (H : Heap) (locs : List Loc), μ a < n → I a ls H locs → W p l e R s m args below meth c H locs cells slots Q (F0 m L ls st) := by
    intro n
    induction n with
    | zero => intro a ls H locs h1; omega
    | succ n ih =>
      intro a ls H locs h1 h2
      exact hs a ls H locs h2 (fun b ls' H' locs' h3 h4 => ih b ls' H' locs' (by omega) h3)
  exact key (μ a + 1) a ls H locs (by omega) h
theorem xl_w2 {σ τ : Type} {L : Nat} {st : List Value} (I : σ → τ → Array Slot → Heap → List Loc → Prop) (μ : σ → τ → Nat)
    (hs : ∀ (a : σ) (a2 : τ) (ls : Array Slot) (H : Heap) (locs : List Loc), I a a2 ls H locs → (∀ (b : σ) (b2 : τ) (ls' : Array Slot) (H' : Heap) (locs' : List Loc), I b b2 ls' H' locs' → μ b b2 < μ a a2 → W p l e R s m args below meth c H' locs' cells slots Q (F0 m L ls' st)) → W p l e R s m args below meth c H locs cells slots Q (F0 m L ls st))
    (a : σ) (a2 : τ) (ls : Array Slot) (h : I a a2 ls H locs) : W p l e R s m args below meth c H locs cells slots Q (F0 m L ls st) :=
  xl_w (σ := σ × τ) (fun x ls H locs => I x.1 x.2 ls H locs) (fun x => μ x.1 x.2) (fun x ls H locs h1 h2 => hs x.1 x.2 ls H locs h1 (fun b b2 ls' H' locs' h3 h4 => h2 (b, b2) ls' H' locs' h3 h4)) (a, a2) ls h
theorem xl_w3 {σ τ υ : Type} {L : Nat} {st : List Value} (I : σ → τ → υ → Array Slot → Heap → List Loc → Prop) (μ : σ → τ → υ → Nat)
    (hs : ∀ (a : σ) (a2 : τ) (a3 : υ) (ls : Array Slot) (H : Heap) (locs : List Loc), I a a2 a3 ls H locs → (∀ (b : σ) (b2 : τ) (b3 : υ) (ls' : Array Slot) (H' : Heap) (locs' : List Loc), I b b2 b3 ls' H' locs' → μ b b2 b3 < μ a a2 a3 → W p l e R s m args below meth c H' locs' cells slots Q (F0 m L ls' st)) → W p l e R s m args below meth c H locs cells slots Q (F0 m L ls st))
    (a : σ) (a2 : τ) (a3 : υ) (ls : Array Slot) (h : I a a2 a3 ls H locs) : W p l e R s m args below meth c H locs cells slots Q (F0 m L ls st) :=
  xl_w (σ := σ × τ × υ) (fun x ls H locs => I x.1 x.2.1 x.2.2 ls H locs) (fun x => μ x.1 x.2.1 x.2.2) (fun x ls H locs h1 h2 => hs x.1 x.2.1 x.2.2 ls H locs h1 (fun b b2 b3 ls' H' locs' h3 h4 => h2 (b, b2, b3) ls' H' locs' h3 h4)) (a, a2, a3) ls h
end XB
end
section
theorem in_A : ∀ w ∈ u_ws R_A F_A 4, w ∈ BS := by decide +kernel
theorem in_Web : ∀ w ∈ u_ws R_Web F_Web 2, w ∈ BS := by decide +kernel
theorem in_Gr : ∀ w ∈ u_ws R_Gr F_Gr 7, w ∈ BS := by decide +kernel
theorem in_Wy : ∀ w ∈ u_ws R_Wy F_Wy 1, w ∈ BS := by decide +kernel
theorem in_Fl : ∀ w ∈ u_ws R_Fl F_Fl 4, w ∈ BS := by decide +kernel
theorem in_M : ∀ w ∈ u_ws R_M F_M 10, w ∈ BS := by decide +kernel
theorem mz_L : Cond.initialized R_L ∈ BS := BS_in (k := 0) (by decide +kernel) (by decide +kernel)
theorem mz_A : Cond.initialized R_A ∈ BS := BS_in (k := 1) (by decide +kernel) (by decide +kernel)
theorem mz_Web : Cond.initialized R_Web ∈ BS := BS_in (k := 2) (by decide +kernel) (by decide +kernel)
theorem mz_Gr : Cond.initialized R_Gr ∈ BS := BS_in (k := 3) (by decide +kernel) (by decide +kernel)
theorem mz_Wy : Cond.initialized R_Wy ∈ BS := BS_in (k := 4) (by decide +kernel) (by decide +kernel)
theorem mz_Fl : Cond.initialized R_Fl ∈ BS := BS_in (k := 5) (by decide +kernel) (by decide +kernel)
theorem mz_M : Cond.initialized R_M ∈ BS := BS_in (k := 6) (by decide +kernel) (by decide +kernel)
theorem mz_Ar : Cond.initialized R_Ar ∈ BS := BS_in (k := 12) (by decide +kernel) (by decide +kernel)
theorem mz_In : Cond.initialized R_In ∈ BS := BS_in (k := 15) (by decide +kernel) (by decide +kernel)
theorem mz_Ma : Cond.initialized R_Ma ∈ BS := BS_in (k := 16) (by decide +kernel) (by decide +kernel)
theorem ml_L_63 : Cond.methodLink R_L 63 y_A_init ∈ BS := BS_in (k := 19) (by decide +kernel) (by decide +kernel)
theorem mi_A_init : Cond.instanceMethod y_A_init ∈ BS := BS_in (k := 20) (by decide +kernel) (by decide +kernel)
theorem mc_A_init : Cond.code y_A_init c_A_init 1 none ∈ BS := BS_in (k := 21) (by decide +kernel) (by decide +kernel)
theorem ml_A_9 : Cond.methodLink R_A 9 y_Web_init ∈ BS := BS_in (k := 27) (by decide +kernel) (by decide +kernel)
theorem mi_Web_init : Cond.instanceMethod y_Web_init ∈ BS := BS_in (k := 28) (by decide +kernel) (by decide +kernel)
theorem mc_Web_init : Cond.code y_Web_init c_Web_init 1 none ∈ BS := BS_in (k := 29) (by decide +kernel) (by decide +kernel)
theorem mf_Web_9 : Cond.fieldLink R_Web 9 "ArcAtlas$Web" "heads" "[I" ∈ BS := BS_in (k := 31) (by decide +kernel) (by decide +kernel)
theorem mf_Web_15 : Cond.fieldLink R_Web 15 "ArcAtlas$Web" "count" "I" ∈ BS := BS_in (k := 32) (by decide +kernel) (by decide +kernel)
theorem ml_A_18 : Cond.methodLink R_A 18 y_Gr_init ∈ BS := BS_in (k := 41) (by decide +kernel) (by decide +kernel)
theorem mi_Gr_init : Cond.instanceMethod y_Gr_init ∈ BS := BS_in (k := 42) (by decide +kernel) (by decide +kernel)
theorem mc_Gr_init : Cond.code y_Gr_init c_Gr_init 1 none ∈ BS := BS_in (k := 43) (by decide +kernel) (by decide +kernel)
theorem mf_Gr_9 : Cond.fieldLink R_Gr 9 "ArcAtlas$Groups" "reached" "[I" ∈ BS := BS_in (k := 45) (by decide +kernel) (by decide +kernel)
theorem mf_Gr_15 : Cond.fieldLink R_Gr 15 "ArcAtlas$Groups" "names" "[I" ∈ BS := BS_in (k := 46) (by decide +kernel) (by decide +kernel)
theorem mf_Gr_18 : Cond.fieldLink R_Gr 18 "ArcAtlas$Groups" "ledTo" "[I" ∈ BS := BS_in (k := 47) (by decide +kernel) (by decide +kernel)
theorem mf_Gr_21 : Cond.fieldLink R_Gr 21 "ArcAtlas$Groups" "before" "[I" ∈ BS := BS_in (k := 48) (by decide +kernel) (by decide +kernel)
theorem mf_Gr_24 : Cond.fieldLink R_Gr 24 "ArcAtlas$Groups" "order" "[I" ∈ BS := BS_in (k := 49) (by decide +kernel) (by decide +kernel)
theorem mf_Gr_27 : Cond.fieldLink R_Gr 27 "ArcAtlas$Groups" "chain" "[I" ∈ BS := BS_in (k := 50) (by decide +kernel) (by decide +kernel)
theorem mf_Gr_30 : Cond.fieldLink R_Gr 30 "ArcAtlas$Groups" "count" "I" ∈ BS := BS_in (k := 51) (by decide +kernel) (by decide +kernel)
theorem ml_A_25 : Cond.methodLink R_A 25 y_Wy_init ∈ BS := BS_in (k := 69) (by decide +kernel) (by decide +kernel)
theorem mi_Wy_init : Cond.instanceMethod y_Wy_init ∈ BS := BS_in (k := 70) (by decide +kernel) (by decide +kernel)
theorem mc_Wy_init : Cond.code y_Wy_init c_Wy_init 1 none ∈ BS := BS_in (k := 71) (by decide +kernel) (by decide +kernel)
theorem mf_Wy_9 : Cond.fieldLink R_Wy 9 "ArcAtlas$Ways" "layers" "[I" ∈ BS := BS_in (k := 73) (by decide +kernel) (by decide +kernel)
theorem ml_A_32 : Cond.methodLink R_A 32 y_Fl_init ∈ BS := BS_in (k := 79) (by decide +kernel) (by decide +kernel)
theorem mi_Fl_init : Cond.instanceMethod y_Fl_init ∈ BS := BS_in (k := 80) (by decide +kernel) (by decide +kernel)
theorem mc_Fl_init : Cond.code y_Fl_init c_Fl_init 1 none ∈ BS := BS_in (k := 81) (by decide +kernel) (by decide +kernel)
theorem mf_Fl_11 : Cond.fieldLink R_Fl 11 "ArcAtlas$Flow" "lines" "[I" ∈ BS := BS_in (k := 83) (by decide +kernel) (by decide +kernel)
theorem mf_Fl_15 : Cond.fieldLink R_Fl 15 "ArcAtlas$Flow" "used" "[I" ∈ BS := BS_in (k := 84) (by decide +kernel) (by decide +kernel)
theorem mf_Fl_18 : Cond.fieldLink R_Fl 18 "ArcAtlas$Flow" "fed" "[I" ∈ BS := BS_in (k := 85) (by decide +kernel) (by decide +kernel)
theorem mf_Fl_21 : Cond.fieldLink R_Fl 21 "ArcAtlas$Flow" "cameFrom" "[I" ∈ BS := BS_in (k := 86) (by decide +kernel) (by decide +kernel)
theorem mf_A_10 : Cond.fieldLink R_A 10 "ArcAtlas" "web" "LArcAtlas$Web;" ∈ BS := BS_in (k := 96) (by decide +kernel) (by decide +kernel)
theorem mf_A_19 : Cond.fieldLink R_A 19 "ArcAtlas" "groups" "LArcAtlas$Groups;" ∈ BS := BS_in (k := 97) (by decide +kernel) (by decide +kernel)
theorem mf_A_26 : Cond.fieldLink R_A 26 "ArcAtlas" "ways" "LArcAtlas$Ways;" ∈ BS := BS_in (k := 98) (by decide +kernel) (by decide +kernel)
theorem mf_A_33 : Cond.fieldLink R_A 33 "ArcAtlas" "flow" "LArcAtlas$Flow;" ∈ BS := BS_in (k := 99) (by decide +kernel) (by decide +kernel)
theorem ml_L_80 : Cond.methodLink R_L 80 y_A_clear ∈ BS := BS_in (k := 109) (by decide +kernel) (by decide +kernel)
theorem mi_A_clear : Cond.instanceMethod y_A_clear ∈ BS := BS_in (k := 110) (by decide +kernel) (by decide +kernel)
theorem me_A_clear : Cond.selects R_A y_A_clear y_A_clear ∈ BS := BS_in (k := 111) (by decide +kernel) (by decide +kernel)
theorem mc_A_clear : Cond.code y_A_clear c_A_clear 2 (some .int) ∈ BS := BS_in (k := 112) (by decide +kernel) (by decide +kernel)
theorem ml_A_52 : Cond.methodLink R_A 52 y_Web_count ∈ BS := BS_in (k := 113) (by decide +kernel) (by decide +kernel)
theorem mi_Web_count : Cond.instanceMethod y_Web_count ∈ BS := BS_in (k := 114) (by decide +kernel) (by decide +kernel)
theorem me_Web_count : Cond.selects R_Web y_Web_count y_Web_count ∈ BS := BS_in (k := 115) (by decide +kernel) (by decide +kernel)
theorem mc_Web_count : Cond.code y_Web_count c_Web_count 1 (some .int) ∈ BS := BS_in (k := 116) (by decide +kernel) (by decide +kernel)
theorem ml_A_67 : Cond.methodLink R_A 67 y_Web_takeAll ∈ BS := BS_in (k := 117) (by decide +kernel) (by decide +kernel)
theorem mi_Web_takeAll : Cond.instanceMethod y_Web_takeAll ∈ BS := BS_in (k := 118) (by decide +kernel) (by decide +kernel)
theorem me_Web_takeAll : Cond.selects R_Web y_Web_takeAll y_Web_takeAll ∈ BS := BS_in (k := 119) (by decide +kernel) (by decide +kernel)
theorem mc_Web_takeAll : Cond.code y_Web_takeAll c_Web_takeAll 1 none ∈ BS := BS_in (k := 120) (by decide +kernel) (by decide +kernel)
theorem ml_Web_27 : Cond.methodLink R_Web 27 y_Ar_fill ∈ BS := BS_in (k := 121) (by decide +kernel) (by decide +kernel)
theorem ms_Ar_fill : Cond.static y_Ar_fill ∈ BS := BS_in (k := 122) (by decide +kernel) (by decide +kernel)
theorem mc_Ar_fill : Cond.code y_Ar_fill c_Ar_fill 4 none ∈ BS := BS_in (k := 123) (by decide +kernel) (by decide +kernel)
theorem ml_L_67 : Cond.methodLink R_L 67 y_L_add ∈ BS := BS_in (k := 124) (by decide +kernel) (by decide +kernel)
theorem ms_L_add : Cond.static y_L_add ∈ BS := BS_in (k := 125) (by decide +kernel) (by decide +kernel)
theorem ml_L_7 : Cond.methodLink R_L 7 y_A_add ∈ BS := BS_in (k := 129) (by decide +kernel) (by decide +kernel)
theorem mi_A_add : Cond.instanceMethod y_A_add ∈ BS := BS_in (k := 130) (by decide +kernel) (by decide +kernel)
theorem me_A_add : Cond.selects R_A y_A_add y_A_add ∈ BS := BS_in (k := 131) (by decide +kernel) (by decide +kernel)
theorem mc_A_add : Cond.code y_A_add c_A_add 3 (some .boolean) ∈ BS := BS_in (k := 132) (by decide +kernel) (by decide +kernel)
theorem ml_A_37 : Cond.methodLink R_A 37 y_A_requirePlaces ∈ BS := BS_in (k := 133) (by decide +kernel) (by decide +kernel)
theorem ms_A_requirePlaces : Cond.static y_A_requirePlaces ∈ BS := BS_in (k := 134) (by decide +kernel) (by decide +kernel)
theorem mc_A_requirePlaces : Cond.code y_A_requirePlaces c_A_requirePlaces 2 none ∈ BS := BS_in (k := 135) (by decide +kernel) (by decide +kernel)
theorem ml_A_70 : Cond.methodLink R_A 70 y_A_requirePlace ∈ BS := BS_in (k := 136) (by decide +kernel) (by decide +kernel)
theorem ms_A_requirePlace : Cond.static y_A_requirePlace ∈ BS := BS_in (k := 137) (by decide +kernel) (by decide +kernel)
theorem mc_A_requirePlace : Cond.code y_A_requirePlace c_A_requirePlace 1 none ∈ BS := BS_in (k := 138) (by decide +kernel) (by decide +kernel)
theorem ml_A_48 : Cond.methodLink R_A 48 y_Web_holds ∈ BS := BS_in (k := 209) (by decide +kernel) (by decide +kernel)
theorem mi_Web_holds : Cond.instanceMethod y_Web_holds ∈ BS := BS_in (k := 210) (by decide +kernel) (by decide +kernel)
theorem me_Web_holds : Cond.selects R_Web y_Web_holds y_Web_holds ∈ BS := BS_in (k := 211) (by decide +kernel) (by decide +kernel)
theorem mc_Web_holds : Cond.code y_Web_holds c_Web_holds 3 (some .boolean) ∈ BS := BS_in (k := 212) (by decide +kernel) (by decide +kernel)
theorem ms_A_has : Cond.static y_A_has ∈ BS := BS_in (k := 214) (by decide +kernel) (by decide +kernel)
theorem mc_A_has : Cond.code y_A_has c_A_has 2 (some .boolean) ∈ BS := BS_in (k := 215) (by decide +kernel) (by decide +kernel)
theorem ml_A_61 : Cond.methodLink R_A 61 y_Web_put ∈ BS := BS_in (k := 232) (by decide +kernel) (by decide +kernel)
theorem mi_Web_put : Cond.instanceMethod y_Web_put ∈ BS := BS_in (k := 233) (by decide +kernel) (by decide +kernel)
theorem me_Web_put : Cond.selects R_Web y_Web_put y_Web_put ∈ BS := BS_in (k := 234) (by decide +kernel) (by decide +kernel)
theorem mc_Web_put : Cond.code y_Web_put c_Web_put 3 none ∈ BS := BS_in (k := 235) (by decide +kernel) (by decide +kernel)
theorem ms_A_only : Cond.static y_A_only ∈ BS := BS_in (k := 237) (by decide +kernel) (by decide +kernel)
theorem mc_A_only : Cond.code y_A_only c_A_only 1 (some .int) ∈ BS := BS_in (k := 238) (by decide +kernel) (by decide +kernel)
theorem ml_L_77 : Cond.methodLink R_L 77 y_L_remove ∈ BS := BS_in (k := 239) (by decide +kernel) (by decide +kernel)
theorem ms_L_remove : Cond.static y_L_remove ∈ BS := BS_in (k := 240) (by decide +kernel) (by decide +kernel)
theorem ml_L_17 : Cond.methodLink R_L 17 y_A_remove ∈ BS := BS_in (k := 242) (by decide +kernel) (by decide +kernel)
theorem mi_A_remove : Cond.instanceMethod y_A_remove ∈ BS := BS_in (k := 243) (by decide +kernel) (by decide +kernel)
theorem me_A_remove : Cond.selects R_A y_A_remove y_A_remove ∈ BS := BS_in (k := 244) (by decide +kernel) (by decide +kernel)
theorem mc_A_remove : Cond.code y_A_remove c_A_remove 3 (some .boolean) ∈ BS := BS_in (k := 245) (by decide +kernel) (by decide +kernel)
theorem ml_A_64 : Cond.methodLink R_A 64 y_Web_take ∈ BS := BS_in (k := 246) (by decide +kernel) (by decide +kernel)
theorem mi_Web_take : Cond.instanceMethod y_Web_take ∈ BS := BS_in (k := 247) (by decide +kernel) (by decide +kernel)
theorem me_Web_take : Cond.selects R_Web y_Web_take y_Web_take ∈ BS := BS_in (k := 248) (by decide +kernel) (by decide +kernel)
theorem mc_Web_take : Cond.code y_Web_take c_Web_take 3 none ∈ BS := BS_in (k := 249) (by decide +kernel) (by decide +kernel)
theorem ml_L_84 : Cond.methodLink R_L 84 y_L_group ∈ BS := BS_in (k := 250) (by decide +kernel) (by decide +kernel)
theorem ms_L_group : Cond.static y_L_group ∈ BS := BS_in (k := 251) (by decide +kernel) (by decide +kernel)
theorem ml_L_20 : Cond.methodLink R_L 20 y_A_group ∈ BS := BS_in (k := 253) (by decide +kernel) (by decide +kernel)
theorem mi_A_group : Cond.instanceMethod y_A_group ∈ BS := BS_in (k := 254) (by decide +kernel) (by decide +kernel)
theorem me_A_group : Cond.selects R_A y_A_group y_A_group ∈ BS := BS_in (k := 255) (by decide +kernel) (by decide +kernel)
theorem mc_A_group : Cond.code y_A_group c_A_group 2 (some .int) ∈ BS := BS_in (k := 256) (by decide +kernel) (by decide +kernel)
theorem ml_A_74 : Cond.methodLink R_A 74 y_Gr_read ∈ BS := BS_in (k := 257) (by decide +kernel) (by decide +kernel)
theorem mi_Gr_read : Cond.instanceMethod y_Gr_read ∈ BS := BS_in (k := 258) (by decide +kernel) (by decide +kernel)
theorem me_Gr_read : Cond.selects R_Gr y_Gr_read y_Gr_read ∈ BS := BS_in (k := 259) (by decide +kernel) (by decide +kernel)
theorem mc_Gr_read : Cond.code y_Gr_read c_Gr_read 2 none ∈ BS := BS_in (k := 260) (by decide +kernel) (by decide +kernel)
theorem ml_Gr_34 : Cond.methodLink R_Gr 34 y_Gr_readReached ∈ BS := BS_in (k := 261) (by decide +kernel) (by decide +kernel)
theorem mi_Gr_readReached : Cond.instanceMethod y_Gr_readReached ∈ BS := BS_in (k := 263) (by decide +kernel) (by decide +kernel)
theorem mc_Gr_readReached : Cond.code y_Gr_readReached c_Gr_readReached 4 none ∈ BS := BS_in (k := 264) (by decide +kernel) (by decide +kernel)
theorem ml_Gr_72 : Cond.methodLink R_Gr 72 y_Web_headsOf ∈ BS := BS_in (k := 266) (by decide +kernel) (by decide +kernel)
theorem mi_Web_headsOf : Cond.instanceMethod y_Web_headsOf ∈ BS := BS_in (k := 267) (by decide +kernel) (by decide +kernel)
theorem me_Web_headsOf : Cond.selects R_Web y_Web_headsOf y_Web_headsOf ∈ BS := BS_in (k := 268) (by decide +kernel) (by decide +kernel)
theorem mc_Web_headsOf : Cond.code y_Web_headsOf c_Web_headsOf 2 (some .int) ∈ BS := BS_in (k := 269) (by decide +kernel) (by decide +kernel)
theorem ml_Gr_38 : Cond.methodLink R_Gr 38 y_Gr_readNames ∈ BS := BS_in (k := 271) (by decide +kernel) (by decide +kernel)
theorem mi_Gr_readNames : Cond.instanceMethod y_Gr_readNames ∈ BS := BS_in (k := 273) (by decide +kernel) (by decide +kernel)
theorem mc_Gr_readNames : Cond.code y_Gr_readNames c_Gr_readNames 2 none ∈ BS := BS_in (k := 274) (by decide +kernel) (by decide +kernel)
theorem ml_Gr_77 : Cond.methodLink R_Gr 77 y_Gr_leastWith ∈ BS := BS_in (k := 275) (by decide +kernel) (by decide +kernel)
theorem mi_Gr_leastWith : Cond.instanceMethod y_Gr_leastWith ∈ BS := BS_in (k := 277) (by decide +kernel) (by decide +kernel)
theorem mc_Gr_leastWith : Cond.code y_Gr_leastWith c_Gr_leastWith 3 (some .int) ∈ BS := BS_in (k := 278) (by decide +kernel) (by decide +kernel)
theorem ml_Gr_41 : Cond.methodLink R_Gr 41 y_Gr_readLeads ∈ BS := BS_in (k := 279) (by decide +kernel) (by decide +kernel)
theorem mi_Gr_readLeads : Cond.instanceMethod y_Gr_readLeads ∈ BS := BS_in (k := 281) (by decide +kernel) (by decide +kernel)
theorem mc_Gr_readLeads : Cond.code y_Gr_readLeads c_Gr_readLeads 4 none ∈ BS := BS_in (k := 282) (by decide +kernel) (by decide +kernel)
theorem ml_Gr_80 : Cond.methodLink R_Gr 80 y_Ar_fill ∈ BS := BS_in (k := 283) (by decide +kernel) (by decide +kernel)
theorem ml_Gr_86 : Cond.methodLink R_Gr 86 y_Web_holds ∈ BS := BS_in (k := 284) (by decide +kernel) (by decide +kernel)
theorem ml_Gr_44 : Cond.methodLink R_Gr 44 y_Gr_readOrder ∈ BS := BS_in (k := 285) (by decide +kernel) (by decide +kernel)
theorem mi_Gr_readOrder : Cond.instanceMethod y_Gr_readOrder ∈ BS := BS_in (k := 287) (by decide +kernel) (by decide +kernel)
theorem mc_Gr_readOrder : Cond.code y_Gr_readOrder c_Gr_readOrder 3 none ∈ BS := BS_in (k := 288) (by decide +kernel) (by decide +kernel)
theorem ml_Gr_89 : Cond.methodLink R_Gr 89 y_Gr_leastFree ∈ BS := BS_in (k := 289) (by decide +kernel) (by decide +kernel)
theorem mi_Gr_leastFree : Cond.instanceMethod y_Gr_leastFree ∈ BS := BS_in (k := 291) (by decide +kernel) (by decide +kernel)
theorem mc_Gr_leastFree : Cond.code y_Gr_leastFree c_Gr_leastFree 3 (some .int) ∈ BS := BS_in (k := 292) (by decide +kernel) (by decide +kernel)
theorem ml_A_78 : Cond.methodLink R_A 78 y_Gr_nameOf ∈ BS := BS_in (k := 293) (by decide +kernel) (by decide +kernel)
theorem mi_Gr_nameOf : Cond.instanceMethod y_Gr_nameOf ∈ BS := BS_in (k := 294) (by decide +kernel) (by decide +kernel)
theorem me_Gr_nameOf : Cond.selects R_Gr y_Gr_nameOf y_Gr_nameOf ∈ BS := BS_in (k := 295) (by decide +kernel) (by decide +kernel)
theorem mc_Gr_nameOf : Cond.code y_Gr_nameOf c_Gr_nameOf 2 (some .int) ∈ BS := BS_in (k := 296) (by decide +kernel) (by decide +kernel)
theorem ml_L_88 : Cond.methodLink R_L 88 y_L_members ∈ BS := BS_in (k := 297) (by decide +kernel) (by decide +kernel)
theorem ms_L_members : Cond.static y_L_members ∈ BS := BS_in (k := 298) (by decide +kernel) (by decide +kernel)
theorem ml_L_24 : Cond.methodLink R_L 24 y_A_members ∈ BS := BS_in (k := 300) (by decide +kernel) (by decide +kernel)
theorem mi_A_members : Cond.instanceMethod y_A_members ∈ BS := BS_in (k := 301) (by decide +kernel) (by decide +kernel)
theorem me_A_members : Cond.selects R_A y_A_members y_A_members ∈ BS := BS_in (k := 302) (by decide +kernel) (by decide +kernel)
theorem mc_A_members : Cond.code y_A_members c_A_members 2 (some .int) ∈ BS := BS_in (k := 303) (by decide +kernel) (by decide +kernel)
theorem ml_A_82 : Cond.methodLink R_A 82 y_Gr_sizeOf ∈ BS := BS_in (k := 304) (by decide +kernel) (by decide +kernel)
theorem mi_Gr_sizeOf : Cond.instanceMethod y_Gr_sizeOf ∈ BS := BS_in (k := 305) (by decide +kernel) (by decide +kernel)
theorem me_Gr_sizeOf : Cond.selects R_Gr y_Gr_sizeOf y_Gr_sizeOf ∈ BS := BS_in (k := 306) (by decide +kernel) (by decide +kernel)
theorem mc_Gr_sizeOf : Cond.code y_Gr_sizeOf c_Gr_sizeOf 4 (some .int) ∈ BS := BS_in (k := 307) (by decide +kernel) (by decide +kernel)
theorem ml_L_91 : Cond.methodLink R_L 91 y_L_rank ∈ BS := BS_in (k := 308) (by decide +kernel) (by decide +kernel)
theorem ms_L_rank : Cond.static y_L_rank ∈ BS := BS_in (k := 309) (by decide +kernel) (by decide +kernel)
theorem ml_L_27 : Cond.methodLink R_L 27 y_A_rank ∈ BS := BS_in (k := 311) (by decide +kernel) (by decide +kernel)
theorem mi_A_rank : Cond.instanceMethod y_A_rank ∈ BS := BS_in (k := 312) (by decide +kernel) (by decide +kernel)
theorem me_A_rank : Cond.selects R_A y_A_rank y_A_rank ∈ BS := BS_in (k := 313) (by decide +kernel) (by decide +kernel)
theorem mc_A_rank : Cond.code y_A_rank c_A_rank 2 (some .int) ∈ BS := BS_in (k := 314) (by decide +kernel) (by decide +kernel)
theorem ml_A_85 : Cond.methodLink R_A 85 y_Gr_positionOf ∈ BS := BS_in (k := 315) (by decide +kernel) (by decide +kernel)
theorem mi_Gr_positionOf : Cond.instanceMethod y_Gr_positionOf ∈ BS := BS_in (k := 316) (by decide +kernel) (by decide +kernel)
theorem me_Gr_positionOf : Cond.selects R_Gr y_Gr_positionOf y_Gr_positionOf ∈ BS := BS_in (k := 317) (by decide +kernel) (by decide +kernel)
theorem mc_Gr_positionOf : Cond.code y_Gr_positionOf c_Gr_positionOf 4 (some .int) ∈ BS := BS_in (k := 318) (by decide +kernel) (by decide +kernel)
theorem ml_L_94 : Cond.methodLink R_L 94 y_L_ranked ∈ BS := BS_in (k := 319) (by decide +kernel) (by decide +kernel)
theorem ms_L_ranked : Cond.static y_L_ranked ∈ BS := BS_in (k := 320) (by decide +kernel) (by decide +kernel)
theorem ml_L_30 : Cond.methodLink R_L 30 y_A_ranked ∈ BS := BS_in (k := 323) (by decide +kernel) (by decide +kernel)
theorem mi_A_ranked : Cond.instanceMethod y_A_ranked ∈ BS := BS_in (k := 324) (by decide +kernel) (by decide +kernel)
theorem me_A_ranked : Cond.selects R_A y_A_ranked y_A_ranked ∈ BS := BS_in (k := 325) (by decide +kernel) (by decide +kernel)
theorem mc_A_ranked : Cond.code y_A_ranked c_A_ranked 2 (some .int) ∈ BS := BS_in (k := 326) (by decide +kernel) (by decide +kernel)
theorem ml_A_88 : Cond.methodLink R_A 88 y_Gr_count ∈ BS := BS_in (k := 327) (by decide +kernel) (by decide +kernel)
theorem mi_Gr_count : Cond.instanceMethod y_Gr_count ∈ BS := BS_in (k := 328) (by decide +kernel) (by decide +kernel)
theorem me_Gr_count : Cond.selects R_Gr y_Gr_count y_Gr_count ∈ BS := BS_in (k := 329) (by decide +kernel) (by decide +kernel)
theorem mc_Gr_count : Cond.code y_Gr_count c_Gr_count 1 (some .int) ∈ BS := BS_in (k := 330) (by decide +kernel) (by decide +kernel)
theorem ml_A_94 : Cond.methodLink R_A 94 y_Gr_nameAt ∈ BS := BS_in (k := 347) (by decide +kernel) (by decide +kernel)
theorem mi_Gr_nameAt : Cond.instanceMethod y_Gr_nameAt ∈ BS := BS_in (k := 348) (by decide +kernel) (by decide +kernel)
theorem me_Gr_nameAt : Cond.selects R_Gr y_Gr_nameAt y_Gr_nameAt ∈ BS := BS_in (k := 349) (by decide +kernel) (by decide +kernel)
theorem mc_Gr_nameAt : Cond.code y_Gr_nameAt c_Gr_nameAt 2 (some .int) ∈ BS := BS_in (k := 350) (by decide +kernel) (by decide +kernel)
theorem ml_L_97 : Cond.methodLink R_L 97 y_L_reaches ∈ BS := BS_in (k := 351) (by decide +kernel) (by decide +kernel)
theorem ms_L_reaches : Cond.static y_L_reaches ∈ BS := BS_in (k := 352) (by decide +kernel) (by decide +kernel)
theorem ml_L_35 : Cond.methodLink R_L 35 y_A_reaches ∈ BS := BS_in (k := 354) (by decide +kernel) (by decide +kernel)
theorem mi_A_reaches : Cond.instanceMethod y_A_reaches ∈ BS := BS_in (k := 355) (by decide +kernel) (by decide +kernel)
theorem me_A_reaches : Cond.selects R_A y_A_reaches y_A_reaches ∈ BS := BS_in (k := 356) (by decide +kernel) (by decide +kernel)
theorem mc_A_reaches : Cond.code y_A_reaches c_A_reaches 3 (some .boolean) ∈ BS := BS_in (k := 357) (by decide +kernel) (by decide +kernel)
theorem ml_A_97 : Cond.methodLink R_A 97 y_A_only ∈ BS := BS_in (k := 358) (by decide +kernel) (by decide +kernel)
theorem ml_A_100 : Cond.methodLink R_A 100 y_Web_spread ∈ BS := BS_in (k := 359) (by decide +kernel) (by decide +kernel)
theorem mi_Web_spread : Cond.instanceMethod y_Web_spread ∈ BS := BS_in (k := 360) (by decide +kernel) (by decide +kernel)
theorem me_Web_spread : Cond.selects R_Web y_Web_spread y_Web_spread ∈ BS := BS_in (k := 361) (by decide +kernel) (by decide +kernel)
theorem mc_Web_spread : Cond.code y_Web_spread c_Web_spread 6 (some .int) ∈ BS := BS_in (k := 362) (by decide +kernel) (by decide +kernel)
theorem ml_Web_33 : Cond.methodLink R_Web 33 y_Web_headsOfAll ∈ BS := BS_in (k := 363) (by decide +kernel) (by decide +kernel)
theorem mi_Web_headsOfAll : Cond.instanceMethod y_Web_headsOfAll ∈ BS := BS_in (k := 365) (by decide +kernel) (by decide +kernel)
theorem mc_Web_headsOfAll : Cond.code y_Web_headsOfAll c_Web_headsOfAll 4 (some .int) ∈ BS := BS_in (k := 366) (by decide +kernel) (by decide +kernel)
theorem ml_A_104 : Cond.methodLink R_A 104 y_A_has ∈ BS := BS_in (k := 367) (by decide +kernel) (by decide +kernel)
theorem ml_L_100 : Cond.methodLink R_L 100 y_L_distance ∈ BS := BS_in (k := 368) (by decide +kernel) (by decide +kernel)
theorem ms_L_distance : Cond.static y_L_distance ∈ BS := BS_in (k := 369) (by decide +kernel) (by decide +kernel)
theorem ml_L_38 : Cond.methodLink R_L 38 y_A_distance ∈ BS := BS_in (k := 371) (by decide +kernel) (by decide +kernel)
theorem mi_A_distance : Cond.instanceMethod y_A_distance ∈ BS := BS_in (k := 372) (by decide +kernel) (by decide +kernel)
theorem me_A_distance : Cond.selects R_A y_A_distance y_A_distance ∈ BS := BS_in (k := 373) (by decide +kernel) (by decide +kernel)
theorem mc_A_distance : Cond.code y_A_distance c_A_distance 3 (some .int) ∈ BS := BS_in (k := 374) (by decide +kernel) (by decide +kernel)
theorem ml_A_107 : Cond.methodLink R_A 107 y_Wy_readTo ∈ BS := BS_in (k := 375) (by decide +kernel) (by decide +kernel)
theorem mi_Wy_readTo : Cond.instanceMethod y_Wy_readTo ∈ BS := BS_in (k := 376) (by decide +kernel) (by decide +kernel)
theorem me_Wy_readTo : Cond.selects R_Wy y_Wy_readTo y_Wy_readTo ∈ BS := BS_in (k := 377) (by decide +kernel) (by decide +kernel)
theorem mc_Wy_readTo : Cond.code y_Wy_readTo c_Wy_readTo 4 none ∈ BS := BS_in (k := 378) (by decide +kernel) (by decide +kernel)
theorem ml_Wy_19 : Cond.methodLink R_Wy 19 y_Wy_tailsInto ∈ BS := BS_in (k := 380) (by decide +kernel) (by decide +kernel)
theorem ms_Wy_tailsInto : Cond.static y_Wy_tailsInto ∈ BS := BS_in (k := 381) (by decide +kernel) (by decide +kernel)
theorem mc_Wy_tailsInto : Cond.code y_Wy_tailsInto c_Wy_tailsInto 4 (some .int) ∈ BS := BS_in (k := 382) (by decide +kernel) (by decide +kernel)
theorem ml_Wy_27 : Cond.methodLink R_Wy 27 y_Web_headsOf ∈ BS := BS_in (k := 383) (by decide +kernel) (by decide +kernel)
theorem ml_A_111 : Cond.methodLink R_A 111 y_Wy_lengthFrom ∈ BS := BS_in (k := 384) (by decide +kernel) (by decide +kernel)
theorem mi_Wy_lengthFrom : Cond.instanceMethod y_Wy_lengthFrom ∈ BS := BS_in (k := 385) (by decide +kernel) (by decide +kernel)
theorem me_Wy_lengthFrom : Cond.selects R_Wy y_Wy_lengthFrom y_Wy_lengthFrom ∈ BS := BS_in (k := 386) (by decide +kernel) (by decide +kernel)
theorem mc_Wy_lengthFrom : Cond.code y_Wy_lengthFrom c_Wy_lengthFrom 3 (some .int) ∈ BS := BS_in (k := 387) (by decide +kernel) (by decide +kernel)
theorem ml_L_103 : Cond.methodLink R_L 103 y_L_way ∈ BS := BS_in (k := 389) (by decide +kernel) (by decide +kernel)
theorem ms_L_way : Cond.static y_L_way ∈ BS := BS_in (k := 390) (by decide +kernel) (by decide +kernel)
theorem ml_L_42 : Cond.methodLink R_L 42 y_A_way ∈ BS := BS_in (k := 393) (by decide +kernel) (by decide +kernel)
theorem mi_A_way : Cond.instanceMethod y_A_way ∈ BS := BS_in (k := 394) (by decide +kernel) (by decide +kernel)
theorem me_A_way : Cond.selects R_A y_A_way y_A_way ∈ BS := BS_in (k := 395) (by decide +kernel) (by decide +kernel)
theorem mc_A_way : Cond.code y_A_way c_A_way 5 (some .int) ∈ BS := BS_in (k := 396) (by decide +kernel) (by decide +kernel)
theorem ml_A_121 : Cond.methodLink R_A 121 y_Wy_placeOnFirst ∈ BS := BS_in (k := 414) (by decide +kernel) (by decide +kernel)
theorem mi_Wy_placeOnFirst : Cond.instanceMethod y_Wy_placeOnFirst ∈ BS := BS_in (k := 415) (by decide +kernel) (by decide +kernel)
theorem me_Wy_placeOnFirst : Cond.selects R_Wy y_Wy_placeOnFirst y_Wy_placeOnFirst ∈ BS := BS_in (k := 416) (by decide +kernel) (by decide +kernel)
theorem mc_Wy_placeOnFirst : Cond.code y_Wy_placeOnFirst c_Wy_placeOnFirst 7 (some .int) ∈ BS := BS_in (k := 417) (by decide +kernel) (by decide +kernel)
theorem ml_Wy_32 : Cond.methodLink R_Wy 32 y_Wy_least ∈ BS := BS_in (k := 418) (by decide +kernel) (by decide +kernel)
theorem ms_Wy_least : Cond.static y_Wy_least ∈ BS := BS_in (k := 419) (by decide +kernel) (by decide +kernel)
theorem mc_Wy_least : Cond.code y_Wy_least c_Wy_least 2 (some .int) ∈ BS := BS_in (k := 420) (by decide +kernel) (by decide +kernel)
theorem ml_L_107 : Cond.methodLink R_L 107 y_L_gate ∈ BS := BS_in (k := 421) (by decide +kernel) (by decide +kernel)
theorem ms_L_gate : Cond.static y_L_gate ∈ BS := BS_in (k := 422) (by decide +kernel) (by decide +kernel)
theorem ml_L_48 : Cond.methodLink R_L 48 y_A_gate ∈ BS := BS_in (k := 424) (by decide +kernel) (by decide +kernel)
theorem mi_A_gate : Cond.instanceMethod y_A_gate ∈ BS := BS_in (k := 425) (by decide +kernel) (by decide +kernel)
theorem me_A_gate : Cond.selects R_A y_A_gate y_A_gate ∈ BS := BS_in (k := 426) (by decide +kernel) (by decide +kernel)
theorem mc_A_gate : Cond.code y_A_gate c_A_gate 3 (some .int) ∈ BS := BS_in (k := 427) (by decide +kernel) (by decide +kernel)
theorem ml_A_125 : Cond.methodLink R_A 125 y_A_lastBefore ∈ BS := BS_in (k := 428) (by decide +kernel) (by decide +kernel)
theorem mi_A_lastBefore : Cond.instanceMethod y_A_lastBefore ∈ BS := BS_in (k := 430) (by decide +kernel) (by decide +kernel)
theorem mc_A_lastBefore : Cond.code y_A_lastBefore c_A_lastBefore 5 (some .int) ∈ BS := BS_in (k := 431) (by decide +kernel) (by decide +kernel)
theorem ml_A_161 : Cond.methodLink R_A 161 y_A_needsAll ∈ BS := BS_in (k := 432) (by decide +kernel) (by decide +kernel)
theorem mi_A_needsAll : Cond.instanceMethod y_A_needsAll ∈ BS := BS_in (k := 434) (by decide +kernel) (by decide +kernel)
theorem mc_A_needsAll : Cond.code y_A_needsAll c_A_needsAll 5 (some .boolean) ∈ BS := BS_in (k := 435) (by decide +kernel) (by decide +kernel)
theorem ml_L_110 : Cond.methodLink R_L 110 y_L_gated ∈ BS := BS_in (k := 436) (by decide +kernel) (by decide +kernel)
theorem ms_L_gated : Cond.static y_L_gated ∈ BS := BS_in (k := 437) (by decide +kernel) (by decide +kernel)
theorem ml_L_51 : Cond.methodLink R_L 51 y_A_gated ∈ BS := BS_in (k := 439) (by decide +kernel) (by decide +kernel)
theorem mi_A_gated : Cond.instanceMethod y_A_gated ∈ BS := BS_in (k := 440) (by decide +kernel) (by decide +kernel)
theorem me_A_gated : Cond.selects R_A y_A_gated y_A_gated ∈ BS := BS_in (k := 441) (by decide +kernel) (by decide +kernel)
theorem mc_A_gated : Cond.code y_A_gated c_A_gated 5 (some .int) ∈ BS := BS_in (k := 442) (by decide +kernel) (by decide +kernel)
theorem ml_A_128 : Cond.methodLink R_A 128 y_In_bitCount ∈ BS := BS_in (k := 443) (by decide +kernel) (by decide +kernel)
theorem ms_In_bitCount : Cond.static y_In_bitCount ∈ BS := BS_in (k := 444) (by decide +kernel) (by decide +kernel)
theorem mc_In_bitCount : Cond.code y_In_bitCount c_In_bitCount 1 (some .int) ∈ BS := BS_in (k := 445) (by decide +kernel) (by decide +kernel)
theorem mk_In_265 : Cond.constant R_In 265 1431655765 ∈ BS := BS_in (k := 446) (by decide +kernel) (by decide +kernel)
theorem mk_In_266 : Cond.constant R_In 266 858993459 ∈ BS := BS_in (k := 447) (by decide +kernel) (by decide +kernel)
theorem mk_In_267 : Cond.constant R_In 267 252645135 ∈ BS := BS_in (k := 448) (by decide +kernel) (by decide +kernel)
theorem ml_L_113 : Cond.methodLink R_L 113 y_L_places ∈ BS := BS_in (k := 449) (by decide +kernel) (by decide +kernel)
theorem ms_L_places : Cond.static y_L_places ∈ BS := BS_in (k := 450) (by decide +kernel) (by decide +kernel)
theorem ml_L_54 : Cond.methodLink R_L 54 y_A_places ∈ BS := BS_in (k := 452) (by decide +kernel) (by decide +kernel)
theorem mi_A_places : Cond.instanceMethod y_A_places ∈ BS := BS_in (k := 453) (by decide +kernel) (by decide +kernel)
theorem me_A_places : Cond.selects R_A y_A_places y_A_places ∈ BS := BS_in (k := 454) (by decide +kernel) (by decide +kernel)
theorem mc_A_places : Cond.code y_A_places c_A_places 3 (some .int) ∈ BS := BS_in (k := 455) (by decide +kernel) (by decide +kernel)
theorem ml_A_133 : Cond.methodLink R_A 133 y_Fl_readPlaces ∈ BS := BS_in (k := 456) (by decide +kernel) (by decide +kernel)
theorem mi_Fl_readPlaces : Cond.instanceMethod y_Fl_readPlaces ∈ BS := BS_in (k := 457) (by decide +kernel) (by decide +kernel)
theorem me_Fl_readPlaces : Cond.selects R_Fl y_Fl_readPlaces y_Fl_readPlaces ∈ BS := BS_in (k := 458) (by decide +kernel) (by decide +kernel)
theorem mc_Fl_readPlaces : Cond.code y_Fl_readPlaces c_Fl_readPlaces 3 none ∈ BS := BS_in (k := 459) (by decide +kernel) (by decide +kernel)
theorem ml_Fl_30 : Cond.methodLink R_Fl 30 y_Fl_exitOf ∈ BS := BS_in (k := 460) (by decide +kernel) (by decide +kernel)
theorem ms_Fl_exitOf : Cond.static y_Fl_exitOf ∈ BS := BS_in (k := 461) (by decide +kernel) (by decide +kernel)
theorem mc_Fl_exitOf : Cond.code y_Fl_exitOf c_Fl_exitOf 1 (some .int) ∈ BS := BS_in (k := 462) (by decide +kernel) (by decide +kernel)
theorem ml_Fl_24 : Cond.methodLink R_Fl 24 y_Web_headsOf ∈ BS := BS_in (k := 464) (by decide +kernel) (by decide +kernel)
theorem ml_A_136 : Cond.methodLink R_A 136 y_Fl_exitOf ∈ BS := BS_in (k := 465) (by decide +kernel) (by decide +kernel)
theorem ml_A_139 : Cond.methodLink R_A 139 y_Fl_most ∈ BS := BS_in (k := 466) (by decide +kernel) (by decide +kernel)
theorem mi_Fl_most : Cond.instanceMethod y_Fl_most ∈ BS := BS_in (k := 467) (by decide +kernel) (by decide +kernel)
theorem me_Fl_most : Cond.selects R_Fl y_Fl_most y_Fl_most ∈ BS := BS_in (k := 468) (by decide +kernel) (by decide +kernel)
theorem mc_Fl_most : Cond.code y_Fl_most c_Fl_most 5 (some .int) ∈ BS := BS_in (k := 469) (by decide +kernel) (by decide +kernel)
theorem ml_Fl_36 : Cond.methodLink R_Fl 36 y_Ar_fill ∈ BS := BS_in (k := 470) (by decide +kernel) (by decide +kernel)
theorem ml_Fl_42 : Cond.methodLink R_Fl 42 y_Fl_findMore ∈ BS := BS_in (k := 471) (by decide +kernel) (by decide +kernel)
theorem mi_Fl_findMore : Cond.instanceMethod y_Fl_findMore ∈ BS := BS_in (k := 473) (by decide +kernel) (by decide +kernel)
theorem mc_Fl_findMore : Cond.code y_Fl_findMore c_Fl_findMore 9 (some .boolean) ∈ BS := BS_in (k := 474) (by decide +kernel) (by decide +kernel)
theorem ml_Fl_53 : Cond.methodLink R_Fl 53 y_Fl_markFrom ∈ BS := BS_in (k := 476) (by decide +kernel) (by decide +kernel)
theorem mi_Fl_markFrom : Cond.instanceMethod y_Fl_markFrom ∈ BS := BS_in (k := 478) (by decide +kernel) (by decide +kernel)
theorem mc_Fl_markFrom : Cond.code y_Fl_markFrom c_Fl_markFrom 4 none ∈ BS := BS_in (k := 479) (by decide +kernel) (by decide +kernel)
theorem ml_Fl_46 : Cond.methodLink R_Fl 46 y_Fl_pushOne ∈ BS := BS_in (k := 480) (by decide +kernel) (by decide +kernel)
theorem mi_Fl_pushOne : Cond.instanceMethod y_Fl_pushOne ∈ BS := BS_in (k := 482) (by decide +kernel) (by decide +kernel)
theorem mc_Fl_pushOne : Cond.code y_Fl_pushOne c_Fl_pushOne 6 none ∈ BS := BS_in (k := 483) (by decide +kernel) (by decide +kernel)
theorem ml_Fl_56 : Cond.methodLink R_Fl 56 y_Fl_pushOver ∈ BS := BS_in (k := 484) (by decide +kernel) (by decide +kernel)
theorem mi_Fl_pushOver : Cond.instanceMethod y_Fl_pushOver ∈ BS := BS_in (k := 486) (by decide +kernel) (by decide +kernel)
theorem mc_Fl_pushOver : Cond.code y_Fl_pushOver c_Fl_pushOver 3 none ∈ BS := BS_in (k := 487) (by decide +kernel) (by decide +kernel)
theorem ml_L_116 : Cond.methodLink R_L 116 y_L_arrows ∈ BS := BS_in (k := 488) (by decide +kernel) (by decide +kernel)
theorem ms_L_arrows : Cond.static y_L_arrows ∈ BS := BS_in (k := 489) (by decide +kernel) (by decide +kernel)
theorem ml_L_57 : Cond.methodLink R_L 57 y_A_arrows ∈ BS := BS_in (k := 491) (by decide +kernel) (by decide +kernel)
theorem mi_A_arrows : Cond.instanceMethod y_A_arrows ∈ BS := BS_in (k := 492) (by decide +kernel) (by decide +kernel)
theorem me_A_arrows : Cond.selects R_A y_A_arrows y_A_arrows ∈ BS := BS_in (k := 493) (by decide +kernel) (by decide +kernel)
theorem mc_A_arrows : Cond.code y_A_arrows c_A_arrows 3 (some .int) ∈ BS := BS_in (k := 494) (by decide +kernel) (by decide +kernel)
theorem ml_A_142 : Cond.methodLink R_A 142 y_Fl_readArrows ∈ BS := BS_in (k := 495) (by decide +kernel) (by decide +kernel)
theorem mi_Fl_readArrows : Cond.instanceMethod y_Fl_readArrows ∈ BS := BS_in (k := 496) (by decide +kernel) (by decide +kernel)
theorem me_Fl_readArrows : Cond.selects R_Fl y_Fl_readArrows y_Fl_readArrows ∈ BS := BS_in (k := 497) (by decide +kernel) (by decide +kernel)
theorem mc_Fl_readArrows : Cond.code y_Fl_readArrows c_Fl_readArrows 3 none ∈ BS := BS_in (k := 498) (by decide +kernel) (by decide +kernel)
theorem ml_L_119 : Cond.methodLink R_L 119 y_L_figure ∈ BS := BS_in (k := 499) (by decide +kernel) (by decide +kernel)
theorem ms_L_figure : Cond.static y_L_figure ∈ BS := BS_in (k := 500) (by decide +kernel) (by decide +kernel)
theorem ml_L_60 : Cond.methodLink R_L 60 y_A_figure ∈ BS := BS_in (k := 502) (by decide +kernel) (by decide +kernel)
theorem mi_A_figure : Cond.instanceMethod y_A_figure ∈ BS := BS_in (k := 503) (by decide +kernel) (by decide +kernel)
theorem me_A_figure : Cond.selects R_A y_A_figure y_A_figure ∈ BS := BS_in (k := 504) (by decide +kernel) (by decide +kernel)
theorem mc_A_figure : Cond.code y_A_figure c_A_figure 2 (some .int) ∈ BS := BS_in (k := 505) (by decide +kernel) (by decide +kernel)
theorem ml_A_147 : Cond.methodLink R_A 147 y_A_neededArrows ∈ BS := BS_in (k := 507) (by decide +kernel) (by decide +kernel)
theorem mi_A_neededArrows : Cond.instanceMethod y_A_neededArrows ∈ BS := BS_in (k := 509) (by decide +kernel) (by decide +kernel)
theorem mc_A_neededArrows : Cond.code y_A_neededArrows c_A_neededArrows 4 (some .int) ∈ BS := BS_in (k := 510) (by decide +kernel) (by decide +kernel)
theorem ml_A_165 : Cond.methodLink R_A 165 y_A_hasDetour ∈ BS := BS_in (k := 511) (by decide +kernel) (by decide +kernel)
theorem mi_A_hasDetour : Cond.instanceMethod y_A_hasDetour ∈ BS := BS_in (k := 513) (by decide +kernel) (by decide +kernel)
theorem mc_A_hasDetour : Cond.code y_A_hasDetour c_A_hasDetour 3 (some .boolean) ∈ BS := BS_in (k := 514) (by decide +kernel) (by decide +kernel)
theorem ml_A_168 : Cond.methodLink R_A 168 y_Web_headsOf ∈ BS := BS_in (k := 515) (by decide +kernel) (by decide +kernel)
theorem ml_A_150 : Cond.methodLink R_A 150 y_Gr_pairs ∈ BS := BS_in (k := 516) (by decide +kernel) (by decide +kernel)
theorem mi_Gr_pairs : Cond.instanceMethod y_Gr_pairs ∈ BS := BS_in (k := 517) (by decide +kernel) (by decide +kernel)
theorem me_Gr_pairs : Cond.selects R_Gr y_Gr_pairs y_Gr_pairs ∈ BS := BS_in (k := 518) (by decide +kernel) (by decide +kernel)
theorem mc_Gr_pairs : Cond.code y_Gr_pairs c_Gr_pairs 3 (some .int) ∈ BS := BS_in (k := 519) (by decide +kernel) (by decide +kernel)
theorem ml_Gr_47 : Cond.methodLink R_Gr 47 y_In_bitCount ∈ BS := BS_in (k := 520) (by decide +kernel) (by decide +kernel)
theorem ml_A_153 : Cond.methodLink R_A 153 y_Gr_pairsWithoutDetour ∈ BS := BS_in (k := 521) (by decide +kernel) (by decide +kernel)
theorem mi_Gr_pairsWithoutDetour : Cond.instanceMethod y_Gr_pairsWithoutDetour ∈ BS := BS_in (k := 522) (by decide +kernel) (by decide +kernel)
theorem me_Gr_pairsWithoutDetour : Cond.selects R_Gr y_Gr_pairsWithoutDetour y_Gr_pairsWithoutDetour ∈ BS := BS_in (k := 523) (by decide +kernel) (by decide +kernel)
theorem mc_Gr_pairsWithoutDetour : Cond.code y_Gr_pairsWithoutDetour c_Gr_pairsWithoutDetour 4 (some .int) ∈ BS := BS_in (k := 524) (by decide +kernel) (by decide +kernel)
theorem ml_Gr_60 : Cond.methodLink R_Gr 60 y_Gr_reachedFromOneOf ∈ BS := BS_in (k := 525) (by decide +kernel) (by decide +kernel)
theorem mi_Gr_reachedFromOneOf : Cond.instanceMethod y_Gr_reachedFromOneOf ∈ BS := BS_in (k := 527) (by decide +kernel) (by decide +kernel)
theorem mc_Gr_reachedFromOneOf : Cond.code y_Gr_reachedFromOneOf c_Gr_reachedFromOneOf 4 (some .boolean) ∈ BS := BS_in (k := 528) (by decide +kernel) (by decide +kernel)
theorem ml_A_156 : Cond.methodLink R_A 156 y_Gr_longestChain ∈ BS := BS_in (k := 529) (by decide +kernel) (by decide +kernel)
theorem mi_Gr_longestChain : Cond.instanceMethod y_Gr_longestChain ∈ BS := BS_in (k := 530) (by decide +kernel) (by decide +kernel)
theorem me_Gr_longestChain : Cond.selects R_Gr y_Gr_longestChain y_Gr_longestChain ∈ BS := BS_in (k := 531) (by decide +kernel) (by decide +kernel)
theorem mc_Gr_longestChain : Cond.code y_Gr_longestChain c_Gr_longestChain 4 (some .int) ∈ BS := BS_in (k := 532) (by decide +kernel) (by decide +kernel)
theorem ml_Gr_63 : Cond.methodLink R_Gr 63 y_Gr_longestOf ∈ BS := BS_in (k := 533) (by decide +kernel) (by decide +kernel)
theorem mi_Gr_longestOf : Cond.instanceMethod y_Gr_longestOf ∈ BS := BS_in (k := 535) (by decide +kernel) (by decide +kernel)
theorem mc_Gr_longestOf : Cond.code y_Gr_longestOf c_Gr_longestOf 4 (some .int) ∈ BS := BS_in (k := 536) (by decide +kernel) (by decide +kernel)
theorem ml_Gr_66 : Cond.methodLink R_Gr 66 y_Ma_max ∈ BS := BS_in (k := 537) (by decide +kernel) (by decide +kernel)
theorem ms_Ma_max : Cond.static y_Ma_max ∈ BS := BS_in (k := 538) (by decide +kernel) (by decide +kernel)
theorem mc_Ma_max : Cond.code y_Ma_max c_Ma_max 2 (some .int) ∈ BS := BS_in (k := 539) (by decide +kernel) (by decide +kernel)
theorem ml_L_66 : Cond.methodLink R_L 66 y_M_init ∈ BS := BS_in (k := 542) (by decide +kernel) (by decide +kernel)
theorem mi_M_init : Cond.instanceMethod y_M_init ∈ BS := BS_in (k := 543) (by decide +kernel) (by decide +kernel)
theorem mc_M_init : Cond.code y_M_init c_M_init 1 none ∈ BS := BS_in (k := 544) (by decide +kernel) (by decide +kernel)
theorem mf_M_31 : Cond.fieldLink R_M 31 "ArcAtlasModel" "code" "I" ∈ BS := BS_in (k := 546) (by decide +kernel) (by decide +kernel)
theorem mf_M_48 : Cond.fieldLink R_M 48 "ArcAtlasModel" "count" "I" ∈ BS := BS_in (k := 547) (by decide +kernel) (by decide +kernel)
theorem mf_M_7 : Cond.fieldLink R_M 7 "ArcAtlasModel" "out" "[I" ∈ BS := BS_in (k := 548) (by decide +kernel) (by decide +kernel)
theorem mf_M_58 : Cond.fieldLink R_M 58 "ArcAtlasModel" "groups" "I" ∈ BS := BS_in (k := 549) (by decide +kernel) (by decide +kernel)
theorem mf_M_13 : Cond.fieldLink R_M 13 "ArcAtlasModel" "order" "[I" ∈ BS := BS_in (k := 550) (by decide +kernel) (by decide +kernel)
theorem mf_M_16 : Cond.fieldLink R_M 16 "ArcAtlasModel" "group" "[I" ∈ BS := BS_in (k := 551) (by decide +kernel) (by decide +kernel)
theorem mf_M_19 : Cond.fieldLink R_M 19 "ArcAtlasModel" "far" "[I" ∈ BS := BS_in (k := 552) (by decide +kernel) (by decide +kernel)
theorem mf_M_22 : Cond.fieldLink R_M 22 "ArcAtlasModel" "arcs" "[I" ∈ BS := BS_in (k := 553) (by decide +kernel) (by decide +kernel)
theorem mf_M_25 : Cond.fieldLink R_M 25 "ArcAtlasModel" "used" "[I" ∈ BS := BS_in (k := 554) (by decide +kernel) (by decide +kernel)
theorem mf_M_28 : Cond.fieldLink R_M 28 "ArcAtlasModel" "from" "[I" ∈ BS := BS_in (k := 555) (by decide +kernel) (by decide +kernel)
theorem ml_L_73 : Cond.methodLink R_L 73 y_M_thrown ∈ BS := BS_in (k := 577) (by decide +kernel) (by decide +kernel)
theorem mi_M_thrown : Cond.instanceMethod y_M_thrown ∈ BS := BS_in (k := 578) (by decide +kernel) (by decide +kernel)
theorem me_M_thrown : Cond.selects R_M y_M_thrown y_M_thrown ∈ BS := BS_in (k := 579) (by decide +kernel) (by decide +kernel)
theorem mc_M_thrown : Cond.code y_M_thrown c_M_thrown 1 (some .int) ∈ BS := BS_in (k := 580) (by decide +kernel) (by decide +kernel)
theorem ml_L_72 : Cond.methodLink R_L 72 y_M_add ∈ BS := BS_in (k := 581) (by decide +kernel) (by decide +kernel)
theorem mi_M_add : Cond.instanceMethod y_M_add ∈ BS := BS_in (k := 582) (by decide +kernel) (by decide +kernel)
theorem me_M_add : Cond.selects R_M y_M_add y_M_add ∈ BS := BS_in (k := 583) (by decide +kernel) (by decide +kernel)
theorem mc_M_add : Cond.code y_M_add c_M_add 5 (some .boolean) ∈ BS := BS_in (k := 584) (by decide +kernel) (by decide +kernel)
theorem ml_M_44 : Cond.methodLink R_M 44 y_M_isPlace ∈ BS := BS_in (k := 585) (by decide +kernel) (by decide +kernel)
theorem ms_M_isPlace : Cond.static y_M_isPlace ∈ BS := BS_in (k := 586) (by decide +kernel) (by decide +kernel)
theorem mc_M_isPlace : Cond.code y_M_isPlace c_M_isPlace 1 (some .boolean) ∈ BS := BS_in (k := 587) (by decide +kernel) (by decide +kernel)
theorem ml_M_35 : Cond.methodLink R_M 35 y_M_has ∈ BS := BS_in (k := 588) (by decide +kernel) (by decide +kernel)
theorem ms_M_has : Cond.static y_M_has ∈ BS := BS_in (k := 589) (by decide +kernel) (by decide +kernel)
theorem mc_M_has : Cond.code y_M_has c_M_has 2 (some .boolean) ∈ BS := BS_in (k := 590) (by decide +kernel) (by decide +kernel)
theorem ml_L_79 : Cond.methodLink R_L 79 y_M_remove ∈ BS := BS_in (k := 591) (by decide +kernel) (by decide +kernel)
theorem mi_M_remove : Cond.instanceMethod y_M_remove ∈ BS := BS_in (k := 592) (by decide +kernel) (by decide +kernel)
theorem me_M_remove : Cond.selects R_M y_M_remove y_M_remove ∈ BS := BS_in (k := 593) (by decide +kernel) (by decide +kernel)
theorem mc_M_remove : Cond.code y_M_remove c_M_remove 3 (some .boolean) ∈ BS := BS_in (k := 594) (by decide +kernel) (by decide +kernel)
theorem ml_L_83 : Cond.methodLink R_L 83 y_M_clear ∈ BS := BS_in (k := 595) (by decide +kernel) (by decide +kernel)
theorem mi_M_clear : Cond.instanceMethod y_M_clear ∈ BS := BS_in (k := 596) (by decide +kernel) (by decide +kernel)
theorem me_M_clear : Cond.selects R_M y_M_clear y_M_clear ∈ BS := BS_in (k := 597) (by decide +kernel) (by decide +kernel)
theorem mc_M_clear : Cond.code y_M_clear c_M_clear 3 (some .int) ∈ BS := BS_in (k := 598) (by decide +kernel) (by decide +kernel)
theorem ml_L_87 : Cond.methodLink R_L 87 y_M_group ∈ BS := BS_in (k := 599) (by decide +kernel) (by decide +kernel)
theorem mi_M_group : Cond.instanceMethod y_M_group ∈ BS := BS_in (k := 600) (by decide +kernel) (by decide +kernel)
theorem me_M_group : Cond.selects R_M y_M_group y_M_group ∈ BS := BS_in (k := 601) (by decide +kernel) (by decide +kernel)
theorem mc_M_group : Cond.code y_M_group c_M_group 2 (some .int) ∈ BS := BS_in (k := 602) (by decide +kernel) (by decide +kernel)
theorem ml_M_67 : Cond.methodLink R_M 67 y_M_lacks ∈ BS := BS_in (k := 603) (by decide +kernel) (by decide +kernel)
theorem mi_M_lacks : Cond.instanceMethod y_M_lacks ∈ BS := BS_in (k := 605) (by decide +kernel) (by decide +kernel)
theorem mc_M_lacks : Cond.code y_M_lacks c_M_lacks 3 (some .boolean) ∈ BS := BS_in (k := 606) (by decide +kernel) (by decide +kernel)
theorem ml_M_55 : Cond.methodLink R_M 55 y_M_findGroups ∈ BS := BS_in (k := 607) (by decide +kernel) (by decide +kernel)
theorem mi_M_findGroups : Cond.instanceMethod y_M_findGroups ∈ BS := BS_in (k := 609) (by decide +kernel) (by decide +kernel)
theorem mc_M_findGroups : Cond.code y_M_findGroups c_M_findGroups 4 none ∈ BS := BS_in (k := 610) (by decide +kernel) (by decide +kernel)
theorem ml_M_51 : Cond.methodLink R_M 51 y_M_reach ∈ BS := BS_in (k := 611) (by decide +kernel) (by decide +kernel)
theorem mi_M_reach : Cond.instanceMethod y_M_reach ∈ BS := BS_in (k := 613) (by decide +kernel) (by decide +kernel)
theorem mc_M_reach : Cond.code y_M_reach c_M_reach 2 (some .int) ∈ BS := BS_in (k := 614) (by decide +kernel) (by decide +kernel)
theorem mk_M_39 : Cond.constant R_M 39 65535 ∈ BS := BS_in (k := 615) (by decide +kernel) (by decide +kernel)
theorem ml_M_40 : Cond.methodLink R_M 40 y_M_spread ∈ BS := BS_in (k := 616) (by decide +kernel) (by decide +kernel)
theorem mi_M_spread : Cond.instanceMethod y_M_spread ∈ BS := BS_in (k := 618) (by decide +kernel) (by decide +kernel)
theorem mc_M_spread : Cond.code y_M_spread c_M_spread 6 (some .int) ∈ BS := BS_in (k := 619) (by decide +kernel) (by decide +kernel)
theorem ml_M_61 : Cond.methodLink R_M 61 y_M_least ∈ BS := BS_in (k := 620) (by decide +kernel) (by decide +kernel)
theorem ms_M_least : Cond.static y_M_least ∈ BS := BS_in (k := 621) (by decide +kernel) (by decide +kernel)
theorem mc_M_least : Cond.code y_M_least c_M_least 2 (some .int) ∈ BS := BS_in (k := 622) (by decide +kernel) (by decide +kernel)
theorem ml_L_90 : Cond.methodLink R_L 90 y_M_members ∈ BS := BS_in (k := 623) (by decide +kernel) (by decide +kernel)
theorem mi_M_members : Cond.instanceMethod y_M_members ∈ BS := BS_in (k := 624) (by decide +kernel) (by decide +kernel)
theorem me_M_members : Cond.selects R_M y_M_members y_M_members ∈ BS := BS_in (k := 625) (by decide +kernel) (by decide +kernel)
theorem mc_M_members : Cond.code y_M_members c_M_members 2 (some .int) ∈ BS := BS_in (k := 626) (by decide +kernel) (by decide +kernel)
theorem ml_M_70 : Cond.methodLink R_M 70 y_M_size ∈ BS := BS_in (k := 627) (by decide +kernel) (by decide +kernel)
theorem ms_M_size : Cond.static y_M_size ∈ BS := BS_in (k := 628) (by decide +kernel) (by decide +kernel)
theorem mc_M_size : Cond.code y_M_size c_M_size 3 (some .int) ∈ BS := BS_in (k := 629) (by decide +kernel) (by decide +kernel)
theorem ml_L_93 : Cond.methodLink R_L 93 y_M_rank ∈ BS := BS_in (k := 630) (by decide +kernel) (by decide +kernel)
theorem mi_M_rank : Cond.instanceMethod y_M_rank ∈ BS := BS_in (k := 631) (by decide +kernel) (by decide +kernel)
theorem me_M_rank : Cond.selects R_M y_M_rank y_M_rank ∈ BS := BS_in (k := 632) (by decide +kernel) (by decide +kernel)
theorem mc_M_rank : Cond.code y_M_rank c_M_rank 3 (some .int) ∈ BS := BS_in (k := 633) (by decide +kernel) (by decide +kernel)
theorem ml_M_73 : Cond.methodLink R_M 73 y_M_findOrder ∈ BS := BS_in (k := 634) (by decide +kernel) (by decide +kernel)
theorem mi_M_findOrder : Cond.instanceMethod y_M_findOrder ∈ BS := BS_in (k := 636) (by decide +kernel) (by decide +kernel)
theorem mc_M_findOrder : Cond.code y_M_findOrder c_M_findOrder 5 none ∈ BS := BS_in (k := 637) (by decide +kernel) (by decide +kernel)
theorem ml_M_64 : Cond.methodLink R_M 64 y_M_ends ∈ BS := BS_in (k := 638) (by decide +kernel) (by decide +kernel)
theorem mi_M_ends : Cond.instanceMethod y_M_ends ∈ BS := BS_in (k := 640) (by decide +kernel) (by decide +kernel)
theorem mc_M_ends : Cond.code y_M_ends c_M_ends 4 (some .int) ∈ BS := BS_in (k := 641) (by decide +kernel) (by decide +kernel)
theorem ml_L_96 : Cond.methodLink R_L 96 y_M_ranked ∈ BS := BS_in (k := 642) (by decide +kernel) (by decide +kernel)
theorem mi_M_ranked : Cond.instanceMethod y_M_ranked ∈ BS := BS_in (k := 643) (by decide +kernel) (by decide +kernel)
theorem me_M_ranked : Cond.selects R_M y_M_ranked y_M_ranked ∈ BS := BS_in (k := 644) (by decide +kernel) (by decide +kernel)
theorem mc_M_ranked : Cond.code y_M_ranked c_M_ranked 2 (some .int) ∈ BS := BS_in (k := 645) (by decide +kernel) (by decide +kernel)
theorem ml_L_99 : Cond.methodLink R_L 99 y_M_reaches ∈ BS := BS_in (k := 646) (by decide +kernel) (by decide +kernel)
theorem mi_M_reaches : Cond.instanceMethod y_M_reaches ∈ BS := BS_in (k := 647) (by decide +kernel) (by decide +kernel)
theorem me_M_reaches : Cond.selects R_M y_M_reaches y_M_reaches ∈ BS := BS_in (k := 648) (by decide +kernel) (by decide +kernel)
theorem mc_M_reaches : Cond.code y_M_reaches c_M_reaches 3 (some .boolean) ∈ BS := BS_in (k := 649) (by decide +kernel) (by decide +kernel)
theorem ml_L_102 : Cond.methodLink R_L 102 y_M_distance ∈ BS := BS_in (k := 650) (by decide +kernel) (by decide +kernel)
theorem mi_M_distance : Cond.instanceMethod y_M_distance ∈ BS := BS_in (k := 651) (by decide +kernel) (by decide +kernel)
theorem me_M_distance : Cond.selects R_M y_M_distance y_M_distance ∈ BS := BS_in (k := 652) (by decide +kernel) (by decide +kernel)
theorem mc_M_distance : Cond.code y_M_distance c_M_distance 3 (some .int) ∈ BS := BS_in (k := 653) (by decide +kernel) (by decide +kernel)
theorem ml_M_76 : Cond.methodLink R_M 76 y_M_measure ∈ BS := BS_in (k := 654) (by decide +kernel) (by decide +kernel)
theorem mi_M_measure : Cond.instanceMethod y_M_measure ∈ BS := BS_in (k := 656) (by decide +kernel) (by decide +kernel)
theorem mc_M_measure : Cond.code y_M_measure c_M_measure 6 none ∈ BS := BS_in (k := 657) (by decide +kernel) (by decide +kernel)
theorem ml_L_106 : Cond.methodLink R_L 106 y_M_way ∈ BS := BS_in (k := 658) (by decide +kernel) (by decide +kernel)
theorem mi_M_way : Cond.instanceMethod y_M_way ∈ BS := BS_in (k := 659) (by decide +kernel) (by decide +kernel)
theorem me_M_way : Cond.selects R_M y_M_way y_M_way ∈ BS := BS_in (k := 660) (by decide +kernel) (by decide +kernel)
theorem mc_M_way : Cond.code y_M_way c_M_way 8 (some .int) ∈ BS := BS_in (k := 661) (by decide +kernel) (by decide +kernel)
theorem ml_L_109 : Cond.methodLink R_L 109 y_M_gate ∈ BS := BS_in (k := 662) (by decide +kernel) (by decide +kernel)
theorem mi_M_gate : Cond.instanceMethod y_M_gate ∈ BS := BS_in (k := 663) (by decide +kernel) (by decide +kernel)
theorem me_M_gate : Cond.selects R_M y_M_gate y_M_gate ∈ BS := BS_in (k := 664) (by decide +kernel) (by decide +kernel)
theorem mc_M_gate : Cond.code y_M_gate c_M_gate 7 (some .int) ∈ BS := BS_in (k := 665) (by decide +kernel) (by decide +kernel)
theorem ml_M_80 : Cond.methodLink R_M 80 y_M_dependent ∈ BS := BS_in (k := 666) (by decide +kernel) (by decide +kernel)
theorem mi_M_dependent : Cond.instanceMethod y_M_dependent ∈ BS := BS_in (k := 668) (by decide +kernel) (by decide +kernel)
theorem mc_M_dependent : Cond.code y_M_dependent c_M_dependent 4 (some .boolean) ∈ BS := BS_in (k := 669) (by decide +kernel) (by decide +kernel)
theorem ml_L_112 : Cond.methodLink R_L 112 y_M_gated ∈ BS := BS_in (k := 670) (by decide +kernel) (by decide +kernel)
theorem mi_M_gated : Cond.instanceMethod y_M_gated ∈ BS := BS_in (k := 671) (by decide +kernel) (by decide +kernel)
theorem me_M_gated : Cond.selects R_M y_M_gated y_M_gated ∈ BS := BS_in (k := 672) (by decide +kernel) (by decide +kernel)
theorem mc_M_gated : Cond.code y_M_gated c_M_gated 6 (some .int) ∈ BS := BS_in (k := 673) (by decide +kernel) (by decide +kernel)
theorem ml_L_115 : Cond.methodLink R_L 115 y_M_places ∈ BS := BS_in (k := 674) (by decide +kernel) (by decide +kernel)
theorem mi_M_places : Cond.instanceMethod y_M_places ∈ BS := BS_in (k := 675) (by decide +kernel) (by decide +kernel)
theorem me_M_places : Cond.selects R_M y_M_places y_M_places ∈ BS := BS_in (k := 676) (by decide +kernel) (by decide +kernel)
theorem mc_M_places : Cond.code y_M_places c_M_places 4 (some .int) ∈ BS := BS_in (k := 677) (by decide +kernel) (by decide +kernel)
theorem ml_M_90 : Cond.methodLink R_M 90 y_M_apart ∈ BS := BS_in (k := 678) (by decide +kernel) (by decide +kernel)
theorem mi_M_apart : Cond.instanceMethod y_M_apart ∈ BS := BS_in (k := 680) (by decide +kernel) (by decide +kernel)
theorem mc_M_apart : Cond.code y_M_apart c_M_apart 6 (some .int) ∈ BS := BS_in (k := 681) (by decide +kernel) (by decide +kernel)
theorem ml_M_87 : Cond.methodLink R_M 87 y_M_finds ∈ BS := BS_in (k := 682) (by decide +kernel) (by decide +kernel)
theorem mi_M_finds : Cond.instanceMethod y_M_finds ∈ BS := BS_in (k := 684) (by decide +kernel) (by decide +kernel)
theorem mc_M_finds : Cond.code y_M_finds c_M_finds 7 (some .boolean) ∈ BS := BS_in (k := 685) (by decide +kernel) (by decide +kernel)
theorem ml_M_84 : Cond.methodLink R_M 84 y_M_at ∈ BS := BS_in (k := 686) (by decide +kernel) (by decide +kernel)
theorem ms_M_at : Cond.static y_M_at ∈ BS := BS_in (k := 687) (by decide +kernel) (by decide +kernel)
theorem mc_M_at : Cond.code y_M_at c_M_at 2 (some .boolean) ∈ BS := BS_in (k := 688) (by decide +kernel) (by decide +kernel)
theorem ml_L_118 : Cond.methodLink R_L 118 y_M_arrows ∈ BS := BS_in (k := 689) (by decide +kernel) (by decide +kernel)
theorem mi_M_arrows : Cond.instanceMethod y_M_arrows ∈ BS := BS_in (k := 690) (by decide +kernel) (by decide +kernel)
theorem me_M_arrows : Cond.selects R_M y_M_arrows y_M_arrows ∈ BS := BS_in (k := 691) (by decide +kernel) (by decide +kernel)
theorem mc_M_arrows : Cond.code y_M_arrows c_M_arrows 4 (some .int) ∈ BS := BS_in (k := 692) (by decide +kernel) (by decide +kernel)
theorem ml_L_121 : Cond.methodLink R_L 121 y_M_figure ∈ BS := BS_in (k := 693) (by decide +kernel) (by decide +kernel)
theorem mi_M_figure : Cond.instanceMethod y_M_figure ∈ BS := BS_in (k := 694) (by decide +kernel) (by decide +kernel)
theorem me_M_figure : Cond.selects R_M y_M_figure y_M_figure ∈ BS := BS_in (k := 695) (by decide +kernel) (by decide +kernel)
theorem mc_M_figure : Cond.code y_M_figure c_M_figure 2 (some .int) ∈ BS := BS_in (k := 696) (by decide +kernel) (by decide +kernel)
theorem ml_M_99 : Cond.methodLink R_M 99 y_M_pairs ∈ BS := BS_in (k := 697) (by decide +kernel) (by decide +kernel)
theorem mi_M_pairs : Cond.instanceMethod y_M_pairs ∈ BS := BS_in (k := 699) (by decide +kernel) (by decide +kernel)
theorem mc_M_pairs : Cond.code y_M_pairs c_M_pairs 6 (some .int) ∈ BS := BS_in (k := 700) (by decide +kernel) (by decide +kernel)
theorem ml_M_93 : Cond.methodLink R_M 93 y_M_leads ∈ BS := BS_in (k := 701) (by decide +kernel) (by decide +kernel)
theorem mi_M_leads : Cond.instanceMethod y_M_leads ∈ BS := BS_in (k := 703) (by decide +kernel) (by decide +kernel)
theorem mc_M_leads : Cond.code y_M_leads c_M_leads 3 (some .boolean) ∈ BS := BS_in (k := 704) (by decide +kernel) (by decide +kernel)
theorem ml_M_96 : Cond.methodLink R_M 96 y_M_otherwise ∈ BS := BS_in (k := 705) (by decide +kernel) (by decide +kernel)
theorem mi_M_otherwise : Cond.instanceMethod y_M_otherwise ∈ BS := BS_in (k := 707) (by decide +kernel) (by decide +kernel)
theorem mc_M_otherwise : Cond.code y_M_otherwise c_M_otherwise 5 (some .boolean) ∈ BS := BS_in (k := 708) (by decide +kernel) (by decide +kernel)
theorem ml_M_103 : Cond.methodLink R_M 103 y_M_longest ∈ BS := BS_in (k := 709) (by decide +kernel) (by decide +kernel)
theorem mi_M_longest : Cond.instanceMethod y_M_longest ∈ BS := BS_in (k := 711) (by decide +kernel) (by decide +kernel)
theorem mc_M_longest : Cond.code y_M_longest c_M_longest 4 (some .int) ∈ BS := BS_in (k := 712) (by decide +kernel) (by decide +kernel)
theorem ml_M_107 : Cond.methodLink R_M 107 y_M_bridges ∈ BS := BS_in (k := 713) (by decide +kernel) (by decide +kernel)
theorem mi_M_bridges : Cond.instanceMethod y_M_bridges ∈ BS := BS_in (k := 715) (by decide +kernel) (by decide +kernel)
theorem mc_M_bridges : Cond.code y_M_bridges c_M_bridges 4 (some .int) ∈ BS := BS_in (k := 716) (by decide +kernel) (by decide +kernel)
theorem me_Gr_readReached : Cond.selects R_Gr y_Gr_readReached y_Gr_readReached ∈ BS := BS_sel (k := 1) (by decide +kernel) (by decide +kernel)
theorem me_Gr_readNames : Cond.selects R_Gr y_Gr_readNames y_Gr_readNames ∈ BS := BS_sel (k := 2) (by decide +kernel) (by decide +kernel)
theorem me_Gr_leastWith : Cond.selects R_Gr y_Gr_leastWith y_Gr_leastWith ∈ BS := BS_sel (k := 3) (by decide +kernel) (by decide +kernel)
theorem me_Gr_readLeads : Cond.selects R_Gr y_Gr_readLeads y_Gr_readLeads ∈ BS := BS_sel (k := 4) (by decide +kernel) (by decide +kernel)
theorem me_Gr_readOrder : Cond.selects R_Gr y_Gr_readOrder y_Gr_readOrder ∈ BS := BS_sel (k := 5) (by decide +kernel) (by decide +kernel)
theorem me_Gr_leastFree : Cond.selects R_Gr y_Gr_leastFree y_Gr_leastFree ∈ BS := BS_sel (k := 6) (by decide +kernel) (by decide +kernel)
theorem me_Web_headsOfAll : Cond.selects R_Web y_Web_headsOfAll y_Web_headsOfAll ∈ BS := BS_sel (k := 7) (by decide +kernel) (by decide +kernel)
theorem me_A_lastBefore : Cond.selects R_A y_A_lastBefore y_A_lastBefore ∈ BS := BS_sel (k := 8) (by decide +kernel) (by decide +kernel)
theorem me_A_needsAll : Cond.selects R_A y_A_needsAll y_A_needsAll ∈ BS := BS_sel (k := 9) (by decide +kernel) (by decide +kernel)
theorem me_Fl_findMore : Cond.selects R_Fl y_Fl_findMore y_Fl_findMore ∈ BS := BS_sel (k := 10) (by decide +kernel) (by decide +kernel)
theorem me_Fl_markFrom : Cond.selects R_Fl y_Fl_markFrom y_Fl_markFrom ∈ BS := BS_sel (k := 11) (by decide +kernel) (by decide +kernel)
theorem me_Fl_pushOne : Cond.selects R_Fl y_Fl_pushOne y_Fl_pushOne ∈ BS := BS_sel (k := 12) (by decide +kernel) (by decide +kernel)
theorem me_Fl_pushOver : Cond.selects R_Fl y_Fl_pushOver y_Fl_pushOver ∈ BS := BS_sel (k := 13) (by decide +kernel) (by decide +kernel)
theorem me_A_neededArrows : Cond.selects R_A y_A_neededArrows y_A_neededArrows ∈ BS := BS_sel (k := 14) (by decide +kernel) (by decide +kernel)
theorem me_A_hasDetour : Cond.selects R_A y_A_hasDetour y_A_hasDetour ∈ BS := BS_sel (k := 15) (by decide +kernel) (by decide +kernel)
theorem me_Gr_reachedFromOneOf : Cond.selects R_Gr y_Gr_reachedFromOneOf y_Gr_reachedFromOneOf ∈ BS := BS_sel (k := 16) (by decide +kernel) (by decide +kernel)
theorem me_Gr_longestOf : Cond.selects R_Gr y_Gr_longestOf y_Gr_longestOf ∈ BS := BS_sel (k := 17) (by decide +kernel) (by decide +kernel)
theorem me_M_lacks : Cond.selects R_M y_M_lacks y_M_lacks ∈ BS := BS_sel (k := 18) (by decide +kernel) (by decide +kernel)
theorem me_M_findGroups : Cond.selects R_M y_M_findGroups y_M_findGroups ∈ BS := BS_sel (k := 19) (by decide +kernel) (by decide +kernel)
theorem me_M_reach : Cond.selects R_M y_M_reach y_M_reach ∈ BS := BS_sel (k := 20) (by decide +kernel) (by decide +kernel)
theorem me_M_spread : Cond.selects R_M y_M_spread y_M_spread ∈ BS := BS_sel (k := 21) (by decide +kernel) (by decide +kernel)
theorem me_M_findOrder : Cond.selects R_M y_M_findOrder y_M_findOrder ∈ BS := BS_sel (k := 22) (by decide +kernel) (by decide +kernel)
theorem me_M_ends : Cond.selects R_M y_M_ends y_M_ends ∈ BS := BS_sel (k := 23) (by decide +kernel) (by decide +kernel)
theorem me_M_measure : Cond.selects R_M y_M_measure y_M_measure ∈ BS := BS_sel (k := 24) (by decide +kernel) (by decide +kernel)
theorem me_M_dependent : Cond.selects R_M y_M_dependent y_M_dependent ∈ BS := BS_sel (k := 25) (by decide +kernel) (by decide +kernel)
theorem me_M_apart : Cond.selects R_M y_M_apart y_M_apart ∈ BS := BS_sel (k := 26) (by decide +kernel) (by decide +kernel)
theorem me_M_finds : Cond.selects R_M y_M_finds y_M_finds ∈ BS := BS_sel (k := 27) (by decide +kernel) (by decide +kernel)
theorem me_M_pairs : Cond.selects R_M y_M_pairs y_M_pairs ∈ BS := BS_sel (k := 28) (by decide +kernel) (by decide +kernel)
theorem me_M_leads : Cond.selects R_M y_M_leads y_M_leads ∈ BS := BS_sel (k := 29) (by decide +kernel) (by decide +kernel)
theorem me_M_otherwise : Cond.selects R_M y_M_otherwise y_M_otherwise ∈ BS := BS_sel (k := 30) (by decide +kernel) (by decide +kernel)
theorem me_M_longest : Cond.selects R_M y_M_longest y_M_longest ∈ BS := BS_sel (k := 31) (by decide +kernel) (by decide +kernel)
theorem me_M_bridges : Cond.selects R_M y_M_bridges y_M_bridges ∈ BS := BS_sel (k := 32) (by decide +kernel) (by decide +kernel)
def xn (U : State) : Prop := va_Nw (Cond.methodLinkNest R_Web 19 y_A_has "ArcAtlas") U ∧ va_Nw (Cond.methodLinkNest R_Web 23 y_A_only "ArcAtlas") U ∧ va_Nw (Cond.methodLinkNest R_Gr 57 y_A_only "ArcAtlas") U ∧ va_Nw (Cond.methodLinkNest R_Gr 53 y_A_has "ArcAtlas") U ∧ va_Nw (Cond.methodLinkNest R_Wy 15 y_A_only "ArcAtlas") U ∧ va_Nw (Cond.methodLinkNest R_Wy 23 y_A_has "ArcAtlas") U ∧ va_Nw (Cond.methodLinkNest R_Fl 33 y_A_only "ArcAtlas") U ∧ va_Nw (Cond.methodLinkNest R_Fl 50 y_A_has "ArcAtlas") U
theorem xn_Web_19 {U : State} (h : xn U) : va_Nw (Cond.methodLinkNest R_Web 19 y_A_has "ArcAtlas") U := h.1
theorem xn_Web_23 {U : State} (h : xn U) : va_Nw (Cond.methodLinkNest R_Web 23 y_A_only "ArcAtlas") U := h.2.1
theorem xn_Gr_57 {U : State} (h : xn U) : va_Nw (Cond.methodLinkNest R_Gr 57 y_A_only "ArcAtlas") U := h.2.2.1
theorem xn_Gr_53 {U : State} (h : xn U) : va_Nw (Cond.methodLinkNest R_Gr 53 y_A_has "ArcAtlas") U := h.2.2.2.1
theorem xn_Wy_15 {U : State} (h : xn U) : va_Nw (Cond.methodLinkNest R_Wy 15 y_A_only "ArcAtlas") U := h.2.2.2.2.1
theorem xn_Wy_23 {U : State} (h : xn U) : va_Nw (Cond.methodLinkNest R_Wy 23 y_A_has "ArcAtlas") U := h.2.2.2.2.2.1
theorem xn_Fl_33 {U : State} (h : xn U) : va_Nw (Cond.methodLinkNest R_Fl 33 y_A_only "ArcAtlas") U := h.2.2.2.2.2.2.1
theorem xn_Fl_50 {U : State} (h : xn U) : va_Nw (Cond.methodLinkNest R_Fl 50 y_A_has "ArcAtlas") U := h.2.2.2.2.2.2.2
theorem xn_moved {s U : State} (hW : s.WarmedH U.vm) (h : xn s) : xn U := ⟨va_Nw.warmM hW h.1, va_Nw.warmM hW h.2.1, va_Nw.warmM hW h.2.2.1, va_Nw.warmM hW h.2.2.2.1, va_Nw.warmM hW h.2.2.2.2.1, va_Nw.warmM hW h.2.2.2.2.2.1, va_Nw.warmM hW h.2.2.2.2.2.2.1, va_Nw.warmM hW h.2.2.2.2.2.2.2⟩
theorem xn_same {s U : State} (hv : s.vm = U.vm) (h : xn s) : xn U := ⟨va_Nw.same rfl hv h.1, va_Nw.same rfl hv h.2.1, va_Nw.same rfl hv h.2.2.1, va_Nw.same rfl hv h.2.2.2.1, va_Nw.same rfl hv h.2.2.2.2.1, va_Nw.same rfl hv h.2.2.2.2.2.1, va_Nw.same rfl hv h.2.2.2.2.2.2.1, va_Nw.same rfl hv h.2.2.2.2.2.2.2⟩
theorem xn_of {args : Array Value} {s : State} (hts : ∀ w ∈ tables_1, w.before args s = true) : xn s := ⟨va_Nw.of rfl (hts (Cond.methodLinkNest R_Web 19 y_A_has "ArcAtlas") (List.mem_of_getElem? (i := 213) (by decide +kernel))), va_Nw.of rfl (hts (Cond.methodLinkNest R_Web 23 y_A_only "ArcAtlas") (List.mem_of_getElem? (i := 236) (by decide +kernel))), va_Nw.of rfl (hts (Cond.methodLinkNest R_Gr 57 y_A_only "ArcAtlas") (List.mem_of_getElem? (i := 265) (by decide +kernel))), va_Nw.of rfl (hts (Cond.methodLinkNest R_Gr 53 y_A_has "ArcAtlas") (List.mem_of_getElem? (i := 270) (by decide +kernel))), va_Nw.of rfl (hts (Cond.methodLinkNest R_Wy 15 y_A_only "ArcAtlas") (List.mem_of_getElem? (i := 379) (by decide +kernel))), va_Nw.of rfl (hts (Cond.methodLinkNest R_Wy 23 y_A_has "ArcAtlas") (List.mem_of_getElem? (i := 388) (by decide +kernel))), va_Nw.of rfl (hts (Cond.methodLinkNest R_Fl 33 y_A_only "ArcAtlas") (List.mem_of_getElem? (i := 463) (by decide +kernel))), va_Nw.of rfl (hts (Cond.methodLinkNest R_Fl 50 y_A_has "ArcAtlas") (List.mem_of_getElem? (i := 475) (by decide +kernel)))⟩
end
section
theorem d_M_init_0 : decode c_M_init 0 = .ok (.aload_n 0, 1) := by decide +kernel
theorem d_M_init_1 : decode c_M_init 1 = .ok (.invokespecial 1, 3) := by decide +kernel
theorem d_M_init_4 : decode c_M_init 4 = .ok (.aload_n 0, 1) := by decide +kernel
theorem d_M_init_5 : decode c_M_init 5 = .ok (.bipush 16, 2) := by decide +kernel
theorem d_M_init_7 : decode c_M_init 7 = .ok (.newarray .int, 2) := by decide +kernel
theorem d_M_init_9 : decode c_M_init 9 = .ok (.putfield 7, 3) := by decide +kernel
theorem d_M_init_12 : decode c_M_init 12 = .ok (.aload_n 0, 1) := by decide +kernel
theorem d_M_init_13 : decode c_M_init 13 = .ok (.bipush 16, 2) := by decide +kernel
theorem d_M_init_15 : decode c_M_init 15 = .ok (.newarray .int, 2) := by decide +kernel
theorem d_M_init_17 : decode c_M_init 17 = .ok (.putfield 13, 3) := by decide +kernel
theorem d_M_init_20 : decode c_M_init 20 = .ok (.aload_n 0, 1) := by decide +kernel
theorem d_M_init_21 : decode c_M_init 21 = .ok (.bipush 16, 2) := by decide +kernel
theorem d_M_init_23 : decode c_M_init 23 = .ok (.newarray .int, 2) := by decide +kernel
theorem d_M_init_25 : decode c_M_init 25 = .ok (.putfield 16, 3) := by decide +kernel
theorem d_M_init_28 : decode c_M_init 28 = .ok (.aload_n 0, 1) := by decide +kernel
theorem d_M_init_29 : decode c_M_init 29 = .ok (.bipush 16, 2) := by decide +kernel
theorem d_M_init_31 : decode c_M_init 31 = .ok (.newarray .int, 2) := by decide +kernel
theorem d_M_init_33 : decode c_M_init 33 = .ok (.putfield 19, 3) := by decide +kernel
theorem d_M_init_36 : decode c_M_init 36 = .ok (.aload_n 0, 1) := by decide +kernel
theorem d_M_init_37 : decode c_M_init 37 = .ok (.bipush 32, 2) := by decide +kernel
theorem d_M_init_39 : decode c_M_init 39 = .ok (.newarray .int, 2) := by decide +kernel
theorem d_M_init_41 : decode c_M_init 41 = .ok (.putfield 22, 3) := by decide +kernel
theorem d_M_init_44 : decode c_M_init 44 = .ok (.aload_n 0, 1) := by decide +kernel
theorem d_M_init_45 : decode c_M_init 45 = .ok (.bipush 32, 2) := by decide +kernel
theorem d_M_init_47 : decode c_M_init 47 = .ok (.newarray .int, 2) := by decide +kernel
theorem d_M_init_49 : decode c_M_init 49 = .ok (.putfield 25, 3) := by decide +kernel
theorem d_M_init_52 : decode c_M_init 52 = .ok (.aload_n 0, 1) := by decide +kernel
theorem d_M_init_53 : decode c_M_init 53 = .ok (.bipush 32, 2) := by decide +kernel
theorem d_M_init_55 : decode c_M_init 55 = .ok (.newarray .int, 2) := by decide +kernel
theorem d_M_init_57 : decode c_M_init 57 = .ok (.putfield 28, 3) := by decide +kernel
theorem d_M_init_60 : decode c_M_init 60 = .ok (.return_, 1) := by decide +kernel
theorem d_M_thrown_0 : decode c_M_thrown 0 = .ok (.aload_n 0, 1) := by decide +kernel
theorem d_M_thrown_1 : decode c_M_thrown 1 = .ok (.getfield 31, 3) := by decide +kernel
theorem d_M_thrown_4 : decode c_M_thrown 4 = .ok (.ireturn, 1) := by decide +kernel
theorem d_M_add_0 : decode c_M_add 0 = .ok (.iload_n 1, 1) := by decide +kernel
theorem d_M_add_1 : decode c_M_add 1 = .ok (.invokestatic 44, 3) := by decide +kernel
theorem d_M_add_4 : decode c_M_add 4 = .ok (.ifCond .eq 19, 3) := by decide +kernel
theorem d_M_add_7 : decode c_M_add 7 = .ok (.iload_n 2, 1) := by decide +kernel
theorem d_M_add_8 : decode c_M_add 8 = .ok (.invokestatic 44, 3) := by decide +kernel
theorem d_M_add_11 : decode c_M_add 11 = .ok (.ifCond .eq 12, 3) := by decide +kernel
theorem d_M_add_14 : decode c_M_add 14 = .ok (.iload_n 1, 1) := by decide +kernel
theorem d_M_add_15 : decode c_M_add 15 = .ok (.iload_n 2, 1) := by decide +kernel
theorem d_M_add_16 : decode c_M_add 16 = .ok (.if_icmp .eq 7, 3) := by decide +kernel
theorem d_M_add_19 : decode c_M_add 19 = .ok (.iconst 1, 1) := by decide +kernel
theorem d_M_add_20 : decode c_M_add 20 = .ok (.goto 4, 3) := by decide +kernel
theorem d_M_add_23 : decode c_M_add 23 = .ok (.iconst 0, 1) := by decide +kernel
theorem d_M_add_24 : decode c_M_add 24 = .ok (.istore_n 3, 1) := by decide +kernel
theorem d_M_add_25 : decode c_M_add 25 = .ok (.iload_n 3, 1) := by decide +kernel
theorem d_M_add_26 : decode c_M_add 26 = .ok (.ifCond .eq 20, 3) := by decide +kernel
theorem d_M_add_29 : decode c_M_add 29 = .ok (.aload_n 0, 1) := by decide +kernel
theorem d_M_add_30 : decode c_M_add 30 = .ok (.getfield 7, 3) := by decide +kernel
theorem d_M_add_33 : decode c_M_add 33 = .ok (.iload_n 1, 1) := by decide +kernel
theorem d_M_add_34 : decode c_M_add 34 = .ok (.iaload, 1) := by decide +kernel
theorem d_M_add_35 : decode c_M_add 35 = .ok (.iload_n 2, 1) := by decide +kernel
theorem d_M_add_36 : decode c_M_add 36 = .ok (.invokestatic 35, 3) := by decide +kernel
theorem d_M_add_39 : decode c_M_add 39 = .ok (.ifCond .eq 7, 3) := by decide +kernel
theorem d_M_add_42 : decode c_M_add 42 = .ok (.iconst 1, 1) := by decide +kernel
theorem d_M_add_43 : decode c_M_add 43 = .ok (.goto 4, 3) := by decide +kernel
theorem d_M_add_46 : decode c_M_add 46 = .ok (.iconst 0, 1) := by decide +kernel
theorem d_M_add_47 : decode c_M_add 47 = .ok (.istore 4, 2) := by decide +kernel
theorem d_M_add_49 : decode c_M_add 49 = .ok (.aload_n 0, 1) := by decide +kernel
theorem d_M_add_50 : decode c_M_add 50 = .ok (.iload_n 3, 1) := by decide +kernel
theorem d_M_add_51 : decode c_M_add 51 = .ok (.ifCond .ne 7, 3) := by decide +kernel
theorem d_M_add_54 : decode c_M_add 54 = .ok (.iconst 1, 1) := by decide +kernel
theorem d_M_add_55 : decode c_M_add 55 = .ok (.goto 22, 3) := by decide +kernel
theorem d_M_add_58 : decode c_M_add 58 = .ok (.iload 4, 2) := by decide +kernel
theorem d_M_add_60 : decode c_M_add 60 = .ok (.ifCond .ne 16, 3) := by decide +kernel
theorem d_M_add_63 : decode c_M_add 63 = .ok (.aload_n 0, 1) := by decide +kernel
theorem d_M_add_64 : decode c_M_add 64 = .ok (.getfield 48, 3) := by decide +kernel
theorem d_M_add_67 : decode c_M_add 67 = .ok (.bipush 80, 2) := by decide +kernel
theorem d_M_add_69 : decode c_M_add 69 = .ok (.if_icmp .ne 7, 3) := by decide +kernel
theorem d_M_add_72 : decode c_M_add 72 = .ok (.iconst 2, 1) := by decide +kernel
theorem d_M_add_73 : decode c_M_add 73 = .ok (.goto 4, 3) := by decide +kernel
theorem d_M_add_76 : decode c_M_add 76 = .ok (.iconst 0, 1) := by decide +kernel
theorem d_M_add_77 : decode c_M_add 77 = .ok (.putfield 31, 3) := by decide +kernel
theorem d_M_add_80 : decode c_M_add 80 = .ok (.aload_n 0, 1) := by decide +kernel
theorem d_M_add_81 : decode c_M_add 81 = .ok (.getfield 31, 3) := by decide +kernel
theorem d_M_add_84 : decode c_M_add 84 = .ok (.ifCond .gt 8, 3) := by decide +kernel
theorem d_M_add_87 : decode c_M_add 87 = .ok (.iload 4, 2) := by decide +kernel
theorem d_M_add_89 : decode c_M_add 89 = .ok (.ifCond .eq 5, 3) := by decide +kernel
theorem d_M_add_92 : decode c_M_add 92 = .ok (.iconst 0, 1) := by decide +kernel
theorem d_M_add_93 : decode c_M_add 93 = .ok (.ireturn, 1) := by decide +kernel
theorem d_M_add_94 : decode c_M_add 94 = .ok (.aload_n 0, 1) := by decide +kernel
theorem d_M_add_95 : decode c_M_add 95 = .ok (.getfield 7, 3) := by decide +kernel
theorem d_M_add_98 : decode c_M_add 98 = .ok (.iload_n 1, 1) := by decide +kernel
theorem d_M_add_99 : decode c_M_add 99 = .ok (.dup2, 1) := by decide +kernel
theorem d_M_add_100 : decode c_M_add 100 = .ok (.iaload, 1) := by decide +kernel
theorem d_M_add_101 : decode c_M_add 101 = .ok (.iconst 1, 1) := by decide +kernel
theorem d_M_add_102 : decode c_M_add 102 = .ok (.iload_n 2, 1) := by decide +kernel
theorem d_M_add_103 : decode c_M_add 103 = .ok (.ishl, 1) := by decide +kernel
theorem d_M_add_104 : decode c_M_add 104 = .ok (.ior, 1) := by decide +kernel
theorem d_M_add_105 : decode c_M_add 105 = .ok (.iastore, 1) := by decide +kernel
theorem d_M_add_106 : decode c_M_add 106 = .ok (.aload_n 0, 1) := by decide +kernel
theorem d_M_add_107 : decode c_M_add 107 = .ok (.dup, 1) := by decide +kernel
theorem d_M_add_108 : decode c_M_add 108 = .ok (.getfield 48, 3) := by decide +kernel
theorem d_M_add_111 : decode c_M_add 111 = .ok (.iconst 1, 1) := by decide +kernel
theorem d_M_add_112 : decode c_M_add 112 = .ok (.iadd, 1) := by decide +kernel
theorem d_M_add_113 : decode c_M_add 113 = .ok (.putfield 48, 3) := by decide +kernel
theorem d_M_add_116 : decode c_M_add 116 = .ok (.iconst 1, 1) := by decide +kernel
theorem d_M_add_117 : decode c_M_add 117 = .ok (.ireturn, 1) := by decide +kernel
theorem d_M_isPlace_0 : decode c_M_isPlace 0 = .ok (.iload_n 0, 1) := by decide +kernel
theorem d_M_isPlace_1 : decode c_M_isPlace 1 = .ok (.ifCond .lt 13, 3) := by decide +kernel
theorem d_M_isPlace_4 : decode c_M_isPlace 4 = .ok (.iload_n 0, 1) := by decide +kernel
theorem d_M_isPlace_5 : decode c_M_isPlace 5 = .ok (.bipush 15, 2) := by decide +kernel
theorem d_M_isPlace_7 : decode c_M_isPlace 7 = .ok (.if_icmp .gt 7, 3) := by decide +kernel
theorem d_M_isPlace_10 : decode c_M_isPlace 10 = .ok (.iconst 1, 1) := by decide +kernel
theorem d_M_isPlace_11 : decode c_M_isPlace 11 = .ok (.goto 4, 3) := by decide +kernel
theorem d_M_isPlace_14 : decode c_M_isPlace 14 = .ok (.iconst 0, 1) := by decide +kernel
theorem d_M_isPlace_15 : decode c_M_isPlace 15 = .ok (.ireturn, 1) := by decide +kernel
theorem d_M_has_0 : decode c_M_has 0 = .ok (.iload_n 0, 1) := by decide +kernel
theorem d_M_has_1 : decode c_M_has 1 = .ok (.iload_n 1, 1) := by decide +kernel
theorem d_M_has_2 : decode c_M_has 2 = .ok (.ishr, 1) := by decide +kernel
theorem d_M_has_3 : decode c_M_has 3 = .ok (.iconst 1, 1) := by decide +kernel
theorem d_M_has_4 : decode c_M_has 4 = .ok (.iand, 1) := by decide +kernel
theorem d_M_has_5 : decode c_M_has 5 = .ok (.iconst 1, 1) := by decide +kernel
theorem d_M_has_6 : decode c_M_has 6 = .ok (.if_icmp .ne 7, 3) := by decide +kernel
theorem d_M_has_9 : decode c_M_has 9 = .ok (.iconst 1, 1) := by decide +kernel
theorem d_M_has_10 : decode c_M_has 10 = .ok (.goto 4, 3) := by decide +kernel
theorem d_M_has_13 : decode c_M_has 13 = .ok (.iconst 0, 1) := by decide +kernel
theorem d_M_has_14 : decode c_M_has 14 = .ok (.ireturn, 1) := by decide +kernel
theorem d_M_remove_0 : decode c_M_remove 0 = .ok (.aload_n 0, 1) := by decide +kernel
theorem d_M_remove_1 : decode c_M_remove 1 = .ok (.iload_n 1, 1) := by decide +kernel
theorem d_M_remove_2 : decode c_M_remove 2 = .ok (.invokestatic 44, 3) := by decide +kernel
theorem d_M_remove_5 : decode c_M_remove 5 = .ok (.ifCond .eq 14, 3) := by decide +kernel
theorem d_M_remove_8 : decode c_M_remove 8 = .ok (.iload_n 2, 1) := by decide +kernel
theorem d_M_remove_9 : decode c_M_remove 9 = .ok (.invokestatic 44, 3) := by decide +kernel
theorem d_M_remove_12 : decode c_M_remove 12 = .ok (.ifCond .eq 7, 3) := by decide +kernel
theorem d_M_remove_15 : decode c_M_remove 15 = .ok (.iconst 0, 1) := by decide +kernel
theorem d_M_remove_16 : decode c_M_remove 16 = .ok (.goto 4, 3) := by decide +kernel
theorem d_M_remove_19 : decode c_M_remove 19 = .ok (.iconst 1, 1) := by decide +kernel
theorem d_M_remove_20 : decode c_M_remove 20 = .ok (.putfield 31, 3) := by decide +kernel
theorem d_M_remove_23 : decode c_M_remove 23 = .ok (.aload_n 0, 1) := by decide +kernel
theorem d_M_remove_24 : decode c_M_remove 24 = .ok (.getfield 31, 3) := by decide +kernel
theorem d_M_remove_27 : decode c_M_remove 27 = .ok (.ifCond .gt 16, 3) := by decide +kernel
theorem d_M_remove_30 : decode c_M_remove 30 = .ok (.aload_n 0, 1) := by decide +kernel
theorem d_M_remove_31 : decode c_M_remove 31 = .ok (.getfield 7, 3) := by decide +kernel
theorem d_M_remove_34 : decode c_M_remove 34 = .ok (.iload_n 1, 1) := by decide +kernel
theorem d_M_remove_35 : decode c_M_remove 35 = .ok (.iaload, 1) := by decide +kernel
theorem d_M_remove_36 : decode c_M_remove 36 = .ok (.iload_n 2, 1) := by decide +kernel
theorem d_M_remove_37 : decode c_M_remove 37 = .ok (.invokestatic 35, 3) := by decide +kernel
theorem d_M_remove_40 : decode c_M_remove 40 = .ok (.ifCond .ne 5, 3) := by decide +kernel
theorem d_M_remove_43 : decode c_M_remove 43 = .ok (.iconst 0, 1) := by decide +kernel
theorem d_M_remove_44 : decode c_M_remove 44 = .ok (.ireturn, 1) := by decide +kernel
theorem d_M_remove_45 : decode c_M_remove 45 = .ok (.aload_n 0, 1) := by decide +kernel
theorem d_M_remove_46 : decode c_M_remove 46 = .ok (.getfield 7, 3) := by decide +kernel
theorem d_M_remove_49 : decode c_M_remove 49 = .ok (.iload_n 1, 1) := by decide +kernel
theorem d_M_remove_50 : decode c_M_remove 50 = .ok (.dup2, 1) := by decide +kernel
theorem d_M_remove_51 : decode c_M_remove 51 = .ok (.iaload, 1) := by decide +kernel
theorem d_M_remove_52 : decode c_M_remove 52 = .ok (.iconst 1, 1) := by decide +kernel
theorem d_M_remove_53 : decode c_M_remove 53 = .ok (.iload_n 2, 1) := by decide +kernel
theorem d_M_remove_54 : decode c_M_remove 54 = .ok (.ishl, 1) := by decide +kernel
theorem d_M_remove_55 : decode c_M_remove 55 = .ok (.iconst (-1), 1) := by decide +kernel
theorem d_M_remove_56 : decode c_M_remove 56 = .ok (.ixor, 1) := by decide +kernel
theorem d_M_remove_57 : decode c_M_remove 57 = .ok (.iand, 1) := by decide +kernel
theorem d_M_remove_58 : decode c_M_remove 58 = .ok (.iastore, 1) := by decide +kernel
theorem d_M_remove_59 : decode c_M_remove 59 = .ok (.aload_n 0, 1) := by decide +kernel
theorem d_M_remove_60 : decode c_M_remove 60 = .ok (.dup, 1) := by decide +kernel
theorem d_M_remove_61 : decode c_M_remove 61 = .ok (.getfield 48, 3) := by decide +kernel
theorem d_M_remove_64 : decode c_M_remove 64 = .ok (.iconst 1, 1) := by decide +kernel
theorem d_M_remove_65 : decode c_M_remove 65 = .ok (.isub, 1) := by decide +kernel
theorem d_M_remove_66 : decode c_M_remove 66 = .ok (.putfield 48, 3) := by decide +kernel
theorem d_M_remove_69 : decode c_M_remove 69 = .ok (.iconst 1, 1) := by decide +kernel
theorem d_M_remove_70 : decode c_M_remove 70 = .ok (.ireturn, 1) := by decide +kernel
theorem d_M_clear_0 : decode c_M_clear 0 = .ok (.aload_n 0, 1) := by decide +kernel
theorem d_M_clear_1 : decode c_M_clear 1 = .ok (.iconst 0, 1) := by decide +kernel
theorem d_M_clear_2 : decode c_M_clear 2 = .ok (.putfield 31, 3) := by decide +kernel
theorem d_M_clear_5 : decode c_M_clear 5 = .ok (.aload_n 0, 1) := by decide +kernel
theorem d_M_clear_6 : decode c_M_clear 6 = .ok (.getfield 48, 3) := by decide +kernel
theorem d_M_clear_9 : decode c_M_clear 9 = .ok (.istore_n 1, 1) := by decide +kernel
theorem d_M_clear_10 : decode c_M_clear 10 = .ok (.iconst 0, 1) := by decide +kernel
theorem d_M_clear_11 : decode c_M_clear 11 = .ok (.istore_n 2, 1) := by decide +kernel
theorem d_M_clear_12 : decode c_M_clear 12 = .ok (.iload_n 2, 1) := by decide +kernel
theorem d_M_clear_13 : decode c_M_clear 13 = .ok (.bipush 16, 2) := by decide +kernel
theorem d_M_clear_15 : decode c_M_clear 15 = .ok (.if_icmp .ge 16, 3) := by decide +kernel
theorem d_M_clear_18 : decode c_M_clear 18 = .ok (.aload_n 0, 1) := by decide +kernel
theorem d_M_clear_19 : decode c_M_clear 19 = .ok (.getfield 7, 3) := by decide +kernel
theorem d_M_clear_22 : decode c_M_clear 22 = .ok (.iload_n 2, 1) := by decide +kernel
theorem d_M_clear_23 : decode c_M_clear 23 = .ok (.iconst 0, 1) := by decide +kernel
theorem d_M_clear_24 : decode c_M_clear 24 = .ok (.iastore, 1) := by decide +kernel
theorem d_M_clear_25 : decode c_M_clear 25 = .ok (.iinc 2 1, 3) := by decide +kernel
theorem d_M_clear_28 : decode c_M_clear 28 = .ok (.goto (-16), 3) := by decide +kernel
theorem d_M_clear_31 : decode c_M_clear 31 = .ok (.aload_n 0, 1) := by decide +kernel
theorem d_M_clear_32 : decode c_M_clear 32 = .ok (.iconst 0, 1) := by decide +kernel
theorem d_M_clear_33 : decode c_M_clear 33 = .ok (.putfield 48, 3) := by decide +kernel
theorem d_M_clear_36 : decode c_M_clear 36 = .ok (.iload_n 1, 1) := by decide +kernel
theorem d_M_clear_37 : decode c_M_clear 37 = .ok (.ireturn, 1) := by decide +kernel
theorem d_M_group_0 : decode c_M_group 0 = .ok (.aload_n 0, 1) := by decide +kernel
theorem d_M_group_1 : decode c_M_group 1 = .ok (.iload_n 1, 1) := by decide +kernel
theorem d_M_group_2 : decode c_M_group 2 = .ok (.iload_n 1, 1) := by decide +kernel
theorem d_M_group_3 : decode c_M_group 3 = .ok (.invokevirtual 67, 3) := by decide +kernel
theorem d_M_group_6 : decode c_M_group 6 = .ok (.ifCond .eq 5, 3) := by decide +kernel
theorem d_M_group_9 : decode c_M_group 9 = .ok (.iconst 0, 1) := by decide +kernel
theorem d_M_group_10 : decode c_M_group 10 = .ok (.ireturn, 1) := by decide +kernel
theorem d_M_group_11 : decode c_M_group 11 = .ok (.aload_n 0, 1) := by decide +kernel
theorem d_M_group_12 : decode c_M_group 12 = .ok (.invokevirtual 55, 3) := by decide +kernel
theorem d_M_group_15 : decode c_M_group 15 = .ok (.aload_n 0, 1) := by decide +kernel
theorem d_M_group_16 : decode c_M_group 16 = .ok (.getfield 16, 3) := by decide +kernel
theorem d_M_group_19 : decode c_M_group 19 = .ok (.iload_n 1, 1) := by decide +kernel
theorem d_M_group_20 : decode c_M_group 20 = .ok (.iaload, 1) := by decide +kernel
theorem d_M_group_21 : decode c_M_group 21 = .ok (.invokestatic 61, 3) := by decide +kernel
theorem d_M_group_24 : decode c_M_group 24 = .ok (.ireturn, 1) := by decide +kernel
theorem d_M_lacks_0 : decode c_M_lacks 0 = .ok (.aload_n 0, 1) := by decide +kernel
theorem d_M_lacks_1 : decode c_M_lacks 1 = .ok (.iload_n 1, 1) := by decide +kernel
theorem d_M_lacks_2 : decode c_M_lacks 2 = .ok (.invokestatic 44, 3) := by decide +kernel
theorem d_M_lacks_5 : decode c_M_lacks 5 = .ok (.ifCond .eq 14, 3) := by decide +kernel
theorem d_M_lacks_8 : decode c_M_lacks 8 = .ok (.iload_n 2, 1) := by decide +kernel
theorem d_M_lacks_9 : decode c_M_lacks 9 = .ok (.invokestatic 44, 3) := by decide +kernel
theorem d_M_lacks_12 : decode c_M_lacks 12 = .ok (.ifCond .eq 7, 3) := by decide +kernel
theorem d_M_lacks_15 : decode c_M_lacks 15 = .ok (.iconst 0, 1) := by decide +kernel
theorem d_M_lacks_16 : decode c_M_lacks 16 = .ok (.goto 4, 3) := by decide +kernel
theorem d_M_lacks_19 : decode c_M_lacks 19 = .ok (.iconst 1, 1) := by decide +kernel
theorem d_M_lacks_20 : decode c_M_lacks 20 = .ok (.putfield 31, 3) := by decide +kernel
theorem d_M_lacks_23 : decode c_M_lacks 23 = .ok (.aload_n 0, 1) := by decide +kernel
theorem d_M_lacks_24 : decode c_M_lacks 24 = .ok (.getfield 31, 3) := by decide +kernel
theorem d_M_lacks_27 : decode c_M_lacks 27 = .ok (.ifCond .le 7, 3) := by decide +kernel
theorem d_M_lacks_30 : decode c_M_lacks 30 = .ok (.iconst 1, 1) := by decide +kernel
theorem d_M_lacks_31 : decode c_M_lacks 31 = .ok (.goto 4, 3) := by decide +kernel
theorem d_M_lacks_34 : decode c_M_lacks 34 = .ok (.iconst 0, 1) := by decide +kernel
theorem d_M_lacks_35 : decode c_M_lacks 35 = .ok (.ireturn, 1) := by decide +kernel
theorem d_M_findGroups_0 : decode c_M_findGroups 0 = .ok (.iconst 0, 1) := by decide +kernel
theorem d_M_findGroups_1 : decode c_M_findGroups 1 = .ok (.istore_n 1, 1) := by decide +kernel
theorem d_M_findGroups_2 : decode c_M_findGroups 2 = .ok (.iload_n 1, 1) := by decide +kernel
theorem d_M_findGroups_3 : decode c_M_findGroups 3 = .ok (.bipush 16, 2) := by decide +kernel
theorem d_M_findGroups_5 : decode c_M_findGroups 5 = .ok (.if_icmp .ge 74, 3) := by decide +kernel
theorem d_M_findGroups_8 : decode c_M_findGroups 8 = .ok (.aload_n 0, 1) := by decide +kernel
theorem d_M_findGroups_9 : decode c_M_findGroups 9 = .ok (.iload_n 1, 1) := by decide +kernel
theorem d_M_findGroups_10 : decode c_M_findGroups 10 = .ok (.invokevirtual 51, 3) := by decide +kernel
theorem d_M_findGroups_13 : decode c_M_findGroups 13 = .ok (.istore_n 2, 1) := by decide +kernel
theorem d_M_findGroups_14 : decode c_M_findGroups 14 = .ok (.aload_n 0, 1) := by decide +kernel
theorem d_M_findGroups_15 : decode c_M_findGroups 15 = .ok (.getfield 16, 3) := by decide +kernel
theorem d_M_findGroups_18 : decode c_M_findGroups 18 = .ok (.iload_n 1, 1) := by decide +kernel
theorem d_M_findGroups_19 : decode c_M_findGroups 19 = .ok (.iconst 1, 1) := by decide +kernel
theorem d_M_findGroups_20 : decode c_M_findGroups 20 = .ok (.iload_n 1, 1) := by decide +kernel
theorem d_M_findGroups_21 : decode c_M_findGroups 21 = .ok (.ishl, 1) := by decide +kernel
theorem d_M_findGroups_22 : decode c_M_findGroups 22 = .ok (.iastore, 1) := by decide +kernel
theorem d_M_findGroups_23 : decode c_M_findGroups 23 = .ok (.iconst 0, 1) := by decide +kernel
theorem d_M_findGroups_24 : decode c_M_findGroups 24 = .ok (.istore_n 3, 1) := by decide +kernel
theorem d_M_findGroups_25 : decode c_M_findGroups 25 = .ok (.iload_n 3, 1) := by decide +kernel
theorem d_M_findGroups_26 : decode c_M_findGroups 26 = .ok (.bipush 16, 2) := by decide +kernel
theorem d_M_findGroups_28 : decode c_M_findGroups 28 = .ok (.if_icmp .ge 45, 3) := by decide +kernel
theorem d_M_findGroups_31 : decode c_M_findGroups 31 = .ok (.aload_n 0, 1) := by decide +kernel
theorem d_M_findGroups_32 : decode c_M_findGroups 32 = .ok (.getfield 16, 3) := by decide +kernel
theorem d_M_findGroups_35 : decode c_M_findGroups 35 = .ok (.iload_n 1, 1) := by decide +kernel
theorem d_M_findGroups_36 : decode c_M_findGroups 36 = .ok (.dup2, 1) := by decide +kernel
theorem d_M_findGroups_37 : decode c_M_findGroups 37 = .ok (.iaload, 1) := by decide +kernel
theorem d_M_findGroups_38 : decode c_M_findGroups 38 = .ok (.iload_n 2, 1) := by decide +kernel
theorem d_M_findGroups_39 : decode c_M_findGroups 39 = .ok (.iload_n 3, 1) := by decide +kernel
theorem d_M_findGroups_40 : decode c_M_findGroups 40 = .ok (.invokestatic 35, 3) := by decide +kernel
theorem d_M_findGroups_43 : decode c_M_findGroups 43 = .ok (.ifCond .eq 21, 3) := by decide +kernel
theorem d_M_findGroups_46 : decode c_M_findGroups 46 = .ok (.aload_n 0, 1) := by decide +kernel
theorem d_M_findGroups_47 : decode c_M_findGroups 47 = .ok (.iload_n 3, 1) := by decide +kernel
theorem d_M_findGroups_48 : decode c_M_findGroups 48 = .ok (.invokevirtual 51, 3) := by decide +kernel
theorem d_M_findGroups_51 : decode c_M_findGroups 51 = .ok (.iload_n 1, 1) := by decide +kernel
theorem d_M_findGroups_52 : decode c_M_findGroups 52 = .ok (.invokestatic 35, 3) := by decide +kernel
theorem d_M_findGroups_55 : decode c_M_findGroups 55 = .ok (.ifCond .eq 9, 3) := by decide +kernel
theorem d_M_findGroups_58 : decode c_M_findGroups 58 = .ok (.iconst 1, 1) := by decide +kernel
theorem d_M_findGroups_59 : decode c_M_findGroups 59 = .ok (.iload_n 3, 1) := by decide +kernel
theorem d_M_findGroups_60 : decode c_M_findGroups 60 = .ok (.ishl, 1) := by decide +kernel
theorem d_M_findGroups_61 : decode c_M_findGroups 61 = .ok (.goto 4, 3) := by decide +kernel
theorem d_M_findGroups_64 : decode c_M_findGroups 64 = .ok (.iconst 0, 1) := by decide +kernel
theorem d_M_findGroups_65 : decode c_M_findGroups 65 = .ok (.ior, 1) := by decide +kernel
theorem d_M_findGroups_66 : decode c_M_findGroups 66 = .ok (.iastore, 1) := by decide +kernel
theorem d_M_findGroups_67 : decode c_M_findGroups 67 = .ok (.iinc 3 1, 3) := by decide +kernel
theorem d_M_findGroups_70 : decode c_M_findGroups 70 = .ok (.goto (-45), 3) := by decide +kernel
theorem d_M_findGroups_73 : decode c_M_findGroups 73 = .ok (.iinc 1 1, 3) := by decide +kernel
theorem d_M_findGroups_76 : decode c_M_findGroups 76 = .ok (.goto (-74), 3) := by decide +kernel
theorem d_M_findGroups_79 : decode c_M_findGroups 79 = .ok (.return_, 1) := by decide +kernel
theorem d_M_reach_0 : decode c_M_reach 0 = .ok (.aload_n 0, 1) := by decide +kernel
theorem d_M_reach_1 : decode c_M_reach 1 = .ok (.iconst 1, 1) := by decide +kernel
theorem d_M_reach_2 : decode c_M_reach 2 = .ok (.iload_n 1, 1) := by decide +kernel
theorem d_M_reach_3 : decode c_M_reach 3 = .ok (.ishl, 1) := by decide +kernel
theorem d_M_reach_4 : decode c_M_reach 4 = .ok (.ldc 39, 2) := by decide +kernel
theorem d_M_reach_6 : decode c_M_reach 6 = .ok (.invokevirtual 40, 3) := by decide +kernel
theorem d_M_reach_9 : decode c_M_reach 9 = .ok (.ireturn, 1) := by decide +kernel
theorem d_M_spread_0 : decode c_M_spread 0 = .ok (.iload_n 1, 1) := by decide +kernel
theorem d_M_spread_1 : decode c_M_spread 1 = .ok (.iload_n 2, 1) := by decide +kernel
theorem d_M_spread_2 : decode c_M_spread 2 = .ok (.iand, 1) := by decide +kernel
theorem d_M_spread_3 : decode c_M_spread 3 = .ok (.istore_n 3, 1) := by decide +kernel
theorem d_M_spread_4 : decode c_M_spread 4 = .ok (.iconst 0, 1) := by decide +kernel
theorem d_M_spread_5 : decode c_M_spread 5 = .ok (.istore 4, 2) := by decide +kernel
theorem d_M_spread_7 : decode c_M_spread 7 = .ok (.iload_n 3, 1) := by decide +kernel
theorem d_M_spread_8 : decode c_M_spread 8 = .ok (.iload 4, 2) := by decide +kernel
theorem d_M_spread_10 : decode c_M_spread 10 = .ok (.if_icmp .eq 51, 3) := by decide +kernel
theorem d_M_spread_13 : decode c_M_spread 13 = .ok (.iload_n 3, 1) := by decide +kernel
theorem d_M_spread_14 : decode c_M_spread 14 = .ok (.istore 4, 2) := by decide +kernel
theorem d_M_spread_16 : decode c_M_spread 16 = .ok (.iconst 0, 1) := by decide +kernel
theorem d_M_spread_17 : decode c_M_spread 17 = .ok (.istore 5, 2) := by decide +kernel
theorem d_M_spread_19 : decode c_M_spread 19 = .ok (.iload 5, 2) := by decide +kernel
theorem d_M_spread_21 : decode c_M_spread 21 = .ok (.bipush 16, 2) := by decide +kernel
theorem d_M_spread_23 : decode c_M_spread 23 = .ok (.if_icmp .ge 35, 3) := by decide +kernel
theorem d_M_spread_26 : decode c_M_spread 26 = .ok (.iload_n 3, 1) := by decide +kernel
theorem d_M_spread_27 : decode c_M_spread 27 = .ok (.iload 4, 2) := by decide +kernel
theorem d_M_spread_29 : decode c_M_spread 29 = .ok (.iload 5, 2) := by decide +kernel
theorem d_M_spread_31 : decode c_M_spread 31 = .ok (.invokestatic 35, 3) := by decide +kernel
theorem d_M_spread_34 : decode c_M_spread 34 = .ok (.ifCond .eq 15, 3) := by decide +kernel
theorem d_M_spread_37 : decode c_M_spread 37 = .ok (.aload_n 0, 1) := by decide +kernel
theorem d_M_spread_38 : decode c_M_spread 38 = .ok (.getfield 7, 3) := by decide +kernel
theorem d_M_spread_41 : decode c_M_spread 41 = .ok (.iload 5, 2) := by decide +kernel
theorem d_M_spread_43 : decode c_M_spread 43 = .ok (.iaload, 1) := by decide +kernel
theorem d_M_spread_44 : decode c_M_spread 44 = .ok (.iload_n 2, 1) := by decide +kernel
theorem d_M_spread_45 : decode c_M_spread 45 = .ok (.iand, 1) := by decide +kernel
theorem d_M_spread_46 : decode c_M_spread 46 = .ok (.goto 4, 3) := by decide +kernel
theorem d_M_spread_49 : decode c_M_spread 49 = .ok (.iconst 0, 1) := by decide +kernel
theorem d_M_spread_50 : decode c_M_spread 50 = .ok (.ior, 1) := by decide +kernel
theorem d_M_spread_51 : decode c_M_spread 51 = .ok (.istore_n 3, 1) := by decide +kernel
theorem d_M_spread_52 : decode c_M_spread 52 = .ok (.iinc 5 1, 3) := by decide +kernel
theorem d_M_spread_55 : decode c_M_spread 55 = .ok (.goto (-36), 3) := by decide +kernel
theorem d_M_spread_58 : decode c_M_spread 58 = .ok (.goto (-51), 3) := by decide +kernel
theorem d_M_spread_61 : decode c_M_spread 61 = .ok (.iload_n 3, 1) := by decide +kernel
theorem d_M_spread_62 : decode c_M_spread 62 = .ok (.ireturn, 1) := by decide +kernel
theorem d_M_least_0 : decode c_M_least 0 = .ok (.iconst 0, 1) := by decide +kernel
theorem d_M_least_1 : decode c_M_least 1 = .ok (.istore_n 1, 1) := by decide +kernel
theorem d_M_least_2 : decode c_M_least 2 = .ok (.iload_n 0, 1) := by decide +kernel
theorem d_M_least_3 : decode c_M_least 3 = .ok (.iload_n 1, 1) := by decide +kernel
theorem d_M_least_4 : decode c_M_least 4 = .ok (.invokestatic 35, 3) := by decide +kernel
theorem d_M_least_7 : decode c_M_least 7 = .ok (.ifCond .ne 9, 3) := by decide +kernel
theorem d_M_least_10 : decode c_M_least 10 = .ok (.iinc 1 1, 3) := by decide +kernel
theorem d_M_least_13 : decode c_M_least 13 = .ok (.goto (-11), 3) := by decide +kernel
theorem d_M_least_16 : decode c_M_least 16 = .ok (.iload_n 1, 1) := by decide +kernel
theorem d_M_least_17 : decode c_M_least 17 = .ok (.ireturn, 1) := by decide +kernel
theorem d_M_members_0 : decode c_M_members 0 = .ok (.aload_n 0, 1) := by decide +kernel
theorem d_M_members_1 : decode c_M_members 1 = .ok (.iload_n 1, 1) := by decide +kernel
theorem d_M_members_2 : decode c_M_members 2 = .ok (.iload_n 1, 1) := by decide +kernel
theorem d_M_members_3 : decode c_M_members 3 = .ok (.invokevirtual 67, 3) := by decide +kernel
theorem d_M_members_6 : decode c_M_members 6 = .ok (.ifCond .eq 5, 3) := by decide +kernel
theorem d_M_members_9 : decode c_M_members 9 = .ok (.iconst 0, 1) := by decide +kernel
theorem d_M_members_10 : decode c_M_members 10 = .ok (.ireturn, 1) := by decide +kernel
theorem d_M_members_11 : decode c_M_members 11 = .ok (.aload_n 0, 1) := by decide +kernel
theorem d_M_members_12 : decode c_M_members 12 = .ok (.invokevirtual 55, 3) := by decide +kernel
theorem d_M_members_15 : decode c_M_members 15 = .ok (.aload_n 0, 1) := by decide +kernel
theorem d_M_members_16 : decode c_M_members 16 = .ok (.getfield 16, 3) := by decide +kernel
theorem d_M_members_19 : decode c_M_members 19 = .ok (.iload_n 1, 1) := by decide +kernel
theorem d_M_members_20 : decode c_M_members 20 = .ok (.iaload, 1) := by decide +kernel
theorem d_M_members_21 : decode c_M_members 21 = .ok (.invokestatic 70, 3) := by decide +kernel
theorem d_M_members_24 : decode c_M_members 24 = .ok (.ireturn, 1) := by decide +kernel
theorem d_M_size_0 : decode c_M_size 0 = .ok (.iconst 0, 1) := by decide +kernel
theorem d_M_size_1 : decode c_M_size 1 = .ok (.istore_n 1, 1) := by decide +kernel
theorem d_M_size_2 : decode c_M_size 2 = .ok (.iconst 0, 1) := by decide +kernel
theorem d_M_size_3 : decode c_M_size 3 = .ok (.istore_n 2, 1) := by decide +kernel
theorem d_M_size_4 : decode c_M_size 4 = .ok (.iload_n 2, 1) := by decide +kernel
theorem d_M_size_5 : decode c_M_size 5 = .ok (.bipush 16, 2) := by decide +kernel
theorem d_M_size_7 : decode c_M_size 7 = .ok (.if_icmp .ge 17, 3) := by decide +kernel
theorem d_M_size_10 : decode c_M_size 10 = .ok (.iload_n 1, 1) := by decide +kernel
theorem d_M_size_11 : decode c_M_size 11 = .ok (.iload_n 0, 1) := by decide +kernel
theorem d_M_size_12 : decode c_M_size 12 = .ok (.iload_n 2, 1) := by decide +kernel
theorem d_M_size_13 : decode c_M_size 13 = .ok (.ishr, 1) := by decide +kernel
theorem d_M_size_14 : decode c_M_size 14 = .ok (.iconst 1, 1) := by decide +kernel
theorem d_M_size_15 : decode c_M_size 15 = .ok (.iand, 1) := by decide +kernel
theorem d_M_size_16 : decode c_M_size 16 = .ok (.iadd, 1) := by decide +kernel
theorem d_M_size_17 : decode c_M_size 17 = .ok (.istore_n 1, 1) := by decide +kernel
theorem d_M_size_18 : decode c_M_size 18 = .ok (.iinc 2 1, 3) := by decide +kernel
theorem d_M_size_21 : decode c_M_size 21 = .ok (.goto (-17), 3) := by decide +kernel
theorem d_M_size_24 : decode c_M_size 24 = .ok (.iload_n 1, 1) := by decide +kernel
theorem d_M_size_25 : decode c_M_size 25 = .ok (.ireturn, 1) := by decide +kernel
theorem d_M_rank_0 : decode c_M_rank 0 = .ok (.aload_n 0, 1) := by decide +kernel
theorem d_M_rank_1 : decode c_M_rank 1 = .ok (.iload_n 1, 1) := by decide +kernel
theorem d_M_rank_2 : decode c_M_rank 2 = .ok (.iload_n 1, 1) := by decide +kernel
theorem d_M_rank_3 : decode c_M_rank 3 = .ok (.invokevirtual 67, 3) := by decide +kernel
theorem d_M_rank_6 : decode c_M_rank 6 = .ok (.ifCond .eq 5, 3) := by decide +kernel
theorem d_M_rank_9 : decode c_M_rank 9 = .ok (.iconst 0, 1) := by decide +kernel
theorem d_M_rank_10 : decode c_M_rank 10 = .ok (.ireturn, 1) := by decide +kernel
theorem d_M_rank_11 : decode c_M_rank 11 = .ok (.aload_n 0, 1) := by decide +kernel
theorem d_M_rank_12 : decode c_M_rank 12 = .ok (.invokevirtual 73, 3) := by decide +kernel
theorem d_M_rank_15 : decode c_M_rank 15 = .ok (.iconst 0, 1) := by decide +kernel
theorem d_M_rank_16 : decode c_M_rank 16 = .ok (.istore_n 2, 1) := by decide +kernel
theorem d_M_rank_17 : decode c_M_rank 17 = .ok (.aload_n 0, 1) := by decide +kernel
theorem d_M_rank_18 : decode c_M_rank 18 = .ok (.getfield 16, 3) := by decide +kernel
theorem d_M_rank_21 : decode c_M_rank 21 = .ok (.iload_n 1, 1) := by decide +kernel
theorem d_M_rank_22 : decode c_M_rank 22 = .ok (.iaload, 1) := by decide +kernel
theorem d_M_rank_23 : decode c_M_rank 23 = .ok (.aload_n 0, 1) := by decide +kernel
theorem d_M_rank_24 : decode c_M_rank 24 = .ok (.getfield 13, 3) := by decide +kernel
theorem d_M_rank_27 : decode c_M_rank 27 = .ok (.iload_n 2, 1) := by decide +kernel
theorem d_M_rank_28 : decode c_M_rank 28 = .ok (.iaload, 1) := by decide +kernel
theorem d_M_rank_29 : decode c_M_rank 29 = .ok (.invokestatic 35, 3) := by decide +kernel
theorem d_M_rank_32 : decode c_M_rank 32 = .ok (.ifCond .ne 9, 3) := by decide +kernel
theorem d_M_rank_35 : decode c_M_rank 35 = .ok (.iinc 2 1, 3) := by decide +kernel
theorem d_M_rank_38 : decode c_M_rank 38 = .ok (.goto (-21), 3) := by decide +kernel
theorem d_M_rank_41 : decode c_M_rank 41 = .ok (.iload_n 2, 1) := by decide +kernel
theorem d_M_rank_42 : decode c_M_rank 42 = .ok (.ireturn, 1) := by decide +kernel
theorem d_M_findOrder_0 : decode c_M_findOrder 0 = .ok (.aload_n 0, 1) := by decide +kernel
theorem d_M_findOrder_1 : decode c_M_findOrder 1 = .ok (.invokevirtual 55, 3) := by decide +kernel
theorem d_M_findOrder_4 : decode c_M_findOrder 4 = .ok (.aload_n 0, 1) := by decide +kernel
theorem d_M_findOrder_5 : decode c_M_findOrder 5 = .ok (.iconst 0, 1) := by decide +kernel
theorem d_M_findOrder_6 : decode c_M_findOrder 6 = .ok (.putfield 58, 3) := by decide +kernel
theorem d_M_findOrder_9 : decode c_M_findOrder 9 = .ok (.ldc 39, 2) := by decide +kernel
theorem d_M_findOrder_11 : decode c_M_findOrder 11 = .ok (.istore_n 1, 1) := by decide +kernel
theorem d_M_findOrder_12 : decode c_M_findOrder 12 = .ok (.iload_n 1, 1) := by decide +kernel
theorem d_M_findOrder_13 : decode c_M_findOrder 13 = .ok (.ifCond .eq 115, 3) := by decide +kernel
theorem d_M_findOrder_16 : decode c_M_findOrder 16 = .ok (.iconst (-1), 1) := by decide +kernel
theorem d_M_findOrder_17 : decode c_M_findOrder 17 = .ok (.istore_n 2, 1) := by decide +kernel
theorem d_M_findOrder_18 : decode c_M_findOrder 18 = .ok (.bipush 15, 2) := by decide +kernel
theorem d_M_findOrder_20 : decode c_M_findOrder 20 = .ok (.istore_n 3, 1) := by decide +kernel
theorem d_M_findOrder_21 : decode c_M_findOrder 21 = .ok (.iload_n 3, 1) := by decide +kernel
theorem d_M_findOrder_22 : decode c_M_findOrder 22 = .ok (.ifCond .lt 72, 3) := by decide +kernel
theorem d_M_findOrder_25 : decode c_M_findOrder 25 = .ok (.iload_n 1, 1) := by decide +kernel
theorem d_M_findOrder_26 : decode c_M_findOrder 26 = .ok (.iload_n 3, 1) := by decide +kernel
theorem d_M_findOrder_27 : decode c_M_findOrder 27 = .ok (.invokestatic 35, 3) := by decide +kernel
theorem d_M_findOrder_30 : decode c_M_findOrder 30 = .ok (.ifCond .eq 20, 3) := by decide +kernel
theorem d_M_findOrder_33 : decode c_M_findOrder 33 = .ok (.aload_n 0, 1) := by decide +kernel
theorem d_M_findOrder_34 : decode c_M_findOrder 34 = .ok (.getfield 16, 3) := by decide +kernel
theorem d_M_findOrder_37 : decode c_M_findOrder 37 = .ok (.iload_n 3, 1) := by decide +kernel
theorem d_M_findOrder_38 : decode c_M_findOrder 38 = .ok (.iaload, 1) := by decide +kernel
theorem d_M_findOrder_39 : decode c_M_findOrder 39 = .ok (.invokestatic 61, 3) := by decide +kernel
theorem d_M_findOrder_42 : decode c_M_findOrder 42 = .ok (.iload_n 3, 1) := by decide +kernel
theorem d_M_findOrder_43 : decode c_M_findOrder 43 = .ok (.if_icmp .ne 7, 3) := by decide +kernel
theorem d_M_findOrder_46 : decode c_M_findOrder 46 = .ok (.iconst 1, 1) := by decide +kernel
theorem d_M_findOrder_47 : decode c_M_findOrder 47 = .ok (.goto 4, 3) := by decide +kernel
theorem d_M_findOrder_50 : decode c_M_findOrder 50 = .ok (.iconst 0, 1) := by decide +kernel
theorem d_M_findOrder_51 : decode c_M_findOrder 51 = .ok (.istore 4, 2) := by decide +kernel
theorem d_M_findOrder_53 : decode c_M_findOrder 53 = .ok (.iload 4, 2) := by decide +kernel
theorem d_M_findOrder_55 : decode c_M_findOrder 55 = .ok (.ifCond .eq 31, 3) := by decide +kernel
theorem d_M_findOrder_58 : decode c_M_findOrder 58 = .ok (.aload_n 0, 1) := by decide +kernel
theorem d_M_findOrder_59 : decode c_M_findOrder 59 = .ok (.iload_n 1, 1) := by decide +kernel
theorem d_M_findOrder_60 : decode c_M_findOrder 60 = .ok (.aload_n 0, 1) := by decide +kernel
theorem d_M_findOrder_61 : decode c_M_findOrder 61 = .ok (.getfield 16, 3) := by decide +kernel
theorem d_M_findOrder_64 : decode c_M_findOrder 64 = .ok (.iload_n 3, 1) := by decide +kernel
theorem d_M_findOrder_65 : decode c_M_findOrder 65 = .ok (.iaload, 1) := by decide +kernel
theorem d_M_findOrder_66 : decode c_M_findOrder 66 = .ok (.iconst (-1), 1) := by decide +kernel
theorem d_M_findOrder_67 : decode c_M_findOrder 67 = .ok (.ixor, 1) := by decide +kernel
theorem d_M_findOrder_68 : decode c_M_findOrder 68 = .ok (.iand, 1) := by decide +kernel
theorem d_M_findOrder_69 : decode c_M_findOrder 69 = .ok (.invokevirtual 64, 3) := by decide +kernel
theorem d_M_findOrder_72 : decode c_M_findOrder 72 = .ok (.aload_n 0, 1) := by decide +kernel
theorem d_M_findOrder_73 : decode c_M_findOrder 73 = .ok (.getfield 16, 3) := by decide +kernel
theorem d_M_findOrder_76 : decode c_M_findOrder 76 = .ok (.iload_n 3, 1) := by decide +kernel
theorem d_M_findOrder_77 : decode c_M_findOrder 77 = .ok (.iaload, 1) := by decide +kernel
theorem d_M_findOrder_78 : decode c_M_findOrder 78 = .ok (.iand, 1) := by decide +kernel
theorem d_M_findOrder_79 : decode c_M_findOrder 79 = .ok (.ifCond .ne 7, 3) := by decide +kernel
theorem d_M_findOrder_82 : decode c_M_findOrder 82 = .ok (.iload_n 3, 1) := by decide +kernel
theorem d_M_findOrder_83 : decode c_M_findOrder 83 = .ok (.goto 4, 3) := by decide +kernel
theorem d_M_findOrder_86 : decode c_M_findOrder 86 = .ok (.iload_n 2, 1) := by decide +kernel
theorem d_M_findOrder_87 : decode c_M_findOrder 87 = .ok (.istore_n 2, 1) := by decide +kernel
theorem d_M_findOrder_88 : decode c_M_findOrder 88 = .ok (.iinc 3 (-1), 3) := by decide +kernel
theorem d_M_findOrder_91 : decode c_M_findOrder 91 = .ok (.goto (-70), 3) := by decide +kernel
theorem d_M_findOrder_94 : decode c_M_findOrder 94 = .ok (.aload_n 0, 1) := by decide +kernel
theorem d_M_findOrder_95 : decode c_M_findOrder 95 = .ok (.getfield 13, 3) := by decide +kernel
theorem d_M_findOrder_98 : decode c_M_findOrder 98 = .ok (.aload_n 0, 1) := by decide +kernel
theorem d_M_findOrder_99 : decode c_M_findOrder 99 = .ok (.getfield 58, 3) := by decide +kernel
theorem d_M_findOrder_102 : decode c_M_findOrder 102 = .ok (.iload_n 2, 1) := by decide +kernel
theorem d_M_findOrder_103 : decode c_M_findOrder 103 = .ok (.iastore, 1) := by decide +kernel
theorem d_M_findOrder_104 : decode c_M_findOrder 104 = .ok (.aload_n 0, 1) := by decide +kernel
theorem d_M_findOrder_105 : decode c_M_findOrder 105 = .ok (.dup, 1) := by decide +kernel
theorem d_M_findOrder_106 : decode c_M_findOrder 106 = .ok (.getfield 58, 3) := by decide +kernel
theorem d_M_findOrder_109 : decode c_M_findOrder 109 = .ok (.iconst 1, 1) := by decide +kernel
theorem d_M_findOrder_110 : decode c_M_findOrder 110 = .ok (.iadd, 1) := by decide +kernel
theorem d_M_findOrder_111 : decode c_M_findOrder 111 = .ok (.putfield 58, 3) := by decide +kernel
theorem d_M_findOrder_114 : decode c_M_findOrder 114 = .ok (.iload_n 1, 1) := by decide +kernel
theorem d_M_findOrder_115 : decode c_M_findOrder 115 = .ok (.aload_n 0, 1) := by decide +kernel
theorem d_M_findOrder_116 : decode c_M_findOrder 116 = .ok (.getfield 16, 3) := by decide +kernel
theorem d_M_findOrder_119 : decode c_M_findOrder 119 = .ok (.iload_n 2, 1) := by decide +kernel
theorem d_M_findOrder_120 : decode c_M_findOrder 120 = .ok (.iaload, 1) := by decide +kernel
theorem d_M_findOrder_121 : decode c_M_findOrder 121 = .ok (.iconst (-1), 1) := by decide +kernel
theorem d_M_findOrder_122 : decode c_M_findOrder 122 = .ok (.ixor, 1) := by decide +kernel
theorem d_M_findOrder_123 : decode c_M_findOrder 123 = .ok (.iand, 1) := by decide +kernel
theorem d_M_findOrder_124 : decode c_M_findOrder 124 = .ok (.istore_n 1, 1) := by decide +kernel
theorem d_M_findOrder_125 : decode c_M_findOrder 125 = .ok (.goto (-113), 3) := by decide +kernel
theorem d_M_findOrder_128 : decode c_M_findOrder 128 = .ok (.return_, 1) := by decide +kernel
theorem d_M_ends_0 : decode c_M_ends 0 = .ok (.iconst 0, 1) := by decide +kernel
theorem d_M_ends_1 : decode c_M_ends 1 = .ok (.istore_n 2, 1) := by decide +kernel
theorem d_M_ends_2 : decode c_M_ends 2 = .ok (.iconst 0, 1) := by decide +kernel
theorem d_M_ends_3 : decode c_M_ends 3 = .ok (.istore_n 3, 1) := by decide +kernel
theorem d_M_ends_4 : decode c_M_ends 4 = .ok (.iload_n 3, 1) := by decide +kernel
theorem d_M_ends_5 : decode c_M_ends 5 = .ok (.bipush 16, 2) := by decide +kernel
theorem d_M_ends_7 : decode c_M_ends 7 = .ok (.if_icmp .ge 30, 3) := by decide +kernel
theorem d_M_ends_10 : decode c_M_ends 10 = .ok (.iload_n 2, 1) := by decide +kernel
theorem d_M_ends_11 : decode c_M_ends 11 = .ok (.iload_n 1, 1) := by decide +kernel
theorem d_M_ends_12 : decode c_M_ends 12 = .ok (.iload_n 3, 1) := by decide +kernel
theorem d_M_ends_13 : decode c_M_ends 13 = .ok (.invokestatic 35, 3) := by decide +kernel
theorem d_M_ends_16 : decode c_M_ends 16 = .ok (.ifCond .eq 12, 3) := by decide +kernel
theorem d_M_ends_19 : decode c_M_ends 19 = .ok (.aload_n 0, 1) := by decide +kernel
theorem d_M_ends_20 : decode c_M_ends 20 = .ok (.getfield 7, 3) := by decide +kernel
theorem d_M_ends_23 : decode c_M_ends 23 = .ok (.iload_n 3, 1) := by decide +kernel
theorem d_M_ends_24 : decode c_M_ends 24 = .ok (.iaload, 1) := by decide +kernel
theorem d_M_ends_25 : decode c_M_ends 25 = .ok (.goto 4, 3) := by decide +kernel
theorem d_M_ends_28 : decode c_M_ends 28 = .ok (.iconst 0, 1) := by decide +kernel
theorem d_M_ends_29 : decode c_M_ends 29 = .ok (.ior, 1) := by decide +kernel
theorem d_M_ends_30 : decode c_M_ends 30 = .ok (.istore_n 2, 1) := by decide +kernel
theorem d_M_ends_31 : decode c_M_ends 31 = .ok (.iinc 3 1, 3) := by decide +kernel
theorem d_M_ends_34 : decode c_M_ends 34 = .ok (.goto (-30), 3) := by decide +kernel
theorem d_M_ends_37 : decode c_M_ends 37 = .ok (.iload_n 2, 1) := by decide +kernel
theorem d_M_ends_38 : decode c_M_ends 38 = .ok (.ireturn, 1) := by decide +kernel
theorem d_M_ranked_0 : decode c_M_ranked 0 = .ok (.aload_n 0, 1) := by decide +kernel
theorem d_M_ranked_1 : decode c_M_ranked 1 = .ok (.invokevirtual 73, 3) := by decide +kernel
theorem d_M_ranked_4 : decode c_M_ranked 4 = .ok (.aload_n 0, 1) := by decide +kernel
theorem d_M_ranked_5 : decode c_M_ranked 5 = .ok (.iload_n 1, 1) := by decide +kernel
theorem d_M_ranked_6 : decode c_M_ranked 6 = .ok (.ifCond .lt 11, 3) := by decide +kernel
theorem d_M_ranked_9 : decode c_M_ranked 9 = .ok (.iload_n 1, 1) := by decide +kernel
theorem d_M_ranked_10 : decode c_M_ranked 10 = .ok (.aload_n 0, 1) := by decide +kernel
theorem d_M_ranked_11 : decode c_M_ranked 11 = .ok (.getfield 58, 3) := by decide +kernel
theorem d_M_ranked_14 : decode c_M_ranked 14 = .ok (.if_icmp .lt 7, 3) := by decide +kernel
theorem d_M_ranked_17 : decode c_M_ranked 17 = .ok (.iconst 1, 1) := by decide +kernel
theorem d_M_ranked_18 : decode c_M_ranked 18 = .ok (.goto 4, 3) := by decide +kernel
theorem d_M_ranked_21 : decode c_M_ranked 21 = .ok (.iconst 0, 1) := by decide +kernel
theorem d_M_ranked_22 : decode c_M_ranked 22 = .ok (.putfield 31, 3) := by decide +kernel
theorem d_M_ranked_25 : decode c_M_ranked 25 = .ok (.aload_n 0, 1) := by decide +kernel
theorem d_M_ranked_26 : decode c_M_ranked 26 = .ok (.getfield 31, 3) := by decide +kernel
theorem d_M_ranked_29 : decode c_M_ranked 29 = .ok (.ifCond .le 7, 3) := by decide +kernel
theorem d_M_ranked_32 : decode c_M_ranked 32 = .ok (.iconst 0, 1) := by decide +kernel
theorem d_M_ranked_33 : decode c_M_ranked 33 = .ok (.goto 9, 3) := by decide +kernel
theorem d_M_ranked_36 : decode c_M_ranked 36 = .ok (.aload_n 0, 1) := by decide +kernel
theorem d_M_ranked_37 : decode c_M_ranked 37 = .ok (.getfield 13, 3) := by decide +kernel
theorem d_M_ranked_40 : decode c_M_ranked 40 = .ok (.iload_n 1, 1) := by decide +kernel
theorem d_M_ranked_41 : decode c_M_ranked 41 = .ok (.iaload, 1) := by decide +kernel
theorem d_M_ranked_42 : decode c_M_ranked 42 = .ok (.ireturn, 1) := by decide +kernel
theorem d_M_reaches_0 : decode c_M_reaches 0 = .ok (.aload_n 0, 1) := by decide +kernel
theorem d_M_reaches_1 : decode c_M_reaches 1 = .ok (.iload_n 1, 1) := by decide +kernel
theorem d_M_reaches_2 : decode c_M_reaches 2 = .ok (.iload_n 2, 1) := by decide +kernel
theorem d_M_reaches_3 : decode c_M_reaches 3 = .ok (.invokevirtual 67, 3) := by decide +kernel
theorem d_M_reaches_6 : decode c_M_reaches 6 = .ok (.ifCond .ne 19, 3) := by decide +kernel
theorem d_M_reaches_9 : decode c_M_reaches 9 = .ok (.aload_n 0, 1) := by decide +kernel
theorem d_M_reaches_10 : decode c_M_reaches 10 = .ok (.iload_n 1, 1) := by decide +kernel
theorem d_M_reaches_11 : decode c_M_reaches 11 = .ok (.invokevirtual 51, 3) := by decide +kernel
theorem d_M_reaches_14 : decode c_M_reaches 14 = .ok (.iload_n 2, 1) := by decide +kernel
theorem d_M_reaches_15 : decode c_M_reaches 15 = .ok (.invokestatic 35, 3) := by decide +kernel
theorem d_M_reaches_18 : decode c_M_reaches 18 = .ok (.ifCond .eq 7, 3) := by decide +kernel
theorem d_M_reaches_21 : decode c_M_reaches 21 = .ok (.iconst 1, 1) := by decide +kernel
theorem d_M_reaches_22 : decode c_M_reaches 22 = .ok (.goto 4, 3) := by decide +kernel
theorem d_M_reaches_25 : decode c_M_reaches 25 = .ok (.iconst 0, 1) := by decide +kernel
theorem d_M_reaches_26 : decode c_M_reaches 26 = .ok (.ireturn, 1) := by decide +kernel
theorem d_M_distance_0 : decode c_M_distance 0 = .ok (.aload_n 0, 1) := by decide +kernel
theorem d_M_distance_1 : decode c_M_distance 1 = .ok (.iload_n 1, 1) := by decide +kernel
theorem d_M_distance_2 : decode c_M_distance 2 = .ok (.iload_n 2, 1) := by decide +kernel
theorem d_M_distance_3 : decode c_M_distance 3 = .ok (.invokevirtual 67, 3) := by decide +kernel
theorem d_M_distance_6 : decode c_M_distance 6 = .ok (.ifCond .eq 5, 3) := by decide +kernel
theorem d_M_distance_9 : decode c_M_distance 9 = .ok (.iconst 0, 1) := by decide +kernel
theorem d_M_distance_10 : decode c_M_distance 10 = .ok (.ireturn, 1) := by decide +kernel
theorem d_M_distance_11 : decode c_M_distance 11 = .ok (.aload_n 0, 1) := by decide +kernel
theorem d_M_distance_12 : decode c_M_distance 12 = .ok (.iload_n 2, 1) := by decide +kernel
theorem d_M_distance_13 : decode c_M_distance 13 = .ok (.invokevirtual 76, 3) := by decide +kernel
theorem d_M_distance_16 : decode c_M_distance 16 = .ok (.aload_n 0, 1) := by decide +kernel
theorem d_M_distance_17 : decode c_M_distance 17 = .ok (.getfield 19, 3) := by decide +kernel
theorem d_M_distance_20 : decode c_M_distance 20 = .ok (.iload_n 1, 1) := by decide +kernel
theorem d_M_distance_21 : decode c_M_distance 21 = .ok (.iaload, 1) := by decide +kernel
theorem d_M_distance_22 : decode c_M_distance 22 = .ok (.ireturn, 1) := by decide +kernel
theorem d_M_measure_0 : decode c_M_measure 0 = .ok (.iconst 1, 1) := by decide +kernel
theorem d_M_measure_1 : decode c_M_measure 1 = .ok (.iload_n 1, 1) := by decide +kernel
theorem d_M_measure_2 : decode c_M_measure 2 = .ok (.ishl, 1) := by decide +kernel
theorem d_M_measure_3 : decode c_M_measure 3 = .ok (.istore_n 2, 1) := by decide +kernel
theorem d_M_measure_4 : decode c_M_measure 4 = .ok (.iconst 0, 1) := by decide +kernel
theorem d_M_measure_5 : decode c_M_measure 5 = .ok (.istore_n 3, 1) := by decide +kernel
theorem d_M_measure_6 : decode c_M_measure 6 = .ok (.iload_n 3, 1) := by decide +kernel
theorem d_M_measure_7 : decode c_M_measure 7 = .ok (.bipush 16, 2) := by decide +kernel
theorem d_M_measure_9 : decode c_M_measure 9 = .ok (.if_icmp .ge 25, 3) := by decide +kernel
theorem d_M_measure_12 : decode c_M_measure 12 = .ok (.aload_n 0, 1) := by decide +kernel
theorem d_M_measure_13 : decode c_M_measure 13 = .ok (.getfield 19, 3) := by decide +kernel
theorem d_M_measure_16 : decode c_M_measure 16 = .ok (.iload_n 3, 1) := by decide +kernel
theorem d_M_measure_17 : decode c_M_measure 17 = .ok (.iload_n 3, 1) := by decide +kernel
theorem d_M_measure_18 : decode c_M_measure 18 = .ok (.iload_n 1, 1) := by decide +kernel
theorem d_M_measure_19 : decode c_M_measure 19 = .ok (.if_icmp .ne 7, 3) := by decide +kernel
theorem d_M_measure_22 : decode c_M_measure 22 = .ok (.iconst 0, 1) := by decide +kernel
theorem d_M_measure_23 : decode c_M_measure 23 = .ok (.goto 4, 3) := by decide +kernel
theorem d_M_measure_26 : decode c_M_measure 26 = .ok (.iconst (-1), 1) := by decide +kernel
theorem d_M_measure_27 : decode c_M_measure 27 = .ok (.iastore, 1) := by decide +kernel
theorem d_M_measure_28 : decode c_M_measure 28 = .ok (.iinc 3 1, 3) := by decide +kernel
theorem d_M_measure_31 : decode c_M_measure 31 = .ok (.goto (-25), 3) := by decide +kernel
theorem d_M_measure_34 : decode c_M_measure 34 = .ok (.iconst 1, 1) := by decide +kernel
theorem d_M_measure_35 : decode c_M_measure 35 = .ok (.istore_n 3, 1) := by decide +kernel
theorem d_M_measure_36 : decode c_M_measure 36 = .ok (.iload_n 3, 1) := by decide +kernel
theorem d_M_measure_37 : decode c_M_measure 37 = .ok (.bipush 16, 2) := by decide +kernel
theorem d_M_measure_39 : decode c_M_measure 39 = .ok (.if_icmp .ge 69, 3) := by decide +kernel
theorem d_M_measure_42 : decode c_M_measure 42 = .ok (.iload_n 2, 1) := by decide +kernel
theorem d_M_measure_43 : decode c_M_measure 43 = .ok (.istore 4, 2) := by decide +kernel
theorem d_M_measure_45 : decode c_M_measure 45 = .ok (.iconst 0, 1) := by decide +kernel
theorem d_M_measure_46 : decode c_M_measure 46 = .ok (.istore 5, 2) := by decide +kernel
theorem d_M_measure_48 : decode c_M_measure 48 = .ok (.iload 5, 2) := by decide +kernel
theorem d_M_measure_50 : decode c_M_measure 50 = .ok (.bipush 16, 2) := by decide +kernel
theorem d_M_measure_52 : decode c_M_measure 52 = .ok (.if_icmp .ge 47, 3) := by decide +kernel
theorem d_M_measure_55 : decode c_M_measure 55 = .ok (.iload_n 2, 1) := by decide +kernel
theorem d_M_measure_56 : decode c_M_measure 56 = .ok (.iload 5, 2) := by decide +kernel
theorem d_M_measure_58 : decode c_M_measure 58 = .ok (.invokestatic 35, 3) := by decide +kernel
theorem d_M_measure_61 : decode c_M_measure 61 = .ok (.ifCond .ne 32, 3) := by decide +kernel
theorem d_M_measure_64 : decode c_M_measure 64 = .ok (.aload_n 0, 1) := by decide +kernel
theorem d_M_measure_65 : decode c_M_measure 65 = .ok (.getfield 7, 3) := by decide +kernel
theorem d_M_measure_68 : decode c_M_measure 68 = .ok (.iload 5, 2) := by decide +kernel
theorem d_M_measure_70 : decode c_M_measure 70 = .ok (.iaload, 1) := by decide +kernel
theorem d_M_measure_71 : decode c_M_measure 71 = .ok (.iload_n 2, 1) := by decide +kernel
theorem d_M_measure_72 : decode c_M_measure 72 = .ok (.iand, 1) := by decide +kernel
theorem d_M_measure_73 : decode c_M_measure 73 = .ok (.ifCond .eq 20, 3) := by decide +kernel
theorem d_M_measure_76 : decode c_M_measure 76 = .ok (.aload_n 0, 1) := by decide +kernel
theorem d_M_measure_77 : decode c_M_measure 77 = .ok (.getfield 19, 3) := by decide +kernel
theorem d_M_measure_80 : decode c_M_measure 80 = .ok (.iload 5, 2) := by decide +kernel
theorem d_M_measure_82 : decode c_M_measure 82 = .ok (.iload_n 3, 1) := by decide +kernel
theorem d_M_measure_83 : decode c_M_measure 83 = .ok (.iastore, 1) := by decide +kernel
theorem d_M_measure_84 : decode c_M_measure 84 = .ok (.iload 4, 2) := by decide +kernel
theorem d_M_measure_86 : decode c_M_measure 86 = .ok (.iconst 1, 1) := by decide +kernel
theorem d_M_measure_87 : decode c_M_measure 87 = .ok (.iload 5, 2) := by decide +kernel
theorem d_M_measure_89 : decode c_M_measure 89 = .ok (.ishl, 1) := by decide +kernel
theorem d_M_measure_90 : decode c_M_measure 90 = .ok (.ior, 1) := by decide +kernel
theorem d_M_measure_91 : decode c_M_measure 91 = .ok (.istore 4, 2) := by decide +kernel
theorem d_M_measure_93 : decode c_M_measure 93 = .ok (.iinc 5 1, 3) := by decide +kernel
theorem d_M_measure_96 : decode c_M_measure 96 = .ok (.goto (-48), 3) := by decide +kernel
theorem d_M_measure_99 : decode c_M_measure 99 = .ok (.iload 4, 2) := by decide +kernel
theorem d_M_measure_101 : decode c_M_measure 101 = .ok (.istore_n 2, 1) := by decide +kernel
theorem d_M_measure_102 : decode c_M_measure 102 = .ok (.iinc 3 1, 3) := by decide +kernel
theorem d_M_measure_105 : decode c_M_measure 105 = .ok (.goto (-69), 3) := by decide +kernel
theorem d_M_measure_108 : decode c_M_measure 108 = .ok (.return_, 1) := by decide +kernel
theorem d_M_way_0 : decode c_M_way 0 = .ok (.aload_n 0, 1) := by decide +kernel
theorem d_M_way_1 : decode c_M_way 1 = .ok (.iload_n 1, 1) := by decide +kernel
theorem d_M_way_2 : decode c_M_way 2 = .ok (.iload_n 2, 1) := by decide +kernel
theorem d_M_way_3 : decode c_M_way 3 = .ok (.invokevirtual 67, 3) := by decide +kernel
theorem d_M_way_6 : decode c_M_way 6 = .ok (.ifCond .eq 5, 3) := by decide +kernel
theorem d_M_way_9 : decode c_M_way 9 = .ok (.iconst 0, 1) := by decide +kernel
theorem d_M_way_10 : decode c_M_way 10 = .ok (.ireturn, 1) := by decide +kernel
theorem d_M_way_11 : decode c_M_way 11 = .ok (.aload_n 0, 1) := by decide +kernel
theorem d_M_way_12 : decode c_M_way 12 = .ok (.iload_n 2, 1) := by decide +kernel
theorem d_M_way_13 : decode c_M_way 13 = .ok (.invokevirtual 76, 3) := by decide +kernel
theorem d_M_way_16 : decode c_M_way 16 = .ok (.aload_n 0, 1) := by decide +kernel
theorem d_M_way_17 : decode c_M_way 17 = .ok (.aload_n 0, 1) := by decide +kernel
theorem d_M_way_18 : decode c_M_way 18 = .ok (.getfield 19, 3) := by decide +kernel
theorem d_M_way_21 : decode c_M_way 21 = .ok (.iload_n 1, 1) := by decide +kernel
theorem d_M_way_22 : decode c_M_way 22 = .ok (.iaload, 1) := by decide +kernel
theorem d_M_way_23 : decode c_M_way 23 = .ok (.ifCond .ge 7, 3) := by decide +kernel
theorem d_M_way_26 : decode c_M_way 26 = .ok (.iconst 2, 1) := by decide +kernel
theorem d_M_way_27 : decode c_M_way 27 = .ok (.goto 22, 3) := by decide +kernel
theorem d_M_way_30 : decode c_M_way 30 = .ok (.iload_n 3, 1) := by decide +kernel
theorem d_M_way_31 : decode c_M_way 31 = .ok (.ifCond .lt 13, 3) := by decide +kernel
theorem d_M_way_34 : decode c_M_way 34 = .ok (.iload_n 3, 1) := by decide +kernel
theorem d_M_way_35 : decode c_M_way 35 = .ok (.aload_n 0, 1) := by decide +kernel
theorem d_M_way_36 : decode c_M_way 36 = .ok (.getfield 19, 3) := by decide +kernel
theorem d_M_way_39 : decode c_M_way 39 = .ok (.iload_n 1, 1) := by decide +kernel
theorem d_M_way_40 : decode c_M_way 40 = .ok (.iaload, 1) := by decide +kernel
theorem d_M_way_41 : decode c_M_way 41 = .ok (.if_icmp .le 7, 3) := by decide +kernel
theorem d_M_way_44 : decode c_M_way 44 = .ok (.iconst 3, 1) := by decide +kernel
theorem d_M_way_45 : decode c_M_way 45 = .ok (.goto 4, 3) := by decide +kernel
theorem d_M_way_48 : decode c_M_way 48 = .ok (.iconst 0, 1) := by decide +kernel
theorem d_M_way_49 : decode c_M_way 49 = .ok (.putfield 31, 3) := by decide +kernel
theorem d_M_way_52 : decode c_M_way 52 = .ok (.aload_n 0, 1) := by decide +kernel
theorem d_M_way_53 : decode c_M_way 53 = .ok (.getfield 31, 3) := by decide +kernel
theorem d_M_way_56 : decode c_M_way 56 = .ok (.ifCond .le 5, 3) := by decide +kernel
theorem d_M_way_59 : decode c_M_way 59 = .ok (.iconst 0, 1) := by decide +kernel
theorem d_M_way_60 : decode c_M_way 60 = .ok (.ireturn, 1) := by decide +kernel
theorem d_M_way_61 : decode c_M_way 61 = .ok (.iload_n 1, 1) := by decide +kernel
theorem d_M_way_62 : decode c_M_way 62 = .ok (.istore 4, 2) := by decide +kernel
theorem d_M_way_64 : decode c_M_way 64 = .ok (.iconst 0, 1) := by decide +kernel
theorem d_M_way_65 : decode c_M_way 65 = .ok (.istore 5, 2) := by decide +kernel
theorem d_M_way_67 : decode c_M_way 67 = .ok (.iload 5, 2) := by decide +kernel
theorem d_M_way_69 : decode c_M_way 69 = .ok (.iload_n 3, 1) := by decide +kernel
theorem d_M_way_70 : decode c_M_way 70 = .ok (.if_icmp .ge 75, 3) := by decide +kernel
theorem d_M_way_73 : decode c_M_way 73 = .ok (.bipush 15, 2) := by decide +kernel
theorem d_M_way_75 : decode c_M_way 75 = .ok (.istore 6, 2) := by decide +kernel
theorem d_M_way_77 : decode c_M_way 77 = .ok (.bipush 15, 2) := by decide +kernel
theorem d_M_way_79 : decode c_M_way 79 = .ok (.istore 7, 2) := by decide +kernel
theorem d_M_way_81 : decode c_M_way 81 = .ok (.iload 7, 2) := by decide +kernel
theorem d_M_way_83 : decode c_M_way 83 = .ok (.ifCond .lt 52, 3) := by decide +kernel
theorem d_M_way_86 : decode c_M_way 86 = .ok (.aload_n 0, 1) := by decide +kernel
theorem d_M_way_87 : decode c_M_way 87 = .ok (.getfield 7, 3) := by decide +kernel
theorem d_M_way_90 : decode c_M_way 90 = .ok (.iload 4, 2) := by decide +kernel
theorem d_M_way_92 : decode c_M_way 92 = .ok (.iaload, 1) := by decide +kernel
theorem d_M_way_93 : decode c_M_way 93 = .ok (.iload 7, 2) := by decide +kernel
theorem d_M_way_95 : decode c_M_way 95 = .ok (.invokestatic 35, 3) := by decide +kernel
theorem d_M_way_98 : decode c_M_way 98 = .ok (.ifCond .eq 27, 3) := by decide +kernel
theorem d_M_way_101 : decode c_M_way 101 = .ok (.aload_n 0, 1) := by decide +kernel
theorem d_M_way_102 : decode c_M_way 102 = .ok (.getfield 19, 3) := by decide +kernel
theorem d_M_way_105 : decode c_M_way 105 = .ok (.iload 7, 2) := by decide +kernel
theorem d_M_way_107 : decode c_M_way 107 = .ok (.iaload, 1) := by decide +kernel
theorem d_M_way_108 : decode c_M_way 108 = .ok (.aload_n 0, 1) := by decide +kernel
theorem d_M_way_109 : decode c_M_way 109 = .ok (.getfield 19, 3) := by decide +kernel
theorem d_M_way_112 : decode c_M_way 112 = .ok (.iload 4, 2) := by decide +kernel
theorem d_M_way_114 : decode c_M_way 114 = .ok (.iaload, 1) := by decide +kernel
theorem d_M_way_115 : decode c_M_way 115 = .ok (.iconst 1, 1) := by decide +kernel
theorem d_M_way_116 : decode c_M_way 116 = .ok (.isub, 1) := by decide +kernel
theorem d_M_way_117 : decode c_M_way 117 = .ok (.if_icmp .ne 8, 3) := by decide +kernel
theorem d_M_way_120 : decode c_M_way 120 = .ok (.iload 7, 2) := by decide +kernel
theorem d_M_way_122 : decode c_M_way 122 = .ok (.goto 5, 3) := by decide +kernel
theorem d_M_way_125 : decode c_M_way 125 = .ok (.iload 6, 2) := by decide +kernel
theorem d_M_way_127 : decode c_M_way 127 = .ok (.istore 6, 2) := by decide +kernel
theorem d_M_way_129 : decode c_M_way 129 = .ok (.iinc 7 (-1), 3) := by decide +kernel
theorem d_M_way_132 : decode c_M_way 132 = .ok (.goto (-51), 3) := by decide +kernel
theorem d_M_way_135 : decode c_M_way 135 = .ok (.iload 6, 2) := by decide +kernel
theorem d_M_way_137 : decode c_M_way 137 = .ok (.istore 4, 2) := by decide +kernel
theorem d_M_way_139 : decode c_M_way 139 = .ok (.iinc 5 1, 3) := by decide +kernel
theorem d_M_way_142 : decode c_M_way 142 = .ok (.goto (-75), 3) := by decide +kernel
theorem d_M_way_145 : decode c_M_way 145 = .ok (.iload 4, 2) := by decide +kernel
theorem d_M_way_147 : decode c_M_way 147 = .ok (.ireturn, 1) := by decide +kernel
theorem d_M_gate_0 : decode c_M_gate 0 = .ok (.aload_n 0, 1) := by decide +kernel
theorem d_M_gate_1 : decode c_M_gate 1 = .ok (.iload_n 1, 1) := by decide +kernel
theorem d_M_gate_2 : decode c_M_gate 2 = .ok (.iload_n 2, 1) := by decide +kernel
theorem d_M_gate_3 : decode c_M_gate 3 = .ok (.invokevirtual 67, 3) := by decide +kernel
theorem d_M_gate_6 : decode c_M_gate 6 = .ok (.ifCond .eq 5, 3) := by decide +kernel
theorem d_M_gate_9 : decode c_M_gate 9 = .ok (.iconst 0, 1) := by decide +kernel
theorem d_M_gate_10 : decode c_M_gate 10 = .ok (.ireturn, 1) := by decide +kernel
theorem d_M_gate_11 : decode c_M_gate 11 = .ok (.aload_n 0, 1) := by decide +kernel
theorem d_M_gate_12 : decode c_M_gate 12 = .ok (.aload_n 0, 1) := by decide +kernel
theorem d_M_gate_13 : decode c_M_gate 13 = .ok (.iload_n 1, 1) := by decide +kernel
theorem d_M_gate_14 : decode c_M_gate 14 = .ok (.invokevirtual 51, 3) := by decide +kernel
theorem d_M_gate_17 : decode c_M_gate 17 = .ok (.iload_n 2, 1) := by decide +kernel
theorem d_M_gate_18 : decode c_M_gate 18 = .ok (.invokestatic 35, 3) := by decide +kernel
theorem d_M_gate_21 : decode c_M_gate 21 = .ok (.ifCond .eq 7, 3) := by decide +kernel
theorem d_M_gate_24 : decode c_M_gate 24 = .ok (.iconst 0, 1) := by decide +kernel
theorem d_M_gate_25 : decode c_M_gate 25 = .ok (.goto 4, 3) := by decide +kernel
theorem d_M_gate_28 : decode c_M_gate 28 = .ok (.iconst 2, 1) := by decide +kernel
theorem d_M_gate_29 : decode c_M_gate 29 = .ok (.putfield 31, 3) := by decide +kernel
theorem d_M_gate_32 : decode c_M_gate 32 = .ok (.aload_n 0, 1) := by decide +kernel
theorem d_M_gate_33 : decode c_M_gate 33 = .ok (.getfield 31, 3) := by decide +kernel
theorem d_M_gate_36 : decode c_M_gate 36 = .ok (.ifCond .gt 8, 3) := by decide +kernel
theorem d_M_gate_39 : decode c_M_gate 39 = .ok (.iload_n 1, 1) := by decide +kernel
theorem d_M_gate_40 : decode c_M_gate 40 = .ok (.iload_n 2, 1) := by decide +kernel
theorem d_M_gate_41 : decode c_M_gate 41 = .ok (.if_icmp .ne 16, 3) := by decide +kernel
theorem d_M_gate_44 : decode c_M_gate 44 = .ok (.aload_n 0, 1) := by decide +kernel
theorem d_M_gate_45 : decode c_M_gate 45 = .ok (.getfield 31, 3) := by decide +kernel
theorem d_M_gate_48 : decode c_M_gate 48 = .ok (.ifCond .le 7, 3) := by decide +kernel
theorem d_M_gate_51 : decode c_M_gate 51 = .ok (.iconst 0, 1) := by decide +kernel
theorem d_M_gate_52 : decode c_M_gate 52 = .ok (.goto 4, 3) := by decide +kernel
theorem d_M_gate_55 : decode c_M_gate 55 = .ok (.iconst (-1), 1) := by decide +kernel
theorem d_M_gate_56 : decode c_M_gate 56 = .ok (.ireturn, 1) := by decide +kernel
theorem d_M_gate_57 : decode c_M_gate 57 = .ok (.iconst (-1), 1) := by decide +kernel
theorem d_M_gate_58 : decode c_M_gate 58 = .ok (.istore_n 3, 1) := by decide +kernel
theorem d_M_gate_59 : decode c_M_gate 59 = .ok (.iconst 0, 1) := by decide +kernel
theorem d_M_gate_60 : decode c_M_gate 60 = .ok (.istore 4, 2) := by decide +kernel
theorem d_M_gate_62 : decode c_M_gate 62 = .ok (.iload 4, 2) := by decide +kernel
theorem d_M_gate_64 : decode c_M_gate 64 = .ok (.bipush 16, 2) := by decide +kernel
theorem d_M_gate_66 : decode c_M_gate 66 = .ok (.if_icmp .ge 128, 3) := by decide +kernel
theorem d_M_gate_69 : decode c_M_gate 69 = .ok (.iload 4, 2) := by decide +kernel
theorem d_M_gate_71 : decode c_M_gate 71 = .ok (.iload_n 2, 1) := by decide +kernel
theorem d_M_gate_72 : decode c_M_gate 72 = .ok (.if_icmp .eq 31, 3) := by decide +kernel
theorem d_M_gate_75 : decode c_M_gate 75 = .ok (.aload_n 0, 1) := by decide +kernel
theorem d_M_gate_76 : decode c_M_gate 76 = .ok (.iload_n 1, 1) := by decide +kernel
theorem d_M_gate_77 : decode c_M_gate 77 = .ok (.invokevirtual 51, 3) := by decide +kernel
theorem d_M_gate_80 : decode c_M_gate 80 = .ok (.iload 4, 2) := by decide +kernel
theorem d_M_gate_82 : decode c_M_gate 82 = .ok (.invokestatic 35, 3) := by decide +kernel
theorem d_M_gate_85 : decode c_M_gate 85 = .ok (.ifCond .eq 18, 3) := by decide +kernel
theorem d_M_gate_88 : decode c_M_gate 88 = .ok (.aload_n 0, 1) := by decide +kernel
theorem d_M_gate_89 : decode c_M_gate 89 = .ok (.iload_n 1, 1) := by decide +kernel
theorem d_M_gate_90 : decode c_M_gate 90 = .ok (.iload_n 2, 1) := by decide +kernel
theorem d_M_gate_91 : decode c_M_gate 91 = .ok (.iload 4, 2) := by decide +kernel
theorem d_M_gate_93 : decode c_M_gate 93 = .ok (.invokevirtual 80, 3) := by decide +kernel
theorem d_M_gate_96 : decode c_M_gate 96 = .ok (.ifCond .eq 7, 3) := by decide +kernel
theorem d_M_gate_99 : decode c_M_gate 99 = .ok (.iconst 1, 1) := by decide +kernel
theorem d_M_gate_100 : decode c_M_gate 100 = .ok (.goto 4, 3) := by decide +kernel
theorem d_M_gate_103 : decode c_M_gate 103 = .ok (.iconst 0, 1) := by decide +kernel
theorem d_M_gate_104 : decode c_M_gate 104 = .ok (.istore 5, 2) := by decide +kernel
theorem d_M_gate_106 : decode c_M_gate 106 = .ok (.iconst 0, 1) := by decide +kernel
theorem d_M_gate_107 : decode c_M_gate 107 = .ok (.istore 6, 2) := by decide +kernel
theorem d_M_gate_109 : decode c_M_gate 109 = .ok (.iload 6, 2) := by decide +kernel
theorem d_M_gate_111 : decode c_M_gate 111 = .ok (.bipush 16, 2) := by decide +kernel
theorem d_M_gate_113 : decode c_M_gate 113 = .ok (.if_icmp .ge 63, 3) := by decide +kernel
theorem d_M_gate_116 : decode c_M_gate 116 = .ok (.iload 5, 2) := by decide +kernel
theorem d_M_gate_118 : decode c_M_gate 118 = .ok (.ifCond .eq 58, 3) := by decide +kernel
theorem d_M_gate_121 : decode c_M_gate 121 = .ok (.iload 6, 2) := by decide +kernel
theorem d_M_gate_123 : decode c_M_gate 123 = .ok (.iload_n 2, 1) := by decide +kernel
theorem d_M_gate_124 : decode c_M_gate 124 = .ok (.if_icmp .eq 39, 3) := by decide +kernel
theorem d_M_gate_127 : decode c_M_gate 127 = .ok (.aload_n 0, 1) := by decide +kernel
theorem d_M_gate_128 : decode c_M_gate 128 = .ok (.iload_n 1, 1) := by decide +kernel
theorem d_M_gate_129 : decode c_M_gate 129 = .ok (.invokevirtual 51, 3) := by decide +kernel
theorem d_M_gate_132 : decode c_M_gate 132 = .ok (.iload 6, 2) := by decide +kernel
theorem d_M_gate_134 : decode c_M_gate 134 = .ok (.invokestatic 35, 3) := by decide +kernel
theorem d_M_gate_137 : decode c_M_gate 137 = .ok (.ifCond .eq 26, 3) := by decide +kernel
theorem d_M_gate_140 : decode c_M_gate 140 = .ok (.aload_n 0, 1) := by decide +kernel
theorem d_M_gate_141 : decode c_M_gate 141 = .ok (.iload_n 1, 1) := by decide +kernel
theorem d_M_gate_142 : decode c_M_gate 142 = .ok (.iload_n 2, 1) := by decide +kernel
theorem d_M_gate_143 : decode c_M_gate 143 = .ok (.iload 6, 2) := by decide +kernel
theorem d_M_gate_145 : decode c_M_gate 145 = .ok (.invokevirtual 80, 3) := by decide +kernel
theorem d_M_gate_148 : decode c_M_gate 148 = .ok (.ifCond .eq 15, 3) := by decide +kernel
theorem d_M_gate_151 : decode c_M_gate 151 = .ok (.aload_n 0, 1) := by decide +kernel
theorem d_M_gate_152 : decode c_M_gate 152 = .ok (.iload_n 1, 1) := by decide +kernel
theorem d_M_gate_153 : decode c_M_gate 153 = .ok (.iload 4, 2) := by decide +kernel
theorem d_M_gate_155 : decode c_M_gate 155 = .ok (.iload 6, 2) := by decide +kernel
theorem d_M_gate_157 : decode c_M_gate 157 = .ok (.invokevirtual 80, 3) := by decide +kernel
theorem d_M_gate_160 : decode c_M_gate 160 = .ok (.ifCond .eq 7, 3) := by decide +kernel
theorem d_M_gate_163 : decode c_M_gate 163 = .ok (.iconst 1, 1) := by decide +kernel
theorem d_M_gate_164 : decode c_M_gate 164 = .ok (.goto 4, 3) := by decide +kernel
theorem d_M_gate_167 : decode c_M_gate 167 = .ok (.iconst 0, 1) := by decide +kernel
theorem d_M_gate_168 : decode c_M_gate 168 = .ok (.istore 5, 2) := by decide +kernel
theorem d_M_gate_170 : decode c_M_gate 170 = .ok (.iinc 6 1, 3) := by decide +kernel
theorem d_M_gate_173 : decode c_M_gate 173 = .ok (.goto (-64), 3) := by decide +kernel
theorem d_M_gate_176 : decode c_M_gate 176 = .ok (.iload 5, 2) := by decide +kernel
theorem d_M_gate_178 : decode c_M_gate 178 = .ok (.ifCond .eq 8, 3) := by decide +kernel
theorem d_M_gate_181 : decode c_M_gate 181 = .ok (.iload 4, 2) := by decide +kernel
theorem d_M_gate_183 : decode c_M_gate 183 = .ok (.goto 4, 3) := by decide +kernel
theorem d_M_gate_186 : decode c_M_gate 186 = .ok (.iload_n 3, 1) := by decide +kernel
theorem d_M_gate_187 : decode c_M_gate 187 = .ok (.istore_n 3, 1) := by decide +kernel
theorem d_M_gate_188 : decode c_M_gate 188 = .ok (.iinc 4 1, 3) := by decide +kernel
theorem d_M_gate_191 : decode c_M_gate 191 = .ok (.goto (-129), 3) := by decide +kernel
theorem d_M_gate_194 : decode c_M_gate 194 = .ok (.iload_n 3, 1) := by decide +kernel
theorem d_M_gate_195 : decode c_M_gate 195 = .ok (.ireturn, 1) := by decide +kernel
theorem d_M_dependent_0 : decode c_M_dependent 0 = .ok (.iload_n 3, 1) := by decide +kernel
theorem d_M_dependent_1 : decode c_M_dependent 1 = .ok (.iload_n 1, 1) := by decide +kernel
theorem d_M_dependent_2 : decode c_M_dependent 2 = .ok (.if_icmp .eq 30, 3) := by decide +kernel
theorem d_M_dependent_5 : decode c_M_dependent 5 = .ok (.iload_n 3, 1) := by decide +kernel
theorem d_M_dependent_6 : decode c_M_dependent 6 = .ok (.iload_n 2, 1) := by decide +kernel
theorem d_M_dependent_7 : decode c_M_dependent 7 = .ok (.if_icmp .eq 25, 3) := by decide +kernel
theorem d_M_dependent_10 : decode c_M_dependent 10 = .ok (.aload_n 0, 1) := by decide +kernel
theorem d_M_dependent_11 : decode c_M_dependent 11 = .ok (.iconst 1, 1) := by decide +kernel
theorem d_M_dependent_12 : decode c_M_dependent 12 = .ok (.iload_n 1, 1) := by decide +kernel
theorem d_M_dependent_13 : decode c_M_dependent 13 = .ok (.ishl, 1) := by decide +kernel
theorem d_M_dependent_14 : decode c_M_dependent 14 = .ok (.ldc 39, 2) := by decide +kernel
theorem d_M_dependent_16 : decode c_M_dependent 16 = .ok (.iconst 1, 1) := by decide +kernel
theorem d_M_dependent_17 : decode c_M_dependent 17 = .ok (.iload_n 3, 1) := by decide +kernel
theorem d_M_dependent_18 : decode c_M_dependent 18 = .ok (.ishl, 1) := by decide +kernel
theorem d_M_dependent_19 : decode c_M_dependent 19 = .ok (.iconst (-1), 1) := by decide +kernel
theorem d_M_dependent_20 : decode c_M_dependent 20 = .ok (.ixor, 1) := by decide +kernel
theorem d_M_dependent_21 : decode c_M_dependent 21 = .ok (.iand, 1) := by decide +kernel
theorem d_M_dependent_22 : decode c_M_dependent 22 = .ok (.invokevirtual 40, 3) := by decide +kernel
theorem d_M_dependent_25 : decode c_M_dependent 25 = .ok (.iload_n 2, 1) := by decide +kernel
theorem d_M_dependent_26 : decode c_M_dependent 26 = .ok (.invokestatic 35, 3) := by decide +kernel
theorem d_M_dependent_29 : decode c_M_dependent 29 = .ok (.ifCond .ne 7, 3) := by decide +kernel
theorem d_M_dependent_32 : decode c_M_dependent 32 = .ok (.iconst 1, 1) := by decide +kernel
theorem d_M_dependent_33 : decode c_M_dependent 33 = .ok (.goto 4, 3) := by decide +kernel
theorem d_M_dependent_36 : decode c_M_dependent 36 = .ok (.iconst 0, 1) := by decide +kernel
theorem d_M_dependent_37 : decode c_M_dependent 37 = .ok (.ireturn, 1) := by decide +kernel
theorem d_M_gated_0 : decode c_M_gated 0 = .ok (.aload_n 0, 1) := by decide +kernel
theorem d_M_gated_1 : decode c_M_gated 1 = .ok (.iload_n 1, 1) := by decide +kernel
theorem d_M_gated_2 : decode c_M_gated 2 = .ok (.iload_n 2, 1) := by decide +kernel
theorem d_M_gated_3 : decode c_M_gated 3 = .ok (.invokevirtual 67, 3) := by decide +kernel
theorem d_M_gated_6 : decode c_M_gated 6 = .ok (.ifCond .eq 5, 3) := by decide +kernel
theorem d_M_gated_9 : decode c_M_gated 9 = .ok (.iconst 0, 1) := by decide +kernel
theorem d_M_gated_10 : decode c_M_gated 10 = .ok (.ireturn, 1) := by decide +kernel
theorem d_M_gated_11 : decode c_M_gated 11 = .ok (.aload_n 0, 1) := by decide +kernel
theorem d_M_gated_12 : decode c_M_gated 12 = .ok (.iload_n 1, 1) := by decide +kernel
theorem d_M_gated_13 : decode c_M_gated 13 = .ok (.invokevirtual 51, 3) := by decide +kernel
theorem d_M_gated_16 : decode c_M_gated 16 = .ok (.istore_n 3, 1) := by decide +kernel
theorem d_M_gated_17 : decode c_M_gated 17 = .ok (.iconst 0, 1) := by decide +kernel
theorem d_M_gated_18 : decode c_M_gated 18 = .ok (.istore 4, 2) := by decide +kernel
theorem d_M_gated_20 : decode c_M_gated 20 = .ok (.iconst 0, 1) := by decide +kernel
theorem d_M_gated_21 : decode c_M_gated 21 = .ok (.istore 5, 2) := by decide +kernel
theorem d_M_gated_23 : decode c_M_gated 23 = .ok (.iload 5, 2) := by decide +kernel
theorem d_M_gated_25 : decode c_M_gated 25 = .ok (.bipush 16, 2) := by decide +kernel
theorem d_M_gated_27 : decode c_M_gated 27 = .ok (.if_icmp .ge 47, 3) := by decide +kernel
theorem d_M_gated_30 : decode c_M_gated 30 = .ok (.iload 4, 2) := by decide +kernel
theorem d_M_gated_32 : decode c_M_gated 32 = .ok (.iload_n 3, 1) := by decide +kernel
theorem d_M_gated_33 : decode c_M_gated 33 = .ok (.iload_n 2, 1) := by decide +kernel
theorem d_M_gated_34 : decode c_M_gated 34 = .ok (.invokestatic 35, 3) := by decide +kernel
theorem d_M_gated_37 : decode c_M_gated 37 = .ok (.ifCond .eq 27, 3) := by decide +kernel
theorem d_M_gated_40 : decode c_M_gated 40 = .ok (.iload_n 3, 1) := by decide +kernel
theorem d_M_gated_41 : decode c_M_gated 41 = .ok (.iload 5, 2) := by decide +kernel
theorem d_M_gated_43 : decode c_M_gated 43 = .ok (.invokestatic 35, 3) := by decide +kernel
theorem d_M_gated_46 : decode c_M_gated 46 = .ok (.ifCond .eq 18, 3) := by decide +kernel
theorem d_M_gated_49 : decode c_M_gated 49 = .ok (.aload_n 0, 1) := by decide +kernel
theorem d_M_gated_50 : decode c_M_gated 50 = .ok (.iload_n 1, 1) := by decide +kernel
theorem d_M_gated_51 : decode c_M_gated 51 = .ok (.iload 5, 2) := by decide +kernel
theorem d_M_gated_53 : decode c_M_gated 53 = .ok (.iload_n 2, 1) := by decide +kernel
theorem d_M_gated_54 : decode c_M_gated 54 = .ok (.invokevirtual 80, 3) := by decide +kernel
theorem d_M_gated_57 : decode c_M_gated 57 = .ok (.ifCond .eq 7, 3) := by decide +kernel
theorem d_M_gated_60 : decode c_M_gated 60 = .ok (.iconst 1, 1) := by decide +kernel
theorem d_M_gated_61 : decode c_M_gated 61 = .ok (.goto 4, 3) := by decide +kernel
theorem d_M_gated_64 : decode c_M_gated 64 = .ok (.iconst 0, 1) := by decide +kernel
theorem d_M_gated_65 : decode c_M_gated 65 = .ok (.iadd, 1) := by decide +kernel
theorem d_M_gated_66 : decode c_M_gated 66 = .ok (.istore 4, 2) := by decide +kernel
theorem d_M_gated_68 : decode c_M_gated 68 = .ok (.iinc 5 1, 3) := by decide +kernel
theorem d_M_gated_71 : decode c_M_gated 71 = .ok (.goto (-48), 3) := by decide +kernel
theorem d_M_gated_74 : decode c_M_gated 74 = .ok (.iload 4, 2) := by decide +kernel
theorem d_M_gated_76 : decode c_M_gated 76 = .ok (.ireturn, 1) := by decide +kernel
theorem d_M_places_0 : decode c_M_places 0 = .ok (.aload_n 0, 1) := by decide +kernel
theorem d_M_places_1 : decode c_M_places 1 = .ok (.iload_n 1, 1) := by decide +kernel
theorem d_M_places_2 : decode c_M_places 2 = .ok (.iload_n 2, 1) := by decide +kernel
theorem d_M_places_3 : decode c_M_places 3 = .ok (.invokevirtual 67, 3) := by decide +kernel
theorem d_M_places_6 : decode c_M_places 6 = .ok (.ifCond .eq 5, 3) := by decide +kernel
theorem d_M_places_9 : decode c_M_places 9 = .ok (.iconst 0, 1) := by decide +kernel
theorem d_M_places_10 : decode c_M_places 10 = .ok (.ireturn, 1) := by decide +kernel
theorem d_M_places_11 : decode c_M_places 11 = .ok (.iload_n 1, 1) := by decide +kernel
theorem d_M_places_12 : decode c_M_places 12 = .ok (.iload_n 2, 1) := by decide +kernel
theorem d_M_places_13 : decode c_M_places 13 = .ok (.if_icmp .eq 16, 3) := by decide +kernel
theorem d_M_places_16 : decode c_M_places 16 = .ok (.aload_n 0, 1) := by decide +kernel
theorem d_M_places_17 : decode c_M_places 17 = .ok (.getfield 7, 3) := by decide +kernel
theorem d_M_places_20 : decode c_M_places 20 = .ok (.iload_n 1, 1) := by decide +kernel
theorem d_M_places_21 : decode c_M_places 21 = .ok (.iaload, 1) := by decide +kernel
theorem d_M_places_22 : decode c_M_places 22 = .ok (.iload_n 2, 1) := by decide +kernel
theorem d_M_places_23 : decode c_M_places 23 = .ok (.invokestatic 35, 3) := by decide +kernel
theorem d_M_places_26 : decode c_M_places 26 = .ok (.ifCond .eq 5, 3) := by decide +kernel
theorem d_M_places_29 : decode c_M_places 29 = .ok (.iconst (-1), 1) := by decide +kernel
theorem d_M_places_30 : decode c_M_places 30 = .ok (.ireturn, 1) := by decide +kernel
theorem d_M_places_31 : decode c_M_places 31 = .ok (.iconst 0, 1) := by decide +kernel
theorem d_M_places_32 : decode c_M_places 32 = .ok (.istore_n 3, 1) := by decide +kernel
theorem d_M_places_33 : decode c_M_places 33 = .ok (.iload_n 3, 1) := by decide +kernel
theorem d_M_places_34 : decode c_M_places 34 = .ok (.bipush 16, 2) := by decide +kernel
theorem d_M_places_36 : decode c_M_places 36 = .ok (.if_icmp .ge 50, 3) := by decide +kernel
theorem d_M_places_39 : decode c_M_places 39 = .ok (.aload_n 0, 1) := by decide +kernel
theorem d_M_places_40 : decode c_M_places 40 = .ok (.getfield 22, 3) := by decide +kernel
theorem d_M_places_43 : decode c_M_places 43 = .ok (.iload_n 3, 1) := by decide +kernel
theorem d_M_places_44 : decode c_M_places 44 = .ok (.iload_n 3, 1) := by decide +kernel
theorem d_M_places_45 : decode c_M_places 45 = .ok (.iload_n 1, 1) := by decide +kernel
theorem d_M_places_46 : decode c_M_places 46 = .ok (.if_icmp .eq 8, 3) := by decide +kernel
theorem d_M_places_49 : decode c_M_places 49 = .ok (.iload_n 3, 1) := by decide +kernel
theorem d_M_places_50 : decode c_M_places 50 = .ok (.iload_n 2, 1) := by decide +kernel
theorem d_M_places_51 : decode c_M_places 51 = .ok (.if_icmp .ne 7, 3) := by decide +kernel
theorem d_M_places_54 : decode c_M_places 54 = .ok (.iconst 0, 1) := by decide +kernel
theorem d_M_places_55 : decode c_M_places 55 = .ok (.goto 9, 3) := by decide +kernel
theorem d_M_places_58 : decode c_M_places 58 = .ok (.iconst 1, 1) := by decide +kernel
theorem d_M_places_59 : decode c_M_places 59 = .ok (.bipush 16, 2) := by decide +kernel
theorem d_M_places_61 : decode c_M_places 61 = .ok (.iload_n 3, 1) := by decide +kernel
theorem d_M_places_62 : decode c_M_places 62 = .ok (.iadd, 1) := by decide +kernel
theorem d_M_places_63 : decode c_M_places 63 = .ok (.ishl, 1) := by decide +kernel
theorem d_M_places_64 : decode c_M_places 64 = .ok (.iastore, 1) := by decide +kernel
theorem d_M_places_65 : decode c_M_places 65 = .ok (.aload_n 0, 1) := by decide +kernel
theorem d_M_places_66 : decode c_M_places 66 = .ok (.getfield 22, 3) := by decide +kernel
theorem d_M_places_69 : decode c_M_places 69 = .ok (.bipush 16, 2) := by decide +kernel
theorem d_M_places_71 : decode c_M_places 71 = .ok (.iload_n 3, 1) := by decide +kernel
theorem d_M_places_72 : decode c_M_places 72 = .ok (.iadd, 1) := by decide +kernel
theorem d_M_places_73 : decode c_M_places 73 = .ok (.aload_n 0, 1) := by decide +kernel
theorem d_M_places_74 : decode c_M_places 74 = .ok (.getfield 7, 3) := by decide +kernel
theorem d_M_places_77 : decode c_M_places 77 = .ok (.iload_n 3, 1) := by decide +kernel
theorem d_M_places_78 : decode c_M_places 78 = .ok (.iaload, 1) := by decide +kernel
theorem d_M_places_79 : decode c_M_places 79 = .ok (.iastore, 1) := by decide +kernel
theorem d_M_places_80 : decode c_M_places 80 = .ok (.iinc 3 1, 3) := by decide +kernel
theorem d_M_places_83 : decode c_M_places 83 = .ok (.goto (-50), 3) := by decide +kernel
theorem d_M_places_86 : decode c_M_places 86 = .ok (.aload_n 0, 1) := by decide +kernel
theorem d_M_places_87 : decode c_M_places 87 = .ok (.bipush 16, 2) := by decide +kernel
theorem d_M_places_89 : decode c_M_places 89 = .ok (.iload_n 1, 1) := by decide +kernel
theorem d_M_places_90 : decode c_M_places 90 = .ok (.iadd, 1) := by decide +kernel
theorem d_M_places_91 : decode c_M_places 91 = .ok (.iload_n 2, 1) := by decide +kernel
theorem d_M_places_92 : decode c_M_places 92 = .ok (.invokevirtual 90, 3) := by decide +kernel
theorem d_M_places_95 : decode c_M_places 95 = .ok (.ireturn, 1) := by decide +kernel
theorem d_M_apart_0 : decode c_M_apart 0 = .ok (.iconst 0, 1) := by decide +kernel
theorem d_M_apart_1 : decode c_M_apart 1 = .ok (.istore_n 3, 1) := by decide +kernel
theorem d_M_apart_2 : decode c_M_apart 2 = .ok (.iconst 0, 1) := by decide +kernel
theorem d_M_apart_3 : decode c_M_apart 3 = .ok (.istore 4, 2) := by decide +kernel
theorem d_M_apart_5 : decode c_M_apart 5 = .ok (.iload 4, 2) := by decide +kernel
theorem d_M_apart_7 : decode c_M_apart 7 = .ok (.bipush 32, 2) := by decide +kernel
theorem d_M_apart_9 : decode c_M_apart 9 = .ok (.if_icmp .ge 17, 3) := by decide +kernel
theorem d_M_apart_12 : decode c_M_apart 12 = .ok (.aload_n 0, 1) := by decide +kernel
theorem d_M_apart_13 : decode c_M_apart 13 = .ok (.getfield 25, 3) := by decide +kernel
theorem d_M_apart_16 : decode c_M_apart 16 = .ok (.iload 4, 2) := by decide +kernel
theorem d_M_apart_18 : decode c_M_apart 18 = .ok (.iconst 0, 1) := by decide +kernel
theorem d_M_apart_19 : decode c_M_apart 19 = .ok (.iastore, 1) := by decide +kernel
theorem d_M_apart_20 : decode c_M_apart 20 = .ok (.iinc 4 1, 3) := by decide +kernel
theorem d_M_apart_23 : decode c_M_apart 23 = .ok (.goto (-18), 3) := by decide +kernel
theorem d_M_apart_26 : decode c_M_apart 26 = .ok (.aload_n 0, 1) := by decide +kernel
theorem d_M_apart_27 : decode c_M_apart 27 = .ok (.iload_n 1, 1) := by decide +kernel
theorem d_M_apart_28 : decode c_M_apart 28 = .ok (.iload_n 2, 1) := by decide +kernel
theorem d_M_apart_29 : decode c_M_apart 29 = .ok (.invokevirtual 87, 3) := by decide +kernel
theorem d_M_apart_32 : decode c_M_apart 32 = .ok (.ifCond .eq 82, 3) := by decide +kernel
theorem d_M_apart_35 : decode c_M_apart 35 = .ok (.iload_n 2, 1) := by decide +kernel
theorem d_M_apart_36 : decode c_M_apart 36 = .ok (.istore 4, 2) := by decide +kernel
theorem d_M_apart_38 : decode c_M_apart 38 = .ok (.iload 4, 2) := by decide +kernel
theorem d_M_apart_40 : decode c_M_apart 40 = .ok (.iload_n 1, 1) := by decide +kernel
theorem d_M_apart_41 : decode c_M_apart 41 = .ok (.if_icmp .eq 67, 3) := by decide +kernel
theorem d_M_apart_44 : decode c_M_apart 44 = .ok (.aload_n 0, 1) := by decide +kernel
theorem d_M_apart_45 : decode c_M_apart 45 = .ok (.getfield 28, 3) := by decide +kernel
theorem d_M_apart_48 : decode c_M_apart 48 = .ok (.iload 4, 2) := by decide +kernel
theorem d_M_apart_50 : decode c_M_apart 50 = .ok (.iaload, 1) := by decide +kernel
theorem d_M_apart_51 : decode c_M_apart 51 = .ok (.istore 5, 2) := by decide +kernel
theorem d_M_apart_53 : decode c_M_apart 53 = .ok (.aload_n 0, 1) := by decide +kernel
theorem d_M_apart_54 : decode c_M_apart 54 = .ok (.getfield 25, 3) := by decide +kernel
theorem d_M_apart_57 : decode c_M_apart 57 = .ok (.iload 4, 2) := by decide +kernel
theorem d_M_apart_59 : decode c_M_apart 59 = .ok (.iaload, 1) := by decide +kernel
theorem d_M_apart_60 : decode c_M_apart 60 = .ok (.iload 5, 2) := by decide +kernel
theorem d_M_apart_62 : decode c_M_apart 62 = .ok (.invokestatic 84, 3) := by decide +kernel
theorem d_M_apart_65 : decode c_M_apart 65 = .ok (.ifCond .eq 22, 3) := by decide +kernel
theorem d_M_apart_68 : decode c_M_apart 68 = .ok (.aload_n 0, 1) := by decide +kernel
theorem d_M_apart_69 : decode c_M_apart 69 = .ok (.getfield 25, 3) := by decide +kernel
theorem d_M_apart_72 : decode c_M_apart 72 = .ok (.iload 4, 2) := by decide +kernel
theorem d_M_apart_74 : decode c_M_apart 74 = .ok (.dup2, 1) := by decide +kernel
theorem d_M_apart_75 : decode c_M_apart 75 = .ok (.iaload, 1) := by decide +kernel
theorem d_M_apart_76 : decode c_M_apart 76 = .ok (.iconst 1, 1) := by decide +kernel
theorem d_M_apart_77 : decode c_M_apart 77 = .ok (.iload 5, 2) := by decide +kernel
theorem d_M_apart_79 : decode c_M_apart 79 = .ok (.ishl, 1) := by decide +kernel
theorem d_M_apart_80 : decode c_M_apart 80 = .ok (.iconst (-1), 1) := by decide +kernel
theorem d_M_apart_81 : decode c_M_apart 81 = .ok (.ixor, 1) := by decide +kernel
theorem d_M_apart_82 : decode c_M_apart 82 = .ok (.iand, 1) := by decide +kernel
theorem d_M_apart_83 : decode c_M_apart 83 = .ok (.iastore, 1) := by decide +kernel
theorem d_M_apart_84 : decode c_M_apart 84 = .ok (.goto 17, 3) := by decide +kernel
theorem d_M_apart_87 : decode c_M_apart 87 = .ok (.aload_n 0, 1) := by decide +kernel
theorem d_M_apart_88 : decode c_M_apart 88 = .ok (.getfield 25, 3) := by decide +kernel
theorem d_M_apart_91 : decode c_M_apart 91 = .ok (.iload 5, 2) := by decide +kernel
theorem d_M_apart_93 : decode c_M_apart 93 = .ok (.dup2, 1) := by decide +kernel
theorem d_M_apart_94 : decode c_M_apart 94 = .ok (.iaload, 1) := by decide +kernel
theorem d_M_apart_95 : decode c_M_apart 95 = .ok (.iconst 1, 1) := by decide +kernel
theorem d_M_apart_96 : decode c_M_apart 96 = .ok (.iload 4, 2) := by decide +kernel
theorem d_M_apart_98 : decode c_M_apart 98 = .ok (.ishl, 1) := by decide +kernel
theorem d_M_apart_99 : decode c_M_apart 99 = .ok (.ior, 1) := by decide +kernel
theorem d_M_apart_100 : decode c_M_apart 100 = .ok (.iastore, 1) := by decide +kernel
theorem d_M_apart_101 : decode c_M_apart 101 = .ok (.iload 5, 2) := by decide +kernel
theorem d_M_apart_103 : decode c_M_apart 103 = .ok (.istore 4, 2) := by decide +kernel
theorem d_M_apart_105 : decode c_M_apart 105 = .ok (.goto (-67), 3) := by decide +kernel
theorem d_M_apart_108 : decode c_M_apart 108 = .ok (.iinc 3 1, 3) := by decide +kernel
theorem d_M_apart_111 : decode c_M_apart 111 = .ok (.goto (-85), 3) := by decide +kernel
theorem d_M_apart_114 : decode c_M_apart 114 = .ok (.iload_n 3, 1) := by decide +kernel
theorem d_M_apart_115 : decode c_M_apart 115 = .ok (.ireturn, 1) := by decide +kernel
theorem d_M_finds_0 : decode c_M_finds 0 = .ok (.iconst 0, 1) := by decide +kernel
theorem d_M_finds_1 : decode c_M_finds 1 = .ok (.istore_n 3, 1) := by decide +kernel
theorem d_M_finds_2 : decode c_M_finds 2 = .ok (.iload_n 3, 1) := by decide +kernel
theorem d_M_finds_3 : decode c_M_finds 3 = .ok (.bipush 32, 2) := by decide +kernel
theorem d_M_finds_5 : decode c_M_finds 5 = .ok (.if_icmp .ge 25, 3) := by decide +kernel
theorem d_M_finds_8 : decode c_M_finds 8 = .ok (.aload_n 0, 1) := by decide +kernel
theorem d_M_finds_9 : decode c_M_finds 9 = .ok (.getfield 28, 3) := by decide +kernel
theorem d_M_finds_12 : decode c_M_finds 12 = .ok (.iload_n 3, 1) := by decide +kernel
theorem d_M_finds_13 : decode c_M_finds 13 = .ok (.iload_n 3, 1) := by decide +kernel
theorem d_M_finds_14 : decode c_M_finds 14 = .ok (.iload_n 1, 1) := by decide +kernel
theorem d_M_finds_15 : decode c_M_finds 15 = .ok (.if_icmp .ne 7, 3) := by decide +kernel
theorem d_M_finds_18 : decode c_M_finds 18 = .ok (.iload_n 1, 1) := by decide +kernel
theorem d_M_finds_19 : decode c_M_finds 19 = .ok (.goto 4, 3) := by decide +kernel
theorem d_M_finds_22 : decode c_M_finds 22 = .ok (.iconst (-1), 1) := by decide +kernel
theorem d_M_finds_23 : decode c_M_finds 23 = .ok (.iastore, 1) := by decide +kernel
theorem d_M_finds_24 : decode c_M_finds 24 = .ok (.iinc 3 1, 3) := by decide +kernel
theorem d_M_finds_27 : decode c_M_finds 27 = .ok (.goto (-25), 3) := by decide +kernel
theorem d_M_finds_30 : decode c_M_finds 30 = .ok (.iconst 1, 1) := by decide +kernel
theorem d_M_finds_31 : decode c_M_finds 31 = .ok (.istore_n 3, 1) := by decide +kernel
theorem d_M_finds_32 : decode c_M_finds 32 = .ok (.iload_n 3, 1) := by decide +kernel
theorem d_M_finds_33 : decode c_M_finds 33 = .ok (.ifCond .eq 137, 3) := by decide +kernel
theorem d_M_finds_36 : decode c_M_finds 36 = .ok (.aload_n 0, 1) := by decide +kernel
theorem d_M_finds_37 : decode c_M_finds 37 = .ok (.getfield 28, 3) := by decide +kernel
theorem d_M_finds_40 : decode c_M_finds 40 = .ok (.iload_n 2, 1) := by decide +kernel
theorem d_M_finds_41 : decode c_M_finds 41 = .ok (.iaload, 1) := by decide +kernel
theorem d_M_finds_42 : decode c_M_finds 42 = .ok (.ifCond .ge 128, 3) := by decide +kernel
theorem d_M_finds_45 : decode c_M_finds 45 = .ok (.iconst 0, 1) := by decide +kernel
theorem d_M_finds_46 : decode c_M_finds 46 = .ok (.istore_n 3, 1) := by decide +kernel
theorem d_M_finds_47 : decode c_M_finds 47 = .ok (.iconst 0, 1) := by decide +kernel
theorem d_M_finds_48 : decode c_M_finds 48 = .ok (.istore 4, 2) := by decide +kernel
theorem d_M_finds_50 : decode c_M_finds 50 = .ok (.iload 4, 2) := by decide +kernel
theorem d_M_finds_52 : decode c_M_finds 52 = .ok (.bipush 32, 2) := by decide +kernel
theorem d_M_finds_54 : decode c_M_finds 54 = .ok (.if_icmp .ge 113, 3) := by decide +kernel
theorem d_M_finds_57 : decode c_M_finds 57 = .ok (.iconst 0, 1) := by decide +kernel
theorem d_M_finds_58 : decode c_M_finds 58 = .ok (.istore 5, 2) := by decide +kernel
theorem d_M_finds_60 : decode c_M_finds 60 = .ok (.iload 5, 2) := by decide +kernel
theorem d_M_finds_62 : decode c_M_finds 62 = .ok (.bipush 32, 2) := by decide +kernel
theorem d_M_finds_64 : decode c_M_finds 64 = .ok (.if_icmp .ge 97, 3) := by decide +kernel
theorem d_M_finds_67 : decode c_M_finds 67 = .ok (.aload_n 0, 1) := by decide +kernel
theorem d_M_finds_68 : decode c_M_finds 68 = .ok (.getfield 28, 3) := by decide +kernel
theorem d_M_finds_71 : decode c_M_finds 71 = .ok (.iload 4, 2) := by decide +kernel
theorem d_M_finds_73 : decode c_M_finds 73 = .ok (.iaload, 1) := by decide +kernel
theorem d_M_finds_74 : decode c_M_finds 74 = .ok (.ifCond .lt 87, 3) := by decide +kernel
theorem d_M_finds_77 : decode c_M_finds 77 = .ok (.aload_n 0, 1) := by decide +kernel
theorem d_M_finds_78 : decode c_M_finds 78 = .ok (.getfield 22, 3) := by decide +kernel
theorem d_M_finds_81 : decode c_M_finds 81 = .ok (.iload 4, 2) := by decide +kernel
theorem d_M_finds_83 : decode c_M_finds 83 = .ok (.iaload, 1) := by decide +kernel
theorem d_M_finds_84 : decode c_M_finds 84 = .ok (.iload 5, 2) := by decide +kernel
theorem d_M_finds_86 : decode c_M_finds 86 = .ok (.invokestatic 84, 3) := by decide +kernel
theorem d_M_finds_89 : decode c_M_finds 89 = .ok (.ifCond .eq 18, 3) := by decide +kernel
theorem d_M_finds_92 : decode c_M_finds 92 = .ok (.aload_n 0, 1) := by decide +kernel
theorem d_M_finds_93 : decode c_M_finds 93 = .ok (.getfield 25, 3) := by decide +kernel
theorem d_M_finds_96 : decode c_M_finds 96 = .ok (.iload 4, 2) := by decide +kernel
theorem d_M_finds_98 : decode c_M_finds 98 = .ok (.iaload, 1) := by decide +kernel
theorem d_M_finds_99 : decode c_M_finds 99 = .ok (.iload 5, 2) := by decide +kernel
theorem d_M_finds_101 : decode c_M_finds 101 = .ok (.invokestatic 84, 3) := by decide +kernel
theorem d_M_finds_104 : decode c_M_finds 104 = .ok (.ifCond .eq 18, 3) := by decide +kernel
theorem d_M_finds_107 : decode c_M_finds 107 = .ok (.aload_n 0, 1) := by decide +kernel
theorem d_M_finds_108 : decode c_M_finds 108 = .ok (.getfield 25, 3) := by decide +kernel
theorem d_M_finds_111 : decode c_M_finds 111 = .ok (.iload 5, 2) := by decide +kernel
theorem d_M_finds_113 : decode c_M_finds 113 = .ok (.iaload, 1) := by decide +kernel
theorem d_M_finds_114 : decode c_M_finds 114 = .ok (.iload 4, 2) := by decide +kernel
theorem d_M_finds_116 : decode c_M_finds 116 = .ok (.invokestatic 84, 3) := by decide +kernel
theorem d_M_finds_119 : decode c_M_finds 119 = .ok (.ifCond .eq 7, 3) := by decide +kernel
theorem d_M_finds_122 : decode c_M_finds 122 = .ok (.iconst 1, 1) := by decide +kernel
theorem d_M_finds_123 : decode c_M_finds 123 = .ok (.goto 4, 3) := by decide +kernel
theorem d_M_finds_126 : decode c_M_finds 126 = .ok (.iconst 0, 1) := by decide +kernel
theorem d_M_finds_127 : decode c_M_finds 127 = .ok (.istore 6, 2) := by decide +kernel
theorem d_M_finds_129 : decode c_M_finds 129 = .ok (.iload 6, 2) := by decide +kernel
theorem d_M_finds_131 : decode c_M_finds 131 = .ok (.ifCond .eq 24, 3) := by decide +kernel
theorem d_M_finds_134 : decode c_M_finds 134 = .ok (.aload_n 0, 1) := by decide +kernel
theorem d_M_finds_135 : decode c_M_finds 135 = .ok (.getfield 28, 3) := by decide +kernel
theorem d_M_finds_138 : decode c_M_finds 138 = .ok (.iload 5, 2) := by decide +kernel
theorem d_M_finds_140 : decode c_M_finds 140 = .ok (.iaload, 1) := by decide +kernel
theorem d_M_finds_141 : decode c_M_finds 141 = .ok (.ifCond .ge 14, 3) := by decide +kernel
theorem d_M_finds_144 : decode c_M_finds 144 = .ok (.aload_n 0, 1) := by decide +kernel
theorem d_M_finds_145 : decode c_M_finds 145 = .ok (.getfield 28, 3) := by decide +kernel
theorem d_M_finds_148 : decode c_M_finds 148 = .ok (.iload 5, 2) := by decide +kernel
theorem d_M_finds_150 : decode c_M_finds 150 = .ok (.iload 4, 2) := by decide +kernel
theorem d_M_finds_152 : decode c_M_finds 152 = .ok (.iastore, 1) := by decide +kernel
theorem d_M_finds_153 : decode c_M_finds 153 = .ok (.iconst 1, 1) := by decide +kernel
theorem d_M_finds_154 : decode c_M_finds 154 = .ok (.istore_n 3, 1) := by decide +kernel
theorem d_M_finds_155 : decode c_M_finds 155 = .ok (.iinc 5 1, 3) := by decide +kernel
theorem d_M_finds_158 : decode c_M_finds 158 = .ok (.goto (-98), 3) := by decide +kernel
theorem d_M_finds_161 : decode c_M_finds 161 = .ok (.iinc 4 1, 3) := by decide +kernel
theorem d_M_finds_164 : decode c_M_finds 164 = .ok (.goto (-114), 3) := by decide +kernel
theorem d_M_finds_167 : decode c_M_finds 167 = .ok (.goto (-135), 3) := by decide +kernel
theorem d_M_finds_170 : decode c_M_finds 170 = .ok (.aload_n 0, 1) := by decide +kernel
theorem d_M_finds_171 : decode c_M_finds 171 = .ok (.getfield 28, 3) := by decide +kernel
theorem d_M_finds_174 : decode c_M_finds 174 = .ok (.iload_n 2, 1) := by decide +kernel
theorem d_M_finds_175 : decode c_M_finds 175 = .ok (.iaload, 1) := by decide +kernel
theorem d_M_finds_176 : decode c_M_finds 176 = .ok (.ifCond .lt 7, 3) := by decide +kernel
theorem d_M_finds_179 : decode c_M_finds 179 = .ok (.iconst 1, 1) := by decide +kernel
theorem d_M_finds_180 : decode c_M_finds 180 = .ok (.goto 4, 3) := by decide +kernel
theorem d_M_finds_183 : decode c_M_finds 183 = .ok (.iconst 0, 1) := by decide +kernel
theorem d_M_finds_184 : decode c_M_finds 184 = .ok (.ireturn, 1) := by decide +kernel
theorem d_M_at_0 : decode c_M_at 0 = .ok (.iload_n 0, 1) := by decide +kernel
theorem d_M_at_1 : decode c_M_at 1 = .ok (.iload_n 1, 1) := by decide +kernel
theorem d_M_at_2 : decode c_M_at 2 = .ok (.iushr, 1) := by decide +kernel
theorem d_M_at_3 : decode c_M_at 3 = .ok (.iconst 1, 1) := by decide +kernel
theorem d_M_at_4 : decode c_M_at 4 = .ok (.iand, 1) := by decide +kernel
theorem d_M_at_5 : decode c_M_at 5 = .ok (.iconst 1, 1) := by decide +kernel
theorem d_M_at_6 : decode c_M_at 6 = .ok (.if_icmp .ne 7, 3) := by decide +kernel
theorem d_M_at_9 : decode c_M_at 9 = .ok (.iconst 1, 1) := by decide +kernel
theorem d_M_at_10 : decode c_M_at 10 = .ok (.goto 4, 3) := by decide +kernel
theorem d_M_at_13 : decode c_M_at 13 = .ok (.iconst 0, 1) := by decide +kernel
theorem d_M_at_14 : decode c_M_at 14 = .ok (.ireturn, 1) := by decide +kernel
theorem d_M_arrows_0 : decode c_M_arrows 0 = .ok (.aload_n 0, 1) := by decide +kernel
theorem d_M_arrows_1 : decode c_M_arrows 1 = .ok (.iload_n 1, 1) := by decide +kernel
theorem d_M_arrows_2 : decode c_M_arrows 2 = .ok (.iload_n 2, 1) := by decide +kernel
theorem d_M_arrows_3 : decode c_M_arrows 3 = .ok (.invokevirtual 67, 3) := by decide +kernel
theorem d_M_arrows_6 : decode c_M_arrows 6 = .ok (.ifCond .eq 5, 3) := by decide +kernel
theorem d_M_arrows_9 : decode c_M_arrows 9 = .ok (.iconst 0, 1) := by decide +kernel
theorem d_M_arrows_10 : decode c_M_arrows 10 = .ok (.ireturn, 1) := by decide +kernel
theorem d_M_arrows_11 : decode c_M_arrows 11 = .ok (.iload_n 1, 1) := by decide +kernel
theorem d_M_arrows_12 : decode c_M_arrows 12 = .ok (.iload_n 2, 1) := by decide +kernel
theorem d_M_arrows_13 : decode c_M_arrows 13 = .ok (.if_icmp .ne 5, 3) := by decide +kernel
theorem d_M_arrows_16 : decode c_M_arrows 16 = .ok (.iconst (-1), 1) := by decide +kernel
theorem d_M_arrows_17 : decode c_M_arrows 17 = .ok (.ireturn, 1) := by decide +kernel
theorem d_M_arrows_18 : decode c_M_arrows 18 = .ok (.iconst 0, 1) := by decide +kernel
theorem d_M_arrows_19 : decode c_M_arrows 19 = .ok (.istore_n 3, 1) := by decide +kernel
theorem d_M_arrows_20 : decode c_M_arrows 20 = .ok (.iload_n 3, 1) := by decide +kernel
theorem d_M_arrows_21 : decode c_M_arrows 21 = .ok (.bipush 16, 2) := by decide +kernel
theorem d_M_arrows_23 : decode c_M_arrows 23 = .ok (.if_icmp .ge 31, 3) := by decide +kernel
theorem d_M_arrows_26 : decode c_M_arrows 26 = .ok (.aload_n 0, 1) := by decide +kernel
theorem d_M_arrows_27 : decode c_M_arrows 27 = .ok (.getfield 22, 3) := by decide +kernel
theorem d_M_arrows_30 : decode c_M_arrows 30 = .ok (.iload_n 3, 1) := by decide +kernel
theorem d_M_arrows_31 : decode c_M_arrows 31 = .ok (.aload_n 0, 1) := by decide +kernel
theorem d_M_arrows_32 : decode c_M_arrows 32 = .ok (.getfield 7, 3) := by decide +kernel
theorem d_M_arrows_35 : decode c_M_arrows 35 = .ok (.iload_n 3, 1) := by decide +kernel
theorem d_M_arrows_36 : decode c_M_arrows 36 = .ok (.iaload, 1) := by decide +kernel
theorem d_M_arrows_37 : decode c_M_arrows 37 = .ok (.iastore, 1) := by decide +kernel
theorem d_M_arrows_38 : decode c_M_arrows 38 = .ok (.aload_n 0, 1) := by decide +kernel
theorem d_M_arrows_39 : decode c_M_arrows 39 = .ok (.getfield 22, 3) := by decide +kernel
theorem d_M_arrows_42 : decode c_M_arrows 42 = .ok (.bipush 16, 2) := by decide +kernel
theorem d_M_arrows_44 : decode c_M_arrows 44 = .ok (.iload_n 3, 1) := by decide +kernel
theorem d_M_arrows_45 : decode c_M_arrows 45 = .ok (.iadd, 1) := by decide +kernel
theorem d_M_arrows_46 : decode c_M_arrows 46 = .ok (.iconst 0, 1) := by decide +kernel
theorem d_M_arrows_47 : decode c_M_arrows 47 = .ok (.iastore, 1) := by decide +kernel
theorem d_M_arrows_48 : decode c_M_arrows 48 = .ok (.iinc 3 1, 3) := by decide +kernel
theorem d_M_arrows_51 : decode c_M_arrows 51 = .ok (.goto (-31), 3) := by decide +kernel
theorem d_M_arrows_54 : decode c_M_arrows 54 = .ok (.aload_n 0, 1) := by decide +kernel
theorem d_M_arrows_55 : decode c_M_arrows 55 = .ok (.iload_n 1, 1) := by decide +kernel
theorem d_M_arrows_56 : decode c_M_arrows 56 = .ok (.iload_n 2, 1) := by decide +kernel
theorem d_M_arrows_57 : decode c_M_arrows 57 = .ok (.invokevirtual 90, 3) := by decide +kernel
theorem d_M_arrows_60 : decode c_M_arrows 60 = .ok (.ireturn, 1) := by decide +kernel
theorem d_M_figure_0 : decode c_M_figure 0 = .ok (.aload_n 0, 1) := by decide +kernel
theorem d_M_figure_1 : decode c_M_figure 1 = .ok (.iload_n 1, 1) := by decide +kernel
theorem d_M_figure_2 : decode c_M_figure 2 = .ok (.ifCond .lt 8, 3) := by decide +kernel
theorem d_M_figure_5 : decode c_M_figure 5 = .ok (.iload_n 1, 1) := by decide +kernel
theorem d_M_figure_6 : decode c_M_figure 6 = .ok (.iconst 5, 1) := by decide +kernel
theorem d_M_figure_7 : decode c_M_figure 7 = .ok (.if_icmp .le 7, 3) := by decide +kernel
theorem d_M_figure_10 : decode c_M_figure 10 = .ok (.iconst 1, 1) := by decide +kernel
theorem d_M_figure_11 : decode c_M_figure 11 = .ok (.goto 4, 3) := by decide +kernel
theorem d_M_figure_14 : decode c_M_figure 14 = .ok (.iconst 0, 1) := by decide +kernel
theorem d_M_figure_15 : decode c_M_figure 15 = .ok (.putfield 31, 3) := by decide +kernel
theorem d_M_figure_18 : decode c_M_figure 18 = .ok (.aload_n 0, 1) := by decide +kernel
theorem d_M_figure_19 : decode c_M_figure 19 = .ok (.getfield 31, 3) := by decide +kernel
theorem d_M_figure_22 : decode c_M_figure 22 = .ok (.ifCond .le 5, 3) := by decide +kernel
theorem d_M_figure_25 : decode c_M_figure 25 = .ok (.iconst 0, 1) := by decide +kernel
theorem d_M_figure_26 : decode c_M_figure 26 = .ok (.ireturn, 1) := by decide +kernel
theorem d_M_figure_27 : decode c_M_figure 27 = .ok (.aload_n 0, 1) := by decide +kernel
theorem d_M_figure_28 : decode c_M_figure 28 = .ok (.invokevirtual 73, 3) := by decide +kernel
theorem d_M_figure_31 : decode c_M_figure 31 = .ok (.iload_n 1, 1) := by decide +kernel
theorem d_M_figure_32 : decode c_M_figure 32 = .ok (.tableswitch 63 0 4 #[36, 41, 46, 52, 58], 36) := by decide +kernel
theorem d_M_figure_68 : decode c_M_figure 68 = .ok (.aload_n 0, 1) := by decide +kernel
theorem d_M_figure_69 : decode c_M_figure 69 = .ok (.getfield 48, 3) := by decide +kernel
theorem d_M_figure_72 : decode c_M_figure 72 = .ok (.ireturn, 1) := by decide +kernel
theorem d_M_figure_73 : decode c_M_figure 73 = .ok (.aload_n 0, 1) := by decide +kernel
theorem d_M_figure_74 : decode c_M_figure 74 = .ok (.getfield 58, 3) := by decide +kernel
theorem d_M_figure_77 : decode c_M_figure 77 = .ok (.ireturn, 1) := by decide +kernel
theorem d_M_figure_78 : decode c_M_figure 78 = .ok (.aload_n 0, 1) := by decide +kernel
theorem d_M_figure_79 : decode c_M_figure 79 = .ok (.iconst 0, 1) := by decide +kernel
theorem d_M_figure_80 : decode c_M_figure 80 = .ok (.invokevirtual 99, 3) := by decide +kernel
theorem d_M_figure_83 : decode c_M_figure 83 = .ok (.ireturn, 1) := by decide +kernel
theorem d_M_figure_84 : decode c_M_figure 84 = .ok (.aload_n 0, 1) := by decide +kernel
theorem d_M_figure_85 : decode c_M_figure 85 = .ok (.iconst 1, 1) := by decide +kernel
theorem d_M_figure_86 : decode c_M_figure 86 = .ok (.invokevirtual 99, 3) := by decide +kernel
theorem d_M_figure_89 : decode c_M_figure 89 = .ok (.ireturn, 1) := by decide +kernel
theorem d_M_figure_90 : decode c_M_figure 90 = .ok (.aload_n 0, 1) := by decide +kernel
theorem d_M_figure_91 : decode c_M_figure 91 = .ok (.invokevirtual 103, 3) := by decide +kernel
theorem d_M_figure_94 : decode c_M_figure 94 = .ok (.ireturn, 1) := by decide +kernel
theorem d_M_figure_95 : decode c_M_figure 95 = .ok (.aload_n 0, 1) := by decide +kernel
theorem d_M_figure_96 : decode c_M_figure 96 = .ok (.invokevirtual 107, 3) := by decide +kernel
theorem d_M_figure_99 : decode c_M_figure 99 = .ok (.ireturn, 1) := by decide +kernel
theorem d_M_pairs_0 : decode c_M_pairs 0 = .ok (.iconst 0, 1) := by decide +kernel
theorem d_M_pairs_1 : decode c_M_pairs 1 = .ok (.istore_n 2, 1) := by decide +kernel
theorem d_M_pairs_2 : decode c_M_pairs 2 = .ok (.iconst 0, 1) := by decide +kernel
theorem d_M_pairs_3 : decode c_M_pairs 3 = .ok (.istore_n 3, 1) := by decide +kernel
theorem d_M_pairs_4 : decode c_M_pairs 4 = .ok (.iload_n 3, 1) := by decide +kernel
theorem d_M_pairs_5 : decode c_M_pairs 5 = .ok (.aload_n 0, 1) := by decide +kernel
theorem d_M_pairs_6 : decode c_M_pairs 6 = .ok (.getfield 58, 3) := by decide +kernel
theorem d_M_pairs_9 : decode c_M_pairs 9 = .ok (.if_icmp .ge 83, 3) := by decide +kernel
theorem d_M_pairs_12 : decode c_M_pairs 12 = .ok (.iconst 0, 1) := by decide +kernel
theorem d_M_pairs_13 : decode c_M_pairs 13 = .ok (.istore 4, 2) := by decide +kernel
theorem d_M_pairs_15 : decode c_M_pairs 15 = .ok (.iload 4, 2) := by decide +kernel
theorem d_M_pairs_17 : decode c_M_pairs 17 = .ok (.aload_n 0, 1) := by decide +kernel
theorem d_M_pairs_18 : decode c_M_pairs 18 = .ok (.getfield 58, 3) := by decide +kernel
theorem d_M_pairs_21 : decode c_M_pairs 21 = .ok (.if_icmp .ge 65, 3) := by decide +kernel
theorem d_M_pairs_24 : decode c_M_pairs 24 = .ok (.aload_n 0, 1) := by decide +kernel
theorem d_M_pairs_25 : decode c_M_pairs 25 = .ok (.aload_n 0, 1) := by decide +kernel
theorem d_M_pairs_26 : decode c_M_pairs 26 = .ok (.getfield 13, 3) := by decide +kernel
theorem d_M_pairs_29 : decode c_M_pairs 29 = .ok (.iload_n 3, 1) := by decide +kernel
theorem d_M_pairs_30 : decode c_M_pairs 30 = .ok (.iaload, 1) := by decide +kernel
theorem d_M_pairs_31 : decode c_M_pairs 31 = .ok (.aload_n 0, 1) := by decide +kernel
theorem d_M_pairs_32 : decode c_M_pairs 32 = .ok (.getfield 13, 3) := by decide +kernel
theorem d_M_pairs_35 : decode c_M_pairs 35 = .ok (.iload 4, 2) := by decide +kernel
theorem d_M_pairs_37 : decode c_M_pairs 37 = .ok (.iaload, 1) := by decide +kernel
theorem d_M_pairs_38 : decode c_M_pairs 38 = .ok (.invokevirtual 93, 3) := by decide +kernel
theorem d_M_pairs_41 : decode c_M_pairs 41 = .ok (.istore 5, 2) := by decide +kernel
theorem d_M_pairs_43 : decode c_M_pairs 43 = .ok (.iload_n 2, 1) := by decide +kernel
theorem d_M_pairs_44 : decode c_M_pairs 44 = .ok (.iload 5, 2) := by decide +kernel
theorem d_M_pairs_46 : decode c_M_pairs 46 = .ok (.ifCond .eq 31, 3) := by decide +kernel
theorem d_M_pairs_49 : decode c_M_pairs 49 = .ok (.iload_n 1, 1) := by decide +kernel
theorem d_M_pairs_50 : decode c_M_pairs 50 = .ok (.ifCond .eq 23, 3) := by decide +kernel
theorem d_M_pairs_53 : decode c_M_pairs 53 = .ok (.aload_n 0, 1) := by decide +kernel
theorem d_M_pairs_54 : decode c_M_pairs 54 = .ok (.aload_n 0, 1) := by decide +kernel
theorem d_M_pairs_55 : decode c_M_pairs 55 = .ok (.getfield 13, 3) := by decide +kernel
theorem d_M_pairs_58 : decode c_M_pairs 58 = .ok (.iload_n 3, 1) := by decide +kernel
theorem d_M_pairs_59 : decode c_M_pairs 59 = .ok (.iaload, 1) := by decide +kernel
theorem d_M_pairs_60 : decode c_M_pairs 60 = .ok (.aload_n 0, 1) := by decide +kernel
theorem d_M_pairs_61 : decode c_M_pairs 61 = .ok (.getfield 13, 3) := by decide +kernel
theorem d_M_pairs_64 : decode c_M_pairs 64 = .ok (.iload 4, 2) := by decide +kernel
theorem d_M_pairs_66 : decode c_M_pairs 66 = .ok (.iaload, 1) := by decide +kernel
theorem d_M_pairs_67 : decode c_M_pairs 67 = .ok (.invokevirtual 96, 3) := by decide +kernel
theorem d_M_pairs_70 : decode c_M_pairs 70 = .ok (.ifCond .ne 7, 3) := by decide +kernel
theorem d_M_pairs_73 : decode c_M_pairs 73 = .ok (.iconst 1, 1) := by decide +kernel
theorem d_M_pairs_74 : decode c_M_pairs 74 = .ok (.goto 4, 3) := by decide +kernel
theorem d_M_pairs_77 : decode c_M_pairs 77 = .ok (.iconst 0, 1) := by decide +kernel
theorem d_M_pairs_78 : decode c_M_pairs 78 = .ok (.iadd, 1) := by decide +kernel
theorem d_M_pairs_79 : decode c_M_pairs 79 = .ok (.istore_n 2, 1) := by decide +kernel
theorem d_M_pairs_80 : decode c_M_pairs 80 = .ok (.iinc 4 1, 3) := by decide +kernel
theorem d_M_pairs_83 : decode c_M_pairs 83 = .ok (.goto (-68), 3) := by decide +kernel
theorem d_M_pairs_86 : decode c_M_pairs 86 = .ok (.iinc 3 1, 3) := by decide +kernel
theorem d_M_pairs_89 : decode c_M_pairs 89 = .ok (.goto (-85), 3) := by decide +kernel
theorem d_M_pairs_92 : decode c_M_pairs 92 = .ok (.iload_n 2, 1) := by decide +kernel
theorem d_M_pairs_93 : decode c_M_pairs 93 = .ok (.ireturn, 1) := by decide +kernel
theorem d_M_leads_0 : decode c_M_leads 0 = .ok (.iload_n 1, 1) := by decide +kernel
theorem d_M_leads_1 : decode c_M_leads 1 = .ok (.iload_n 2, 1) := by decide +kernel
theorem d_M_leads_2 : decode c_M_leads 2 = .ok (.if_icmp .eq 27, 3) := by decide +kernel
theorem d_M_leads_5 : decode c_M_leads 5 = .ok (.aload_n 0, 1) := by decide +kernel
theorem d_M_leads_6 : decode c_M_leads 6 = .ok (.aload_n 0, 1) := by decide +kernel
theorem d_M_leads_7 : decode c_M_leads 7 = .ok (.getfield 16, 3) := by decide +kernel
theorem d_M_leads_10 : decode c_M_leads 10 = .ok (.iload_n 1, 1) := by decide +kernel
theorem d_M_leads_11 : decode c_M_leads 11 = .ok (.iaload, 1) := by decide +kernel
theorem d_M_leads_12 : decode c_M_leads 12 = .ok (.invokevirtual 64, 3) := by decide +kernel
theorem d_M_leads_15 : decode c_M_leads 15 = .ok (.aload_n 0, 1) := by decide +kernel
theorem d_M_leads_16 : decode c_M_leads 16 = .ok (.getfield 16, 3) := by decide +kernel
theorem d_M_leads_19 : decode c_M_leads 19 = .ok (.iload_n 2, 1) := by decide +kernel
theorem d_M_leads_20 : decode c_M_leads 20 = .ok (.iaload, 1) := by decide +kernel
theorem d_M_leads_21 : decode c_M_leads 21 = .ok (.iand, 1) := by decide +kernel
theorem d_M_leads_22 : decode c_M_leads 22 = .ok (.ifCond .eq 7, 3) := by decide +kernel
theorem d_M_leads_25 : decode c_M_leads 25 = .ok (.iconst 1, 1) := by decide +kernel
theorem d_M_leads_26 : decode c_M_leads 26 = .ok (.goto 4, 3) := by decide +kernel
theorem d_M_leads_29 : decode c_M_leads 29 = .ok (.iconst 0, 1) := by decide +kernel
theorem d_M_leads_30 : decode c_M_leads 30 = .ok (.ireturn, 1) := by decide +kernel
theorem d_M_otherwise_0 : decode c_M_otherwise 0 = .ok (.iconst 0, 1) := by decide +kernel
theorem d_M_otherwise_1 : decode c_M_otherwise 1 = .ok (.istore_n 3, 1) := by decide +kernel
theorem d_M_otherwise_2 : decode c_M_otherwise 2 = .ok (.iload_n 3, 1) := by decide +kernel
theorem d_M_otherwise_3 : decode c_M_otherwise 3 = .ok (.bipush 16, 2) := by decide +kernel
theorem d_M_otherwise_5 : decode c_M_otherwise 5 = .ok (.if_icmp .ge 55, 3) := by decide +kernel
theorem d_M_otherwise_8 : decode c_M_otherwise 8 = .ok (.aload_n 0, 1) := by decide +kernel
theorem d_M_otherwise_9 : decode c_M_otherwise 9 = .ok (.getfield 28, 3) := by decide +kernel
theorem d_M_otherwise_12 : decode c_M_otherwise 12 = .ok (.iload_n 3, 1) := by decide +kernel
theorem d_M_otherwise_13 : decode c_M_otherwise 13 = .ok (.aload_n 0, 1) := by decide +kernel
theorem d_M_otherwise_14 : decode c_M_otherwise 14 = .ok (.getfield 7, 3) := by decide +kernel
theorem d_M_otherwise_17 : decode c_M_otherwise 17 = .ok (.iload_n 3, 1) := by decide +kernel
theorem d_M_otherwise_18 : decode c_M_otherwise 18 = .ok (.iaload, 1) := by decide +kernel
theorem d_M_otherwise_19 : decode c_M_otherwise 19 = .ok (.iastore, 1) := by decide +kernel
theorem d_M_otherwise_20 : decode c_M_otherwise 20 = .ok (.aload_n 0, 1) := by decide +kernel
theorem d_M_otherwise_21 : decode c_M_otherwise 21 = .ok (.getfield 7, 3) := by decide +kernel
theorem d_M_otherwise_24 : decode c_M_otherwise 24 = .ok (.iload_n 3, 1) := by decide +kernel
theorem d_M_otherwise_25 : decode c_M_otherwise 25 = .ok (.dup2, 1) := by decide +kernel
theorem d_M_otherwise_26 : decode c_M_otherwise 26 = .ok (.iaload, 1) := by decide +kernel
theorem d_M_otherwise_27 : decode c_M_otherwise 27 = .ok (.aload_n 0, 1) := by decide +kernel
theorem d_M_otherwise_28 : decode c_M_otherwise 28 = .ok (.getfield 16, 3) := by decide +kernel
theorem d_M_otherwise_31 : decode c_M_otherwise 31 = .ok (.iload_n 1, 1) := by decide +kernel
theorem d_M_otherwise_32 : decode c_M_otherwise 32 = .ok (.iaload, 1) := by decide +kernel
theorem d_M_otherwise_33 : decode c_M_otherwise 33 = .ok (.iload_n 3, 1) := by decide +kernel
theorem d_M_otherwise_34 : decode c_M_otherwise 34 = .ok (.invokestatic 35, 3) := by decide +kernel
theorem d_M_otherwise_37 : decode c_M_otherwise 37 = .ok (.ifCond .eq 14, 3) := by decide +kernel
theorem d_M_otherwise_40 : decode c_M_otherwise 40 = .ok (.aload_n 0, 1) := by decide +kernel
theorem d_M_otherwise_41 : decode c_M_otherwise 41 = .ok (.getfield 16, 3) := by decide +kernel
theorem d_M_otherwise_44 : decode c_M_otherwise 44 = .ok (.iload_n 2, 1) := by decide +kernel
theorem d_M_otherwise_45 : decode c_M_otherwise 45 = .ok (.iaload, 1) := by decide +kernel
theorem d_M_otherwise_46 : decode c_M_otherwise 46 = .ok (.iconst (-1), 1) := by decide +kernel
theorem d_M_otherwise_47 : decode c_M_otherwise 47 = .ok (.ixor, 1) := by decide +kernel
theorem d_M_otherwise_48 : decode c_M_otherwise 48 = .ok (.goto 4, 3) := by decide +kernel
theorem d_M_otherwise_51 : decode c_M_otherwise 51 = .ok (.iconst (-1), 1) := by decide +kernel
theorem d_M_otherwise_52 : decode c_M_otherwise 52 = .ok (.iand, 1) := by decide +kernel
theorem d_M_otherwise_53 : decode c_M_otherwise 53 = .ok (.iastore, 1) := by decide +kernel
theorem d_M_otherwise_54 : decode c_M_otherwise 54 = .ok (.iinc 3 1, 3) := by decide +kernel
theorem d_M_otherwise_57 : decode c_M_otherwise 57 = .ok (.goto (-55), 3) := by decide +kernel
theorem d_M_otherwise_60 : decode c_M_otherwise 60 = .ok (.aload_n 0, 1) := by decide +kernel
theorem d_M_otherwise_61 : decode c_M_otherwise 61 = .ok (.aload_n 0, 1) := by decide +kernel
theorem d_M_otherwise_62 : decode c_M_otherwise 62 = .ok (.getfield 16, 3) := by decide +kernel
theorem d_M_otherwise_65 : decode c_M_otherwise 65 = .ok (.iload_n 1, 1) := by decide +kernel
theorem d_M_otherwise_66 : decode c_M_otherwise 66 = .ok (.iaload, 1) := by decide +kernel
theorem d_M_otherwise_67 : decode c_M_otherwise 67 = .ok (.ldc 39, 2) := by decide +kernel
theorem d_M_otherwise_69 : decode c_M_otherwise 69 = .ok (.invokevirtual 40, 3) := by decide +kernel
theorem d_M_otherwise_72 : decode c_M_otherwise 72 = .ok (.istore_n 3, 1) := by decide +kernel
theorem d_M_otherwise_73 : decode c_M_otherwise 73 = .ok (.iconst 0, 1) := by decide +kernel
theorem d_M_otherwise_74 : decode c_M_otherwise 74 = .ok (.istore 4, 2) := by decide +kernel
theorem d_M_otherwise_76 : decode c_M_otherwise 76 = .ok (.iload 4, 2) := by decide +kernel
theorem d_M_otherwise_78 : decode c_M_otherwise 78 = .ok (.bipush 16, 2) := by decide +kernel
theorem d_M_otherwise_80 : decode c_M_otherwise 80 = .ok (.if_icmp .ge 23, 3) := by decide +kernel
theorem d_M_otherwise_83 : decode c_M_otherwise 83 = .ok (.aload_n 0, 1) := by decide +kernel
theorem d_M_otherwise_84 : decode c_M_otherwise 84 = .ok (.getfield 7, 3) := by decide +kernel
theorem d_M_otherwise_87 : decode c_M_otherwise 87 = .ok (.iload 4, 2) := by decide +kernel
theorem d_M_otherwise_89 : decode c_M_otherwise 89 = .ok (.aload_n 0, 1) := by decide +kernel
theorem d_M_otherwise_90 : decode c_M_otherwise 90 = .ok (.getfield 28, 3) := by decide +kernel
theorem d_M_otherwise_93 : decode c_M_otherwise 93 = .ok (.iload 4, 2) := by decide +kernel
theorem d_M_otherwise_95 : decode c_M_otherwise 95 = .ok (.iaload, 1) := by decide +kernel
theorem d_M_otherwise_96 : decode c_M_otherwise 96 = .ok (.iastore, 1) := by decide +kernel
theorem d_M_otherwise_97 : decode c_M_otherwise 97 = .ok (.iinc 4 1, 3) := by decide +kernel
theorem d_M_otherwise_100 : decode c_M_otherwise 100 = .ok (.goto (-24), 3) := by decide +kernel
theorem d_M_otherwise_103 : decode c_M_otherwise 103 = .ok (.iload_n 3, 1) := by decide +kernel
theorem d_M_otherwise_104 : decode c_M_otherwise 104 = .ok (.aload_n 0, 1) := by decide +kernel
theorem d_M_otherwise_105 : decode c_M_otherwise 105 = .ok (.getfield 16, 3) := by decide +kernel
theorem d_M_otherwise_108 : decode c_M_otherwise 108 = .ok (.iload_n 2, 1) := by decide +kernel
theorem d_M_otherwise_109 : decode c_M_otherwise 109 = .ok (.iaload, 1) := by decide +kernel
theorem d_M_otherwise_110 : decode c_M_otherwise 110 = .ok (.iand, 1) := by decide +kernel
theorem d_M_otherwise_111 : decode c_M_otherwise 111 = .ok (.ifCond .eq 7, 3) := by decide +kernel
theorem d_M_otherwise_114 : decode c_M_otherwise 114 = .ok (.iconst 1, 1) := by decide +kernel
theorem d_M_otherwise_115 : decode c_M_otherwise 115 = .ok (.goto 4, 3) := by decide +kernel
theorem d_M_otherwise_118 : decode c_M_otherwise 118 = .ok (.iconst 0, 1) := by decide +kernel
theorem d_M_otherwise_119 : decode c_M_otherwise 119 = .ok (.ireturn, 1) := by decide +kernel
theorem d_M_longest_0 : decode c_M_longest 0 = .ok (.iconst 0, 1) := by decide +kernel
theorem d_M_longest_1 : decode c_M_longest 1 = .ok (.istore_n 1, 1) := by decide +kernel
theorem d_M_longest_2 : decode c_M_longest 2 = .ok (.iconst 0, 1) := by decide +kernel
theorem d_M_longest_3 : decode c_M_longest 3 = .ok (.istore_n 2, 1) := by decide +kernel
theorem d_M_longest_4 : decode c_M_longest 4 = .ok (.iload_n 2, 1) := by decide +kernel
theorem d_M_longest_5 : decode c_M_longest 5 = .ok (.aload_n 0, 1) := by decide +kernel
theorem d_M_longest_6 : decode c_M_longest 6 = .ok (.getfield 58, 3) := by decide +kernel
theorem d_M_longest_9 : decode c_M_longest 9 = .ok (.if_icmp .ge 107, 3) := by decide +kernel
theorem d_M_longest_12 : decode c_M_longest 12 = .ok (.aload_n 0, 1) := by decide +kernel
theorem d_M_longest_13 : decode c_M_longest 13 = .ok (.getfield 28, 3) := by decide +kernel
theorem d_M_longest_16 : decode c_M_longest 16 = .ok (.iload_n 2, 1) := by decide +kernel
theorem d_M_longest_17 : decode c_M_longest 17 = .ok (.iconst 1, 1) := by decide +kernel
theorem d_M_longest_18 : decode c_M_longest 18 = .ok (.iastore, 1) := by decide +kernel
theorem d_M_longest_19 : decode c_M_longest 19 = .ok (.iconst 0, 1) := by decide +kernel
theorem d_M_longest_20 : decode c_M_longest 20 = .ok (.istore_n 3, 1) := by decide +kernel
theorem d_M_longest_21 : decode c_M_longest 21 = .ok (.iload_n 3, 1) := by decide +kernel
theorem d_M_longest_22 : decode c_M_longest 22 = .ok (.iload_n 2, 1) := by decide +kernel
theorem d_M_longest_23 : decode c_M_longest 23 = .ok (.if_icmp .ge 66, 3) := by decide +kernel
theorem d_M_longest_26 : decode c_M_longest 26 = .ok (.aload_n 0, 1) := by decide +kernel
theorem d_M_longest_27 : decode c_M_longest 27 = .ok (.getfield 28, 3) := by decide +kernel
theorem d_M_longest_30 : decode c_M_longest 30 = .ok (.iload_n 2, 1) := by decide +kernel
theorem d_M_longest_31 : decode c_M_longest 31 = .ok (.aload_n 0, 1) := by decide +kernel
theorem d_M_longest_32 : decode c_M_longest 32 = .ok (.aload_n 0, 1) := by decide +kernel
theorem d_M_longest_33 : decode c_M_longest 33 = .ok (.getfield 13, 3) := by decide +kernel
theorem d_M_longest_36 : decode c_M_longest 36 = .ok (.iload_n 3, 1) := by decide +kernel
theorem d_M_longest_37 : decode c_M_longest 37 = .ok (.iaload, 1) := by decide +kernel
theorem d_M_longest_38 : decode c_M_longest 38 = .ok (.aload_n 0, 1) := by decide +kernel
theorem d_M_longest_39 : decode c_M_longest 39 = .ok (.getfield 13, 3) := by decide +kernel
theorem d_M_longest_42 : decode c_M_longest 42 = .ok (.iload_n 2, 1) := by decide +kernel
theorem d_M_longest_43 : decode c_M_longest 43 = .ok (.iaload, 1) := by decide +kernel
theorem d_M_longest_44 : decode c_M_longest 44 = .ok (.invokevirtual 93, 3) := by decide +kernel
theorem d_M_longest_47 : decode c_M_longest 47 = .ok (.ifCond .eq 29, 3) := by decide +kernel
theorem d_M_longest_50 : decode c_M_longest 50 = .ok (.aload_n 0, 1) := by decide +kernel
theorem d_M_longest_51 : decode c_M_longest 51 = .ok (.getfield 28, 3) := by decide +kernel
theorem d_M_longest_54 : decode c_M_longest 54 = .ok (.iload_n 3, 1) := by decide +kernel
theorem d_M_longest_55 : decode c_M_longest 55 = .ok (.iaload, 1) := by decide +kernel
theorem d_M_longest_56 : decode c_M_longest 56 = .ok (.aload_n 0, 1) := by decide +kernel
theorem d_M_longest_57 : decode c_M_longest 57 = .ok (.getfield 28, 3) := by decide +kernel
theorem d_M_longest_60 : decode c_M_longest 60 = .ok (.iload_n 2, 1) := by decide +kernel
theorem d_M_longest_61 : decode c_M_longest 61 = .ok (.iaload, 1) := by decide +kernel
theorem d_M_longest_62 : decode c_M_longest 62 = .ok (.if_icmp .lt 14, 3) := by decide +kernel
theorem d_M_longest_65 : decode c_M_longest 65 = .ok (.aload_n 0, 1) := by decide +kernel
theorem d_M_longest_66 : decode c_M_longest 66 = .ok (.getfield 28, 3) := by decide +kernel
theorem d_M_longest_69 : decode c_M_longest 69 = .ok (.iload_n 3, 1) := by decide +kernel
theorem d_M_longest_70 : decode c_M_longest 70 = .ok (.iaload, 1) := by decide +kernel
theorem d_M_longest_71 : decode c_M_longest 71 = .ok (.iconst 1, 1) := by decide +kernel
theorem d_M_longest_72 : decode c_M_longest 72 = .ok (.iadd, 1) := by decide +kernel
theorem d_M_longest_73 : decode c_M_longest 73 = .ok (.goto 9, 3) := by decide +kernel
theorem d_M_longest_76 : decode c_M_longest 76 = .ok (.aload_n 0, 1) := by decide +kernel
theorem d_M_longest_77 : decode c_M_longest 77 = .ok (.getfield 28, 3) := by decide +kernel
theorem d_M_longest_80 : decode c_M_longest 80 = .ok (.iload_n 2, 1) := by decide +kernel
theorem d_M_longest_81 : decode c_M_longest 81 = .ok (.iaload, 1) := by decide +kernel
theorem d_M_longest_82 : decode c_M_longest 82 = .ok (.iastore, 1) := by decide +kernel
theorem d_M_longest_83 : decode c_M_longest 83 = .ok (.iinc 3 1, 3) := by decide +kernel
theorem d_M_longest_86 : decode c_M_longest 86 = .ok (.goto (-65), 3) := by decide +kernel
theorem d_M_longest_89 : decode c_M_longest 89 = .ok (.aload_n 0, 1) := by decide +kernel
theorem d_M_longest_90 : decode c_M_longest 90 = .ok (.getfield 28, 3) := by decide +kernel
theorem d_M_longest_93 : decode c_M_longest 93 = .ok (.iload_n 2, 1) := by decide +kernel
theorem d_M_longest_94 : decode c_M_longest 94 = .ok (.iaload, 1) := by decide +kernel
theorem d_M_longest_95 : decode c_M_longest 95 = .ok (.iload_n 1, 1) := by decide +kernel
theorem d_M_longest_96 : decode c_M_longest 96 = .ok (.if_icmp .le 12, 3) := by decide +kernel
theorem d_M_longest_99 : decode c_M_longest 99 = .ok (.aload_n 0, 1) := by decide +kernel
theorem d_M_longest_100 : decode c_M_longest 100 = .ok (.getfield 28, 3) := by decide +kernel
theorem d_M_longest_103 : decode c_M_longest 103 = .ok (.iload_n 2, 1) := by decide +kernel
theorem d_M_longest_104 : decode c_M_longest 104 = .ok (.iaload, 1) := by decide +kernel
theorem d_M_longest_105 : decode c_M_longest 105 = .ok (.goto 4, 3) := by decide +kernel
theorem d_M_longest_108 : decode c_M_longest 108 = .ok (.iload_n 1, 1) := by decide +kernel
theorem d_M_longest_109 : decode c_M_longest 109 = .ok (.istore_n 1, 1) := by decide +kernel
theorem d_M_longest_110 : decode c_M_longest 110 = .ok (.iinc 2 1, 3) := by decide +kernel
theorem d_M_longest_113 : decode c_M_longest 113 = .ok (.goto (-109), 3) := by decide +kernel
theorem d_M_longest_116 : decode c_M_longest 116 = .ok (.iload_n 1, 1) := by decide +kernel
theorem d_M_longest_117 : decode c_M_longest 117 = .ok (.ireturn, 1) := by decide +kernel
theorem d_M_bridges_0 : decode c_M_bridges 0 = .ok (.iconst 0, 1) := by decide +kernel
theorem d_M_bridges_1 : decode c_M_bridges 1 = .ok (.istore_n 1, 1) := by decide +kernel
theorem d_M_bridges_2 : decode c_M_bridges 2 = .ok (.iconst 0, 1) := by decide +kernel
theorem d_M_bridges_3 : decode c_M_bridges 3 = .ok (.istore_n 2, 1) := by decide +kernel
theorem d_M_bridges_4 : decode c_M_bridges 4 = .ok (.iload_n 2, 1) := by decide +kernel
theorem d_M_bridges_5 : decode c_M_bridges 5 = .ok (.bipush 16, 2) := by decide +kernel
theorem d_M_bridges_7 : decode c_M_bridges 7 = .ok (.if_icmp .ge 82, 3) := by decide +kernel
theorem d_M_bridges_10 : decode c_M_bridges 10 = .ok (.iconst 0, 1) := by decide +kernel
theorem d_M_bridges_11 : decode c_M_bridges 11 = .ok (.istore_n 3, 1) := by decide +kernel
theorem d_M_bridges_12 : decode c_M_bridges 12 = .ok (.iload_n 3, 1) := by decide +kernel
theorem d_M_bridges_13 : decode c_M_bridges 13 = .ok (.bipush 16, 2) := by decide +kernel
theorem d_M_bridges_15 : decode c_M_bridges 15 = .ok (.if_icmp .ge 68, 3) := by decide +kernel
theorem d_M_bridges_18 : decode c_M_bridges 18 = .ok (.aload_n 0, 1) := by decide +kernel
theorem d_M_bridges_19 : decode c_M_bridges 19 = .ok (.getfield 7, 3) := by decide +kernel
theorem d_M_bridges_22 : decode c_M_bridges 22 = .ok (.iload_n 2, 1) := by decide +kernel
theorem d_M_bridges_23 : decode c_M_bridges 23 = .ok (.iaload, 1) := by decide +kernel
theorem d_M_bridges_24 : decode c_M_bridges 24 = .ok (.iload_n 3, 1) := by decide +kernel
theorem d_M_bridges_25 : decode c_M_bridges 25 = .ok (.invokestatic 35, 3) := by decide +kernel
theorem d_M_bridges_28 : decode c_M_bridges 28 = .ok (.ifCond .eq 49, 3) := by decide +kernel
theorem d_M_bridges_31 : decode c_M_bridges 31 = .ok (.aload_n 0, 1) := by decide +kernel
theorem d_M_bridges_32 : decode c_M_bridges 32 = .ok (.getfield 7, 3) := by decide +kernel
theorem d_M_bridges_35 : decode c_M_bridges 35 = .ok (.iload_n 2, 1) := by decide +kernel
theorem d_M_bridges_36 : decode c_M_bridges 36 = .ok (.dup2, 1) := by decide +kernel
theorem d_M_bridges_37 : decode c_M_bridges 37 = .ok (.iaload, 1) := by decide +kernel
theorem d_M_bridges_38 : decode c_M_bridges 38 = .ok (.iconst 1, 1) := by decide +kernel
theorem d_M_bridges_39 : decode c_M_bridges 39 = .ok (.iload_n 3, 1) := by decide +kernel
theorem d_M_bridges_40 : decode c_M_bridges 40 = .ok (.ishl, 1) := by decide +kernel
theorem d_M_bridges_41 : decode c_M_bridges 41 = .ok (.iconst (-1), 1) := by decide +kernel
theorem d_M_bridges_42 : decode c_M_bridges 42 = .ok (.ixor, 1) := by decide +kernel
theorem d_M_bridges_43 : decode c_M_bridges 43 = .ok (.iand, 1) := by decide +kernel
theorem d_M_bridges_44 : decode c_M_bridges 44 = .ok (.iastore, 1) := by decide +kernel
theorem d_M_bridges_45 : decode c_M_bridges 45 = .ok (.iload_n 1, 1) := by decide +kernel
theorem d_M_bridges_46 : decode c_M_bridges 46 = .ok (.aload_n 0, 1) := by decide +kernel
theorem d_M_bridges_47 : decode c_M_bridges 47 = .ok (.iload_n 2, 1) := by decide +kernel
theorem d_M_bridges_48 : decode c_M_bridges 48 = .ok (.invokevirtual 51, 3) := by decide +kernel
theorem d_M_bridges_51 : decode c_M_bridges 51 = .ok (.iload_n 3, 1) := by decide +kernel
theorem d_M_bridges_52 : decode c_M_bridges 52 = .ok (.invokestatic 35, 3) := by decide +kernel
theorem d_M_bridges_55 : decode c_M_bridges 55 = .ok (.ifCond .eq 7, 3) := by decide +kernel
theorem d_M_bridges_58 : decode c_M_bridges 58 = .ok (.iconst 0, 1) := by decide +kernel
theorem d_M_bridges_59 : decode c_M_bridges 59 = .ok (.goto 4, 3) := by decide +kernel
theorem d_M_bridges_62 : decode c_M_bridges 62 = .ok (.iconst 1, 1) := by decide +kernel
theorem d_M_bridges_63 : decode c_M_bridges 63 = .ok (.iadd, 1) := by decide +kernel
theorem d_M_bridges_64 : decode c_M_bridges 64 = .ok (.istore_n 1, 1) := by decide +kernel
theorem d_M_bridges_65 : decode c_M_bridges 65 = .ok (.aload_n 0, 1) := by decide +kernel
theorem d_M_bridges_66 : decode c_M_bridges 66 = .ok (.getfield 7, 3) := by decide +kernel
theorem d_M_bridges_69 : decode c_M_bridges 69 = .ok (.iload_n 2, 1) := by decide +kernel
theorem d_M_bridges_70 : decode c_M_bridges 70 = .ok (.dup2, 1) := by decide +kernel
theorem d_M_bridges_71 : decode c_M_bridges 71 = .ok (.iaload, 1) := by decide +kernel
theorem d_M_bridges_72 : decode c_M_bridges 72 = .ok (.iconst 1, 1) := by decide +kernel
theorem d_M_bridges_73 : decode c_M_bridges 73 = .ok (.iload_n 3, 1) := by decide +kernel
theorem d_M_bridges_74 : decode c_M_bridges 74 = .ok (.ishl, 1) := by decide +kernel
theorem d_M_bridges_75 : decode c_M_bridges 75 = .ok (.ior, 1) := by decide +kernel
theorem d_M_bridges_76 : decode c_M_bridges 76 = .ok (.iastore, 1) := by decide +kernel
theorem d_M_bridges_77 : decode c_M_bridges 77 = .ok (.iinc 3 1, 3) := by decide +kernel
theorem d_M_bridges_80 : decode c_M_bridges 80 = .ok (.goto (-68), 3) := by decide +kernel
theorem d_M_bridges_83 : decode c_M_bridges 83 = .ok (.iinc 2 1, 3) := by decide +kernel
theorem d_M_bridges_86 : decode c_M_bridges 86 = .ok (.goto (-82), 3) := by decide +kernel
theorem d_M_bridges_89 : decode c_M_bridges 89 = .ok (.iload_n 1, 1) := by decide +kernel
theorem d_M_bridges_90 : decode c_M_bridges 90 = .ok (.ireturn, 1) := by decide +kernel
end
section
theorem d_A_init_0 : decode c_A_init 0 = .ok (.aload_n 0, 1) := by decide +kernel
theorem d_A_init_1 : decode c_A_init 1 = .ok (.invokespecial 1, 3) := by decide +kernel
theorem d_A_init_4 : decode c_A_init 4 = .ok (.aload_n 0, 1) := by decide +kernel
theorem d_A_init_5 : decode c_A_init 5 = .ok (.new 7, 3) := by decide +kernel
theorem d_A_init_8 : decode c_A_init 8 = .ok (.dup, 1) := by decide +kernel
theorem d_A_init_9 : decode c_A_init 9 = .ok (.invokespecial 9, 3) := by decide +kernel
theorem d_A_init_12 : decode c_A_init 12 = .ok (.putfield 10, 3) := by decide +kernel
theorem d_A_init_15 : decode c_A_init 15 = .ok (.aload_n 0, 1) := by decide +kernel
theorem d_A_init_16 : decode c_A_init 16 = .ok (.new 16, 3) := by decide +kernel
theorem d_A_init_19 : decode c_A_init 19 = .ok (.dup, 1) := by decide +kernel
theorem d_A_init_20 : decode c_A_init 20 = .ok (.invokespecial 18, 3) := by decide +kernel
theorem d_A_init_23 : decode c_A_init 23 = .ok (.putfield 19, 3) := by decide +kernel
theorem d_A_init_26 : decode c_A_init 26 = .ok (.aload_n 0, 1) := by decide +kernel
theorem d_A_init_27 : decode c_A_init 27 = .ok (.new 23, 3) := by decide +kernel
theorem d_A_init_30 : decode c_A_init 30 = .ok (.dup, 1) := by decide +kernel
theorem d_A_init_31 : decode c_A_init 31 = .ok (.invokespecial 25, 3) := by decide +kernel
theorem d_A_init_34 : decode c_A_init 34 = .ok (.putfield 26, 3) := by decide +kernel
theorem d_A_init_37 : decode c_A_init 37 = .ok (.aload_n 0, 1) := by decide +kernel
theorem d_A_init_38 : decode c_A_init 38 = .ok (.new 30, 3) := by decide +kernel
theorem d_A_init_41 : decode c_A_init 41 = .ok (.dup, 1) := by decide +kernel
theorem d_A_init_42 : decode c_A_init 42 = .ok (.invokespecial 32, 3) := by decide +kernel
theorem d_A_init_45 : decode c_A_init 45 = .ok (.putfield 33, 3) := by decide +kernel
theorem d_A_init_48 : decode c_A_init 48 = .ok (.return_, 1) := by decide +kernel
theorem d_Web_init_0 : decode c_Web_init 0 = .ok (.aload_n 0, 1) := by decide +kernel
theorem d_Web_init_1 : decode c_Web_init 1 = .ok (.invokespecial 3, 3) := by decide +kernel
theorem d_Web_init_4 : decode c_Web_init 4 = .ok (.aload_n 0, 1) := by decide +kernel
theorem d_Web_init_5 : decode c_Web_init 5 = .ok (.bipush 16, 2) := by decide +kernel
theorem d_Web_init_7 : decode c_Web_init 7 = .ok (.newarray .int, 2) := by decide +kernel
theorem d_Web_init_9 : decode c_Web_init 9 = .ok (.putfield 9, 3) := by decide +kernel
theorem d_Web_init_12 : decode c_Web_init 12 = .ok (.aload_n 0, 1) := by decide +kernel
theorem d_Web_init_13 : decode c_Web_init 13 = .ok (.iconst 0, 1) := by decide +kernel
theorem d_Web_init_14 : decode c_Web_init 14 = .ok (.putfield 15, 3) := by decide +kernel
theorem d_Web_init_17 : decode c_Web_init 17 = .ok (.return_, 1) := by decide +kernel
theorem d_A_clear_0 : decode c_A_clear 0 = .ok (.aload_n 0, 1) := by decide +kernel
theorem d_A_clear_1 : decode c_A_clear 1 = .ok (.getfield 10, 3) := by decide +kernel
theorem d_A_clear_4 : decode c_A_clear 4 = .ok (.invokevirtual 52, 3) := by decide +kernel
theorem d_A_clear_7 : decode c_A_clear 7 = .ok (.istore_n 1, 1) := by decide +kernel
theorem d_A_clear_8 : decode c_A_clear 8 = .ok (.aload_n 0, 1) := by decide +kernel
theorem d_A_clear_9 : decode c_A_clear 9 = .ok (.getfield 10, 3) := by decide +kernel
theorem d_A_clear_12 : decode c_A_clear 12 = .ok (.invokevirtual 67, 3) := by decide +kernel
theorem d_A_clear_15 : decode c_A_clear 15 = .ok (.iload_n 1, 1) := by decide +kernel
theorem d_A_clear_16 : decode c_A_clear 16 = .ok (.ireturn, 1) := by decide +kernel
theorem d_Web_count_0 : decode c_Web_count 0 = .ok (.aload_n 0, 1) := by decide +kernel
theorem d_Web_count_1 : decode c_Web_count 1 = .ok (.getfield 15, 3) := by decide +kernel
theorem d_Web_count_4 : decode c_Web_count 4 = .ok (.ireturn, 1) := by decide +kernel
theorem d_Web_takeAll_0 : decode c_Web_takeAll 0 = .ok (.aload_n 0, 1) := by decide +kernel
theorem d_Web_takeAll_1 : decode c_Web_takeAll 1 = .ok (.getfield 9, 3) := by decide +kernel
theorem d_Web_takeAll_4 : decode c_Web_takeAll 4 = .ok (.iconst 0, 1) := by decide +kernel
theorem d_Web_takeAll_5 : decode c_Web_takeAll 5 = .ok (.invokestatic 27, 3) := by decide +kernel
theorem d_Web_takeAll_8 : decode c_Web_takeAll 8 = .ok (.aload_n 0, 1) := by decide +kernel
theorem d_Web_takeAll_9 : decode c_Web_takeAll 9 = .ok (.iconst 0, 1) := by decide +kernel
theorem d_Web_takeAll_10 : decode c_Web_takeAll 10 = .ok (.putfield 15, 3) := by decide +kernel
theorem d_Web_takeAll_13 : decode c_Web_takeAll 13 = .ok (.return_, 1) := by decide +kernel
theorem d_A_add_0 : decode c_A_add 0 = .ok (.iload_n 1, 1) := by decide +kernel
theorem d_A_add_1 : decode c_A_add 1 = .ok (.iload_n 2, 1) := by decide +kernel
theorem d_A_add_2 : decode c_A_add 2 = .ok (.invokestatic 37, 3) := by decide +kernel
theorem d_A_add_5 : decode c_A_add 5 = .ok (.iload_n 1, 1) := by decide +kernel
theorem d_A_add_6 : decode c_A_add 6 = .ok (.iload_n 2, 1) := by decide +kernel
theorem d_A_add_7 : decode c_A_add 7 = .ok (.if_icmp .ne 13, 3) := by decide +kernel
theorem d_A_add_10 : decode c_A_add 10 = .ok (.new 41, 3) := by decide +kernel
theorem d_A_add_13 : decode c_A_add 13 = .ok (.dup, 1) := by decide +kernel
theorem d_A_add_14 : decode c_A_add 14 = .ok (.ldc 43, 2) := by decide +kernel
theorem d_A_add_16 : decode c_A_add 16 = .ok (.invokespecial 45, 3) := by decide +kernel
theorem d_A_add_19 : decode c_A_add 19 = .ok (.athrow, 1) := by decide +kernel
theorem d_A_add_20 : decode c_A_add 20 = .ok (.aload_n 0, 1) := by decide +kernel
theorem d_A_add_21 : decode c_A_add 21 = .ok (.getfield 10, 3) := by decide +kernel
theorem d_A_add_24 : decode c_A_add 24 = .ok (.iload_n 1, 1) := by decide +kernel
theorem d_A_add_25 : decode c_A_add 25 = .ok (.iload_n 2, 1) := by decide +kernel
theorem d_A_add_26 : decode c_A_add 26 = .ok (.invokevirtual 48, 3) := by decide +kernel
theorem d_A_add_29 : decode c_A_add 29 = .ok (.ifCond .eq 5, 3) := by decide +kernel
theorem d_A_add_32 : decode c_A_add 32 = .ok (.iconst 0, 1) := by decide +kernel
theorem d_A_add_33 : decode c_A_add 33 = .ok (.ireturn, 1) := by decide +kernel
theorem d_A_add_34 : decode c_A_add 34 = .ok (.aload_n 0, 1) := by decide +kernel
theorem d_A_add_35 : decode c_A_add 35 = .ok (.getfield 10, 3) := by decide +kernel
theorem d_A_add_38 : decode c_A_add 38 = .ok (.invokevirtual 52, 3) := by decide +kernel
theorem d_A_add_41 : decode c_A_add 41 = .ok (.bipush 80, 2) := by decide +kernel
theorem d_A_add_43 : decode c_A_add 43 = .ok (.if_icmp .lt 13, 3) := by decide +kernel
theorem d_A_add_46 : decode c_A_add 46 = .ok (.new 56, 3) := by decide +kernel
theorem d_A_add_49 : decode c_A_add 49 = .ok (.dup, 1) := by decide +kernel
theorem d_A_add_50 : decode c_A_add 50 = .ok (.ldc 58, 2) := by decide +kernel
theorem d_A_add_52 : decode c_A_add 52 = .ok (.invokespecial 60, 3) := by decide +kernel
theorem d_A_add_55 : decode c_A_add 55 = .ok (.athrow, 1) := by decide +kernel
theorem d_A_add_56 : decode c_A_add 56 = .ok (.aload_n 0, 1) := by decide +kernel
theorem d_A_add_57 : decode c_A_add 57 = .ok (.getfield 10, 3) := by decide +kernel
theorem d_A_add_60 : decode c_A_add 60 = .ok (.iload_n 1, 1) := by decide +kernel
theorem d_A_add_61 : decode c_A_add 61 = .ok (.iload_n 2, 1) := by decide +kernel
theorem d_A_add_62 : decode c_A_add 62 = .ok (.invokevirtual 61, 3) := by decide +kernel
theorem d_A_add_65 : decode c_A_add 65 = .ok (.iconst 1, 1) := by decide +kernel
theorem d_A_add_66 : decode c_A_add 66 = .ok (.ireturn, 1) := by decide +kernel
theorem d_A_requirePlaces_0 : decode c_A_requirePlaces 0 = .ok (.iload_n 0, 1) := by decide +kernel
theorem d_A_requirePlaces_1 : decode c_A_requirePlaces 1 = .ok (.invokestatic 70, 3) := by decide +kernel
theorem d_A_requirePlaces_4 : decode c_A_requirePlaces 4 = .ok (.iload_n 1, 1) := by decide +kernel
theorem d_A_requirePlaces_5 : decode c_A_requirePlaces 5 = .ok (.invokestatic 70, 3) := by decide +kernel
theorem d_A_requirePlaces_8 : decode c_A_requirePlaces 8 = .ok (.return_, 1) := by decide +kernel
theorem d_A_requirePlace_0 : decode c_A_requirePlace 0 = .ok (.iload_n 0, 1) := by decide +kernel
theorem d_A_requirePlace_1 : decode c_A_requirePlace 1 = .ok (.ifCond .lt 9, 3) := by decide +kernel
theorem d_A_requirePlace_4 : decode c_A_requirePlace 4 = .ok (.iload_n 0, 1) := by decide +kernel
theorem d_A_requirePlace_5 : decode c_A_requirePlace 5 = .ok (.bipush 16, 2) := by decide +kernel
theorem d_A_requirePlace_7 : decode c_A_requirePlace 7 = .ok (.if_icmp .lt 13, 3) := by decide +kernel
theorem d_A_requirePlace_10 : decode c_A_requirePlace 10 = .ok (.new 41, 3) := by decide +kernel
theorem d_A_requirePlace_13 : decode c_A_requirePlace 13 = .ok (.dup, 1) := by decide +kernel
theorem d_A_requirePlace_14 : decode c_A_requirePlace 14 = .ok (.ldc 159, 2) := by decide +kernel
theorem d_A_requirePlace_16 : decode c_A_requirePlace 16 = .ok (.invokespecial 45, 3) := by decide +kernel
theorem d_A_requirePlace_19 : decode c_A_requirePlace 19 = .ok (.athrow, 1) := by decide +kernel
theorem d_A_requirePlace_20 : decode c_A_requirePlace 20 = .ok (.return_, 1) := by decide +kernel
theorem d_Web_holds_0 : decode c_Web_holds 0 = .ok (.aload_n 0, 1) := by decide +kernel
theorem d_Web_holds_1 : decode c_Web_holds 1 = .ok (.getfield 9, 3) := by decide +kernel
theorem d_Web_holds_4 : decode c_Web_holds 4 = .ok (.iload_n 1, 1) := by decide +kernel
theorem d_Web_holds_5 : decode c_Web_holds 5 = .ok (.iaload, 1) := by decide +kernel
theorem d_Web_holds_6 : decode c_Web_holds 6 = .ok (.iload_n 2, 1) := by decide +kernel
theorem d_Web_holds_7 : decode c_Web_holds 7 = .ok (.invokestatic 19, 3) := by decide +kernel
theorem d_Web_holds_10 : decode c_Web_holds 10 = .ok (.ireturn, 1) := by decide +kernel
theorem d_A_has_0 : decode c_A_has 0 = .ok (.iload_n 0, 1) := by decide +kernel
theorem d_A_has_1 : decode c_A_has 1 = .ok (.iload_n 1, 1) := by decide +kernel
theorem d_A_has_2 : decode c_A_has 2 = .ok (.iushr, 1) := by decide +kernel
theorem d_A_has_3 : decode c_A_has 3 = .ok (.iconst 1, 1) := by decide +kernel
theorem d_A_has_4 : decode c_A_has 4 = .ok (.iand, 1) := by decide +kernel
theorem d_A_has_5 : decode c_A_has 5 = .ok (.ifCond .eq 7, 3) := by decide +kernel
theorem d_A_has_8 : decode c_A_has 8 = .ok (.iconst 1, 1) := by decide +kernel
theorem d_A_has_9 : decode c_A_has 9 = .ok (.goto 4, 3) := by decide +kernel
theorem d_A_has_12 : decode c_A_has 12 = .ok (.iconst 0, 1) := by decide +kernel
theorem d_A_has_13 : decode c_A_has 13 = .ok (.ireturn, 1) := by decide +kernel
theorem d_Web_put_0 : decode c_Web_put 0 = .ok (.aload_n 0, 1) := by decide +kernel
theorem d_Web_put_1 : decode c_Web_put 1 = .ok (.getfield 9, 3) := by decide +kernel
theorem d_Web_put_4 : decode c_Web_put 4 = .ok (.iload_n 1, 1) := by decide +kernel
theorem d_Web_put_5 : decode c_Web_put 5 = .ok (.dup2, 1) := by decide +kernel
theorem d_Web_put_6 : decode c_Web_put 6 = .ok (.iaload, 1) := by decide +kernel
theorem d_Web_put_7 : decode c_Web_put 7 = .ok (.iload_n 2, 1) := by decide +kernel
theorem d_Web_put_8 : decode c_Web_put 8 = .ok (.invokestatic 23, 3) := by decide +kernel
theorem d_Web_put_11 : decode c_Web_put 11 = .ok (.ior, 1) := by decide +kernel
theorem d_Web_put_12 : decode c_Web_put 12 = .ok (.iastore, 1) := by decide +kernel
theorem d_Web_put_13 : decode c_Web_put 13 = .ok (.aload_n 0, 1) := by decide +kernel
theorem d_Web_put_14 : decode c_Web_put 14 = .ok (.dup, 1) := by decide +kernel
theorem d_Web_put_15 : decode c_Web_put 15 = .ok (.getfield 15, 3) := by decide +kernel
theorem d_Web_put_18 : decode c_Web_put 18 = .ok (.iconst 1, 1) := by decide +kernel
theorem d_Web_put_19 : decode c_Web_put 19 = .ok (.iadd, 1) := by decide +kernel
theorem d_Web_put_20 : decode c_Web_put 20 = .ok (.putfield 15, 3) := by decide +kernel
theorem d_Web_put_23 : decode c_Web_put 23 = .ok (.return_, 1) := by decide +kernel
theorem d_A_only_0 : decode c_A_only 0 = .ok (.iconst 1, 1) := by decide +kernel
theorem d_A_only_1 : decode c_A_only 1 = .ok (.iload_n 0, 1) := by decide +kernel
theorem d_A_only_2 : decode c_A_only 2 = .ok (.ishl, 1) := by decide +kernel
theorem d_A_only_3 : decode c_A_only 3 = .ok (.ireturn, 1) := by decide +kernel
theorem d_A_remove_0 : decode c_A_remove 0 = .ok (.iload_n 1, 1) := by decide +kernel
theorem d_A_remove_1 : decode c_A_remove 1 = .ok (.iload_n 2, 1) := by decide +kernel
theorem d_A_remove_2 : decode c_A_remove 2 = .ok (.invokestatic 37, 3) := by decide +kernel
theorem d_A_remove_5 : decode c_A_remove 5 = .ok (.aload_n 0, 1) := by decide +kernel
theorem d_A_remove_6 : decode c_A_remove 6 = .ok (.getfield 10, 3) := by decide +kernel
theorem d_A_remove_9 : decode c_A_remove 9 = .ok (.iload_n 1, 1) := by decide +kernel
theorem d_A_remove_10 : decode c_A_remove 10 = .ok (.iload_n 2, 1) := by decide +kernel
theorem d_A_remove_11 : decode c_A_remove 11 = .ok (.invokevirtual 48, 3) := by decide +kernel
theorem d_A_remove_14 : decode c_A_remove 14 = .ok (.ifCond .ne 5, 3) := by decide +kernel
theorem d_A_remove_17 : decode c_A_remove 17 = .ok (.iconst 0, 1) := by decide +kernel
theorem d_A_remove_18 : decode c_A_remove 18 = .ok (.ireturn, 1) := by decide +kernel
theorem d_A_remove_19 : decode c_A_remove 19 = .ok (.aload_n 0, 1) := by decide +kernel
theorem d_A_remove_20 : decode c_A_remove 20 = .ok (.getfield 10, 3) := by decide +kernel
theorem d_A_remove_23 : decode c_A_remove 23 = .ok (.iload_n 1, 1) := by decide +kernel
theorem d_A_remove_24 : decode c_A_remove 24 = .ok (.iload_n 2, 1) := by decide +kernel
theorem d_A_remove_25 : decode c_A_remove 25 = .ok (.invokevirtual 64, 3) := by decide +kernel
theorem d_A_remove_28 : decode c_A_remove 28 = .ok (.iconst 1, 1) := by decide +kernel
theorem d_A_remove_29 : decode c_A_remove 29 = .ok (.ireturn, 1) := by decide +kernel
theorem d_Web_take_0 : decode c_Web_take 0 = .ok (.aload_n 0, 1) := by decide +kernel
theorem d_Web_take_1 : decode c_Web_take 1 = .ok (.getfield 9, 3) := by decide +kernel
theorem d_Web_take_4 : decode c_Web_take 4 = .ok (.iload_n 1, 1) := by decide +kernel
theorem d_Web_take_5 : decode c_Web_take 5 = .ok (.dup2, 1) := by decide +kernel
theorem d_Web_take_6 : decode c_Web_take 6 = .ok (.iaload, 1) := by decide +kernel
theorem d_Web_take_7 : decode c_Web_take 7 = .ok (.iload_n 2, 1) := by decide +kernel
theorem d_Web_take_8 : decode c_Web_take 8 = .ok (.invokestatic 23, 3) := by decide +kernel
theorem d_Web_take_11 : decode c_Web_take 11 = .ok (.iconst (-1), 1) := by decide +kernel
theorem d_Web_take_12 : decode c_Web_take 12 = .ok (.ixor, 1) := by decide +kernel
theorem d_Web_take_13 : decode c_Web_take 13 = .ok (.iand, 1) := by decide +kernel
theorem d_Web_take_14 : decode c_Web_take 14 = .ok (.iastore, 1) := by decide +kernel
theorem d_Web_take_15 : decode c_Web_take 15 = .ok (.aload_n 0, 1) := by decide +kernel
theorem d_Web_take_16 : decode c_Web_take 16 = .ok (.dup, 1) := by decide +kernel
theorem d_Web_take_17 : decode c_Web_take 17 = .ok (.getfield 15, 3) := by decide +kernel
theorem d_Web_take_20 : decode c_Web_take 20 = .ok (.iconst 1, 1) := by decide +kernel
theorem d_Web_take_21 : decode c_Web_take 21 = .ok (.isub, 1) := by decide +kernel
theorem d_Web_take_22 : decode c_Web_take 22 = .ok (.putfield 15, 3) := by decide +kernel
theorem d_Web_take_25 : decode c_Web_take 25 = .ok (.return_, 1) := by decide +kernel
theorem d_A_group_0 : decode c_A_group 0 = .ok (.iload_n 1, 1) := by decide +kernel
theorem d_A_group_1 : decode c_A_group 1 = .ok (.invokestatic 70, 3) := by decide +kernel
theorem d_A_group_4 : decode c_A_group 4 = .ok (.aload_n 0, 1) := by decide +kernel
theorem d_A_group_5 : decode c_A_group 5 = .ok (.getfield 19, 3) := by decide +kernel
theorem d_A_group_8 : decode c_A_group 8 = .ok (.aload_n 0, 1) := by decide +kernel
theorem d_A_group_9 : decode c_A_group 9 = .ok (.getfield 10, 3) := by decide +kernel
theorem d_A_group_12 : decode c_A_group 12 = .ok (.invokevirtual 74, 3) := by decide +kernel
theorem d_A_group_15 : decode c_A_group 15 = .ok (.aload_n 0, 1) := by decide +kernel
theorem d_A_group_16 : decode c_A_group 16 = .ok (.getfield 19, 3) := by decide +kernel
theorem d_A_group_19 : decode c_A_group 19 = .ok (.iload_n 1, 1) := by decide +kernel
theorem d_A_group_20 : decode c_A_group 20 = .ok (.invokevirtual 78, 3) := by decide +kernel
theorem d_A_group_23 : decode c_A_group 23 = .ok (.ireturn, 1) := by decide +kernel
theorem d_Web_headsOf_0 : decode c_Web_headsOf 0 = .ok (.aload_n 0, 1) := by decide +kernel
theorem d_Web_headsOf_1 : decode c_Web_headsOf 1 = .ok (.getfield 9, 3) := by decide +kernel
theorem d_Web_headsOf_4 : decode c_Web_headsOf 4 = .ok (.iload_n 1, 1) := by decide +kernel
theorem d_Web_headsOf_5 : decode c_Web_headsOf 5 = .ok (.iaload, 1) := by decide +kernel
theorem d_Web_headsOf_6 : decode c_Web_headsOf 6 = .ok (.ireturn, 1) := by decide +kernel
theorem d_A_members_0 : decode c_A_members 0 = .ok (.iload_n 1, 1) := by decide +kernel
theorem d_A_members_1 : decode c_A_members 1 = .ok (.invokestatic 70, 3) := by decide +kernel
theorem d_A_members_4 : decode c_A_members 4 = .ok (.aload_n 0, 1) := by decide +kernel
theorem d_A_members_5 : decode c_A_members 5 = .ok (.getfield 19, 3) := by decide +kernel
theorem d_A_members_8 : decode c_A_members 8 = .ok (.aload_n 0, 1) := by decide +kernel
theorem d_A_members_9 : decode c_A_members 9 = .ok (.getfield 10, 3) := by decide +kernel
theorem d_A_members_12 : decode c_A_members 12 = .ok (.invokevirtual 74, 3) := by decide +kernel
theorem d_A_members_15 : decode c_A_members 15 = .ok (.aload_n 0, 1) := by decide +kernel
theorem d_A_members_16 : decode c_A_members 16 = .ok (.getfield 19, 3) := by decide +kernel
theorem d_A_members_19 : decode c_A_members 19 = .ok (.iload_n 1, 1) := by decide +kernel
theorem d_A_members_20 : decode c_A_members 20 = .ok (.invokevirtual 82, 3) := by decide +kernel
theorem d_A_members_23 : decode c_A_members 23 = .ok (.ireturn, 1) := by decide +kernel
theorem d_A_rank_0 : decode c_A_rank 0 = .ok (.iload_n 1, 1) := by decide +kernel
theorem d_A_rank_1 : decode c_A_rank 1 = .ok (.invokestatic 70, 3) := by decide +kernel
theorem d_A_rank_4 : decode c_A_rank 4 = .ok (.aload_n 0, 1) := by decide +kernel
theorem d_A_rank_5 : decode c_A_rank 5 = .ok (.getfield 19, 3) := by decide +kernel
theorem d_A_rank_8 : decode c_A_rank 8 = .ok (.aload_n 0, 1) := by decide +kernel
theorem d_A_rank_9 : decode c_A_rank 9 = .ok (.getfield 10, 3) := by decide +kernel
theorem d_A_rank_12 : decode c_A_rank 12 = .ok (.invokevirtual 74, 3) := by decide +kernel
theorem d_A_rank_15 : decode c_A_rank 15 = .ok (.aload_n 0, 1) := by decide +kernel
theorem d_A_rank_16 : decode c_A_rank 16 = .ok (.getfield 19, 3) := by decide +kernel
theorem d_A_rank_19 : decode c_A_rank 19 = .ok (.iload_n 1, 1) := by decide +kernel
theorem d_A_rank_20 : decode c_A_rank 20 = .ok (.invokevirtual 85, 3) := by decide +kernel
theorem d_A_rank_23 : decode c_A_rank 23 = .ok (.ireturn, 1) := by decide +kernel
theorem d_A_ranked_0 : decode c_A_ranked 0 = .ok (.aload_n 0, 1) := by decide +kernel
theorem d_A_ranked_1 : decode c_A_ranked 1 = .ok (.getfield 19, 3) := by decide +kernel
theorem d_A_ranked_4 : decode c_A_ranked 4 = .ok (.aload_n 0, 1) := by decide +kernel
theorem d_A_ranked_5 : decode c_A_ranked 5 = .ok (.getfield 10, 3) := by decide +kernel
theorem d_A_ranked_8 : decode c_A_ranked 8 = .ok (.invokevirtual 74, 3) := by decide +kernel
theorem d_A_ranked_11 : decode c_A_ranked 11 = .ok (.iload_n 1, 1) := by decide +kernel
theorem d_A_ranked_12 : decode c_A_ranked 12 = .ok (.ifCond .lt 14, 3) := by decide +kernel
theorem d_A_ranked_15 : decode c_A_ranked 15 = .ok (.iload_n 1, 1) := by decide +kernel
theorem d_A_ranked_16 : decode c_A_ranked 16 = .ok (.aload_n 0, 1) := by decide +kernel
theorem d_A_ranked_17 : decode c_A_ranked 17 = .ok (.getfield 19, 3) := by decide +kernel
theorem d_A_ranked_20 : decode c_A_ranked 20 = .ok (.invokevirtual 88, 3) := by decide +kernel
theorem d_A_ranked_23 : decode c_A_ranked 23 = .ok (.if_icmp .lt 13, 3) := by decide +kernel
theorem d_A_ranked_26 : decode c_A_ranked 26 = .ok (.new 89, 3) := by decide +kernel
theorem d_A_ranked_29 : decode c_A_ranked 29 = .ok (.dup, 1) := by decide +kernel
theorem d_A_ranked_30 : decode c_A_ranked 30 = .ok (.ldc 91, 2) := by decide +kernel
theorem d_A_ranked_32 : decode c_A_ranked 32 = .ok (.invokespecial 93, 3) := by decide +kernel
theorem d_A_ranked_35 : decode c_A_ranked 35 = .ok (.athrow, 1) := by decide +kernel
theorem d_A_ranked_36 : decode c_A_ranked 36 = .ok (.aload_n 0, 1) := by decide +kernel
theorem d_A_ranked_37 : decode c_A_ranked 37 = .ok (.getfield 19, 3) := by decide +kernel
theorem d_A_ranked_40 : decode c_A_ranked 40 = .ok (.iload_n 1, 1) := by decide +kernel
theorem d_A_ranked_41 : decode c_A_ranked 41 = .ok (.invokevirtual 94, 3) := by decide +kernel
theorem d_A_ranked_44 : decode c_A_ranked 44 = .ok (.ireturn, 1) := by decide +kernel
theorem d_A_reaches_0 : decode c_A_reaches 0 = .ok (.iload_n 1, 1) := by decide +kernel
theorem d_A_reaches_1 : decode c_A_reaches 1 = .ok (.iload_n 2, 1) := by decide +kernel
theorem d_A_reaches_2 : decode c_A_reaches 2 = .ok (.invokestatic 37, 3) := by decide +kernel
theorem d_A_reaches_5 : decode c_A_reaches 5 = .ok (.aload_n 0, 1) := by decide +kernel
theorem d_A_reaches_6 : decode c_A_reaches 6 = .ok (.getfield 10, 3) := by decide +kernel
theorem d_A_reaches_9 : decode c_A_reaches 9 = .ok (.iload_n 1, 1) := by decide +kernel
theorem d_A_reaches_10 : decode c_A_reaches 10 = .ok (.invokestatic 97, 3) := by decide +kernel
theorem d_A_reaches_13 : decode c_A_reaches 13 = .ok (.iconst 0, 1) := by decide +kernel
theorem d_A_reaches_14 : decode c_A_reaches 14 = .ok (.invokevirtual 100, 3) := by decide +kernel
theorem d_A_reaches_17 : decode c_A_reaches 17 = .ok (.iload_n 2, 1) := by decide +kernel
theorem d_A_reaches_18 : decode c_A_reaches 18 = .ok (.invokestatic 104, 3) := by decide +kernel
theorem d_A_reaches_21 : decode c_A_reaches 21 = .ok (.ireturn, 1) := by decide +kernel
theorem d_Web_spread_0 : decode c_Web_spread 0 = .ok (.iload_n 1, 1) := by decide +kernel
theorem d_Web_spread_1 : decode c_Web_spread 1 = .ok (.iload_n 2, 1) := by decide +kernel
theorem d_Web_spread_2 : decode c_Web_spread 2 = .ok (.iconst (-1), 1) := by decide +kernel
theorem d_Web_spread_3 : decode c_Web_spread 3 = .ok (.ixor, 1) := by decide +kernel
theorem d_Web_spread_4 : decode c_Web_spread 4 = .ok (.iand, 1) := by decide +kernel
theorem d_Web_spread_5 : decode c_Web_spread 5 = .ok (.istore_n 3, 1) := by decide +kernel
theorem d_Web_spread_6 : decode c_Web_spread 6 = .ok (.iconst 1, 1) := by decide +kernel
theorem d_Web_spread_7 : decode c_Web_spread 7 = .ok (.istore 4, 2) := by decide +kernel
theorem d_Web_spread_9 : decode c_Web_spread 9 = .ok (.iload 4, 2) := by decide +kernel
theorem d_Web_spread_11 : decode c_Web_spread 11 = .ok (.bipush 16, 2) := by decide +kernel
theorem d_Web_spread_13 : decode c_Web_spread 13 = .ok (.if_icmp .ge 34, 3) := by decide +kernel
theorem d_Web_spread_16 : decode c_Web_spread 16 = .ok (.iload_n 3, 1) := by decide +kernel
theorem d_Web_spread_17 : decode c_Web_spread 17 = .ok (.aload_n 0, 1) := by decide +kernel
theorem d_Web_spread_18 : decode c_Web_spread 18 = .ok (.iload_n 3, 1) := by decide +kernel
theorem d_Web_spread_19 : decode c_Web_spread 19 = .ok (.invokevirtual 33, 3) := by decide +kernel
theorem d_Web_spread_22 : decode c_Web_spread 22 = .ok (.iload_n 2, 1) := by decide +kernel
theorem d_Web_spread_23 : decode c_Web_spread 23 = .ok (.iconst (-1), 1) := by decide +kernel
theorem d_Web_spread_24 : decode c_Web_spread 24 = .ok (.ixor, 1) := by decide +kernel
theorem d_Web_spread_25 : decode c_Web_spread 25 = .ok (.iand, 1) := by decide +kernel
theorem d_Web_spread_26 : decode c_Web_spread 26 = .ok (.ior, 1) := by decide +kernel
theorem d_Web_spread_27 : decode c_Web_spread 27 = .ok (.istore 5, 2) := by decide +kernel
theorem d_Web_spread_29 : decode c_Web_spread 29 = .ok (.iload 5, 2) := by decide +kernel
theorem d_Web_spread_31 : decode c_Web_spread 31 = .ok (.iload_n 3, 1) := by decide +kernel
theorem d_Web_spread_32 : decode c_Web_spread 32 = .ok (.if_icmp .ne 6, 3) := by decide +kernel
theorem d_Web_spread_35 : decode c_Web_spread 35 = .ok (.goto 12, 3) := by decide +kernel
theorem d_Web_spread_38 : decode c_Web_spread 38 = .ok (.iload 5, 2) := by decide +kernel
theorem d_Web_spread_40 : decode c_Web_spread 40 = .ok (.istore_n 3, 1) := by decide +kernel
theorem d_Web_spread_41 : decode c_Web_spread 41 = .ok (.iinc 4 1, 3) := by decide +kernel
theorem d_Web_spread_44 : decode c_Web_spread 44 = .ok (.goto (-35), 3) := by decide +kernel
theorem d_Web_spread_47 : decode c_Web_spread 47 = .ok (.iload_n 3, 1) := by decide +kernel
theorem d_Web_spread_48 : decode c_Web_spread 48 = .ok (.ireturn, 1) := by decide +kernel
theorem d_Web_headsOfAll_0 : decode c_Web_headsOfAll 0 = .ok (.iconst 0, 1) := by decide +kernel
theorem d_Web_headsOfAll_1 : decode c_Web_headsOfAll 1 = .ok (.istore_n 2, 1) := by decide +kernel
theorem d_Web_headsOfAll_2 : decode c_Web_headsOfAll 2 = .ok (.iconst 0, 1) := by decide +kernel
theorem d_Web_headsOfAll_3 : decode c_Web_headsOfAll 3 = .ok (.istore_n 3, 1) := by decide +kernel
theorem d_Web_headsOfAll_4 : decode c_Web_headsOfAll 4 = .ok (.iload_n 3, 1) := by decide +kernel
theorem d_Web_headsOfAll_5 : decode c_Web_headsOfAll 5 = .ok (.bipush 16, 2) := by decide +kernel
theorem d_Web_headsOfAll_7 : decode c_Web_headsOfAll 7 = .ok (.if_icmp .ge 26, 3) := by decide +kernel
theorem d_Web_headsOfAll_10 : decode c_Web_headsOfAll 10 = .ok (.iload_n 1, 1) := by decide +kernel
theorem d_Web_headsOfAll_11 : decode c_Web_headsOfAll 11 = .ok (.iload_n 3, 1) := by decide +kernel
theorem d_Web_headsOfAll_12 : decode c_Web_headsOfAll 12 = .ok (.invokestatic 19, 3) := by decide +kernel
theorem d_Web_headsOfAll_15 : decode c_Web_headsOfAll 15 = .ok (.ifCond .eq 12, 3) := by decide +kernel
theorem d_Web_headsOfAll_18 : decode c_Web_headsOfAll 18 = .ok (.iload_n 2, 1) := by decide +kernel
theorem d_Web_headsOfAll_19 : decode c_Web_headsOfAll 19 = .ok (.aload_n 0, 1) := by decide +kernel
theorem d_Web_headsOfAll_20 : decode c_Web_headsOfAll 20 = .ok (.getfield 9, 3) := by decide +kernel
theorem d_Web_headsOfAll_23 : decode c_Web_headsOfAll 23 = .ok (.iload_n 3, 1) := by decide +kernel
theorem d_Web_headsOfAll_24 : decode c_Web_headsOfAll 24 = .ok (.iaload, 1) := by decide +kernel
theorem d_Web_headsOfAll_25 : decode c_Web_headsOfAll 25 = .ok (.ior, 1) := by decide +kernel
theorem d_Web_headsOfAll_26 : decode c_Web_headsOfAll 26 = .ok (.istore_n 2, 1) := by decide +kernel
theorem d_Web_headsOfAll_27 : decode c_Web_headsOfAll 27 = .ok (.iinc 3 1, 3) := by decide +kernel
theorem d_Web_headsOfAll_30 : decode c_Web_headsOfAll 30 = .ok (.goto (-26), 3) := by decide +kernel
theorem d_Web_headsOfAll_33 : decode c_Web_headsOfAll 33 = .ok (.iload_n 2, 1) := by decide +kernel
theorem d_Web_headsOfAll_34 : decode c_Web_headsOfAll 34 = .ok (.ireturn, 1) := by decide +kernel
theorem d_A_distance_0 : decode c_A_distance 0 = .ok (.iload_n 1, 1) := by decide +kernel
theorem d_A_distance_1 : decode c_A_distance 1 = .ok (.iload_n 2, 1) := by decide +kernel
theorem d_A_distance_2 : decode c_A_distance 2 = .ok (.invokestatic 37, 3) := by decide +kernel
theorem d_A_distance_5 : decode c_A_distance 5 = .ok (.aload_n 0, 1) := by decide +kernel
theorem d_A_distance_6 : decode c_A_distance 6 = .ok (.getfield 26, 3) := by decide +kernel
theorem d_A_distance_9 : decode c_A_distance 9 = .ok (.iload_n 2, 1) := by decide +kernel
theorem d_A_distance_10 : decode c_A_distance 10 = .ok (.aload_n 0, 1) := by decide +kernel
theorem d_A_distance_11 : decode c_A_distance 11 = .ok (.getfield 10, 3) := by decide +kernel
theorem d_A_distance_14 : decode c_A_distance 14 = .ok (.invokevirtual 107, 3) := by decide +kernel
theorem d_A_distance_17 : decode c_A_distance 17 = .ok (.aload_n 0, 1) := by decide +kernel
theorem d_A_distance_18 : decode c_A_distance 18 = .ok (.getfield 26, 3) := by decide +kernel
theorem d_A_distance_21 : decode c_A_distance 21 = .ok (.iload_n 1, 1) := by decide +kernel
theorem d_A_distance_22 : decode c_A_distance 22 = .ok (.invokevirtual 111, 3) := by decide +kernel
theorem d_A_distance_25 : decode c_A_distance 25 = .ok (.ireturn, 1) := by decide +kernel
theorem d_A_way_0 : decode c_A_way 0 = .ok (.iload_n 1, 1) := by decide +kernel
theorem d_A_way_1 : decode c_A_way 1 = .ok (.iload_n 2, 1) := by decide +kernel
theorem d_A_way_2 : decode c_A_way 2 = .ok (.invokestatic 37, 3) := by decide +kernel
theorem d_A_way_5 : decode c_A_way 5 = .ok (.aload_n 0, 1) := by decide +kernel
theorem d_A_way_6 : decode c_A_way 6 = .ok (.getfield 26, 3) := by decide +kernel
theorem d_A_way_9 : decode c_A_way 9 = .ok (.iload_n 2, 1) := by decide +kernel
theorem d_A_way_10 : decode c_A_way 10 = .ok (.aload_n 0, 1) := by decide +kernel
theorem d_A_way_11 : decode c_A_way 11 = .ok (.getfield 10, 3) := by decide +kernel
theorem d_A_way_14 : decode c_A_way 14 = .ok (.invokevirtual 107, 3) := by decide +kernel
theorem d_A_way_17 : decode c_A_way 17 = .ok (.aload_n 0, 1) := by decide +kernel
theorem d_A_way_18 : decode c_A_way 18 = .ok (.getfield 26, 3) := by decide +kernel
theorem d_A_way_21 : decode c_A_way 21 = .ok (.iload_n 1, 1) := by decide +kernel
theorem d_A_way_22 : decode c_A_way 22 = .ok (.invokevirtual 111, 3) := by decide +kernel
theorem d_A_way_25 : decode c_A_way 25 = .ok (.istore 4, 2) := by decide +kernel
theorem d_A_way_27 : decode c_A_way 27 = .ok (.iload 4, 2) := by decide +kernel
theorem d_A_way_29 : decode c_A_way 29 = .ok (.iconst (-1), 1) := by decide +kernel
theorem d_A_way_30 : decode c_A_way 30 = .ok (.if_icmp .ne 13, 3) := by decide +kernel
theorem d_A_way_33 : decode c_A_way 33 = .ok (.new 114, 3) := by decide +kernel
theorem d_A_way_36 : decode c_A_way 36 = .ok (.dup, 1) := by decide +kernel
theorem d_A_way_37 : decode c_A_way 37 = .ok (.ldc 116, 2) := by decide +kernel
theorem d_A_way_39 : decode c_A_way 39 = .ok (.invokespecial 118, 3) := by decide +kernel
theorem d_A_way_42 : decode c_A_way 42 = .ok (.athrow, 1) := by decide +kernel
theorem d_A_way_43 : decode c_A_way 43 = .ok (.iload_n 3, 1) := by decide +kernel
theorem d_A_way_44 : decode c_A_way 44 = .ok (.ifCond .lt 9, 3) := by decide +kernel
theorem d_A_way_47 : decode c_A_way 47 = .ok (.iload_n 3, 1) := by decide +kernel
theorem d_A_way_48 : decode c_A_way 48 = .ok (.iload 4, 2) := by decide +kernel
theorem d_A_way_50 : decode c_A_way 50 = .ok (.if_icmp .le 13, 3) := by decide +kernel
theorem d_A_way_53 : decode c_A_way 53 = .ok (.new 89, 3) := by decide +kernel
theorem d_A_way_56 : decode c_A_way 56 = .ok (.dup, 1) := by decide +kernel
theorem d_A_way_57 : decode c_A_way 57 = .ok (.ldc 119, 2) := by decide +kernel
theorem d_A_way_59 : decode c_A_way 59 = .ok (.invokespecial 93, 3) := by decide +kernel
theorem d_A_way_62 : decode c_A_way 62 = .ok (.athrow, 1) := by decide +kernel
theorem d_A_way_63 : decode c_A_way 63 = .ok (.aload_n 0, 1) := by decide +kernel
theorem d_A_way_64 : decode c_A_way 64 = .ok (.getfield 26, 3) := by decide +kernel
theorem d_A_way_67 : decode c_A_way 67 = .ok (.iload_n 1, 1) := by decide +kernel
theorem d_A_way_68 : decode c_A_way 68 = .ok (.iload 4, 2) := by decide +kernel
theorem d_A_way_70 : decode c_A_way 70 = .ok (.iload_n 3, 1) := by decide +kernel
theorem d_A_way_71 : decode c_A_way 71 = .ok (.aload_n 0, 1) := by decide +kernel
theorem d_A_way_72 : decode c_A_way 72 = .ok (.getfield 10, 3) := by decide +kernel
theorem d_A_way_75 : decode c_A_way 75 = .ok (.invokevirtual 121, 3) := by decide +kernel
theorem d_A_way_78 : decode c_A_way 78 = .ok (.ireturn, 1) := by decide +kernel
theorem d_A_gate_0 : decode c_A_gate 0 = .ok (.iload_n 1, 1) := by decide +kernel
theorem d_A_gate_1 : decode c_A_gate 1 = .ok (.iload_n 2, 1) := by decide +kernel
theorem d_A_gate_2 : decode c_A_gate 2 = .ok (.invokestatic 37, 3) := by decide +kernel
theorem d_A_gate_5 : decode c_A_gate 5 = .ok (.iload_n 1, 1) := by decide +kernel
theorem d_A_gate_6 : decode c_A_gate 6 = .ok (.iload_n 2, 1) := by decide +kernel
theorem d_A_gate_7 : decode c_A_gate 7 = .ok (.if_icmp .ne 5, 3) := by decide +kernel
theorem d_A_gate_10 : decode c_A_gate 10 = .ok (.iconst (-1), 1) := by decide +kernel
theorem d_A_gate_11 : decode c_A_gate 11 = .ok (.ireturn, 1) := by decide +kernel
theorem d_A_gate_12 : decode c_A_gate 12 = .ok (.aload_n 0, 1) := by decide +kernel
theorem d_A_gate_13 : decode c_A_gate 13 = .ok (.getfield 10, 3) := by decide +kernel
theorem d_A_gate_16 : decode c_A_gate 16 = .ok (.iload_n 1, 1) := by decide +kernel
theorem d_A_gate_17 : decode c_A_gate 17 = .ok (.invokestatic 97, 3) := by decide +kernel
theorem d_A_gate_20 : decode c_A_gate 20 = .ok (.iconst 0, 1) := by decide +kernel
theorem d_A_gate_21 : decode c_A_gate 21 = .ok (.invokevirtual 100, 3) := by decide +kernel
theorem d_A_gate_24 : decode c_A_gate 24 = .ok (.iload_n 2, 1) := by decide +kernel
theorem d_A_gate_25 : decode c_A_gate 25 = .ok (.invokestatic 104, 3) := by decide +kernel
theorem d_A_gate_28 : decode c_A_gate 28 = .ok (.ifCond .ne 13, 3) := by decide +kernel
theorem d_A_gate_31 : decode c_A_gate 31 = .ok (.new 114, 3) := by decide +kernel
theorem d_A_gate_34 : decode c_A_gate 34 = .ok (.dup, 1) := by decide +kernel
theorem d_A_gate_35 : decode c_A_gate 35 = .ok (.ldc 116, 2) := by decide +kernel
theorem d_A_gate_37 : decode c_A_gate 37 = .ok (.invokespecial 118, 3) := by decide +kernel
theorem d_A_gate_40 : decode c_A_gate 40 = .ok (.athrow, 1) := by decide +kernel
theorem d_A_gate_41 : decode c_A_gate 41 = .ok (.aload_n 0, 1) := by decide +kernel
theorem d_A_gate_42 : decode c_A_gate 42 = .ok (.iload_n 1, 1) := by decide +kernel
theorem d_A_gate_43 : decode c_A_gate 43 = .ok (.iload_n 2, 1) := by decide +kernel
theorem d_A_gate_44 : decode c_A_gate 44 = .ok (.invokevirtual 125, 3) := by decide +kernel
theorem d_A_gate_47 : decode c_A_gate 47 = .ok (.ireturn, 1) := by decide +kernel
theorem d_A_lastBefore_0 : decode c_A_lastBefore 0 = .ok (.iconst 0, 1) := by decide +kernel
theorem d_A_lastBefore_1 : decode c_A_lastBefore 1 = .ok (.istore_n 3, 1) := by decide +kernel
theorem d_A_lastBefore_2 : decode c_A_lastBefore 2 = .ok (.iconst 0, 1) := by decide +kernel
theorem d_A_lastBefore_3 : decode c_A_lastBefore 3 = .ok (.istore 4, 2) := by decide +kernel
theorem d_A_lastBefore_5 : decode c_A_lastBefore 5 = .ok (.iload 4, 2) := by decide +kernel
theorem d_A_lastBefore_7 : decode c_A_lastBefore 7 = .ok (.bipush 16, 2) := by decide +kernel
theorem d_A_lastBefore_9 : decode c_A_lastBefore 9 = .ok (.if_icmp .ge 46, 3) := by decide +kernel
theorem d_A_lastBefore_12 : decode c_A_lastBefore 12 = .ok (.iload 4, 2) := by decide +kernel
theorem d_A_lastBefore_14 : decode c_A_lastBefore 14 = .ok (.iload_n 2, 1) := by decide +kernel
theorem d_A_lastBefore_15 : decode c_A_lastBefore 15 = .ok (.if_icmp .eq 34, 3) := by decide +kernel
theorem d_A_lastBefore_18 : decode c_A_lastBefore 18 = .ok (.aload_n 0, 1) := by decide +kernel
theorem d_A_lastBefore_19 : decode c_A_lastBefore 19 = .ok (.getfield 10, 3) := by decide +kernel
theorem d_A_lastBefore_22 : decode c_A_lastBefore 22 = .ok (.iload_n 1, 1) := by decide +kernel
theorem d_A_lastBefore_23 : decode c_A_lastBefore 23 = .ok (.invokestatic 97, 3) := by decide +kernel
theorem d_A_lastBefore_26 : decode c_A_lastBefore 26 = .ok (.iload 4, 2) := by decide +kernel
theorem d_A_lastBefore_28 : decode c_A_lastBefore 28 = .ok (.invokestatic 97, 3) := by decide +kernel
theorem d_A_lastBefore_31 : decode c_A_lastBefore 31 = .ok (.invokevirtual 100, 3) := by decide +kernel
theorem d_A_lastBefore_34 : decode c_A_lastBefore 34 = .ok (.iload_n 2, 1) := by decide +kernel
theorem d_A_lastBefore_35 : decode c_A_lastBefore 35 = .ok (.invokestatic 104, 3) := by decide +kernel
theorem d_A_lastBefore_38 : decode c_A_lastBefore 38 = .ok (.ifCond .ne 11, 3) := by decide +kernel
theorem d_A_lastBefore_41 : decode c_A_lastBefore 41 = .ok (.iload_n 3, 1) := by decide +kernel
theorem d_A_lastBefore_42 : decode c_A_lastBefore 42 = .ok (.iload 4, 2) := by decide +kernel
theorem d_A_lastBefore_44 : decode c_A_lastBefore 44 = .ok (.invokestatic 97, 3) := by decide +kernel
theorem d_A_lastBefore_47 : decode c_A_lastBefore 47 = .ok (.ior, 1) := by decide +kernel
theorem d_A_lastBefore_48 : decode c_A_lastBefore 48 = .ok (.istore_n 3, 1) := by decide +kernel
theorem d_A_lastBefore_49 : decode c_A_lastBefore 49 = .ok (.iinc 4 1, 3) := by decide +kernel
theorem d_A_lastBefore_52 : decode c_A_lastBefore 52 = .ok (.goto (-47), 3) := by decide +kernel
theorem d_A_lastBefore_55 : decode c_A_lastBefore 55 = .ok (.iconst 0, 1) := by decide +kernel
theorem d_A_lastBefore_56 : decode c_A_lastBefore 56 = .ok (.istore 4, 2) := by decide +kernel
theorem d_A_lastBefore_58 : decode c_A_lastBefore 58 = .ok (.iload 4, 2) := by decide +kernel
theorem d_A_lastBefore_60 : decode c_A_lastBefore 60 = .ok (.bipush 16, 2) := by decide +kernel
theorem d_A_lastBefore_62 : decode c_A_lastBefore 62 = .ok (.if_icmp .ge 40, 3) := by decide +kernel
theorem d_A_lastBefore_65 : decode c_A_lastBefore 65 = .ok (.iload_n 3, 1) := by decide +kernel
theorem d_A_lastBefore_66 : decode c_A_lastBefore 66 = .ok (.iload 4, 2) := by decide +kernel
theorem d_A_lastBefore_68 : decode c_A_lastBefore 68 = .ok (.invokestatic 104, 3) := by decide +kernel
theorem d_A_lastBefore_71 : decode c_A_lastBefore 71 = .ok (.ifCond .eq 25, 3) := by decide +kernel
theorem d_A_lastBefore_74 : decode c_A_lastBefore 74 = .ok (.aload_n 0, 1) := by decide +kernel
theorem d_A_lastBefore_75 : decode c_A_lastBefore 75 = .ok (.iload_n 1, 1) := by decide +kernel
theorem d_A_lastBefore_76 : decode c_A_lastBefore 76 = .ok (.iload 4, 2) := by decide +kernel
theorem d_A_lastBefore_78 : decode c_A_lastBefore 78 = .ok (.iload_n 3, 1) := by decide +kernel
theorem d_A_lastBefore_79 : decode c_A_lastBefore 79 = .ok (.iload 4, 2) := by decide +kernel
theorem d_A_lastBefore_81 : decode c_A_lastBefore 81 = .ok (.invokestatic 97, 3) := by decide +kernel
theorem d_A_lastBefore_84 : decode c_A_lastBefore 84 = .ok (.iconst (-1), 1) := by decide +kernel
theorem d_A_lastBefore_85 : decode c_A_lastBefore 85 = .ok (.ixor, 1) := by decide +kernel
theorem d_A_lastBefore_86 : decode c_A_lastBefore 86 = .ok (.iand, 1) := by decide +kernel
theorem d_A_lastBefore_87 : decode c_A_lastBefore 87 = .ok (.invokevirtual 161, 3) := by decide +kernel
theorem d_A_lastBefore_90 : decode c_A_lastBefore 90 = .ok (.ifCond .eq 6, 3) := by decide +kernel
theorem d_A_lastBefore_93 : decode c_A_lastBefore 93 = .ok (.iload 4, 2) := by decide +kernel
theorem d_A_lastBefore_95 : decode c_A_lastBefore 95 = .ok (.ireturn, 1) := by decide +kernel
theorem d_A_lastBefore_96 : decode c_A_lastBefore 96 = .ok (.iinc 4 1, 3) := by decide +kernel
theorem d_A_lastBefore_99 : decode c_A_lastBefore 99 = .ok (.goto (-41), 3) := by decide +kernel
theorem d_A_lastBefore_102 : decode c_A_lastBefore 102 = .ok (.iload_n 1, 1) := by decide +kernel
theorem d_A_lastBefore_103 : decode c_A_lastBefore 103 = .ok (.ireturn, 1) := by decide +kernel
theorem d_A_needsAll_0 : decode c_A_needsAll 0 = .ok (.iconst 0, 1) := by decide +kernel
theorem d_A_needsAll_1 : decode c_A_needsAll 1 = .ok (.istore 4, 2) := by decide +kernel
theorem d_A_needsAll_3 : decode c_A_needsAll 3 = .ok (.iload 4, 2) := by decide +kernel
theorem d_A_needsAll_5 : decode c_A_needsAll 5 = .ok (.bipush 16, 2) := by decide +kernel
theorem d_A_needsAll_7 : decode c_A_needsAll 7 = .ok (.if_icmp .ge 43, 3) := by decide +kernel
theorem d_A_needsAll_10 : decode c_A_needsAll 10 = .ok (.iload_n 3, 1) := by decide +kernel
theorem d_A_needsAll_11 : decode c_A_needsAll 11 = .ok (.iload 4, 2) := by decide +kernel
theorem d_A_needsAll_13 : decode c_A_needsAll 13 = .ok (.invokestatic 104, 3) := by decide +kernel
theorem d_A_needsAll_16 : decode c_A_needsAll 16 = .ok (.ifCond .eq 28, 3) := by decide +kernel
theorem d_A_needsAll_19 : decode c_A_needsAll 19 = .ok (.aload_n 0, 1) := by decide +kernel
theorem d_A_needsAll_20 : decode c_A_needsAll 20 = .ok (.getfield 10, 3) := by decide +kernel
theorem d_A_needsAll_23 : decode c_A_needsAll 23 = .ok (.iload_n 1, 1) := by decide +kernel
theorem d_A_needsAll_24 : decode c_A_needsAll 24 = .ok (.invokestatic 97, 3) := by decide +kernel
theorem d_A_needsAll_27 : decode c_A_needsAll 27 = .ok (.iload 4, 2) := by decide +kernel
theorem d_A_needsAll_29 : decode c_A_needsAll 29 = .ok (.invokestatic 97, 3) := by decide +kernel
theorem d_A_needsAll_32 : decode c_A_needsAll 32 = .ok (.invokevirtual 100, 3) := by decide +kernel
theorem d_A_needsAll_35 : decode c_A_needsAll 35 = .ok (.iload_n 2, 1) := by decide +kernel
theorem d_A_needsAll_36 : decode c_A_needsAll 36 = .ok (.invokestatic 104, 3) := by decide +kernel
theorem d_A_needsAll_39 : decode c_A_needsAll 39 = .ok (.ifCond .eq 5, 3) := by decide +kernel
theorem d_A_needsAll_42 : decode c_A_needsAll 42 = .ok (.iconst 0, 1) := by decide +kernel
theorem d_A_needsAll_43 : decode c_A_needsAll 43 = .ok (.ireturn, 1) := by decide +kernel
theorem d_A_needsAll_44 : decode c_A_needsAll 44 = .ok (.iinc 4 1, 3) := by decide +kernel
theorem d_A_needsAll_47 : decode c_A_needsAll 47 = .ok (.goto (-44), 3) := by decide +kernel
theorem d_A_needsAll_50 : decode c_A_needsAll 50 = .ok (.iconst 1, 1) := by decide +kernel
theorem d_A_needsAll_51 : decode c_A_needsAll 51 = .ok (.ireturn, 1) := by decide +kernel
theorem d_A_gated_0 : decode c_A_gated 0 = .ok (.iload_n 1, 1) := by decide +kernel
theorem d_A_gated_1 : decode c_A_gated 1 = .ok (.iload_n 2, 1) := by decide +kernel
theorem d_A_gated_2 : decode c_A_gated 2 = .ok (.invokestatic 37, 3) := by decide +kernel
theorem d_A_gated_5 : decode c_A_gated 5 = .ok (.aload_n 0, 1) := by decide +kernel
theorem d_A_gated_6 : decode c_A_gated 6 = .ok (.getfield 10, 3) := by decide +kernel
theorem d_A_gated_9 : decode c_A_gated 9 = .ok (.iload_n 1, 1) := by decide +kernel
theorem d_A_gated_10 : decode c_A_gated 10 = .ok (.invokestatic 97, 3) := by decide +kernel
theorem d_A_gated_13 : decode c_A_gated 13 = .ok (.iconst 0, 1) := by decide +kernel
theorem d_A_gated_14 : decode c_A_gated 14 = .ok (.invokevirtual 100, 3) := by decide +kernel
theorem d_A_gated_17 : decode c_A_gated 17 = .ok (.istore_n 3, 1) := by decide +kernel
theorem d_A_gated_18 : decode c_A_gated 18 = .ok (.aload_n 0, 1) := by decide +kernel
theorem d_A_gated_19 : decode c_A_gated 19 = .ok (.getfield 10, 3) := by decide +kernel
theorem d_A_gated_22 : decode c_A_gated 22 = .ok (.iload_n 1, 1) := by decide +kernel
theorem d_A_gated_23 : decode c_A_gated 23 = .ok (.invokestatic 97, 3) := by decide +kernel
theorem d_A_gated_26 : decode c_A_gated 26 = .ok (.iload_n 2, 1) := by decide +kernel
theorem d_A_gated_27 : decode c_A_gated 27 = .ok (.invokestatic 97, 3) := by decide +kernel
theorem d_A_gated_30 : decode c_A_gated 30 = .ok (.invokevirtual 100, 3) := by decide +kernel
theorem d_A_gated_33 : decode c_A_gated 33 = .ok (.istore 4, 2) := by decide +kernel
theorem d_A_gated_35 : decode c_A_gated 35 = .ok (.iload_n 3, 1) := by decide +kernel
theorem d_A_gated_36 : decode c_A_gated 36 = .ok (.iload 4, 2) := by decide +kernel
theorem d_A_gated_38 : decode c_A_gated 38 = .ok (.iconst (-1), 1) := by decide +kernel
theorem d_A_gated_39 : decode c_A_gated 39 = .ok (.ixor, 1) := by decide +kernel
theorem d_A_gated_40 : decode c_A_gated 40 = .ok (.iand, 1) := by decide +kernel
theorem d_A_gated_41 : decode c_A_gated 41 = .ok (.invokestatic 128, 3) := by decide +kernel
theorem d_A_gated_44 : decode c_A_gated 44 = .ok (.ireturn, 1) := by decide +kernel
theorem d_A_places_0 : decode c_A_places 0 = .ok (.iload_n 1, 1) := by decide +kernel
theorem d_A_places_1 : decode c_A_places 1 = .ok (.iload_n 2, 1) := by decide +kernel
theorem d_A_places_2 : decode c_A_places 2 = .ok (.invokestatic 37, 3) := by decide +kernel
theorem d_A_places_5 : decode c_A_places 5 = .ok (.iload_n 1, 1) := by decide +kernel
theorem d_A_places_6 : decode c_A_places 6 = .ok (.iload_n 2, 1) := by decide +kernel
theorem d_A_places_7 : decode c_A_places 7 = .ok (.if_icmp .eq 15, 3) := by decide +kernel
theorem d_A_places_10 : decode c_A_places 10 = .ok (.aload_n 0, 1) := by decide +kernel
theorem d_A_places_11 : decode c_A_places 11 = .ok (.getfield 10, 3) := by decide +kernel
theorem d_A_places_14 : decode c_A_places 14 = .ok (.iload_n 1, 1) := by decide +kernel
theorem d_A_places_15 : decode c_A_places 15 = .ok (.iload_n 2, 1) := by decide +kernel
theorem d_A_places_16 : decode c_A_places 16 = .ok (.invokevirtual 48, 3) := by decide +kernel
theorem d_A_places_19 : decode c_A_places 19 = .ok (.ifCond .eq 5, 3) := by decide +kernel
theorem d_A_places_22 : decode c_A_places 22 = .ok (.iconst (-1), 1) := by decide +kernel
theorem d_A_places_23 : decode c_A_places 23 = .ok (.ireturn, 1) := by decide +kernel
theorem d_A_places_24 : decode c_A_places 24 = .ok (.aload_n 0, 1) := by decide +kernel
theorem d_A_places_25 : decode c_A_places 25 = .ok (.getfield 33, 3) := by decide +kernel
theorem d_A_places_28 : decode c_A_places 28 = .ok (.aload_n 0, 1) := by decide +kernel
theorem d_A_places_29 : decode c_A_places 29 = .ok (.getfield 10, 3) := by decide +kernel
theorem d_A_places_32 : decode c_A_places 32 = .ok (.invokevirtual 133, 3) := by decide +kernel
theorem d_A_places_35 : decode c_A_places 35 = .ok (.aload_n 0, 1) := by decide +kernel
theorem d_A_places_36 : decode c_A_places 36 = .ok (.getfield 33, 3) := by decide +kernel
theorem d_A_places_39 : decode c_A_places 39 = .ok (.iload_n 1, 1) := by decide +kernel
theorem d_A_places_40 : decode c_A_places 40 = .ok (.invokestatic 136, 3) := by decide +kernel
theorem d_A_places_43 : decode c_A_places 43 = .ok (.iload_n 2, 1) := by decide +kernel
theorem d_A_places_44 : decode c_A_places 44 = .ok (.invokevirtual 139, 3) := by decide +kernel
theorem d_A_places_47 : decode c_A_places 47 = .ok (.ireturn, 1) := by decide +kernel
theorem d_A_arrows_0 : decode c_A_arrows 0 = .ok (.iload_n 1, 1) := by decide +kernel
theorem d_A_arrows_1 : decode c_A_arrows 1 = .ok (.iload_n 2, 1) := by decide +kernel
theorem d_A_arrows_2 : decode c_A_arrows 2 = .ok (.invokestatic 37, 3) := by decide +kernel
theorem d_A_arrows_5 : decode c_A_arrows 5 = .ok (.iload_n 1, 1) := by decide +kernel
theorem d_A_arrows_6 : decode c_A_arrows 6 = .ok (.iload_n 2, 1) := by decide +kernel
theorem d_A_arrows_7 : decode c_A_arrows 7 = .ok (.if_icmp .ne 5, 3) := by decide +kernel
theorem d_A_arrows_10 : decode c_A_arrows 10 = .ok (.iconst (-1), 1) := by decide +kernel
theorem d_A_arrows_11 : decode c_A_arrows 11 = .ok (.ireturn, 1) := by decide +kernel
theorem d_A_arrows_12 : decode c_A_arrows 12 = .ok (.aload_n 0, 1) := by decide +kernel
theorem d_A_arrows_13 : decode c_A_arrows 13 = .ok (.getfield 33, 3) := by decide +kernel
theorem d_A_arrows_16 : decode c_A_arrows 16 = .ok (.aload_n 0, 1) := by decide +kernel
theorem d_A_arrows_17 : decode c_A_arrows 17 = .ok (.getfield 10, 3) := by decide +kernel
theorem d_A_arrows_20 : decode c_A_arrows 20 = .ok (.invokevirtual 142, 3) := by decide +kernel
theorem d_A_arrows_23 : decode c_A_arrows 23 = .ok (.aload_n 0, 1) := by decide +kernel
theorem d_A_arrows_24 : decode c_A_arrows 24 = .ok (.getfield 33, 3) := by decide +kernel
theorem d_A_arrows_27 : decode c_A_arrows 27 = .ok (.iload_n 1, 1) := by decide +kernel
theorem d_A_arrows_28 : decode c_A_arrows 28 = .ok (.iload_n 2, 1) := by decide +kernel
theorem d_A_arrows_29 : decode c_A_arrows 29 = .ok (.invokevirtual 139, 3) := by decide +kernel
theorem d_A_arrows_32 : decode c_A_arrows 32 = .ok (.ireturn, 1) := by decide +kernel
theorem d_A_figure_0 : decode c_A_figure 0 = .ok (.iload_n 1, 1) := by decide +kernel
theorem d_A_figure_1 : decode c_A_figure 1 = .ok (.ifCond .lt 8, 3) := by decide +kernel
theorem d_A_figure_4 : decode c_A_figure 4 = .ok (.iload_n 1, 1) := by decide +kernel
theorem d_A_figure_5 : decode c_A_figure 5 = .ok (.iconst 5, 1) := by decide +kernel
theorem d_A_figure_6 : decode c_A_figure 6 = .ok (.if_icmp .le 13, 3) := by decide +kernel
theorem d_A_figure_9 : decode c_A_figure 9 = .ok (.new 41, 3) := by decide +kernel
theorem d_A_figure_12 : decode c_A_figure 12 = .ok (.dup, 1) := by decide +kernel
theorem d_A_figure_13 : decode c_A_figure 13 = .ok (.ldc 145, 2) := by decide +kernel
theorem d_A_figure_15 : decode c_A_figure 15 = .ok (.invokespecial 45, 3) := by decide +kernel
theorem d_A_figure_18 : decode c_A_figure 18 = .ok (.athrow, 1) := by decide +kernel
theorem d_A_figure_19 : decode c_A_figure 19 = .ok (.iload_n 1, 1) := by decide +kernel
theorem d_A_figure_20 : decode c_A_figure 20 = .ok (.ifCond .ne 11, 3) := by decide +kernel
theorem d_A_figure_23 : decode c_A_figure 23 = .ok (.aload_n 0, 1) := by decide +kernel
theorem d_A_figure_24 : decode c_A_figure 24 = .ok (.getfield 10, 3) := by decide +kernel
theorem d_A_figure_27 : decode c_A_figure 27 = .ok (.invokevirtual 52, 3) := by decide +kernel
theorem d_A_figure_30 : decode c_A_figure 30 = .ok (.ireturn, 1) := by decide +kernel
theorem d_A_figure_31 : decode c_A_figure 31 = .ok (.iload_n 1, 1) := by decide +kernel
theorem d_A_figure_32 : decode c_A_figure 32 = .ok (.iconst 5, 1) := by decide +kernel
theorem d_A_figure_33 : decode c_A_figure 33 = .ok (.if_icmp .ne 8, 3) := by decide +kernel
theorem d_A_figure_36 : decode c_A_figure 36 = .ok (.aload_n 0, 1) := by decide +kernel
theorem d_A_figure_37 : decode c_A_figure 37 = .ok (.invokevirtual 147, 3) := by decide +kernel
theorem d_A_figure_40 : decode c_A_figure 40 = .ok (.ireturn, 1) := by decide +kernel
theorem d_A_figure_41 : decode c_A_figure 41 = .ok (.aload_n 0, 1) := by decide +kernel
theorem d_A_figure_42 : decode c_A_figure 42 = .ok (.getfield 19, 3) := by decide +kernel
theorem d_A_figure_45 : decode c_A_figure 45 = .ok (.aload_n 0, 1) := by decide +kernel
theorem d_A_figure_46 : decode c_A_figure 46 = .ok (.getfield 10, 3) := by decide +kernel
theorem d_A_figure_49 : decode c_A_figure 49 = .ok (.invokevirtual 74, 3) := by decide +kernel
theorem d_A_figure_52 : decode c_A_figure 52 = .ok (.iload_n 1, 1) := by decide +kernel
theorem d_A_figure_53 : decode c_A_figure 53 = .ok (.tableswitch 51 1 3 #[27, 35, 43], 27) := by decide +kernel
theorem d_A_figure_80 : decode c_A_figure 80 = .ok (.aload_n 0, 1) := by decide +kernel
theorem d_A_figure_81 : decode c_A_figure 81 = .ok (.getfield 19, 3) := by decide +kernel
theorem d_A_figure_84 : decode c_A_figure 84 = .ok (.invokevirtual 88, 3) := by decide +kernel
theorem d_A_figure_87 : decode c_A_figure 87 = .ok (.ireturn, 1) := by decide +kernel
theorem d_A_figure_88 : decode c_A_figure 88 = .ok (.aload_n 0, 1) := by decide +kernel
theorem d_A_figure_89 : decode c_A_figure 89 = .ok (.getfield 19, 3) := by decide +kernel
theorem d_A_figure_92 : decode c_A_figure 92 = .ok (.invokevirtual 150, 3) := by decide +kernel
theorem d_A_figure_95 : decode c_A_figure 95 = .ok (.ireturn, 1) := by decide +kernel
theorem d_A_figure_96 : decode c_A_figure 96 = .ok (.aload_n 0, 1) := by decide +kernel
theorem d_A_figure_97 : decode c_A_figure 97 = .ok (.getfield 19, 3) := by decide +kernel
theorem d_A_figure_100 : decode c_A_figure 100 = .ok (.invokevirtual 153, 3) := by decide +kernel
theorem d_A_figure_103 : decode c_A_figure 103 = .ok (.ireturn, 1) := by decide +kernel
theorem d_A_figure_104 : decode c_A_figure 104 = .ok (.aload_n 0, 1) := by decide +kernel
theorem d_A_figure_105 : decode c_A_figure 105 = .ok (.getfield 19, 3) := by decide +kernel
theorem d_A_figure_108 : decode c_A_figure 108 = .ok (.invokevirtual 156, 3) := by decide +kernel
theorem d_A_figure_111 : decode c_A_figure 111 = .ok (.ireturn, 1) := by decide +kernel
theorem d_A_neededArrows_0 : decode c_A_neededArrows 0 = .ok (.iconst 0, 1) := by decide +kernel
theorem d_A_neededArrows_1 : decode c_A_neededArrows 1 = .ok (.istore_n 1, 1) := by decide +kernel
theorem d_A_neededArrows_2 : decode c_A_neededArrows 2 = .ok (.iconst 0, 1) := by decide +kernel
theorem d_A_neededArrows_3 : decode c_A_neededArrows 3 = .ok (.istore_n 2, 1) := by decide +kernel
theorem d_A_neededArrows_4 : decode c_A_neededArrows 4 = .ok (.iload_n 2, 1) := by decide +kernel
theorem d_A_neededArrows_5 : decode c_A_neededArrows 5 = .ok (.bipush 16, 2) := by decide +kernel
theorem d_A_neededArrows_7 : decode c_A_neededArrows 7 = .ok (.if_icmp .ge 47, 3) := by decide +kernel
theorem d_A_neededArrows_10 : decode c_A_neededArrows 10 = .ok (.iconst 0, 1) := by decide +kernel
theorem d_A_neededArrows_11 : decode c_A_neededArrows 11 = .ok (.istore_n 3, 1) := by decide +kernel
theorem d_A_neededArrows_12 : decode c_A_neededArrows 12 = .ok (.iload_n 3, 1) := by decide +kernel
theorem d_A_neededArrows_13 : decode c_A_neededArrows 13 = .ok (.bipush 16, 2) := by decide +kernel
theorem d_A_neededArrows_15 : decode c_A_neededArrows 15 = .ok (.if_icmp .ge 33, 3) := by decide +kernel
theorem d_A_neededArrows_18 : decode c_A_neededArrows 18 = .ok (.aload_n 0, 1) := by decide +kernel
theorem d_A_neededArrows_19 : decode c_A_neededArrows 19 = .ok (.getfield 10, 3) := by decide +kernel
theorem d_A_neededArrows_22 : decode c_A_neededArrows 22 = .ok (.iload_n 2, 1) := by decide +kernel
theorem d_A_neededArrows_23 : decode c_A_neededArrows 23 = .ok (.iload_n 3, 1) := by decide +kernel
theorem d_A_neededArrows_24 : decode c_A_neededArrows 24 = .ok (.invokevirtual 48, 3) := by decide +kernel
theorem d_A_neededArrows_27 : decode c_A_neededArrows 27 = .ok (.ifCond .eq 15, 3) := by decide +kernel
theorem d_A_neededArrows_30 : decode c_A_neededArrows 30 = .ok (.aload_n 0, 1) := by decide +kernel
theorem d_A_neededArrows_31 : decode c_A_neededArrows 31 = .ok (.iload_n 2, 1) := by decide +kernel
theorem d_A_neededArrows_32 : decode c_A_neededArrows 32 = .ok (.iload_n 3, 1) := by decide +kernel
theorem d_A_neededArrows_33 : decode c_A_neededArrows 33 = .ok (.invokevirtual 165, 3) := by decide +kernel
theorem d_A_neededArrows_36 : decode c_A_neededArrows 36 = .ok (.ifCond .ne 6, 3) := by decide +kernel
theorem d_A_neededArrows_39 : decode c_A_neededArrows 39 = .ok (.iinc 1 1, 3) := by decide +kernel
theorem d_A_neededArrows_42 : decode c_A_neededArrows 42 = .ok (.iinc 3 1, 3) := by decide +kernel
theorem d_A_neededArrows_45 : decode c_A_neededArrows 45 = .ok (.goto (-33), 3) := by decide +kernel
theorem d_A_neededArrows_48 : decode c_A_neededArrows 48 = .ok (.iinc 2 1, 3) := by decide +kernel
theorem d_A_neededArrows_51 : decode c_A_neededArrows 51 = .ok (.goto (-47), 3) := by decide +kernel
theorem d_A_neededArrows_54 : decode c_A_neededArrows 54 = .ok (.iload_n 1, 1) := by decide +kernel
theorem d_A_neededArrows_55 : decode c_A_neededArrows 55 = .ok (.ireturn, 1) := by decide +kernel
theorem d_A_hasDetour_0 : decode c_A_hasDetour 0 = .ok (.aload_n 0, 1) := by decide +kernel
theorem d_A_hasDetour_1 : decode c_A_hasDetour 1 = .ok (.getfield 10, 3) := by decide +kernel
theorem d_A_hasDetour_4 : decode c_A_hasDetour 4 = .ok (.aload_n 0, 1) := by decide +kernel
theorem d_A_hasDetour_5 : decode c_A_hasDetour 5 = .ok (.getfield 10, 3) := by decide +kernel
theorem d_A_hasDetour_8 : decode c_A_hasDetour 8 = .ok (.iload_n 1, 1) := by decide +kernel
theorem d_A_hasDetour_9 : decode c_A_hasDetour 9 = .ok (.invokevirtual 168, 3) := by decide +kernel
theorem d_A_hasDetour_12 : decode c_A_hasDetour 12 = .ok (.iload_n 2, 1) := by decide +kernel
theorem d_A_hasDetour_13 : decode c_A_hasDetour 13 = .ok (.invokestatic 97, 3) := by decide +kernel
theorem d_A_hasDetour_16 : decode c_A_hasDetour 16 = .ok (.iconst (-1), 1) := by decide +kernel
theorem d_A_hasDetour_17 : decode c_A_hasDetour 17 = .ok (.ixor, 1) := by decide +kernel
theorem d_A_hasDetour_18 : decode c_A_hasDetour 18 = .ok (.iand, 1) := by decide +kernel
theorem d_A_hasDetour_19 : decode c_A_hasDetour 19 = .ok (.iload_n 1, 1) := by decide +kernel
theorem d_A_hasDetour_20 : decode c_A_hasDetour 20 = .ok (.invokestatic 97, 3) := by decide +kernel
theorem d_A_hasDetour_23 : decode c_A_hasDetour 23 = .ok (.invokevirtual 100, 3) := by decide +kernel
theorem d_A_hasDetour_26 : decode c_A_hasDetour 26 = .ok (.iload_n 2, 1) := by decide +kernel
theorem d_A_hasDetour_27 : decode c_A_hasDetour 27 = .ok (.invokestatic 104, 3) := by decide +kernel
theorem d_A_hasDetour_30 : decode c_A_hasDetour 30 = .ok (.ireturn, 1) := by decide +kernel
end
section
theorem d_Gr_init_0 : decode c_Gr_init 0 = .ok (.aload_n 0, 1) := by decide +kernel
theorem d_Gr_init_1 : decode c_Gr_init 1 = .ok (.invokespecial 3, 3) := by decide +kernel
theorem d_Gr_init_4 : decode c_Gr_init 4 = .ok (.aload_n 0, 1) := by decide +kernel
theorem d_Gr_init_5 : decode c_Gr_init 5 = .ok (.bipush 16, 2) := by decide +kernel
theorem d_Gr_init_7 : decode c_Gr_init 7 = .ok (.newarray .int, 2) := by decide +kernel
theorem d_Gr_init_9 : decode c_Gr_init 9 = .ok (.putfield 9, 3) := by decide +kernel
theorem d_Gr_init_12 : decode c_Gr_init 12 = .ok (.aload_n 0, 1) := by decide +kernel
theorem d_Gr_init_13 : decode c_Gr_init 13 = .ok (.bipush 16, 2) := by decide +kernel
theorem d_Gr_init_15 : decode c_Gr_init 15 = .ok (.newarray .int, 2) := by decide +kernel
theorem d_Gr_init_17 : decode c_Gr_init 17 = .ok (.putfield 15, 3) := by decide +kernel
theorem d_Gr_init_20 : decode c_Gr_init 20 = .ok (.aload_n 0, 1) := by decide +kernel
theorem d_Gr_init_21 : decode c_Gr_init 21 = .ok (.bipush 16, 2) := by decide +kernel
theorem d_Gr_init_23 : decode c_Gr_init 23 = .ok (.newarray .int, 2) := by decide +kernel
theorem d_Gr_init_25 : decode c_Gr_init 25 = .ok (.putfield 18, 3) := by decide +kernel
theorem d_Gr_init_28 : decode c_Gr_init 28 = .ok (.aload_n 0, 1) := by decide +kernel
theorem d_Gr_init_29 : decode c_Gr_init 29 = .ok (.bipush 16, 2) := by decide +kernel
theorem d_Gr_init_31 : decode c_Gr_init 31 = .ok (.newarray .int, 2) := by decide +kernel
theorem d_Gr_init_33 : decode c_Gr_init 33 = .ok (.putfield 21, 3) := by decide +kernel
theorem d_Gr_init_36 : decode c_Gr_init 36 = .ok (.aload_n 0, 1) := by decide +kernel
theorem d_Gr_init_37 : decode c_Gr_init 37 = .ok (.bipush 16, 2) := by decide +kernel
theorem d_Gr_init_39 : decode c_Gr_init 39 = .ok (.newarray .int, 2) := by decide +kernel
theorem d_Gr_init_41 : decode c_Gr_init 41 = .ok (.putfield 24, 3) := by decide +kernel
theorem d_Gr_init_44 : decode c_Gr_init 44 = .ok (.aload_n 0, 1) := by decide +kernel
theorem d_Gr_init_45 : decode c_Gr_init 45 = .ok (.bipush 16, 2) := by decide +kernel
theorem d_Gr_init_47 : decode c_Gr_init 47 = .ok (.newarray .int, 2) := by decide +kernel
theorem d_Gr_init_49 : decode c_Gr_init 49 = .ok (.putfield 27, 3) := by decide +kernel
theorem d_Gr_init_52 : decode c_Gr_init 52 = .ok (.aload_n 0, 1) := by decide +kernel
theorem d_Gr_init_53 : decode c_Gr_init 53 = .ok (.iconst 0, 1) := by decide +kernel
theorem d_Gr_init_54 : decode c_Gr_init 54 = .ok (.putfield 30, 3) := by decide +kernel
theorem d_Gr_init_57 : decode c_Gr_init 57 = .ok (.return_, 1) := by decide +kernel
theorem d_Wy_init_0 : decode c_Wy_init 0 = .ok (.aload_n 0, 1) := by decide +kernel
theorem d_Wy_init_1 : decode c_Wy_init 1 = .ok (.invokespecial 3, 3) := by decide +kernel
theorem d_Wy_init_4 : decode c_Wy_init 4 = .ok (.aload_n 0, 1) := by decide +kernel
theorem d_Wy_init_5 : decode c_Wy_init 5 = .ok (.bipush 16, 2) := by decide +kernel
theorem d_Wy_init_7 : decode c_Wy_init 7 = .ok (.newarray .int, 2) := by decide +kernel
theorem d_Wy_init_9 : decode c_Wy_init 9 = .ok (.putfield 9, 3) := by decide +kernel
theorem d_Wy_init_12 : decode c_Wy_init 12 = .ok (.return_, 1) := by decide +kernel
theorem d_Fl_init_0 : decode c_Fl_init 0 = .ok (.aload_n 0, 1) := by decide +kernel
theorem d_Fl_init_1 : decode c_Fl_init 1 = .ok (.invokespecial 3, 3) := by decide +kernel
theorem d_Fl_init_4 : decode c_Fl_init 4 = .ok (.aload_n 0, 1) := by decide +kernel
theorem d_Fl_init_5 : decode c_Fl_init 5 = .ok (.bipush 32, 2) := by decide +kernel
theorem d_Fl_init_7 : decode c_Fl_init 7 = .ok (.newarray .int, 2) := by decide +kernel
theorem d_Fl_init_9 : decode c_Fl_init 9 = .ok (.putfield 11, 3) := by decide +kernel
theorem d_Fl_init_12 : decode c_Fl_init 12 = .ok (.aload_n 0, 1) := by decide +kernel
theorem d_Fl_init_13 : decode c_Fl_init 13 = .ok (.bipush 32, 2) := by decide +kernel
theorem d_Fl_init_15 : decode c_Fl_init 15 = .ok (.newarray .int, 2) := by decide +kernel
theorem d_Fl_init_17 : decode c_Fl_init 17 = .ok (.putfield 15, 3) := by decide +kernel
theorem d_Fl_init_20 : decode c_Fl_init 20 = .ok (.aload_n 0, 1) := by decide +kernel
theorem d_Fl_init_21 : decode c_Fl_init 21 = .ok (.bipush 32, 2) := by decide +kernel
theorem d_Fl_init_23 : decode c_Fl_init 23 = .ok (.newarray .int, 2) := by decide +kernel
theorem d_Fl_init_25 : decode c_Fl_init 25 = .ok (.putfield 18, 3) := by decide +kernel
theorem d_Fl_init_28 : decode c_Fl_init 28 = .ok (.aload_n 0, 1) := by decide +kernel
theorem d_Fl_init_29 : decode c_Fl_init 29 = .ok (.bipush 32, 2) := by decide +kernel
theorem d_Fl_init_31 : decode c_Fl_init 31 = .ok (.newarray .int, 2) := by decide +kernel
theorem d_Fl_init_33 : decode c_Fl_init 33 = .ok (.putfield 21, 3) := by decide +kernel
theorem d_Fl_init_36 : decode c_Fl_init 36 = .ok (.return_, 1) := by decide +kernel
theorem d_Gr_read_0 : decode c_Gr_read 0 = .ok (.aload_n 0, 1) := by decide +kernel
theorem d_Gr_read_1 : decode c_Gr_read 1 = .ok (.aload_n 1, 1) := by decide +kernel
theorem d_Gr_read_2 : decode c_Gr_read 2 = .ok (.invokevirtual 34, 3) := by decide +kernel
theorem d_Gr_read_5 : decode c_Gr_read 5 = .ok (.aload_n 0, 1) := by decide +kernel
theorem d_Gr_read_6 : decode c_Gr_read 6 = .ok (.invokevirtual 38, 3) := by decide +kernel
theorem d_Gr_read_9 : decode c_Gr_read 9 = .ok (.aload_n 0, 1) := by decide +kernel
theorem d_Gr_read_10 : decode c_Gr_read 10 = .ok (.aload_n 1, 1) := by decide +kernel
theorem d_Gr_read_11 : decode c_Gr_read 11 = .ok (.invokevirtual 41, 3) := by decide +kernel
theorem d_Gr_read_14 : decode c_Gr_read 14 = .ok (.aload_n 0, 1) := by decide +kernel
theorem d_Gr_read_15 : decode c_Gr_read 15 = .ok (.invokevirtual 44, 3) := by decide +kernel
theorem d_Gr_read_18 : decode c_Gr_read 18 = .ok (.return_, 1) := by decide +kernel
theorem d_Gr_readReached_0 : decode c_Gr_readReached 0 = .ok (.iconst 0, 1) := by decide +kernel
theorem d_Gr_readReached_1 : decode c_Gr_readReached 1 = .ok (.istore_n 2, 1) := by decide +kernel
theorem d_Gr_readReached_2 : decode c_Gr_readReached 2 = .ok (.iload_n 2, 1) := by decide +kernel
theorem d_Gr_readReached_3 : decode c_Gr_readReached 3 = .ok (.bipush 16, 2) := by decide +kernel
theorem d_Gr_readReached_5 : decode c_Gr_readReached 5 = .ok (.if_icmp .ge 25, 3) := by decide +kernel
theorem d_Gr_readReached_8 : decode c_Gr_readReached 8 = .ok (.aload_n 0, 1) := by decide +kernel
theorem d_Gr_readReached_9 : decode c_Gr_readReached 9 = .ok (.getfield 9, 3) := by decide +kernel
theorem d_Gr_readReached_12 : decode c_Gr_readReached 12 = .ok (.iload_n 2, 1) := by decide +kernel
theorem d_Gr_readReached_13 : decode c_Gr_readReached 13 = .ok (.iload_n 2, 1) := by decide +kernel
theorem d_Gr_readReached_14 : decode c_Gr_readReached 14 = .ok (.invokestatic 57, 3) := by decide +kernel
theorem d_Gr_readReached_17 : decode c_Gr_readReached 17 = .ok (.aload_n 1, 1) := by decide +kernel
theorem d_Gr_readReached_18 : decode c_Gr_readReached 18 = .ok (.iload_n 2, 1) := by decide +kernel
theorem d_Gr_readReached_19 : decode c_Gr_readReached 19 = .ok (.invokevirtual 72, 3) := by decide +kernel
theorem d_Gr_readReached_22 : decode c_Gr_readReached 22 = .ok (.ior, 1) := by decide +kernel
theorem d_Gr_readReached_23 : decode c_Gr_readReached 23 = .ok (.iastore, 1) := by decide +kernel
theorem d_Gr_readReached_24 : decode c_Gr_readReached 24 = .ok (.iinc 2 1, 3) := by decide +kernel
theorem d_Gr_readReached_27 : decode c_Gr_readReached 27 = .ok (.goto (-25), 3) := by decide +kernel
theorem d_Gr_readReached_30 : decode c_Gr_readReached 30 = .ok (.iconst 0, 1) := by decide +kernel
theorem d_Gr_readReached_31 : decode c_Gr_readReached 31 = .ok (.istore_n 2, 1) := by decide +kernel
theorem d_Gr_readReached_32 : decode c_Gr_readReached 32 = .ok (.iload_n 2, 1) := by decide +kernel
theorem d_Gr_readReached_33 : decode c_Gr_readReached 33 = .ok (.bipush 16, 2) := by decide +kernel
theorem d_Gr_readReached_35 : decode c_Gr_readReached 35 = .ok (.if_icmp .ge 51, 3) := by decide +kernel
theorem d_Gr_readReached_38 : decode c_Gr_readReached 38 = .ok (.iconst 0, 1) := by decide +kernel
theorem d_Gr_readReached_39 : decode c_Gr_readReached 39 = .ok (.istore_n 3, 1) := by decide +kernel
theorem d_Gr_readReached_40 : decode c_Gr_readReached 40 = .ok (.iload_n 3, 1) := by decide +kernel
theorem d_Gr_readReached_41 : decode c_Gr_readReached 41 = .ok (.bipush 16, 2) := by decide +kernel
theorem d_Gr_readReached_43 : decode c_Gr_readReached 43 = .ok (.if_icmp .ge 37, 3) := by decide +kernel
theorem d_Gr_readReached_46 : decode c_Gr_readReached 46 = .ok (.aload_n 0, 1) := by decide +kernel
theorem d_Gr_readReached_47 : decode c_Gr_readReached 47 = .ok (.getfield 9, 3) := by decide +kernel
theorem d_Gr_readReached_50 : decode c_Gr_readReached 50 = .ok (.iload_n 3, 1) := by decide +kernel
theorem d_Gr_readReached_51 : decode c_Gr_readReached 51 = .ok (.iaload, 1) := by decide +kernel
theorem d_Gr_readReached_52 : decode c_Gr_readReached 52 = .ok (.iload_n 2, 1) := by decide +kernel
theorem d_Gr_readReached_53 : decode c_Gr_readReached 53 = .ok (.invokestatic 53, 3) := by decide +kernel
theorem d_Gr_readReached_56 : decode c_Gr_readReached 56 = .ok (.ifCond .eq 18, 3) := by decide +kernel
theorem d_Gr_readReached_59 : decode c_Gr_readReached 59 = .ok (.aload_n 0, 1) := by decide +kernel
theorem d_Gr_readReached_60 : decode c_Gr_readReached 60 = .ok (.getfield 9, 3) := by decide +kernel
theorem d_Gr_readReached_63 : decode c_Gr_readReached 63 = .ok (.iload_n 3, 1) := by decide +kernel
theorem d_Gr_readReached_64 : decode c_Gr_readReached 64 = .ok (.dup2, 1) := by decide +kernel
theorem d_Gr_readReached_65 : decode c_Gr_readReached 65 = .ok (.iaload, 1) := by decide +kernel
theorem d_Gr_readReached_66 : decode c_Gr_readReached 66 = .ok (.aload_n 0, 1) := by decide +kernel
theorem d_Gr_readReached_67 : decode c_Gr_readReached 67 = .ok (.getfield 9, 3) := by decide +kernel
theorem d_Gr_readReached_70 : decode c_Gr_readReached 70 = .ok (.iload_n 2, 1) := by decide +kernel
theorem d_Gr_readReached_71 : decode c_Gr_readReached 71 = .ok (.iaload, 1) := by decide +kernel
theorem d_Gr_readReached_72 : decode c_Gr_readReached 72 = .ok (.ior, 1) := by decide +kernel
theorem d_Gr_readReached_73 : decode c_Gr_readReached 73 = .ok (.iastore, 1) := by decide +kernel
theorem d_Gr_readReached_74 : decode c_Gr_readReached 74 = .ok (.iinc 3 1, 3) := by decide +kernel
theorem d_Gr_readReached_77 : decode c_Gr_readReached 77 = .ok (.goto (-37), 3) := by decide +kernel
theorem d_Gr_readReached_80 : decode c_Gr_readReached 80 = .ok (.iinc 2 1, 3) := by decide +kernel
theorem d_Gr_readReached_83 : decode c_Gr_readReached 83 = .ok (.goto (-51), 3) := by decide +kernel
theorem d_Gr_readReached_86 : decode c_Gr_readReached 86 = .ok (.return_, 1) := by decide +kernel
theorem d_Gr_readNames_0 : decode c_Gr_readNames 0 = .ok (.aload_n 0, 1) := by decide +kernel
theorem d_Gr_readNames_1 : decode c_Gr_readNames 1 = .ok (.iconst 0, 1) := by decide +kernel
theorem d_Gr_readNames_2 : decode c_Gr_readNames 2 = .ok (.putfield 30, 3) := by decide +kernel
theorem d_Gr_readNames_5 : decode c_Gr_readNames 5 = .ok (.iconst 0, 1) := by decide +kernel
theorem d_Gr_readNames_6 : decode c_Gr_readNames 6 = .ok (.istore_n 1, 1) := by decide +kernel
theorem d_Gr_readNames_7 : decode c_Gr_readNames 7 = .ok (.iload_n 1, 1) := by decide +kernel
theorem d_Gr_readNames_8 : decode c_Gr_readNames 8 = .ok (.bipush 16, 2) := by decide +kernel
theorem d_Gr_readNames_10 : decode c_Gr_readNames 10 = .ok (.if_icmp .ge 40, 3) := by decide +kernel
theorem d_Gr_readNames_13 : decode c_Gr_readNames 13 = .ok (.aload_n 0, 1) := by decide +kernel
theorem d_Gr_readNames_14 : decode c_Gr_readNames 14 = .ok (.getfield 15, 3) := by decide +kernel
theorem d_Gr_readNames_17 : decode c_Gr_readNames 17 = .ok (.iload_n 1, 1) := by decide +kernel
theorem d_Gr_readNames_18 : decode c_Gr_readNames 18 = .ok (.aload_n 0, 1) := by decide +kernel
theorem d_Gr_readNames_19 : decode c_Gr_readNames 19 = .ok (.iload_n 1, 1) := by decide +kernel
theorem d_Gr_readNames_20 : decode c_Gr_readNames 20 = .ok (.invokevirtual 77, 3) := by decide +kernel
theorem d_Gr_readNames_23 : decode c_Gr_readNames 23 = .ok (.iastore, 1) := by decide +kernel
theorem d_Gr_readNames_24 : decode c_Gr_readNames 24 = .ok (.aload_n 0, 1) := by decide +kernel
theorem d_Gr_readNames_25 : decode c_Gr_readNames 25 = .ok (.getfield 15, 3) := by decide +kernel
theorem d_Gr_readNames_28 : decode c_Gr_readNames 28 = .ok (.iload_n 1, 1) := by decide +kernel
theorem d_Gr_readNames_29 : decode c_Gr_readNames 29 = .ok (.iaload, 1) := by decide +kernel
theorem d_Gr_readNames_30 : decode c_Gr_readNames 30 = .ok (.iload_n 1, 1) := by decide +kernel
theorem d_Gr_readNames_31 : decode c_Gr_readNames 31 = .ok (.if_icmp .ne 13, 3) := by decide +kernel
theorem d_Gr_readNames_34 : decode c_Gr_readNames 34 = .ok (.aload_n 0, 1) := by decide +kernel
theorem d_Gr_readNames_35 : decode c_Gr_readNames 35 = .ok (.dup, 1) := by decide +kernel
theorem d_Gr_readNames_36 : decode c_Gr_readNames 36 = .ok (.getfield 30, 3) := by decide +kernel
theorem d_Gr_readNames_39 : decode c_Gr_readNames 39 = .ok (.iconst 1, 1) := by decide +kernel
theorem d_Gr_readNames_40 : decode c_Gr_readNames 40 = .ok (.iadd, 1) := by decide +kernel
theorem d_Gr_readNames_41 : decode c_Gr_readNames 41 = .ok (.putfield 30, 3) := by decide +kernel
theorem d_Gr_readNames_44 : decode c_Gr_readNames 44 = .ok (.iinc 1 1, 3) := by decide +kernel
theorem d_Gr_readNames_47 : decode c_Gr_readNames 47 = .ok (.goto (-40), 3) := by decide +kernel
theorem d_Gr_readNames_50 : decode c_Gr_readNames 50 = .ok (.return_, 1) := by decide +kernel
theorem d_Gr_leastWith_0 : decode c_Gr_leastWith 0 = .ok (.iconst 0, 1) := by decide +kernel
theorem d_Gr_leastWith_1 : decode c_Gr_leastWith 1 = .ok (.istore_n 2, 1) := by decide +kernel
theorem d_Gr_leastWith_2 : decode c_Gr_leastWith 2 = .ok (.iload_n 2, 1) := by decide +kernel
theorem d_Gr_leastWith_3 : decode c_Gr_leastWith 3 = .ok (.iload_n 1, 1) := by decide +kernel
theorem d_Gr_leastWith_4 : decode c_Gr_leastWith 4 = .ok (.if_icmp .ge 37, 3) := by decide +kernel
theorem d_Gr_leastWith_7 : decode c_Gr_leastWith 7 = .ok (.aload_n 0, 1) := by decide +kernel
theorem d_Gr_leastWith_8 : decode c_Gr_leastWith 8 = .ok (.getfield 9, 3) := by decide +kernel
theorem d_Gr_leastWith_11 : decode c_Gr_leastWith 11 = .ok (.iload_n 1, 1) := by decide +kernel
theorem d_Gr_leastWith_12 : decode c_Gr_leastWith 12 = .ok (.iaload, 1) := by decide +kernel
theorem d_Gr_leastWith_13 : decode c_Gr_leastWith 13 = .ok (.iload_n 2, 1) := by decide +kernel
theorem d_Gr_leastWith_14 : decode c_Gr_leastWith 14 = .ok (.invokestatic 53, 3) := by decide +kernel
theorem d_Gr_leastWith_17 : decode c_Gr_leastWith 17 = .ok (.ifCond .eq 18, 3) := by decide +kernel
theorem d_Gr_leastWith_20 : decode c_Gr_leastWith 20 = .ok (.aload_n 0, 1) := by decide +kernel
theorem d_Gr_leastWith_21 : decode c_Gr_leastWith 21 = .ok (.getfield 9, 3) := by decide +kernel
theorem d_Gr_leastWith_24 : decode c_Gr_leastWith 24 = .ok (.iload_n 2, 1) := by decide +kernel
theorem d_Gr_leastWith_25 : decode c_Gr_leastWith 25 = .ok (.iaload, 1) := by decide +kernel
theorem d_Gr_leastWith_26 : decode c_Gr_leastWith 26 = .ok (.iload_n 1, 1) := by decide +kernel
theorem d_Gr_leastWith_27 : decode c_Gr_leastWith 27 = .ok (.invokestatic 53, 3) := by decide +kernel
theorem d_Gr_leastWith_30 : decode c_Gr_leastWith 30 = .ok (.ifCond .eq 5, 3) := by decide +kernel
theorem d_Gr_leastWith_33 : decode c_Gr_leastWith 33 = .ok (.iload_n 2, 1) := by decide +kernel
theorem d_Gr_leastWith_34 : decode c_Gr_leastWith 34 = .ok (.ireturn, 1) := by decide +kernel
theorem d_Gr_leastWith_35 : decode c_Gr_leastWith 35 = .ok (.iinc 2 1, 3) := by decide +kernel
theorem d_Gr_leastWith_38 : decode c_Gr_leastWith 38 = .ok (.goto (-36), 3) := by decide +kernel
theorem d_Gr_leastWith_41 : decode c_Gr_leastWith 41 = .ok (.iload_n 1, 1) := by decide +kernel
theorem d_Gr_leastWith_42 : decode c_Gr_leastWith 42 = .ok (.ireturn, 1) := by decide +kernel
theorem d_Gr_readLeads_0 : decode c_Gr_readLeads 0 = .ok (.aload_n 0, 1) := by decide +kernel
theorem d_Gr_readLeads_1 : decode c_Gr_readLeads 1 = .ok (.getfield 18, 3) := by decide +kernel
theorem d_Gr_readLeads_4 : decode c_Gr_readLeads 4 = .ok (.iconst 0, 1) := by decide +kernel
theorem d_Gr_readLeads_5 : decode c_Gr_readLeads 5 = .ok (.invokestatic 80, 3) := by decide +kernel
theorem d_Gr_readLeads_8 : decode c_Gr_readLeads 8 = .ok (.aload_n 0, 1) := by decide +kernel
theorem d_Gr_readLeads_9 : decode c_Gr_readLeads 9 = .ok (.getfield 21, 3) := by decide +kernel
theorem d_Gr_readLeads_12 : decode c_Gr_readLeads 12 = .ok (.iconst 0, 1) := by decide +kernel
theorem d_Gr_readLeads_13 : decode c_Gr_readLeads 13 = .ok (.invokestatic 80, 3) := by decide +kernel
theorem d_Gr_readLeads_16 : decode c_Gr_readLeads 16 = .ok (.iconst 0, 1) := by decide +kernel
theorem d_Gr_readLeads_17 : decode c_Gr_readLeads 17 = .ok (.istore_n 2, 1) := by decide +kernel
theorem d_Gr_readLeads_18 : decode c_Gr_readLeads 18 = .ok (.iload_n 2, 1) := by decide +kernel
theorem d_Gr_readLeads_19 : decode c_Gr_readLeads 19 = .ok (.bipush 16, 2) := by decide +kernel
theorem d_Gr_readLeads_21 : decode c_Gr_readLeads 21 = .ok (.if_icmp .ge 93, 3) := by decide +kernel
theorem d_Gr_readLeads_24 : decode c_Gr_readLeads 24 = .ok (.iconst 0, 1) := by decide +kernel
theorem d_Gr_readLeads_25 : decode c_Gr_readLeads 25 = .ok (.istore_n 3, 1) := by decide +kernel
theorem d_Gr_readLeads_26 : decode c_Gr_readLeads 26 = .ok (.iload_n 3, 1) := by decide +kernel
theorem d_Gr_readLeads_27 : decode c_Gr_readLeads 27 = .ok (.bipush 16, 2) := by decide +kernel
theorem d_Gr_readLeads_29 : decode c_Gr_readLeads 29 = .ok (.if_icmp .ge 79, 3) := by decide +kernel
theorem d_Gr_readLeads_32 : decode c_Gr_readLeads 32 = .ok (.aload_n 1, 1) := by decide +kernel
theorem d_Gr_readLeads_33 : decode c_Gr_readLeads 33 = .ok (.iload_n 2, 1) := by decide +kernel
theorem d_Gr_readLeads_34 : decode c_Gr_readLeads 34 = .ok (.iload_n 3, 1) := by decide +kernel
theorem d_Gr_readLeads_35 : decode c_Gr_readLeads 35 = .ok (.invokevirtual 86, 3) := by decide +kernel
theorem d_Gr_readLeads_38 : decode c_Gr_readLeads 38 = .ok (.ifCond .eq 64, 3) := by decide +kernel
theorem d_Gr_readLeads_41 : decode c_Gr_readLeads 41 = .ok (.aload_n 0, 1) := by decide +kernel
theorem d_Gr_readLeads_42 : decode c_Gr_readLeads 42 = .ok (.getfield 15, 3) := by decide +kernel
theorem d_Gr_readLeads_45 : decode c_Gr_readLeads 45 = .ok (.iload_n 2, 1) := by decide +kernel
theorem d_Gr_readLeads_46 : decode c_Gr_readLeads 46 = .ok (.iaload, 1) := by decide +kernel
theorem d_Gr_readLeads_47 : decode c_Gr_readLeads 47 = .ok (.aload_n 0, 1) := by decide +kernel
theorem d_Gr_readLeads_48 : decode c_Gr_readLeads 48 = .ok (.getfield 15, 3) := by decide +kernel
theorem d_Gr_readLeads_51 : decode c_Gr_readLeads 51 = .ok (.iload_n 3, 1) := by decide +kernel
theorem d_Gr_readLeads_52 : decode c_Gr_readLeads 52 = .ok (.iaload, 1) := by decide +kernel
theorem d_Gr_readLeads_53 : decode c_Gr_readLeads 53 = .ok (.if_icmp .eq 49, 3) := by decide +kernel
theorem d_Gr_readLeads_56 : decode c_Gr_readLeads 56 = .ok (.aload_n 0, 1) := by decide +kernel
theorem d_Gr_readLeads_57 : decode c_Gr_readLeads 57 = .ok (.getfield 18, 3) := by decide +kernel
theorem d_Gr_readLeads_60 : decode c_Gr_readLeads 60 = .ok (.aload_n 0, 1) := by decide +kernel
theorem d_Gr_readLeads_61 : decode c_Gr_readLeads 61 = .ok (.getfield 15, 3) := by decide +kernel
theorem d_Gr_readLeads_64 : decode c_Gr_readLeads 64 = .ok (.iload_n 2, 1) := by decide +kernel
theorem d_Gr_readLeads_65 : decode c_Gr_readLeads 65 = .ok (.iaload, 1) := by decide +kernel
theorem d_Gr_readLeads_66 : decode c_Gr_readLeads 66 = .ok (.dup2, 1) := by decide +kernel
theorem d_Gr_readLeads_67 : decode c_Gr_readLeads 67 = .ok (.iaload, 1) := by decide +kernel
theorem d_Gr_readLeads_68 : decode c_Gr_readLeads 68 = .ok (.aload_n 0, 1) := by decide +kernel
theorem d_Gr_readLeads_69 : decode c_Gr_readLeads 69 = .ok (.getfield 15, 3) := by decide +kernel
theorem d_Gr_readLeads_72 : decode c_Gr_readLeads 72 = .ok (.iload_n 3, 1) := by decide +kernel
theorem d_Gr_readLeads_73 : decode c_Gr_readLeads 73 = .ok (.iaload, 1) := by decide +kernel
theorem d_Gr_readLeads_74 : decode c_Gr_readLeads 74 = .ok (.invokestatic 57, 3) := by decide +kernel
theorem d_Gr_readLeads_77 : decode c_Gr_readLeads 77 = .ok (.ior, 1) := by decide +kernel
theorem d_Gr_readLeads_78 : decode c_Gr_readLeads 78 = .ok (.iastore, 1) := by decide +kernel
theorem d_Gr_readLeads_79 : decode c_Gr_readLeads 79 = .ok (.aload_n 0, 1) := by decide +kernel
theorem d_Gr_readLeads_80 : decode c_Gr_readLeads 80 = .ok (.getfield 21, 3) := by decide +kernel
theorem d_Gr_readLeads_83 : decode c_Gr_readLeads 83 = .ok (.aload_n 0, 1) := by decide +kernel
theorem d_Gr_readLeads_84 : decode c_Gr_readLeads 84 = .ok (.getfield 15, 3) := by decide +kernel
theorem d_Gr_readLeads_87 : decode c_Gr_readLeads 87 = .ok (.iload_n 3, 1) := by decide +kernel
theorem d_Gr_readLeads_88 : decode c_Gr_readLeads 88 = .ok (.iaload, 1) := by decide +kernel
theorem d_Gr_readLeads_89 : decode c_Gr_readLeads 89 = .ok (.dup2, 1) := by decide +kernel
theorem d_Gr_readLeads_90 : decode c_Gr_readLeads 90 = .ok (.iaload, 1) := by decide +kernel
theorem d_Gr_readLeads_91 : decode c_Gr_readLeads 91 = .ok (.aload_n 0, 1) := by decide +kernel
theorem d_Gr_readLeads_92 : decode c_Gr_readLeads 92 = .ok (.getfield 15, 3) := by decide +kernel
theorem d_Gr_readLeads_95 : decode c_Gr_readLeads 95 = .ok (.iload_n 2, 1) := by decide +kernel
theorem d_Gr_readLeads_96 : decode c_Gr_readLeads 96 = .ok (.iaload, 1) := by decide +kernel
theorem d_Gr_readLeads_97 : decode c_Gr_readLeads 97 = .ok (.invokestatic 57, 3) := by decide +kernel
theorem d_Gr_readLeads_100 : decode c_Gr_readLeads 100 = .ok (.ior, 1) := by decide +kernel
theorem d_Gr_readLeads_101 : decode c_Gr_readLeads 101 = .ok (.iastore, 1) := by decide +kernel
theorem d_Gr_readLeads_102 : decode c_Gr_readLeads 102 = .ok (.iinc 3 1, 3) := by decide +kernel
theorem d_Gr_readLeads_105 : decode c_Gr_readLeads 105 = .ok (.goto (-79), 3) := by decide +kernel
theorem d_Gr_readLeads_108 : decode c_Gr_readLeads 108 = .ok (.iinc 2 1, 3) := by decide +kernel
theorem d_Gr_readLeads_111 : decode c_Gr_readLeads 111 = .ok (.goto (-93), 3) := by decide +kernel
theorem d_Gr_readLeads_114 : decode c_Gr_readLeads 114 = .ok (.return_, 1) := by decide +kernel
theorem d_Gr_readOrder_0 : decode c_Gr_readOrder 0 = .ok (.iconst 0, 1) := by decide +kernel
theorem d_Gr_readOrder_1 : decode c_Gr_readOrder 1 = .ok (.istore_n 1, 1) := by decide +kernel
theorem d_Gr_readOrder_2 : decode c_Gr_readOrder 2 = .ok (.iconst 0, 1) := by decide +kernel
theorem d_Gr_readOrder_3 : decode c_Gr_readOrder 3 = .ok (.istore_n 2, 1) := by decide +kernel
theorem d_Gr_readOrder_4 : decode c_Gr_readOrder 4 = .ok (.iload_n 2, 1) := by decide +kernel
theorem d_Gr_readOrder_5 : decode c_Gr_readOrder 5 = .ok (.aload_n 0, 1) := by decide +kernel
theorem d_Gr_readOrder_6 : decode c_Gr_readOrder 6 = .ok (.getfield 30, 3) := by decide +kernel
theorem d_Gr_readOrder_9 : decode c_Gr_readOrder 9 = .ok (.if_icmp .ge 32, 3) := by decide +kernel
theorem d_Gr_readOrder_12 : decode c_Gr_readOrder 12 = .ok (.aload_n 0, 1) := by decide +kernel
theorem d_Gr_readOrder_13 : decode c_Gr_readOrder 13 = .ok (.getfield 24, 3) := by decide +kernel
theorem d_Gr_readOrder_16 : decode c_Gr_readOrder 16 = .ok (.iload_n 2, 1) := by decide +kernel
theorem d_Gr_readOrder_17 : decode c_Gr_readOrder 17 = .ok (.aload_n 0, 1) := by decide +kernel
theorem d_Gr_readOrder_18 : decode c_Gr_readOrder 18 = .ok (.iload_n 1, 1) := by decide +kernel
theorem d_Gr_readOrder_19 : decode c_Gr_readOrder 19 = .ok (.invokevirtual 89, 3) := by decide +kernel
theorem d_Gr_readOrder_22 : decode c_Gr_readOrder 22 = .ok (.iastore, 1) := by decide +kernel
theorem d_Gr_readOrder_23 : decode c_Gr_readOrder 23 = .ok (.iload_n 1, 1) := by decide +kernel
theorem d_Gr_readOrder_24 : decode c_Gr_readOrder 24 = .ok (.aload_n 0, 1) := by decide +kernel
theorem d_Gr_readOrder_25 : decode c_Gr_readOrder 25 = .ok (.getfield 24, 3) := by decide +kernel
theorem d_Gr_readOrder_28 : decode c_Gr_readOrder 28 = .ok (.iload_n 2, 1) := by decide +kernel
theorem d_Gr_readOrder_29 : decode c_Gr_readOrder 29 = .ok (.iaload, 1) := by decide +kernel
theorem d_Gr_readOrder_30 : decode c_Gr_readOrder 30 = .ok (.invokestatic 57, 3) := by decide +kernel
theorem d_Gr_readOrder_33 : decode c_Gr_readOrder 33 = .ok (.ior, 1) := by decide +kernel
theorem d_Gr_readOrder_34 : decode c_Gr_readOrder 34 = .ok (.istore_n 1, 1) := by decide +kernel
theorem d_Gr_readOrder_35 : decode c_Gr_readOrder 35 = .ok (.iinc 2 1, 3) := by decide +kernel
theorem d_Gr_readOrder_38 : decode c_Gr_readOrder 38 = .ok (.goto (-34), 3) := by decide +kernel
theorem d_Gr_readOrder_41 : decode c_Gr_readOrder 41 = .ok (.return_, 1) := by decide +kernel
theorem d_Gr_leastFree_0 : decode c_Gr_leastFree 0 = .ok (.iconst 0, 1) := by decide +kernel
theorem d_Gr_leastFree_1 : decode c_Gr_leastFree 1 = .ok (.istore_n 2, 1) := by decide +kernel
theorem d_Gr_leastFree_2 : decode c_Gr_leastFree 2 = .ok (.iload_n 2, 1) := by decide +kernel
theorem d_Gr_leastFree_3 : decode c_Gr_leastFree 3 = .ok (.bipush 16, 2) := by decide +kernel
theorem d_Gr_leastFree_5 : decode c_Gr_leastFree 5 = .ok (.if_icmp .ge 42, 3) := by decide +kernel
theorem d_Gr_leastFree_8 : decode c_Gr_leastFree 8 = .ok (.aload_n 0, 1) := by decide +kernel
theorem d_Gr_leastFree_9 : decode c_Gr_leastFree 9 = .ok (.getfield 15, 3) := by decide +kernel
theorem d_Gr_leastFree_12 : decode c_Gr_leastFree 12 = .ok (.iload_n 2, 1) := by decide +kernel
theorem d_Gr_leastFree_13 : decode c_Gr_leastFree 13 = .ok (.iaload, 1) := by decide +kernel
theorem d_Gr_leastFree_14 : decode c_Gr_leastFree 14 = .ok (.iload_n 2, 1) := by decide +kernel
theorem d_Gr_leastFree_15 : decode c_Gr_leastFree 15 = .ok (.if_icmp .ne 26, 3) := by decide +kernel
theorem d_Gr_leastFree_18 : decode c_Gr_leastFree 18 = .ok (.iload_n 1, 1) := by decide +kernel
theorem d_Gr_leastFree_19 : decode c_Gr_leastFree 19 = .ok (.iload_n 2, 1) := by decide +kernel
theorem d_Gr_leastFree_20 : decode c_Gr_leastFree 20 = .ok (.invokestatic 53, 3) := by decide +kernel
theorem d_Gr_leastFree_23 : decode c_Gr_leastFree 23 = .ok (.ifCond .ne 18, 3) := by decide +kernel
theorem d_Gr_leastFree_26 : decode c_Gr_leastFree 26 = .ok (.aload_n 0, 1) := by decide +kernel
theorem d_Gr_leastFree_27 : decode c_Gr_leastFree 27 = .ok (.getfield 21, 3) := by decide +kernel
theorem d_Gr_leastFree_30 : decode c_Gr_leastFree 30 = .ok (.iload_n 2, 1) := by decide +kernel
theorem d_Gr_leastFree_31 : decode c_Gr_leastFree 31 = .ok (.iaload, 1) := by decide +kernel
theorem d_Gr_leastFree_32 : decode c_Gr_leastFree 32 = .ok (.iload_n 1, 1) := by decide +kernel
theorem d_Gr_leastFree_33 : decode c_Gr_leastFree 33 = .ok (.iconst (-1), 1) := by decide +kernel
theorem d_Gr_leastFree_34 : decode c_Gr_leastFree 34 = .ok (.ixor, 1) := by decide +kernel
theorem d_Gr_leastFree_35 : decode c_Gr_leastFree 35 = .ok (.iand, 1) := by decide +kernel
theorem d_Gr_leastFree_36 : decode c_Gr_leastFree 36 = .ok (.ifCond .ne 5, 3) := by decide +kernel
theorem d_Gr_leastFree_39 : decode c_Gr_leastFree 39 = .ok (.iload_n 2, 1) := by decide +kernel
theorem d_Gr_leastFree_40 : decode c_Gr_leastFree 40 = .ok (.ireturn, 1) := by decide +kernel
theorem d_Gr_leastFree_41 : decode c_Gr_leastFree 41 = .ok (.iinc 2 1, 3) := by decide +kernel
theorem d_Gr_leastFree_44 : decode c_Gr_leastFree 44 = .ok (.goto (-42), 3) := by decide +kernel
theorem d_Gr_leastFree_47 : decode c_Gr_leastFree 47 = .ok (.iconst 0, 1) := by decide +kernel
theorem d_Gr_leastFree_48 : decode c_Gr_leastFree 48 = .ok (.ireturn, 1) := by decide +kernel
theorem d_Gr_nameOf_0 : decode c_Gr_nameOf 0 = .ok (.aload_n 0, 1) := by decide +kernel
theorem d_Gr_nameOf_1 : decode c_Gr_nameOf 1 = .ok (.getfield 15, 3) := by decide +kernel
theorem d_Gr_nameOf_4 : decode c_Gr_nameOf 4 = .ok (.iload_n 1, 1) := by decide +kernel
theorem d_Gr_nameOf_5 : decode c_Gr_nameOf 5 = .ok (.iaload, 1) := by decide +kernel
theorem d_Gr_nameOf_6 : decode c_Gr_nameOf 6 = .ok (.ireturn, 1) := by decide +kernel
theorem d_Gr_sizeOf_0 : decode c_Gr_sizeOf 0 = .ok (.iconst 0, 1) := by decide +kernel
theorem d_Gr_sizeOf_1 : decode c_Gr_sizeOf 1 = .ok (.istore_n 2, 1) := by decide +kernel
theorem d_Gr_sizeOf_2 : decode c_Gr_sizeOf 2 = .ok (.iconst 0, 1) := by decide +kernel
theorem d_Gr_sizeOf_3 : decode c_Gr_sizeOf 3 = .ok (.istore_n 3, 1) := by decide +kernel
theorem d_Gr_sizeOf_4 : decode c_Gr_sizeOf 4 = .ok (.iload_n 3, 1) := by decide +kernel
theorem d_Gr_sizeOf_5 : decode c_Gr_sizeOf 5 = .ok (.bipush 16, 2) := by decide +kernel
theorem d_Gr_sizeOf_7 : decode c_Gr_sizeOf 7 = .ok (.if_icmp .ge 27, 3) := by decide +kernel
theorem d_Gr_sizeOf_10 : decode c_Gr_sizeOf 10 = .ok (.aload_n 0, 1) := by decide +kernel
theorem d_Gr_sizeOf_11 : decode c_Gr_sizeOf 11 = .ok (.getfield 15, 3) := by decide +kernel
theorem d_Gr_sizeOf_14 : decode c_Gr_sizeOf 14 = .ok (.iload_n 3, 1) := by decide +kernel
theorem d_Gr_sizeOf_15 : decode c_Gr_sizeOf 15 = .ok (.iaload, 1) := by decide +kernel
theorem d_Gr_sizeOf_16 : decode c_Gr_sizeOf 16 = .ok (.aload_n 0, 1) := by decide +kernel
theorem d_Gr_sizeOf_17 : decode c_Gr_sizeOf 17 = .ok (.getfield 15, 3) := by decide +kernel
theorem d_Gr_sizeOf_20 : decode c_Gr_sizeOf 20 = .ok (.iload_n 1, 1) := by decide +kernel
theorem d_Gr_sizeOf_21 : decode c_Gr_sizeOf 21 = .ok (.iaload, 1) := by decide +kernel
theorem d_Gr_sizeOf_22 : decode c_Gr_sizeOf 22 = .ok (.if_icmp .ne 6, 3) := by decide +kernel
theorem d_Gr_sizeOf_25 : decode c_Gr_sizeOf 25 = .ok (.iinc 2 1, 3) := by decide +kernel
theorem d_Gr_sizeOf_28 : decode c_Gr_sizeOf 28 = .ok (.iinc 3 1, 3) := by decide +kernel
theorem d_Gr_sizeOf_31 : decode c_Gr_sizeOf 31 = .ok (.goto (-27), 3) := by decide +kernel
theorem d_Gr_sizeOf_34 : decode c_Gr_sizeOf 34 = .ok (.iload_n 2, 1) := by decide +kernel
theorem d_Gr_sizeOf_35 : decode c_Gr_sizeOf 35 = .ok (.ireturn, 1) := by decide +kernel
theorem d_Gr_positionOf_0 : decode c_Gr_positionOf 0 = .ok (.iconst 0, 1) := by decide +kernel
theorem d_Gr_positionOf_1 : decode c_Gr_positionOf 1 = .ok (.istore_n 2, 1) := by decide +kernel
theorem d_Gr_positionOf_2 : decode c_Gr_positionOf 2 = .ok (.iconst 0, 1) := by decide +kernel
theorem d_Gr_positionOf_3 : decode c_Gr_positionOf 3 = .ok (.istore_n 3, 1) := by decide +kernel
theorem d_Gr_positionOf_4 : decode c_Gr_positionOf 4 = .ok (.iload_n 3, 1) := by decide +kernel
theorem d_Gr_positionOf_5 : decode c_Gr_positionOf 5 = .ok (.aload_n 0, 1) := by decide +kernel
theorem d_Gr_positionOf_6 : decode c_Gr_positionOf 6 = .ok (.getfield 30, 3) := by decide +kernel
theorem d_Gr_positionOf_9 : decode c_Gr_positionOf 9 = .ok (.if_icmp .ge 26, 3) := by decide +kernel
theorem d_Gr_positionOf_12 : decode c_Gr_positionOf 12 = .ok (.aload_n 0, 1) := by decide +kernel
theorem d_Gr_positionOf_13 : decode c_Gr_positionOf 13 = .ok (.getfield 24, 3) := by decide +kernel
theorem d_Gr_positionOf_16 : decode c_Gr_positionOf 16 = .ok (.iload_n 3, 1) := by decide +kernel
theorem d_Gr_positionOf_17 : decode c_Gr_positionOf 17 = .ok (.iaload, 1) := by decide +kernel
theorem d_Gr_positionOf_18 : decode c_Gr_positionOf 18 = .ok (.aload_n 0, 1) := by decide +kernel
theorem d_Gr_positionOf_19 : decode c_Gr_positionOf 19 = .ok (.getfield 15, 3) := by decide +kernel
theorem d_Gr_positionOf_22 : decode c_Gr_positionOf 22 = .ok (.iload_n 1, 1) := by decide +kernel
theorem d_Gr_positionOf_23 : decode c_Gr_positionOf 23 = .ok (.iaload, 1) := by decide +kernel
theorem d_Gr_positionOf_24 : decode c_Gr_positionOf 24 = .ok (.if_icmp .ne 5, 3) := by decide +kernel
theorem d_Gr_positionOf_27 : decode c_Gr_positionOf 27 = .ok (.iload_n 3, 1) := by decide +kernel
theorem d_Gr_positionOf_28 : decode c_Gr_positionOf 28 = .ok (.istore_n 2, 1) := by decide +kernel
theorem d_Gr_positionOf_29 : decode c_Gr_positionOf 29 = .ok (.iinc 3 1, 3) := by decide +kernel
theorem d_Gr_positionOf_32 : decode c_Gr_positionOf 32 = .ok (.goto (-28), 3) := by decide +kernel
theorem d_Gr_positionOf_35 : decode c_Gr_positionOf 35 = .ok (.iload_n 2, 1) := by decide +kernel
theorem d_Gr_positionOf_36 : decode c_Gr_positionOf 36 = .ok (.ireturn, 1) := by decide +kernel
theorem d_Gr_count_0 : decode c_Gr_count 0 = .ok (.aload_n 0, 1) := by decide +kernel
theorem d_Gr_count_1 : decode c_Gr_count 1 = .ok (.getfield 30, 3) := by decide +kernel
theorem d_Gr_count_4 : decode c_Gr_count 4 = .ok (.ireturn, 1) := by decide +kernel
theorem d_Gr_nameAt_0 : decode c_Gr_nameAt 0 = .ok (.aload_n 0, 1) := by decide +kernel
theorem d_Gr_nameAt_1 : decode c_Gr_nameAt 1 = .ok (.getfield 24, 3) := by decide +kernel
theorem d_Gr_nameAt_4 : decode c_Gr_nameAt 4 = .ok (.iload_n 1, 1) := by decide +kernel
theorem d_Gr_nameAt_5 : decode c_Gr_nameAt 5 = .ok (.iaload, 1) := by decide +kernel
theorem d_Gr_nameAt_6 : decode c_Gr_nameAt 6 = .ok (.ireturn, 1) := by decide +kernel
theorem d_Wy_readTo_0 : decode c_Wy_readTo 0 = .ok (.aload_n 0, 1) := by decide +kernel
theorem d_Wy_readTo_1 : decode c_Wy_readTo 1 = .ok (.getfield 9, 3) := by decide +kernel
theorem d_Wy_readTo_4 : decode c_Wy_readTo 4 = .ok (.iconst 0, 1) := by decide +kernel
theorem d_Wy_readTo_5 : decode c_Wy_readTo 5 = .ok (.iload_n 1, 1) := by decide +kernel
theorem d_Wy_readTo_6 : decode c_Wy_readTo 6 = .ok (.invokestatic 15, 3) := by decide +kernel
theorem d_Wy_readTo_9 : decode c_Wy_readTo 9 = .ok (.iastore, 1) := by decide +kernel
theorem d_Wy_readTo_10 : decode c_Wy_readTo 10 = .ok (.iconst 1, 1) := by decide +kernel
theorem d_Wy_readTo_11 : decode c_Wy_readTo 11 = .ok (.istore_n 3, 1) := by decide +kernel
theorem d_Wy_readTo_12 : decode c_Wy_readTo 12 = .ok (.iload_n 3, 1) := by decide +kernel
theorem d_Wy_readTo_13 : decode c_Wy_readTo 13 = .ok (.bipush 16, 2) := by decide +kernel
theorem d_Wy_readTo_15 : decode c_Wy_readTo 15 = .ok (.if_icmp .ge 27, 3) := by decide +kernel
theorem d_Wy_readTo_18 : decode c_Wy_readTo 18 = .ok (.aload_n 0, 1) := by decide +kernel
theorem d_Wy_readTo_19 : decode c_Wy_readTo 19 = .ok (.getfield 9, 3) := by decide +kernel
theorem d_Wy_readTo_22 : decode c_Wy_readTo 22 = .ok (.iload_n 3, 1) := by decide +kernel
theorem d_Wy_readTo_23 : decode c_Wy_readTo 23 = .ok (.aload_n 0, 1) := by decide +kernel
theorem d_Wy_readTo_24 : decode c_Wy_readTo 24 = .ok (.getfield 9, 3) := by decide +kernel
theorem d_Wy_readTo_27 : decode c_Wy_readTo 27 = .ok (.iload_n 3, 1) := by decide +kernel
theorem d_Wy_readTo_28 : decode c_Wy_readTo 28 = .ok (.iconst 1, 1) := by decide +kernel
theorem d_Wy_readTo_29 : decode c_Wy_readTo 29 = .ok (.isub, 1) := by decide +kernel
theorem d_Wy_readTo_30 : decode c_Wy_readTo 30 = .ok (.iaload, 1) := by decide +kernel
theorem d_Wy_readTo_31 : decode c_Wy_readTo 31 = .ok (.aload_n 2, 1) := by decide +kernel
theorem d_Wy_readTo_32 : decode c_Wy_readTo 32 = .ok (.invokestatic 19, 3) := by decide +kernel
theorem d_Wy_readTo_35 : decode c_Wy_readTo 35 = .ok (.iastore, 1) := by decide +kernel
theorem d_Wy_readTo_36 : decode c_Wy_readTo 36 = .ok (.iinc 3 1, 3) := by decide +kernel
theorem d_Wy_readTo_39 : decode c_Wy_readTo 39 = .ok (.goto (-27), 3) := by decide +kernel
theorem d_Wy_readTo_42 : decode c_Wy_readTo 42 = .ok (.return_, 1) := by decide +kernel
theorem d_Wy_tailsInto_0 : decode c_Wy_tailsInto 0 = .ok (.iconst 0, 1) := by decide +kernel
theorem d_Wy_tailsInto_1 : decode c_Wy_tailsInto 1 = .ok (.istore_n 2, 1) := by decide +kernel
theorem d_Wy_tailsInto_2 : decode c_Wy_tailsInto 2 = .ok (.iconst 0, 1) := by decide +kernel
theorem d_Wy_tailsInto_3 : decode c_Wy_tailsInto 3 = .ok (.istore_n 3, 1) := by decide +kernel
theorem d_Wy_tailsInto_4 : decode c_Wy_tailsInto 4 = .ok (.iload_n 3, 1) := by decide +kernel
theorem d_Wy_tailsInto_5 : decode c_Wy_tailsInto 5 = .ok (.bipush 16, 2) := by decide +kernel
theorem d_Wy_tailsInto_7 : decode c_Wy_tailsInto 7 = .ok (.if_icmp .ge 26, 3) := by decide +kernel
theorem d_Wy_tailsInto_10 : decode c_Wy_tailsInto 10 = .ok (.aload_n 1, 1) := by decide +kernel
theorem d_Wy_tailsInto_11 : decode c_Wy_tailsInto 11 = .ok (.iload_n 3, 1) := by decide +kernel
theorem d_Wy_tailsInto_12 : decode c_Wy_tailsInto 12 = .ok (.invokevirtual 27, 3) := by decide +kernel
theorem d_Wy_tailsInto_15 : decode c_Wy_tailsInto 15 = .ok (.iload_n 0, 1) := by decide +kernel
theorem d_Wy_tailsInto_16 : decode c_Wy_tailsInto 16 = .ok (.iand, 1) := by decide +kernel
theorem d_Wy_tailsInto_17 : decode c_Wy_tailsInto 17 = .ok (.ifCond .eq 10, 3) := by decide +kernel
theorem d_Wy_tailsInto_20 : decode c_Wy_tailsInto 20 = .ok (.iload_n 2, 1) := by decide +kernel
theorem d_Wy_tailsInto_21 : decode c_Wy_tailsInto 21 = .ok (.iload_n 3, 1) := by decide +kernel
theorem d_Wy_tailsInto_22 : decode c_Wy_tailsInto 22 = .ok (.invokestatic 15, 3) := by decide +kernel
theorem d_Wy_tailsInto_25 : decode c_Wy_tailsInto 25 = .ok (.ior, 1) := by decide +kernel
theorem d_Wy_tailsInto_26 : decode c_Wy_tailsInto 26 = .ok (.istore_n 2, 1) := by decide +kernel
theorem d_Wy_tailsInto_27 : decode c_Wy_tailsInto 27 = .ok (.iinc 3 1, 3) := by decide +kernel
theorem d_Wy_tailsInto_30 : decode c_Wy_tailsInto 30 = .ok (.goto (-26), 3) := by decide +kernel
theorem d_Wy_tailsInto_33 : decode c_Wy_tailsInto 33 = .ok (.iload_n 2, 1) := by decide +kernel
theorem d_Wy_tailsInto_34 : decode c_Wy_tailsInto 34 = .ok (.ireturn, 1) := by decide +kernel
theorem d_Wy_lengthFrom_0 : decode c_Wy_lengthFrom 0 = .ok (.iconst 0, 1) := by decide +kernel
theorem d_Wy_lengthFrom_1 : decode c_Wy_lengthFrom 1 = .ok (.istore_n 2, 1) := by decide +kernel
theorem d_Wy_lengthFrom_2 : decode c_Wy_lengthFrom 2 = .ok (.iload_n 2, 1) := by decide +kernel
theorem d_Wy_lengthFrom_3 : decode c_Wy_lengthFrom 3 = .ok (.bipush 16, 2) := by decide +kernel
theorem d_Wy_lengthFrom_5 : decode c_Wy_lengthFrom 5 = .ok (.if_icmp .ge 24, 3) := by decide +kernel
theorem d_Wy_lengthFrom_8 : decode c_Wy_lengthFrom 8 = .ok (.aload_n 0, 1) := by decide +kernel
theorem d_Wy_lengthFrom_9 : decode c_Wy_lengthFrom 9 = .ok (.getfield 9, 3) := by decide +kernel
theorem d_Wy_lengthFrom_12 : decode c_Wy_lengthFrom 12 = .ok (.iload_n 2, 1) := by decide +kernel
theorem d_Wy_lengthFrom_13 : decode c_Wy_lengthFrom 13 = .ok (.iaload, 1) := by decide +kernel
theorem d_Wy_lengthFrom_14 : decode c_Wy_lengthFrom 14 = .ok (.iload_n 1, 1) := by decide +kernel
theorem d_Wy_lengthFrom_15 : decode c_Wy_lengthFrom 15 = .ok (.invokestatic 23, 3) := by decide +kernel
theorem d_Wy_lengthFrom_18 : decode c_Wy_lengthFrom 18 = .ok (.ifCond .eq 5, 3) := by decide +kernel
theorem d_Wy_lengthFrom_21 : decode c_Wy_lengthFrom 21 = .ok (.iload_n 2, 1) := by decide +kernel
theorem d_Wy_lengthFrom_22 : decode c_Wy_lengthFrom 22 = .ok (.ireturn, 1) := by decide +kernel
theorem d_Wy_lengthFrom_23 : decode c_Wy_lengthFrom 23 = .ok (.iinc 2 1, 3) := by decide +kernel
theorem d_Wy_lengthFrom_26 : decode c_Wy_lengthFrom 26 = .ok (.goto (-24), 3) := by decide +kernel
theorem d_Wy_lengthFrom_29 : decode c_Wy_lengthFrom 29 = .ok (.iconst (-1), 1) := by decide +kernel
theorem d_Wy_lengthFrom_30 : decode c_Wy_lengthFrom 30 = .ok (.ireturn, 1) := by decide +kernel
theorem d_Wy_placeOnFirst_0 : decode c_Wy_placeOnFirst 0 = .ok (.iload_n 1, 1) := by decide +kernel
theorem d_Wy_placeOnFirst_1 : decode c_Wy_placeOnFirst 1 = .ok (.istore 5, 2) := by decide +kernel
theorem d_Wy_placeOnFirst_3 : decode c_Wy_placeOnFirst 3 = .ok (.iconst 1, 1) := by decide +kernel
theorem d_Wy_placeOnFirst_4 : decode c_Wy_placeOnFirst 4 = .ok (.istore 6, 2) := by decide +kernel
theorem d_Wy_placeOnFirst_6 : decode c_Wy_placeOnFirst 6 = .ok (.iload 6, 2) := by decide +kernel
theorem d_Wy_placeOnFirst_8 : decode c_Wy_placeOnFirst 8 = .ok (.iload_n 3, 1) := by decide +kernel
theorem d_Wy_placeOnFirst_9 : decode c_Wy_placeOnFirst 9 = .ok (.if_icmp .gt 37, 3) := by decide +kernel
theorem d_Wy_placeOnFirst_12 : decode c_Wy_placeOnFirst 12 = .ok (.iload 6, 2) := by decide +kernel
theorem d_Wy_placeOnFirst_14 : decode c_Wy_placeOnFirst 14 = .ok (.iload_n 2, 1) := by decide +kernel
theorem d_Wy_placeOnFirst_15 : decode c_Wy_placeOnFirst 15 = .ok (.if_icmp .gt 31, 3) := by decide +kernel
theorem d_Wy_placeOnFirst_18 : decode c_Wy_placeOnFirst 18 = .ok (.aload 4, 2) := by decide +kernel
theorem d_Wy_placeOnFirst_20 : decode c_Wy_placeOnFirst 20 = .ok (.iload 5, 2) := by decide +kernel
theorem d_Wy_placeOnFirst_22 : decode c_Wy_placeOnFirst 22 = .ok (.invokevirtual 27, 3) := by decide +kernel
theorem d_Wy_placeOnFirst_25 : decode c_Wy_placeOnFirst 25 = .ok (.aload_n 0, 1) := by decide +kernel
theorem d_Wy_placeOnFirst_26 : decode c_Wy_placeOnFirst 26 = .ok (.getfield 9, 3) := by decide +kernel
theorem d_Wy_placeOnFirst_29 : decode c_Wy_placeOnFirst 29 = .ok (.iload_n 2, 1) := by decide +kernel
theorem d_Wy_placeOnFirst_30 : decode c_Wy_placeOnFirst 30 = .ok (.iload 6, 2) := by decide +kernel
theorem d_Wy_placeOnFirst_32 : decode c_Wy_placeOnFirst 32 = .ok (.isub, 1) := by decide +kernel
theorem d_Wy_placeOnFirst_33 : decode c_Wy_placeOnFirst 33 = .ok (.iaload, 1) := by decide +kernel
theorem d_Wy_placeOnFirst_34 : decode c_Wy_placeOnFirst 34 = .ok (.iand, 1) := by decide +kernel
theorem d_Wy_placeOnFirst_35 : decode c_Wy_placeOnFirst 35 = .ok (.invokestatic 32, 3) := by decide +kernel
theorem d_Wy_placeOnFirst_38 : decode c_Wy_placeOnFirst 38 = .ok (.istore 5, 2) := by decide +kernel
theorem d_Wy_placeOnFirst_40 : decode c_Wy_placeOnFirst 40 = .ok (.iinc 6 1, 3) := by decide +kernel
theorem d_Wy_placeOnFirst_43 : decode c_Wy_placeOnFirst 43 = .ok (.goto (-37), 3) := by decide +kernel
theorem d_Wy_placeOnFirst_46 : decode c_Wy_placeOnFirst 46 = .ok (.iload 5, 2) := by decide +kernel
theorem d_Wy_placeOnFirst_48 : decode c_Wy_placeOnFirst 48 = .ok (.ireturn, 1) := by decide +kernel
theorem d_Wy_least_0 : decode c_Wy_least 0 = .ok (.iconst 0, 1) := by decide +kernel
theorem d_Wy_least_1 : decode c_Wy_least 1 = .ok (.istore_n 1, 1) := by decide +kernel
theorem d_Wy_least_2 : decode c_Wy_least 2 = .ok (.iload_n 1, 1) := by decide +kernel
theorem d_Wy_least_3 : decode c_Wy_least 3 = .ok (.bipush 16, 2) := by decide +kernel
theorem d_Wy_least_5 : decode c_Wy_least 5 = .ok (.if_icmp .ge 19, 3) := by decide +kernel
theorem d_Wy_least_8 : decode c_Wy_least 8 = .ok (.iload_n 0, 1) := by decide +kernel
theorem d_Wy_least_9 : decode c_Wy_least 9 = .ok (.iload_n 1, 1) := by decide +kernel
theorem d_Wy_least_10 : decode c_Wy_least 10 = .ok (.invokestatic 23, 3) := by decide +kernel
theorem d_Wy_least_13 : decode c_Wy_least 13 = .ok (.ifCond .eq 5, 3) := by decide +kernel
theorem d_Wy_least_16 : decode c_Wy_least 16 = .ok (.iload_n 1, 1) := by decide +kernel
theorem d_Wy_least_17 : decode c_Wy_least 17 = .ok (.ireturn, 1) := by decide +kernel
theorem d_Wy_least_18 : decode c_Wy_least 18 = .ok (.iinc 1 1, 3) := by decide +kernel
theorem d_Wy_least_21 : decode c_Wy_least 21 = .ok (.goto (-19), 3) := by decide +kernel
theorem d_Wy_least_24 : decode c_Wy_least 24 = .ok (.iconst 0, 1) := by decide +kernel
theorem d_Wy_least_25 : decode c_Wy_least 25 = .ok (.ireturn, 1) := by decide +kernel
theorem d_Fl_readPlaces_0 : decode c_Fl_readPlaces 0 = .ok (.iconst 0, 1) := by decide +kernel
theorem d_Fl_readPlaces_1 : decode c_Fl_readPlaces 1 = .ok (.istore_n 2, 1) := by decide +kernel
theorem d_Fl_readPlaces_2 : decode c_Fl_readPlaces 2 = .ok (.iload_n 2, 1) := by decide +kernel
theorem d_Fl_readPlaces_3 : decode c_Fl_readPlaces 3 = .ok (.bipush 16, 2) := by decide +kernel
theorem d_Fl_readPlaces_5 : decode c_Fl_readPlaces 5 = .ok (.if_icmp .ge 36, 3) := by decide +kernel
theorem d_Fl_readPlaces_8 : decode c_Fl_readPlaces 8 = .ok (.aload_n 0, 1) := by decide +kernel
theorem d_Fl_readPlaces_9 : decode c_Fl_readPlaces 9 = .ok (.getfield 11, 3) := by decide +kernel
theorem d_Fl_readPlaces_12 : decode c_Fl_readPlaces 12 = .ok (.iload_n 2, 1) := by decide +kernel
theorem d_Fl_readPlaces_13 : decode c_Fl_readPlaces 13 = .ok (.iload_n 2, 1) := by decide +kernel
theorem d_Fl_readPlaces_14 : decode c_Fl_readPlaces 14 = .ok (.invokestatic 30, 3) := by decide +kernel
theorem d_Fl_readPlaces_17 : decode c_Fl_readPlaces 17 = .ok (.invokestatic 33, 3) := by decide +kernel
theorem d_Fl_readPlaces_20 : decode c_Fl_readPlaces 20 = .ok (.iastore, 1) := by decide +kernel
theorem d_Fl_readPlaces_21 : decode c_Fl_readPlaces 21 = .ok (.aload_n 0, 1) := by decide +kernel
theorem d_Fl_readPlaces_22 : decode c_Fl_readPlaces 22 = .ok (.getfield 11, 3) := by decide +kernel
theorem d_Fl_readPlaces_25 : decode c_Fl_readPlaces 25 = .ok (.iload_n 2, 1) := by decide +kernel
theorem d_Fl_readPlaces_26 : decode c_Fl_readPlaces 26 = .ok (.invokestatic 30, 3) := by decide +kernel
theorem d_Fl_readPlaces_29 : decode c_Fl_readPlaces 29 = .ok (.aload_n 1, 1) := by decide +kernel
theorem d_Fl_readPlaces_30 : decode c_Fl_readPlaces 30 = .ok (.iload_n 2, 1) := by decide +kernel
theorem d_Fl_readPlaces_31 : decode c_Fl_readPlaces 31 = .ok (.invokevirtual 24, 3) := by decide +kernel
theorem d_Fl_readPlaces_34 : decode c_Fl_readPlaces 34 = .ok (.iastore, 1) := by decide +kernel
theorem d_Fl_readPlaces_35 : decode c_Fl_readPlaces 35 = .ok (.iinc 2 1, 3) := by decide +kernel
theorem d_Fl_readPlaces_38 : decode c_Fl_readPlaces 38 = .ok (.goto (-36), 3) := by decide +kernel
theorem d_Fl_readPlaces_41 : decode c_Fl_readPlaces 41 = .ok (.return_, 1) := by decide +kernel
theorem d_Fl_exitOf_0 : decode c_Fl_exitOf 0 = .ok (.iload_n 0, 1) := by decide +kernel
theorem d_Fl_exitOf_1 : decode c_Fl_exitOf 1 = .ok (.bipush 16, 2) := by decide +kernel
theorem d_Fl_exitOf_3 : decode c_Fl_exitOf 3 = .ok (.iadd, 1) := by decide +kernel
theorem d_Fl_exitOf_4 : decode c_Fl_exitOf 4 = .ok (.ireturn, 1) := by decide +kernel
theorem d_Fl_most_0 : decode c_Fl_most 0 = .ok (.aload_n 0, 1) := by decide +kernel
theorem d_Fl_most_1 : decode c_Fl_most 1 = .ok (.getfield 15, 3) := by decide +kernel
theorem d_Fl_most_4 : decode c_Fl_most 4 = .ok (.iconst 0, 1) := by decide +kernel
theorem d_Fl_most_5 : decode c_Fl_most 5 = .ok (.invokestatic 36, 3) := by decide +kernel
theorem d_Fl_most_8 : decode c_Fl_most 8 = .ok (.aload_n 0, 1) := by decide +kernel
theorem d_Fl_most_9 : decode c_Fl_most 9 = .ok (.getfield 18, 3) := by decide +kernel
theorem d_Fl_most_12 : decode c_Fl_most 12 = .ok (.iconst 0, 1) := by decide +kernel
theorem d_Fl_most_13 : decode c_Fl_most 13 = .ok (.invokestatic 36, 3) := by decide +kernel
theorem d_Fl_most_16 : decode c_Fl_most 16 = .ok (.iconst 0, 1) := by decide +kernel
theorem d_Fl_most_17 : decode c_Fl_most 17 = .ok (.istore_n 3, 1) := by decide +kernel
theorem d_Fl_most_18 : decode c_Fl_most 18 = .ok (.iconst 0, 1) := by decide +kernel
theorem d_Fl_most_19 : decode c_Fl_most 19 = .ok (.istore 4, 2) := by decide +kernel
theorem d_Fl_most_21 : decode c_Fl_most 21 = .ok (.iload 4, 2) := by decide +kernel
theorem d_Fl_most_23 : decode c_Fl_most 23 = .ok (.bipush 16, 2) := by decide +kernel
theorem d_Fl_most_25 : decode c_Fl_most 25 = .ok (.if_icmp .ge 30, 3) := by decide +kernel
theorem d_Fl_most_28 : decode c_Fl_most 28 = .ok (.aload_n 0, 1) := by decide +kernel
theorem d_Fl_most_29 : decode c_Fl_most 29 = .ok (.iload_n 1, 1) := by decide +kernel
theorem d_Fl_most_30 : decode c_Fl_most 30 = .ok (.iload_n 2, 1) := by decide +kernel
theorem d_Fl_most_31 : decode c_Fl_most 31 = .ok (.invokevirtual 42, 3) := by decide +kernel
theorem d_Fl_most_34 : decode c_Fl_most 34 = .ok (.ifCond .ne 6, 3) := by decide +kernel
theorem d_Fl_most_37 : decode c_Fl_most 37 = .ok (.goto 18, 3) := by decide +kernel
theorem d_Fl_most_40 : decode c_Fl_most 40 = .ok (.aload_n 0, 1) := by decide +kernel
theorem d_Fl_most_41 : decode c_Fl_most 41 = .ok (.iload_n 1, 1) := by decide +kernel
theorem d_Fl_most_42 : decode c_Fl_most 42 = .ok (.iload_n 2, 1) := by decide +kernel
theorem d_Fl_most_43 : decode c_Fl_most 43 = .ok (.invokevirtual 46, 3) := by decide +kernel
theorem d_Fl_most_46 : decode c_Fl_most 46 = .ok (.iinc 3 1, 3) := by decide +kernel
theorem d_Fl_most_49 : decode c_Fl_most 49 = .ok (.iinc 4 1, 3) := by decide +kernel
theorem d_Fl_most_52 : decode c_Fl_most 52 = .ok (.goto (-31), 3) := by decide +kernel
theorem d_Fl_most_55 : decode c_Fl_most 55 = .ok (.iload_n 3, 1) := by decide +kernel
theorem d_Fl_most_56 : decode c_Fl_most 56 = .ok (.ireturn, 1) := by decide +kernel
theorem d_Fl_findMore_0 : decode c_Fl_findMore 0 = .ok (.iload_n 1, 1) := by decide +kernel
theorem d_Fl_findMore_1 : decode c_Fl_findMore 1 = .ok (.invokestatic 33, 3) := by decide +kernel
theorem d_Fl_findMore_4 : decode c_Fl_findMore 4 = .ok (.istore_n 3, 1) := by decide +kernel
theorem d_Fl_findMore_5 : decode c_Fl_findMore 5 = .ok (.iload_n 3, 1) := by decide +kernel
theorem d_Fl_findMore_6 : decode c_Fl_findMore 6 = .ok (.istore 4, 2) := by decide +kernel
theorem d_Fl_findMore_8 : decode c_Fl_findMore 8 = .ok (.iconst 0, 1) := by decide +kernel
theorem d_Fl_findMore_9 : decode c_Fl_findMore 9 = .ok (.istore 5, 2) := by decide +kernel
theorem d_Fl_findMore_11 : decode c_Fl_findMore 11 = .ok (.iload 5, 2) := by decide +kernel
theorem d_Fl_findMore_13 : decode c_Fl_findMore 13 = .ok (.bipush 32, 2) := by decide +kernel
theorem d_Fl_findMore_15 : decode c_Fl_findMore 15 = .ok (.if_icmp .ge 106, 3) := by decide +kernel
theorem d_Fl_findMore_18 : decode c_Fl_findMore 18 = .ok (.iload 4, 2) := by decide +kernel
theorem d_Fl_findMore_20 : decode c_Fl_findMore 20 = .ok (.ifCond .eq 101, 3) := by decide +kernel
theorem d_Fl_findMore_23 : decode c_Fl_findMore 23 = .ok (.iload_n 3, 1) := by decide +kernel
theorem d_Fl_findMore_24 : decode c_Fl_findMore 24 = .ok (.iload_n 2, 1) := by decide +kernel
theorem d_Fl_findMore_25 : decode c_Fl_findMore 25 = .ok (.invokestatic 50, 3) := by decide +kernel
theorem d_Fl_findMore_28 : decode c_Fl_findMore 28 = .ok (.ifCond .ne 93, 3) := by decide +kernel
theorem d_Fl_findMore_31 : decode c_Fl_findMore 31 = .ok (.iload 4, 2) := by decide +kernel
theorem d_Fl_findMore_33 : decode c_Fl_findMore 33 = .ok (.istore 6, 2) := by decide +kernel
theorem d_Fl_findMore_35 : decode c_Fl_findMore 35 = .ok (.iconst 0, 1) := by decide +kernel
theorem d_Fl_findMore_36 : decode c_Fl_findMore 36 = .ok (.istore 4, 2) := by decide +kernel
theorem d_Fl_findMore_38 : decode c_Fl_findMore 38 = .ok (.iconst 0, 1) := by decide +kernel
theorem d_Fl_findMore_39 : decode c_Fl_findMore 39 = .ok (.istore 7, 2) := by decide +kernel
theorem d_Fl_findMore_41 : decode c_Fl_findMore 41 = .ok (.iload 7, 2) := by decide +kernel
theorem d_Fl_findMore_43 : decode c_Fl_findMore 43 = .ok (.bipush 32, 2) := by decide +kernel
theorem d_Fl_findMore_45 : decode c_Fl_findMore 45 = .ok (.if_icmp .ge 70, 3) := by decide +kernel
theorem d_Fl_findMore_48 : decode c_Fl_findMore 48 = .ok (.iload 6, 2) := by decide +kernel
theorem d_Fl_findMore_50 : decode c_Fl_findMore 50 = .ok (.iload 7, 2) := by decide +kernel
theorem d_Fl_findMore_52 : decode c_Fl_findMore 52 = .ok (.invokestatic 50, 3) := by decide +kernel
theorem d_Fl_findMore_55 : decode c_Fl_findMore 55 = .ok (.ifCond .eq 54, 3) := by decide +kernel
theorem d_Fl_findMore_58 : decode c_Fl_findMore 58 = .ok (.aload_n 0, 1) := by decide +kernel
theorem d_Fl_findMore_59 : decode c_Fl_findMore 59 = .ok (.getfield 11, 3) := by decide +kernel
theorem d_Fl_findMore_62 : decode c_Fl_findMore 62 = .ok (.iload 7, 2) := by decide +kernel
theorem d_Fl_findMore_64 : decode c_Fl_findMore 64 = .ok (.iaload, 1) := by decide +kernel
theorem d_Fl_findMore_65 : decode c_Fl_findMore 65 = .ok (.aload_n 0, 1) := by decide +kernel
theorem d_Fl_findMore_66 : decode c_Fl_findMore 66 = .ok (.getfield 15, 3) := by decide +kernel
theorem d_Fl_findMore_69 : decode c_Fl_findMore 69 = .ok (.iload 7, 2) := by decide +kernel
theorem d_Fl_findMore_71 : decode c_Fl_findMore 71 = .ok (.iaload, 1) := by decide +kernel
theorem d_Fl_findMore_72 : decode c_Fl_findMore 72 = .ok (.iconst (-1), 1) := by decide +kernel
theorem d_Fl_findMore_73 : decode c_Fl_findMore 73 = .ok (.ixor, 1) := by decide +kernel
theorem d_Fl_findMore_74 : decode c_Fl_findMore 74 = .ok (.iand, 1) := by decide +kernel
theorem d_Fl_findMore_75 : decode c_Fl_findMore 75 = .ok (.aload_n 0, 1) := by decide +kernel
theorem d_Fl_findMore_76 : decode c_Fl_findMore 76 = .ok (.getfield 18, 3) := by decide +kernel
theorem d_Fl_findMore_79 : decode c_Fl_findMore 79 = .ok (.iload 7, 2) := by decide +kernel
theorem d_Fl_findMore_81 : decode c_Fl_findMore 81 = .ok (.iaload, 1) := by decide +kernel
theorem d_Fl_findMore_82 : decode c_Fl_findMore 82 = .ok (.ior, 1) := by decide +kernel
theorem d_Fl_findMore_83 : decode c_Fl_findMore 83 = .ok (.iload_n 3, 1) := by decide +kernel
theorem d_Fl_findMore_84 : decode c_Fl_findMore 84 = .ok (.iconst (-1), 1) := by decide +kernel
theorem d_Fl_findMore_85 : decode c_Fl_findMore 85 = .ok (.ixor, 1) := by decide +kernel
theorem d_Fl_findMore_86 : decode c_Fl_findMore 86 = .ok (.iand, 1) := by decide +kernel
theorem d_Fl_findMore_87 : decode c_Fl_findMore 87 = .ok (.istore 8, 2) := by decide +kernel
theorem d_Fl_findMore_89 : decode c_Fl_findMore 89 = .ok (.iload_n 3, 1) := by decide +kernel
theorem d_Fl_findMore_90 : decode c_Fl_findMore 90 = .ok (.iload 8, 2) := by decide +kernel
theorem d_Fl_findMore_92 : decode c_Fl_findMore 92 = .ok (.ior, 1) := by decide +kernel
theorem d_Fl_findMore_93 : decode c_Fl_findMore 93 = .ok (.istore_n 3, 1) := by decide +kernel
theorem d_Fl_findMore_94 : decode c_Fl_findMore 94 = .ok (.iload 4, 2) := by decide +kernel
theorem d_Fl_findMore_96 : decode c_Fl_findMore 96 = .ok (.iload 8, 2) := by decide +kernel
theorem d_Fl_findMore_98 : decode c_Fl_findMore 98 = .ok (.ior, 1) := by decide +kernel
theorem d_Fl_findMore_99 : decode c_Fl_findMore 99 = .ok (.istore 4, 2) := by decide +kernel
theorem d_Fl_findMore_101 : decode c_Fl_findMore 101 = .ok (.aload_n 0, 1) := by decide +kernel
theorem d_Fl_findMore_102 : decode c_Fl_findMore 102 = .ok (.iload 7, 2) := by decide +kernel
theorem d_Fl_findMore_104 : decode c_Fl_findMore 104 = .ok (.iload 8, 2) := by decide +kernel
theorem d_Fl_findMore_106 : decode c_Fl_findMore 106 = .ok (.invokevirtual 53, 3) := by decide +kernel
theorem d_Fl_findMore_109 : decode c_Fl_findMore 109 = .ok (.iinc 7 1, 3) := by decide +kernel
theorem d_Fl_findMore_112 : decode c_Fl_findMore 112 = .ok (.goto (-71), 3) := by decide +kernel
theorem d_Fl_findMore_115 : decode c_Fl_findMore 115 = .ok (.iinc 5 1, 3) := by decide +kernel
theorem d_Fl_findMore_118 : decode c_Fl_findMore 118 = .ok (.goto (-107), 3) := by decide +kernel
theorem d_Fl_findMore_121 : decode c_Fl_findMore 121 = .ok (.iload_n 3, 1) := by decide +kernel
theorem d_Fl_findMore_122 : decode c_Fl_findMore 122 = .ok (.iload_n 2, 1) := by decide +kernel
theorem d_Fl_findMore_123 : decode c_Fl_findMore 123 = .ok (.invokestatic 50, 3) := by decide +kernel
theorem d_Fl_findMore_126 : decode c_Fl_findMore 126 = .ok (.ireturn, 1) := by decide +kernel
theorem d_Fl_markFrom_0 : decode c_Fl_markFrom 0 = .ok (.iconst 0, 1) := by decide +kernel
theorem d_Fl_markFrom_1 : decode c_Fl_markFrom 1 = .ok (.istore_n 3, 1) := by decide +kernel
theorem d_Fl_markFrom_2 : decode c_Fl_markFrom 2 = .ok (.iload_n 3, 1) := by decide +kernel
theorem d_Fl_markFrom_3 : decode c_Fl_markFrom 3 = .ok (.bipush 32, 2) := by decide +kernel
theorem d_Fl_markFrom_5 : decode c_Fl_markFrom 5 = .ok (.if_icmp .ge 24, 3) := by decide +kernel
theorem d_Fl_markFrom_8 : decode c_Fl_markFrom 8 = .ok (.iload_n 2, 1) := by decide +kernel
theorem d_Fl_markFrom_9 : decode c_Fl_markFrom 9 = .ok (.iload_n 3, 1) := by decide +kernel
theorem d_Fl_markFrom_10 : decode c_Fl_markFrom 10 = .ok (.invokestatic 50, 3) := by decide +kernel
theorem d_Fl_markFrom_13 : decode c_Fl_markFrom 13 = .ok (.ifCond .eq 10, 3) := by decide +kernel
theorem d_Fl_markFrom_16 : decode c_Fl_markFrom 16 = .ok (.aload_n 0, 1) := by decide +kernel
theorem d_Fl_markFrom_17 : decode c_Fl_markFrom 17 = .ok (.getfield 21, 3) := by decide +kernel
theorem d_Fl_markFrom_20 : decode c_Fl_markFrom 20 = .ok (.iload_n 3, 1) := by decide +kernel
theorem d_Fl_markFrom_21 : decode c_Fl_markFrom 21 = .ok (.iload_n 1, 1) := by decide +kernel
theorem d_Fl_markFrom_22 : decode c_Fl_markFrom 22 = .ok (.iastore, 1) := by decide +kernel
theorem d_Fl_markFrom_23 : decode c_Fl_markFrom 23 = .ok (.iinc 3 1, 3) := by decide +kernel
theorem d_Fl_markFrom_26 : decode c_Fl_markFrom 26 = .ok (.goto (-24), 3) := by decide +kernel
theorem d_Fl_markFrom_29 : decode c_Fl_markFrom 29 = .ok (.return_, 1) := by decide +kernel
theorem d_Fl_pushOne_0 : decode c_Fl_pushOne 0 = .ok (.iload_n 2, 1) := by decide +kernel
theorem d_Fl_pushOne_1 : decode c_Fl_pushOne 1 = .ok (.istore_n 3, 1) := by decide +kernel
theorem d_Fl_pushOne_2 : decode c_Fl_pushOne 2 = .ok (.iconst 0, 1) := by decide +kernel
theorem d_Fl_pushOne_3 : decode c_Fl_pushOne 3 = .ok (.istore 4, 2) := by decide +kernel
theorem d_Fl_pushOne_5 : decode c_Fl_pushOne 5 = .ok (.iload 4, 2) := by decide +kernel
theorem d_Fl_pushOne_7 : decode c_Fl_pushOne 7 = .ok (.bipush 32, 2) := by decide +kernel
theorem d_Fl_pushOne_9 : decode c_Fl_pushOne 9 = .ok (.if_icmp .ge 32, 3) := by decide +kernel
theorem d_Fl_pushOne_12 : decode c_Fl_pushOne 12 = .ok (.iload_n 3, 1) := by decide +kernel
theorem d_Fl_pushOne_13 : decode c_Fl_pushOne 13 = .ok (.iload_n 1, 1) := by decide +kernel
theorem d_Fl_pushOne_14 : decode c_Fl_pushOne 14 = .ok (.if_icmp .eq 27, 3) := by decide +kernel
theorem d_Fl_pushOne_17 : decode c_Fl_pushOne 17 = .ok (.aload_n 0, 1) := by decide +kernel
theorem d_Fl_pushOne_18 : decode c_Fl_pushOne 18 = .ok (.getfield 21, 3) := by decide +kernel
theorem d_Fl_pushOne_21 : decode c_Fl_pushOne 21 = .ok (.iload_n 3, 1) := by decide +kernel
theorem d_Fl_pushOne_22 : decode c_Fl_pushOne 22 = .ok (.iaload, 1) := by decide +kernel
theorem d_Fl_pushOne_23 : decode c_Fl_pushOne 23 = .ok (.istore 5, 2) := by decide +kernel
theorem d_Fl_pushOne_25 : decode c_Fl_pushOne 25 = .ok (.aload_n 0, 1) := by decide +kernel
theorem d_Fl_pushOne_26 : decode c_Fl_pushOne 26 = .ok (.iload 5, 2) := by decide +kernel
theorem d_Fl_pushOne_28 : decode c_Fl_pushOne 28 = .ok (.iload_n 3, 1) := by decide +kernel
theorem d_Fl_pushOne_29 : decode c_Fl_pushOne 29 = .ok (.invokevirtual 56, 3) := by decide +kernel
theorem d_Fl_pushOne_32 : decode c_Fl_pushOne 32 = .ok (.iload 5, 2) := by decide +kernel
theorem d_Fl_pushOne_34 : decode c_Fl_pushOne 34 = .ok (.istore_n 3, 1) := by decide +kernel
theorem d_Fl_pushOne_35 : decode c_Fl_pushOne 35 = .ok (.iinc 4 1, 3) := by decide +kernel
theorem d_Fl_pushOne_38 : decode c_Fl_pushOne 38 = .ok (.goto (-33), 3) := by decide +kernel
theorem d_Fl_pushOne_41 : decode c_Fl_pushOne 41 = .ok (.return_, 1) := by decide +kernel
theorem d_Fl_pushOver_0 : decode c_Fl_pushOver 0 = .ok (.aload_n 0, 1) := by decide +kernel
theorem d_Fl_pushOver_1 : decode c_Fl_pushOver 1 = .ok (.getfield 18, 3) := by decide +kernel
theorem d_Fl_pushOver_4 : decode c_Fl_pushOver 4 = .ok (.iload_n 1, 1) := by decide +kernel
theorem d_Fl_pushOver_5 : decode c_Fl_pushOver 5 = .ok (.iaload, 1) := by decide +kernel
theorem d_Fl_pushOver_6 : decode c_Fl_pushOver 6 = .ok (.iload_n 2, 1) := by decide +kernel
theorem d_Fl_pushOver_7 : decode c_Fl_pushOver 7 = .ok (.invokestatic 50, 3) := by decide +kernel
theorem d_Fl_pushOver_10 : decode c_Fl_pushOver 10 = .ok (.ifCond .eq 36, 3) := by decide +kernel
theorem d_Fl_pushOver_13 : decode c_Fl_pushOver 13 = .ok (.aload_n 0, 1) := by decide +kernel
theorem d_Fl_pushOver_14 : decode c_Fl_pushOver 14 = .ok (.getfield 18, 3) := by decide +kernel
theorem d_Fl_pushOver_17 : decode c_Fl_pushOver 17 = .ok (.iload_n 1, 1) := by decide +kernel
theorem d_Fl_pushOver_18 : decode c_Fl_pushOver 18 = .ok (.dup2, 1) := by decide +kernel
theorem d_Fl_pushOver_19 : decode c_Fl_pushOver 19 = .ok (.iaload, 1) := by decide +kernel
theorem d_Fl_pushOver_20 : decode c_Fl_pushOver 20 = .ok (.iload_n 2, 1) := by decide +kernel
theorem d_Fl_pushOver_21 : decode c_Fl_pushOver 21 = .ok (.invokestatic 33, 3) := by decide +kernel
theorem d_Fl_pushOver_24 : decode c_Fl_pushOver 24 = .ok (.iconst (-1), 1) := by decide +kernel
theorem d_Fl_pushOver_25 : decode c_Fl_pushOver 25 = .ok (.ixor, 1) := by decide +kernel
theorem d_Fl_pushOver_26 : decode c_Fl_pushOver 26 = .ok (.iand, 1) := by decide +kernel
theorem d_Fl_pushOver_27 : decode c_Fl_pushOver 27 = .ok (.iastore, 1) := by decide +kernel
theorem d_Fl_pushOver_28 : decode c_Fl_pushOver 28 = .ok (.aload_n 0, 1) := by decide +kernel
theorem d_Fl_pushOver_29 : decode c_Fl_pushOver 29 = .ok (.getfield 15, 3) := by decide +kernel
theorem d_Fl_pushOver_32 : decode c_Fl_pushOver 32 = .ok (.iload_n 2, 1) := by decide +kernel
theorem d_Fl_pushOver_33 : decode c_Fl_pushOver 33 = .ok (.dup2, 1) := by decide +kernel
theorem d_Fl_pushOver_34 : decode c_Fl_pushOver 34 = .ok (.iaload, 1) := by decide +kernel
theorem d_Fl_pushOver_35 : decode c_Fl_pushOver 35 = .ok (.iload_n 1, 1) := by decide +kernel
theorem d_Fl_pushOver_36 : decode c_Fl_pushOver 36 = .ok (.invokestatic 33, 3) := by decide +kernel
theorem d_Fl_pushOver_39 : decode c_Fl_pushOver 39 = .ok (.iconst (-1), 1) := by decide +kernel
theorem d_Fl_pushOver_40 : decode c_Fl_pushOver 40 = .ok (.ixor, 1) := by decide +kernel
theorem d_Fl_pushOver_41 : decode c_Fl_pushOver 41 = .ok (.iand, 1) := by decide +kernel
theorem d_Fl_pushOver_42 : decode c_Fl_pushOver 42 = .ok (.iastore, 1) := by decide +kernel
theorem d_Fl_pushOver_43 : decode c_Fl_pushOver 43 = .ok (.goto 29, 3) := by decide +kernel
theorem d_Fl_pushOver_46 : decode c_Fl_pushOver 46 = .ok (.aload_n 0, 1) := by decide +kernel
theorem d_Fl_pushOver_47 : decode c_Fl_pushOver 47 = .ok (.getfield 15, 3) := by decide +kernel
theorem d_Fl_pushOver_50 : decode c_Fl_pushOver 50 = .ok (.iload_n 1, 1) := by decide +kernel
theorem d_Fl_pushOver_51 : decode c_Fl_pushOver 51 = .ok (.dup2, 1) := by decide +kernel
theorem d_Fl_pushOver_52 : decode c_Fl_pushOver 52 = .ok (.iaload, 1) := by decide +kernel
theorem d_Fl_pushOver_53 : decode c_Fl_pushOver 53 = .ok (.iload_n 2, 1) := by decide +kernel
theorem d_Fl_pushOver_54 : decode c_Fl_pushOver 54 = .ok (.invokestatic 33, 3) := by decide +kernel
theorem d_Fl_pushOver_57 : decode c_Fl_pushOver 57 = .ok (.ior, 1) := by decide +kernel
theorem d_Fl_pushOver_58 : decode c_Fl_pushOver 58 = .ok (.iastore, 1) := by decide +kernel
theorem d_Fl_pushOver_59 : decode c_Fl_pushOver 59 = .ok (.aload_n 0, 1) := by decide +kernel
theorem d_Fl_pushOver_60 : decode c_Fl_pushOver 60 = .ok (.getfield 18, 3) := by decide +kernel
theorem d_Fl_pushOver_63 : decode c_Fl_pushOver 63 = .ok (.iload_n 2, 1) := by decide +kernel
theorem d_Fl_pushOver_64 : decode c_Fl_pushOver 64 = .ok (.dup2, 1) := by decide +kernel
theorem d_Fl_pushOver_65 : decode c_Fl_pushOver 65 = .ok (.iaload, 1) := by decide +kernel
theorem d_Fl_pushOver_66 : decode c_Fl_pushOver 66 = .ok (.iload_n 1, 1) := by decide +kernel
theorem d_Fl_pushOver_67 : decode c_Fl_pushOver 67 = .ok (.invokestatic 33, 3) := by decide +kernel
theorem d_Fl_pushOver_70 : decode c_Fl_pushOver 70 = .ok (.ior, 1) := by decide +kernel
theorem d_Fl_pushOver_71 : decode c_Fl_pushOver 71 = .ok (.iastore, 1) := by decide +kernel
theorem d_Fl_pushOver_72 : decode c_Fl_pushOver 72 = .ok (.return_, 1) := by decide +kernel
theorem d_Fl_readArrows_0 : decode c_Fl_readArrows 0 = .ok (.iconst 0, 1) := by decide +kernel
theorem d_Fl_readArrows_1 : decode c_Fl_readArrows 1 = .ok (.istore_n 2, 1) := by decide +kernel
theorem d_Fl_readArrows_2 : decode c_Fl_readArrows 2 = .ok (.iload_n 2, 1) := by decide +kernel
theorem d_Fl_readArrows_3 : decode c_Fl_readArrows 3 = .ok (.bipush 16, 2) := by decide +kernel
theorem d_Fl_readArrows_5 : decode c_Fl_readArrows 5 = .ok (.if_icmp .ge 20, 3) := by decide +kernel
theorem d_Fl_readArrows_8 : decode c_Fl_readArrows 8 = .ok (.aload_n 0, 1) := by decide +kernel
theorem d_Fl_readArrows_9 : decode c_Fl_readArrows 9 = .ok (.getfield 11, 3) := by decide +kernel
theorem d_Fl_readArrows_12 : decode c_Fl_readArrows 12 = .ok (.iload_n 2, 1) := by decide +kernel
theorem d_Fl_readArrows_13 : decode c_Fl_readArrows 13 = .ok (.aload_n 1, 1) := by decide +kernel
theorem d_Fl_readArrows_14 : decode c_Fl_readArrows 14 = .ok (.iload_n 2, 1) := by decide +kernel
theorem d_Fl_readArrows_15 : decode c_Fl_readArrows 15 = .ok (.invokevirtual 24, 3) := by decide +kernel
theorem d_Fl_readArrows_18 : decode c_Fl_readArrows 18 = .ok (.iastore, 1) := by decide +kernel
theorem d_Fl_readArrows_19 : decode c_Fl_readArrows 19 = .ok (.iinc 2 1, 3) := by decide +kernel
theorem d_Fl_readArrows_22 : decode c_Fl_readArrows 22 = .ok (.goto (-20), 3) := by decide +kernel
theorem d_Fl_readArrows_25 : decode c_Fl_readArrows 25 = .ok (.return_, 1) := by decide +kernel
theorem d_Gr_pairs_0 : decode c_Gr_pairs 0 = .ok (.iconst 0, 1) := by decide +kernel
theorem d_Gr_pairs_1 : decode c_Gr_pairs 1 = .ok (.istore_n 1, 1) := by decide +kernel
theorem d_Gr_pairs_2 : decode c_Gr_pairs 2 = .ok (.iconst 0, 1) := by decide +kernel
theorem d_Gr_pairs_3 : decode c_Gr_pairs 3 = .ok (.istore_n 2, 1) := by decide +kernel
theorem d_Gr_pairs_4 : decode c_Gr_pairs 4 = .ok (.iload_n 2, 1) := by decide +kernel
theorem d_Gr_pairs_5 : decode c_Gr_pairs 5 = .ok (.bipush 16, 2) := by decide +kernel
theorem d_Gr_pairs_7 : decode c_Gr_pairs 7 = .ok (.if_icmp .ge 21, 3) := by decide +kernel
theorem d_Gr_pairs_10 : decode c_Gr_pairs 10 = .ok (.iload_n 1, 1) := by decide +kernel
theorem d_Gr_pairs_11 : decode c_Gr_pairs 11 = .ok (.aload_n 0, 1) := by decide +kernel
theorem d_Gr_pairs_12 : decode c_Gr_pairs 12 = .ok (.getfield 18, 3) := by decide +kernel
theorem d_Gr_pairs_15 : decode c_Gr_pairs 15 = .ok (.iload_n 2, 1) := by decide +kernel
theorem d_Gr_pairs_16 : decode c_Gr_pairs 16 = .ok (.iaload, 1) := by decide +kernel
theorem d_Gr_pairs_17 : decode c_Gr_pairs 17 = .ok (.invokestatic 47, 3) := by decide +kernel
theorem d_Gr_pairs_20 : decode c_Gr_pairs 20 = .ok (.iadd, 1) := by decide +kernel
theorem d_Gr_pairs_21 : decode c_Gr_pairs 21 = .ok (.istore_n 1, 1) := by decide +kernel
theorem d_Gr_pairs_22 : decode c_Gr_pairs 22 = .ok (.iinc 2 1, 3) := by decide +kernel
theorem d_Gr_pairs_25 : decode c_Gr_pairs 25 = .ok (.goto (-21), 3) := by decide +kernel
theorem d_Gr_pairs_28 : decode c_Gr_pairs 28 = .ok (.iload_n 1, 1) := by decide +kernel
theorem d_Gr_pairs_29 : decode c_Gr_pairs 29 = .ok (.ireturn, 1) := by decide +kernel
theorem d_Gr_pairsWithoutDetour_0 : decode c_Gr_pairsWithoutDetour 0 = .ok (.iconst 0, 1) := by decide +kernel
theorem d_Gr_pairsWithoutDetour_1 : decode c_Gr_pairsWithoutDetour 1 = .ok (.istore_n 1, 1) := by decide +kernel
theorem d_Gr_pairsWithoutDetour_2 : decode c_Gr_pairsWithoutDetour 2 = .ok (.iconst 0, 1) := by decide +kernel
theorem d_Gr_pairsWithoutDetour_3 : decode c_Gr_pairsWithoutDetour 3 = .ok (.istore_n 2, 1) := by decide +kernel
theorem d_Gr_pairsWithoutDetour_4 : decode c_Gr_pairsWithoutDetour 4 = .ok (.iload_n 2, 1) := by decide +kernel
theorem d_Gr_pairsWithoutDetour_5 : decode c_Gr_pairsWithoutDetour 5 = .ok (.bipush 16, 2) := by decide +kernel
theorem d_Gr_pairsWithoutDetour_7 : decode c_Gr_pairsWithoutDetour 7 = .ok (.if_icmp .ge 60, 3) := by decide +kernel
theorem d_Gr_pairsWithoutDetour_10 : decode c_Gr_pairsWithoutDetour 10 = .ok (.iconst 0, 1) := by decide +kernel
theorem d_Gr_pairsWithoutDetour_11 : decode c_Gr_pairsWithoutDetour 11 = .ok (.istore_n 3, 1) := by decide +kernel
theorem d_Gr_pairsWithoutDetour_12 : decode c_Gr_pairsWithoutDetour 12 = .ok (.iload_n 3, 1) := by decide +kernel
theorem d_Gr_pairsWithoutDetour_13 : decode c_Gr_pairsWithoutDetour 13 = .ok (.bipush 16, 2) := by decide +kernel
theorem d_Gr_pairsWithoutDetour_15 : decode c_Gr_pairsWithoutDetour 15 = .ok (.if_icmp .ge 46, 3) := by decide +kernel
theorem d_Gr_pairsWithoutDetour_18 : decode c_Gr_pairsWithoutDetour 18 = .ok (.aload_n 0, 1) := by decide +kernel
theorem d_Gr_pairsWithoutDetour_19 : decode c_Gr_pairsWithoutDetour 19 = .ok (.getfield 18, 3) := by decide +kernel
theorem d_Gr_pairsWithoutDetour_22 : decode c_Gr_pairsWithoutDetour 22 = .ok (.iload_n 2, 1) := by decide +kernel
theorem d_Gr_pairsWithoutDetour_23 : decode c_Gr_pairsWithoutDetour 23 = .ok (.iaload, 1) := by decide +kernel
theorem d_Gr_pairsWithoutDetour_24 : decode c_Gr_pairsWithoutDetour 24 = .ok (.iload_n 3, 1) := by decide +kernel
theorem d_Gr_pairsWithoutDetour_25 : decode c_Gr_pairsWithoutDetour 25 = .ok (.invokestatic 53, 3) := by decide +kernel
theorem d_Gr_pairsWithoutDetour_28 : decode c_Gr_pairsWithoutDetour 28 = .ok (.ifCond .eq 27, 3) := by decide +kernel
theorem d_Gr_pairsWithoutDetour_31 : decode c_Gr_pairsWithoutDetour 31 = .ok (.aload_n 0, 1) := by decide +kernel
theorem d_Gr_pairsWithoutDetour_32 : decode c_Gr_pairsWithoutDetour 32 = .ok (.aload_n 0, 1) := by decide +kernel
theorem d_Gr_pairsWithoutDetour_33 : decode c_Gr_pairsWithoutDetour 33 = .ok (.getfield 18, 3) := by decide +kernel
theorem d_Gr_pairsWithoutDetour_36 : decode c_Gr_pairsWithoutDetour 36 = .ok (.iload_n 2, 1) := by decide +kernel
theorem d_Gr_pairsWithoutDetour_37 : decode c_Gr_pairsWithoutDetour 37 = .ok (.iaload, 1) := by decide +kernel
theorem d_Gr_pairsWithoutDetour_38 : decode c_Gr_pairsWithoutDetour 38 = .ok (.iload_n 3, 1) := by decide +kernel
theorem d_Gr_pairsWithoutDetour_39 : decode c_Gr_pairsWithoutDetour 39 = .ok (.invokestatic 57, 3) := by decide +kernel
theorem d_Gr_pairsWithoutDetour_42 : decode c_Gr_pairsWithoutDetour 42 = .ok (.iconst (-1), 1) := by decide +kernel
theorem d_Gr_pairsWithoutDetour_43 : decode c_Gr_pairsWithoutDetour 43 = .ok (.ixor, 1) := by decide +kernel
theorem d_Gr_pairsWithoutDetour_44 : decode c_Gr_pairsWithoutDetour 44 = .ok (.iand, 1) := by decide +kernel
theorem d_Gr_pairsWithoutDetour_45 : decode c_Gr_pairsWithoutDetour 45 = .ok (.iload_n 3, 1) := by decide +kernel
theorem d_Gr_pairsWithoutDetour_46 : decode c_Gr_pairsWithoutDetour 46 = .ok (.invokevirtual 60, 3) := by decide +kernel
theorem d_Gr_pairsWithoutDetour_49 : decode c_Gr_pairsWithoutDetour 49 = .ok (.ifCond .ne 6, 3) := by decide +kernel
theorem d_Gr_pairsWithoutDetour_52 : decode c_Gr_pairsWithoutDetour 52 = .ok (.iinc 1 1, 3) := by decide +kernel
theorem d_Gr_pairsWithoutDetour_55 : decode c_Gr_pairsWithoutDetour 55 = .ok (.iinc 3 1, 3) := by decide +kernel
theorem d_Gr_pairsWithoutDetour_58 : decode c_Gr_pairsWithoutDetour 58 = .ok (.goto (-46), 3) := by decide +kernel
theorem d_Gr_pairsWithoutDetour_61 : decode c_Gr_pairsWithoutDetour 61 = .ok (.iinc 2 1, 3) := by decide +kernel
theorem d_Gr_pairsWithoutDetour_64 : decode c_Gr_pairsWithoutDetour 64 = .ok (.goto (-60), 3) := by decide +kernel
theorem d_Gr_pairsWithoutDetour_67 : decode c_Gr_pairsWithoutDetour 67 = .ok (.iload_n 1, 1) := by decide +kernel
theorem d_Gr_pairsWithoutDetour_68 : decode c_Gr_pairsWithoutDetour 68 = .ok (.ireturn, 1) := by decide +kernel
theorem d_Gr_reachedFromOneOf_0 : decode c_Gr_reachedFromOneOf 0 = .ok (.iconst 0, 1) := by decide +kernel
theorem d_Gr_reachedFromOneOf_1 : decode c_Gr_reachedFromOneOf 1 = .ok (.istore_n 3, 1) := by decide +kernel
theorem d_Gr_reachedFromOneOf_2 : decode c_Gr_reachedFromOneOf 2 = .ok (.iload_n 3, 1) := by decide +kernel
theorem d_Gr_reachedFromOneOf_3 : decode c_Gr_reachedFromOneOf 3 = .ok (.bipush 16, 2) := by decide +kernel
theorem d_Gr_reachedFromOneOf_5 : decode c_Gr_reachedFromOneOf 5 = .ok (.if_icmp .ge 32, 3) := by decide +kernel
theorem d_Gr_reachedFromOneOf_8 : decode c_Gr_reachedFromOneOf 8 = .ok (.iload_n 1, 1) := by decide +kernel
theorem d_Gr_reachedFromOneOf_9 : decode c_Gr_reachedFromOneOf 9 = .ok (.iload_n 3, 1) := by decide +kernel
theorem d_Gr_reachedFromOneOf_10 : decode c_Gr_reachedFromOneOf 10 = .ok (.invokestatic 53, 3) := by decide +kernel
theorem d_Gr_reachedFromOneOf_13 : decode c_Gr_reachedFromOneOf 13 = .ok (.ifCond .eq 18, 3) := by decide +kernel
theorem d_Gr_reachedFromOneOf_16 : decode c_Gr_reachedFromOneOf 16 = .ok (.aload_n 0, 1) := by decide +kernel
theorem d_Gr_reachedFromOneOf_17 : decode c_Gr_reachedFromOneOf 17 = .ok (.getfield 9, 3) := by decide +kernel
theorem d_Gr_reachedFromOneOf_20 : decode c_Gr_reachedFromOneOf 20 = .ok (.iload_n 3, 1) := by decide +kernel
theorem d_Gr_reachedFromOneOf_21 : decode c_Gr_reachedFromOneOf 21 = .ok (.iaload, 1) := by decide +kernel
theorem d_Gr_reachedFromOneOf_22 : decode c_Gr_reachedFromOneOf 22 = .ok (.iload_n 2, 1) := by decide +kernel
theorem d_Gr_reachedFromOneOf_23 : decode c_Gr_reachedFromOneOf 23 = .ok (.invokestatic 53, 3) := by decide +kernel
theorem d_Gr_reachedFromOneOf_26 : decode c_Gr_reachedFromOneOf 26 = .ok (.ifCond .eq 5, 3) := by decide +kernel
theorem d_Gr_reachedFromOneOf_29 : decode c_Gr_reachedFromOneOf 29 = .ok (.iconst 1, 1) := by decide +kernel
theorem d_Gr_reachedFromOneOf_30 : decode c_Gr_reachedFromOneOf 30 = .ok (.ireturn, 1) := by decide +kernel
theorem d_Gr_reachedFromOneOf_31 : decode c_Gr_reachedFromOneOf 31 = .ok (.iinc 3 1, 3) := by decide +kernel
theorem d_Gr_reachedFromOneOf_34 : decode c_Gr_reachedFromOneOf 34 = .ok (.goto (-32), 3) := by decide +kernel
theorem d_Gr_reachedFromOneOf_37 : decode c_Gr_reachedFromOneOf 37 = .ok (.iconst 0, 1) := by decide +kernel
theorem d_Gr_reachedFromOneOf_38 : decode c_Gr_reachedFromOneOf 38 = .ok (.ireturn, 1) := by decide +kernel
theorem d_Gr_longestChain_0 : decode c_Gr_longestChain 0 = .ok (.iconst 0, 1) := by decide +kernel
theorem d_Gr_longestChain_1 : decode c_Gr_longestChain 1 = .ok (.istore_n 1, 1) := by decide +kernel
theorem d_Gr_longestChain_2 : decode c_Gr_longestChain 2 = .ok (.iconst 0, 1) := by decide +kernel
theorem d_Gr_longestChain_3 : decode c_Gr_longestChain 3 = .ok (.istore_n 2, 1) := by decide +kernel
theorem d_Gr_longestChain_4 : decode c_Gr_longestChain 4 = .ok (.iload_n 2, 1) := by decide +kernel
theorem d_Gr_longestChain_5 : decode c_Gr_longestChain 5 = .ok (.aload_n 0, 1) := by decide +kernel
theorem d_Gr_longestChain_6 : decode c_Gr_longestChain 6 = .ok (.getfield 30, 3) := by decide +kernel
theorem d_Gr_longestChain_9 : decode c_Gr_longestChain 9 = .ok (.if_icmp .ge 45, 3) := by decide +kernel
theorem d_Gr_longestChain_12 : decode c_Gr_longestChain 12 = .ok (.aload_n 0, 1) := by decide +kernel
theorem d_Gr_longestChain_13 : decode c_Gr_longestChain 13 = .ok (.getfield 24, 3) := by decide +kernel
theorem d_Gr_longestChain_16 : decode c_Gr_longestChain 16 = .ok (.iload_n 2, 1) := by decide +kernel
theorem d_Gr_longestChain_17 : decode c_Gr_longestChain 17 = .ok (.iaload, 1) := by decide +kernel
theorem d_Gr_longestChain_18 : decode c_Gr_longestChain 18 = .ok (.istore_n 3, 1) := by decide +kernel
theorem d_Gr_longestChain_19 : decode c_Gr_longestChain 19 = .ok (.aload_n 0, 1) := by decide +kernel
theorem d_Gr_longestChain_20 : decode c_Gr_longestChain 20 = .ok (.getfield 27, 3) := by decide +kernel
theorem d_Gr_longestChain_23 : decode c_Gr_longestChain 23 = .ok (.iload_n 3, 1) := by decide +kernel
theorem d_Gr_longestChain_24 : decode c_Gr_longestChain 24 = .ok (.iconst 1, 1) := by decide +kernel
theorem d_Gr_longestChain_25 : decode c_Gr_longestChain 25 = .ok (.aload_n 0, 1) := by decide +kernel
theorem d_Gr_longestChain_26 : decode c_Gr_longestChain 26 = .ok (.aload_n 0, 1) := by decide +kernel
theorem d_Gr_longestChain_27 : decode c_Gr_longestChain 27 = .ok (.getfield 21, 3) := by decide +kernel
theorem d_Gr_longestChain_30 : decode c_Gr_longestChain 30 = .ok (.iload_n 3, 1) := by decide +kernel
theorem d_Gr_longestChain_31 : decode c_Gr_longestChain 31 = .ok (.iaload, 1) := by decide +kernel
theorem d_Gr_longestChain_32 : decode c_Gr_longestChain 32 = .ok (.invokevirtual 63, 3) := by decide +kernel
theorem d_Gr_longestChain_35 : decode c_Gr_longestChain 35 = .ok (.iadd, 1) := by decide +kernel
theorem d_Gr_longestChain_36 : decode c_Gr_longestChain 36 = .ok (.iastore, 1) := by decide +kernel
theorem d_Gr_longestChain_37 : decode c_Gr_longestChain 37 = .ok (.iload_n 1, 1) := by decide +kernel
theorem d_Gr_longestChain_38 : decode c_Gr_longestChain 38 = .ok (.aload_n 0, 1) := by decide +kernel
theorem d_Gr_longestChain_39 : decode c_Gr_longestChain 39 = .ok (.getfield 27, 3) := by decide +kernel
theorem d_Gr_longestChain_42 : decode c_Gr_longestChain 42 = .ok (.iload_n 3, 1) := by decide +kernel
theorem d_Gr_longestChain_43 : decode c_Gr_longestChain 43 = .ok (.iaload, 1) := by decide +kernel
theorem d_Gr_longestChain_44 : decode c_Gr_longestChain 44 = .ok (.invokestatic 66, 3) := by decide +kernel
theorem d_Gr_longestChain_47 : decode c_Gr_longestChain 47 = .ok (.istore_n 1, 1) := by decide +kernel
theorem d_Gr_longestChain_48 : decode c_Gr_longestChain 48 = .ok (.iinc 2 1, 3) := by decide +kernel
theorem d_Gr_longestChain_51 : decode c_Gr_longestChain 51 = .ok (.goto (-47), 3) := by decide +kernel
theorem d_Gr_longestChain_54 : decode c_Gr_longestChain 54 = .ok (.iload_n 1, 1) := by decide +kernel
theorem d_Gr_longestChain_55 : decode c_Gr_longestChain 55 = .ok (.ireturn, 1) := by decide +kernel
theorem d_Gr_longestOf_0 : decode c_Gr_longestOf 0 = .ok (.iconst 0, 1) := by decide +kernel
theorem d_Gr_longestOf_1 : decode c_Gr_longestOf 1 = .ok (.istore_n 2, 1) := by decide +kernel
theorem d_Gr_longestOf_2 : decode c_Gr_longestOf 2 = .ok (.iconst 0, 1) := by decide +kernel
theorem d_Gr_longestOf_3 : decode c_Gr_longestOf 3 = .ok (.istore_n 3, 1) := by decide +kernel
theorem d_Gr_longestOf_4 : decode c_Gr_longestOf 4 = .ok (.iload_n 3, 1) := by decide +kernel
theorem d_Gr_longestOf_5 : decode c_Gr_longestOf 5 = .ok (.bipush 16, 2) := by decide +kernel
theorem d_Gr_longestOf_7 : decode c_Gr_longestOf 7 = .ok (.if_icmp .ge 28, 3) := by decide +kernel
theorem d_Gr_longestOf_10 : decode c_Gr_longestOf 10 = .ok (.iload_n 1, 1) := by decide +kernel
theorem d_Gr_longestOf_11 : decode c_Gr_longestOf 11 = .ok (.iload_n 3, 1) := by decide +kernel
theorem d_Gr_longestOf_12 : decode c_Gr_longestOf 12 = .ok (.invokestatic 53, 3) := by decide +kernel
theorem d_Gr_longestOf_15 : decode c_Gr_longestOf 15 = .ok (.ifCond .eq 14, 3) := by decide +kernel
theorem d_Gr_longestOf_18 : decode c_Gr_longestOf 18 = .ok (.iload_n 2, 1) := by decide +kernel
theorem d_Gr_longestOf_19 : decode c_Gr_longestOf 19 = .ok (.aload_n 0, 1) := by decide +kernel
theorem d_Gr_longestOf_20 : decode c_Gr_longestOf 20 = .ok (.getfield 27, 3) := by decide +kernel
theorem d_Gr_longestOf_23 : decode c_Gr_longestOf 23 = .ok (.iload_n 3, 1) := by decide +kernel
theorem d_Gr_longestOf_24 : decode c_Gr_longestOf 24 = .ok (.iaload, 1) := by decide +kernel
theorem d_Gr_longestOf_25 : decode c_Gr_longestOf 25 = .ok (.invokestatic 66, 3) := by decide +kernel
theorem d_Gr_longestOf_28 : decode c_Gr_longestOf 28 = .ok (.istore_n 2, 1) := by decide +kernel
theorem d_Gr_longestOf_29 : decode c_Gr_longestOf 29 = .ok (.iinc 3 1, 3) := by decide +kernel
theorem d_Gr_longestOf_32 : decode c_Gr_longestOf 32 = .ok (.goto (-28), 3) := by decide +kernel
theorem d_Gr_longestOf_35 : decode c_Gr_longestOf 35 = .ok (.iload_n 2, 1) := by decide +kernel
theorem d_Gr_longestOf_36 : decode c_Gr_longestOf 36 = .ok (.ireturn, 1) := by decide +kernel
end
section
theorem xg0 {c2 : Cond} (h : c2 ∈ BS) : GoodIn BS (c2 :: BS) := by
  intro w hw
  have hm : w ∈ BS := by
    rcases List.mem_cons.mp hw with h1 | h1
    · rw [h1]; exact h
    · exact h1
  exact ⟨hm, good_of_word (List.mem_filter.mp hm).2⟩
theorem xB {x : Cond} {rm : Room} {args : Array Value} {s : State} (h : (headSpec (x :: BS) rm).pre.before args s = true) : ∀ w ∈ BS, w.before args s = true := fun w hw => atoms_spec (ws := x :: BS) h w (List.mem_cons_of_mem _ hw)
def xR (D : va_G) (ws : va_W) (tys : List (ClassId × FieldType)) (U : State) : Prop := va_P D cls ws U.heap ∧ va_K D cls tys U ∧ xn U
theorem xR_blind {D : va_G} {ws : va_W} {tys : List (ClassId × FieldType)} {av : List Value} : FrameBlind (va_Pc av (xR D ws tys)) := fun a U g mk q => ⟨q.1, q.2.1, va_K.moved (u := U) (U := U.calling g mk a) (Vm.Alike.refl U.vm) q.2.2.1, xn_same rfl q.2.2.2⟩
theorem xpS {D : va_G} {ws : va_W} {tys : List (ClassId × FieldType)} {av : List Value} {s : State} {H : Heap} (hP : va_P D cls ws H) (hK : va_K D cls tys s) (hN : xn s) : PreS s H (va_Pc av (xR D ws tys)) av := ⟨xR_blind, fun U hU hW => ⟨rfl, by rw [hU]; exact hP, va_K.moved hW.alike hK, xn_moved hW hN⟩⟩
theorem xpV {D : va_G} {ws : va_W} {tys : List (ClassId × FieldType)} {b : Nat} {As : List Value} {s : State} {H : Heap} {C : String} (hP : va_P D cls ws H) (hK : va_K D cls tys s) (hN : xn s) (hr : ∃ cellB : Cell, H[b]? = some cellB ∧ cellB.vm.isStatics = false ∧ s.vm.findClass C = some cellB.cls) : PreV s H C b (va_Pc (.ref b :: As) (xR D ws tys)) As := ⟨xR_blind, hr, fun U hU hW => ⟨rfl, by rw [hU]; exact hP, va_K.moved hW.alike hK, xn_moved hW hN⟩⟩
section XC
variable {p : Program} {l : Launch} {e : Env} {R : Room} {s : State} {m : MethodId} {args : Array Value} {below : List Frame} {meth : Method} {c : Code} {H : Heap} {locs : List Loc} {cells slots : Nat} {Q : State → Prop} {pc : Nat} {ls : Array Slot} {rest : List Value}
theorem xr_cal {r : Int32} {st0 : List Value} {a : Array Value} (hr : va_Run p l e R s m args below meth c H locs cells slots 0 0 (F0 m pc ls st0) rest (QcRead r a) (fun _ => False)) (kk : W p l e R s m args below meth c H locs cells slots Q (F0 m (pc + 3) ls (.int r :: rest))) : W p l e R s m args below meth c H locs cells slots Q (F0 m pc ls st0) := xr_call hr kk
end XC
end
section
def lenF (lf : Nat → Int32) (u : Nat) : Int32 := if first (fun n => bt (lf n) u) 16 16 < 16 then nI (first (fun n => bt (lf n) u) 16 16) else -1
def cq (p : Nat → Bool) : Nat → Nat
  | 0 => 0
  | k + 1 => if p k = true then cq p k + 1 else cq p k
theorem cq_t {p : Nat → Bool} {k : Nat} (h : p k = true) : cq p (k + 1) = cq p k + 1 := if_pos h
theorem cq_f {p : Nat → Bool} {k : Nat} (h : p k = false) : cq p (k + 1) = cq p k := if_neg (by rw [h]; decide)
theorem cq_le (p : Nat → Bool) (k : Nat) : cq p k ≤ k := by
  induction k with
  | zero => exact Nat.le_refl _
  | succ k ih => show (if p k = true then cq p k + 1 else cq p k) ≤ k + 1; split <;> omega
def sq (f : Nat → Nat) : Nat → Nat
  | 0 => 0
  | k + 1 => sq f k + f k
def lastq (p : Nat → Bool) : Nat → Nat
  | 0 => 0
  | k + 1 => if p k = true then k else lastq p k
theorem lastq_t {p : Nat → Bool} {k : Nat} (h : p k = true) : lastq p (k + 1) = k := if_pos h
theorem lastq_f {p : Nat → Bool} {k : Nat} (h : p k = false) : lastq p (k + 1) = lastq p k := if_neg (by rw [h]; decide)
def anyq (p : Nat → Bool) : Nat → Bool
  | 0 => false
  | k + 1 => anyq p k || p k
theorem anyq_t {p : Nat → Bool} {i : Nat} (hp : p i = true) : ∀ n, i < n → anyq p n = true := by
  intro n
  induction n with
  | zero => intro h; omega
  | succ n ih =>
    intro h
    show (anyq p n || p n) = true
    rcases Nat.lt_or_ge i n with h1 | h1
    · rw [ih h1]; rfl
    · have : i = n := by omega
      subst this
      rw [hp, Bool.or_true]
theorem anyq_f {p : Nat → Bool} : ∀ n, (∀ k, k < n → p k = false) → anyq p n = false := by
  intro n
  induction n with
  | zero => intro _; rfl
  | succ n ih =>
    intro h
    show (anyq p n || p n) = false
    rw [ih (fun k hk => h k (by omega)), h n (by omega)]; rfl
def mxq (x : Int32) (f : Nat → Int32) : Nat → Int32
  | 0 => 0
  | k + 1 => if bt x k = true then (if mxq x f k < f k then f k else mxq x f k) else mxq x f k
theorem first_lt {p : Nat → Bool} {d N : Nat} (hd : d < N) : first p d N < N := by
  by_cases h : ∃ j, j < N ∧ p j = true
  · exact (first_spec h).1
  · have : first p d N = d := first_none (fun k hk => by
      cases hb : p k with
      | false => rfl
      | true => exact absurd ⟨k, hk, hb⟩ h)
    rw [this]; exact hd
def pw (h lf : Nat → Int32) (L u : Nat) : Nat → Nat
  | 0 => u
  | k + 1 => first (fun w => bt (h (pw h lf L u k) &&& lf (L - (k + 1))) w) 0 16
theorem pw_lt {h lf : Nat → Int32} {L u : Nat} (hu : u < 16) (k : Nat) : pw h lf L u k < 16 := by
  cases k with
  | zero => exact hu
  | succ k => exact first_lt (by omega)
def ac (f : Nat → Int32) (t b : Int32) : Nat → Int32
  | 0 => t
  | k + 1 => ac f t b k ||| (if bt b k = true then f k else 0)
theorem bt_ac {f : Nat → Int32} {t b : Int32} {i : Nat} : ∀ k, bt (ac f t b k) i = true ↔ bt t i = true ∨ ∃ u, u < k ∧ bt b u = true ∧ bt (f u) i = true := by
  intro k
  induction k with
  | zero => exact ⟨Or.inl, fun h => h.elim id (fun ⟨u, hu, _⟩ => by omega)⟩
  | succ k ih =>
    show bt (ac f t b k ||| (if bt b k = true then f k else 0)) i = true ↔ _
    rw [b_or, Bool.or_eq_true, ih]
    constructor
    · rintro ((h1 | ⟨u, h1, h2, h3⟩) | h1)
      · exact Or.inl h1
      · exact Or.inr ⟨u, by omega, h2, h3⟩
      · by_cases hb : bt b k = true
        · rw [if_pos hb] at h1; exact Or.inr ⟨k, by omega, hb, h1⟩
        · rw [if_neg hb, b_0] at h1; cases h1
    · rintro (h1 | ⟨u, h1, h2, h3⟩)
      · exact Or.inl (Or.inl h1)
      · by_cases hu : u = k
        · subst hu; right; rw [if_pos h2]; exact h3
        · exact Or.inl (Or.inr ⟨u, by omega, h2, h3⟩)
theorem ac_stp {h : Nat → Int32} (hg : gd h) {al cx x : Int32} (hx : m16 x) (ha : ∀ i, i < 16 → bt al i = !(bt cx i)) : ac (fun v => h v &&& al) x x 16 = stp h cx x := by
  have hm : m16 (ac (fun v => h v &&& al) x x 16) := by
    intro i hi
    cases hb : bt (ac (fun v => h v &&& al) x x 16) i with
    | false => rfl
    | true =>
      rcases (bt_ac 16).mp hb with h1 | ⟨u, h1, _, h3⟩
      · rw [hx i hi] at h1; cases h1
      · rw [b_and, hg u h1 i hi] at h3; cases h3
  apply m16_ext hm (stp_m16 hg hx)
  intro i hi
  apply bt_iff
  rw [bt_ac]
  unfold stp
  rw [b_or, b_and, Bool.or_eq_true, Bool.and_eq_true, bt_un, bt_not _ (by omega)]
  constructor
  · rintro (h1 | ⟨u, h1, h2, h3⟩)
    · exact Or.inl h1
    · rw [b_and, Bool.and_eq_true, ha i hi] at h3
      exact Or.inr ⟨⟨u, h1, h2, h3.1⟩, h3.2⟩
  · rintro (h1 | ⟨⟨u, h1, h2, h3⟩, h4⟩)
    · exact Or.inl h1
    · exact Or.inr ⟨u, h1, h2, by rw [b_and, Bool.and_eq_true, ha i hi]; exact ⟨h3, h4⟩⟩
theorem al_and {al cx x : Int32} (hx : m16 x) (ha : ∀ i, i < 16 → bt al i = !(bt cx i)) : x &&& al = x &&& (cx ^^^ (-1)) := by
  apply m16_ext (m16_and hx) (m16_and hx)
  intro i hi
  rw [b_and, b_and, ha i hi, bt_not _ (by omega)]
end
section
def isP (x : Int32) : Bool := decide (¬ x < 0) && decide (¬ nI 15 < x)
theorem or_z (x : Int32) : x ||| nI 0 = x := by
  apply b_ext; intro i _; rw [b_or, show nI 0 = 0 from rfl, b_0, Bool.or_false]
theorem sz_step {x : Int32} {v : Nat} (hv : v < 32) : nI (cn x v) + ((x >>> (nI v &&& 31)) &&& nI 1) = nI (cn x (v + 1)) := by
  rw [show ((x >>> (nI v &&& 31)) &&& nI 1) = if bt x v = true then 1 else 0 from has_s0 hv]
  show _ = nI (cn x v + (if bt x v = true then 1 else 0))
  by_cases h : bt x v = true
  · rw [if_pos h, if_pos h, ← nI_1]
  · rw [if_neg h, if_neg h, ← nI_0, nI_add]
theorem lst_step {x : Int32} {i : Nat} (hex : ∃ j, j < 16 ∧ bt x j = true) (hm : ∀ k, k < i → bt x k = false) (hi : i < 16) (hc : bt x i = false) : i + 1 < 16 := by
  apply Nat.lt_of_not_le
  intro h
  obtain ⟨j, h1, h2⟩ := hex
  have : bt x j = false := by
    rcases Nat.lt_or_ge j i with h3 | h3
    · exact hm j h3
    · have : j = i := by omega
      rw [this]; exact hc
  rw [this] at h2; cases h2
theorem itr_ne {h : Nat → Int32} (hg : gd h) {c x : Int32} (hx : m16 x) {j : Nat} (hn : ¬ itr h c (j + 1) x = itr h c j x) : j < 15 := by
  apply Nat.lt_of_not_le
  intro hj
  apply hn
  have h1 := itr_fix (itr_15 (c := c) hg hx) (j - 15)
  have h2 := itr_fix (itr_15 (c := c) hg hx) (j + 1 - 15)
  rw [show 15 + (j - 15) = j by omega] at h1
  rw [show 15 + (j + 1 - 15) = j + 1 by omega] at h2
  rw [h1, h2]
theorem sp_end {h : Nat → Int32} (hg : gd h) {sx cx b : Int32} (hs : m16 sx) {k : Nat} (hd : (k = 0 ∧ b = 0) ∨ ∃ j, k = j + 1 ∧ b = itr h cx j (sx &&& (cx ^^^ (-1)))) (he : itr h cx k (sx &&& (cx ^^^ (-1))) = b) : itr h cx k (sx &&& (cx ^^^ (-1))) = SP h sx cx := by
  unfold SP
  rcases hd with ⟨h1, h2⟩ | ⟨j, h1, h2⟩
  · subst h1; subst h2
    have he : sx &&& (cx ^^^ (-1)) = 0 := he
    rw [he]
    show (0 : Int32) = itr h cx 15 0
    exact (itr_at (k := 0) (by omega) (stp_0 h cx)).symm
  · subst h1; subst h2
    rw [itr_any hg (m16_and hs) (k := j) he]
    exact he
theorem al_0 : ∀ i, i < 16 → bt 65535 i = !(bt 0 i) := by decide +kernel
theorem al_d {d : Nat} (hd : d < 16) : ∀ i, i < 16 → bt (65535 &&& (bit d ^^^ (-1))) i = !(bt (bit d) i) := by
  intro i hi
  rw [b_and, b_65535, decide_eq_true hi, Bool.true_and, bt_not _ (by omega)]
end
section
def xWp (D : va_G) (ws : va_W) (tys : List (ClassId × FieldType)) (sz : Nat) (U : State) : Prop := U.heap.size = sz ∧ va_P D cls ws U.heap ∧ va_K D cls tys U ∧ va_D (fun _ => True) ws ∧ xn U
def xAt (D : va_G) (ws : va_W) (tys : List (ClassId × FieldType)) (A : Nat → Prop) (t : State) : Prop := va_P D cls ws t.heap ∧ va_K D cls tys t ∧ va_D A ws
abbrev xQv (D : va_G) (ws ws' : va_W) (tys : List (ClassId × FieldType)) (sz : Nat) : Array Value → State → Outcome → State → Prop := va_Qv (fun _ : Unit => True) (fun _ t => xAt D ws' tys (va_A ws sz) t) (va_A ws sz)
abbrev xQi (D : va_G) (ws ws' : va_W) (tys : List (ClassId × FieldType)) (sz : Nat) (r : Int32) : Array Value → State → Outcome → State → Prop := va_Qi (fun (r' : Int32) (_ : Unit) => r' = r) (fun _ t => xAt D ws' tys (va_A ws sz) t) (va_A ws sz)
theorem xW_blind {D : va_G} {ws : va_W} {tys : List (ClassId × FieldType)} {sz : Nat} {av : List Value} : FrameBlind (va_Pc av (xWp D ws tys sz)) := fun a U g mk q => ⟨q.1, q.2.1, q.2.2.1, va_K.moved (u := U) (U := U.calling g mk a) (Vm.Alike.refl U.vm) q.2.2.2.1, q.2.2.2.2.1, xn_same rfl q.2.2.2.2.2⟩
theorem xqS {D : va_G} {ws : va_W} {tys : List (ClassId × FieldType)} {av : List Value} {s : State} {H : Heap} {A : Nat → Prop} (hP : va_P D cls ws H) (hD : va_D A ws) (hK : va_K D cls tys s) (hN : xn s) : PreS s H (va_Pc av (xWp D ws tys H.size)) av := ⟨xW_blind, fun U hU hW => ⟨rfl, by rw [hU], by rw [hU]; exact hP, va_K.moved hW.alike hK, hD.weaken (fun _ _ _ _ => trivial), xn_moved hW hN⟩⟩
theorem xqV {D : va_G} {ws : va_W} {tys : List (ClassId × FieldType)} {b : Nat} {As : List Value} {s : State} {H : Heap} {C : String} {A : Nat → Prop} (hP : va_P D cls ws H) (hD : va_D A ws) (hK : va_K D cls tys s) (hN : xn s) (hr : ∃ cellB : Cell, H[b]? = some cellB ∧ cellB.vm.isStatics = false ∧ s.vm.findClass C = some cellB.cls) : PreV s H C b (va_Pc (.ref b :: As) (xWp D ws tys H.size)) As := ⟨xW_blind, hr, fun U hU hW => ⟨rfl, by rw [hU], by rw [hU]; exact hP, va_K.moved hW.alike hK, hD.weaken (fun _ _ _ _ => trivial), xn_moved hW hN⟩⟩
theorem arrV_ext {cA : ClassId} {n : Nat} {f g : Nat → Value} (h : ∀ j, j < n → f j = g j) : arrV cA n f = arrV cA n g := by
  unfold arrV
  have : (fun j : Fin n => f j.val) = (fun j : Fin n => g j.val) := funext fun j => h j.val j.isLt
  rw [this]
theorem xP_ext {D : va_G} {ws : va_W} {H : Heap} (hP : va_P D cls ws H) (k : Nat) {a : Nat} {cA : ClassId} {n : Nat} {f : Nat → Int32} (g : Nat → Int32) (he : ws[k]? = some (a, .inl (cA, n, .inl f))) (hfg : ∀ j, j < n → f j = g j) : va_P D cls (ws.set k (a, .inl (cA, n, .inl g))) H := by
  intro i q hq
  by_cases hi : i = k
  · subst hi
    have hlt : i < ws.length := (List.getElem?_eq_some_iff.mp he).1
    rw [List.getElem?_set_self hlt] at hq
    cases hq
    have h1 : H[a]? = some (vp_cell cA (n, .inl f)) := hP i _ he
    show H[a]? = some (vp_cell cA (n, .inl g))
    rw [h1, vp_cell_i, vp_cell_i, arrV_ext (fun j hj => by rw [hfg j hj])]
  · rw [List.getElem?_set_ne (fun q => hi q.symm)] at hq
    exact hP i q hq
theorem xD_ext {A : Nat → Prop} {ws : va_W} (hD : va_D A ws) (k : Nat) {a : Nat} {x y : va_E} (he : ws[k]? = some (a, x)) : va_D A (ws.set k (a, y)) := by
  have hlt : k < ws.length := (List.getElem?_eq_some_iff.mp he).1
  have key : ∀ (i : Nat) (q : Nat × va_E), (ws.set k (a, y))[i]? = some q → ∃ q', ws[i]? = some q' ∧ q'.1 = q.1 := by
    intro i q hq
    by_cases hi : i = k
    · subst hi
      rw [List.getElem?_set_self hlt] at hq
      cases hq
      exact ⟨_, he, rfl⟩
    · rw [List.getElem?_set_ne (fun q => hi q.symm)] at hq
      exact ⟨q, hq, rfl⟩
  refine ⟨fun i j p q hp hq hpq => ?_, fun i q hq => ?_⟩
  · obtain ⟨p', h1, h2⟩ := key i p hp
    obtain ⟨q', h3, h4⟩ := key j q hq
    exact hD.1 i j p' q' h1 h3 (by rw [h2, h4]; exact hpq)
  · obtain ⟨q', h1, h2⟩ := key i q hq
    rw [← h2]; exact hD.2 i q' h1
section XW
variable {p : Program} {l : Launch} {e : Env} {R : Room} {s : State} {m : MethodId} {args : Array Value} {below : List Frame} {meth : Method} {c : Code} {H : Heap} {locs : List Loc} {cells slots : Nat} {Q : State → Prop} {pc : Nat} {ls : Array Slot} {rest st0 : List Value} {D : va_G} {ws wc wr w1 : va_W} {tyc : List (ClassId × FieldType)} {A : Nat → Prop} {a : Array Value}
theorem xw_v (hr : va_Run p l e R s m args below meth c H locs cells slots 0 0 (F0 m pc ls st0) rest (xQv D wc w1 tyc H.size a) (va_A wc H.size)) (hP : va_P D cls ws H) (hD : va_D A ws) (hS : va_S A s.heap H locs) (hA : ∀ q, s.heap.size ≤ q → A q) (isC isR : List Nat) (hC : isC.map (fun i => ws[i]?) = wc.map some) (hR : isR.map (fun i => ws[i]?) = wr.map some) (hn : va_nd isR = true) (hdis : ∀ i ∈ isR, i ∉ isC)
    (kk : ∀ (H1 : Heap) (locs1 : List Loc), va_P D cls (wr ++ w1) H1 → va_D A (wr ++ w1) → va_S A s.heap H1 locs1 → W p l e R s m args below meth c H1 locs1 cells slots Q (F0 m (pc + 3) ls rest)) : W p l e R s m args below meth c H locs cells slots Q (F0 m pc ls st0) := by
  have hFc := va_free (wc := wc) hD hS hA isC hC
  refine va_callv hr hS (fun q _ h => hFc q h) hFc (fun u t H1 locs1 ht hvm hw hB hz1 hk1 hS1 => ?_)
  obtain ⟨hP1, hK1, hD1⟩ := hB
  rw [ht] at hP1
  obtain ⟨hP2, hD2⟩ := va_join hP hD isC isR hC hR hn hdis hk1 hFc hP1 hD1
  exact kk H1 locs1 hP2 hD2 hS1
theorem xw_i {r : Int32} (hr : va_Run p l e R s m args below meth c H locs cells slots 0 0 (F0 m pc ls st0) rest (xQi D wc w1 tyc H.size r a) (va_A wc H.size)) (hP : va_P D cls ws H) (hD : va_D A ws) (hS : va_S A s.heap H locs) (hA : ∀ q, s.heap.size ≤ q → A q) (isC isR : List Nat) (hC : isC.map (fun i => ws[i]?) = wc.map some) (hR : isR.map (fun i => ws[i]?) = wr.map some) (hn : va_nd isR = true) (hdis : ∀ i ∈ isR, i ∉ isC)
    (kk : ∀ (H1 : Heap) (locs1 : List Loc), va_P D cls (wr ++ w1) H1 → va_D A (wr ++ w1) → va_S A s.heap H1 locs1 → W p l e R s m args below meth c H1 locs1 cells slots Q (F0 m (pc + 3) ls (.int r :: rest))) : W p l e R s m args below meth c H locs cells slots Q (F0 m pc ls st0) := by
  have hFc := va_free (wc := wc) hD hS hA isC hC
  refine va_calli hr hS (fun q _ h => hFc q h) hFc (fun r' u t H1 locs1 ht hvm hw hB hz1 hk1 hS1 => ?_)
  obtain ⟨hP1, hK1, hD1⟩ := hB
  rw [ht] at hP1
  obtain ⟨hP2, hD2⟩ := va_join hP hD isC isR hC hR hn hdis hk1 hFc hP1 hD1
  rw [hw]
  exact kk H1 locs1 hP2 hD2 hS1
end XW
end
section
theorem d_Ar_fill_0 : decode c_Ar_fill 0 = .ok (.iconst 0, 1) := by decide +kernel
theorem d_Ar_fill_1 : decode c_Ar_fill 1 = .ok (.istore_n 2, 1) := by decide +kernel
theorem d_Ar_fill_2 : decode c_Ar_fill 2 = .ok (.aload_n 0, 1) := by decide +kernel
theorem d_Ar_fill_3 : decode c_Ar_fill 3 = .ok (.arraylength, 1) := by decide +kernel
theorem d_Ar_fill_4 : decode c_Ar_fill 4 = .ok (.istore_n 3, 1) := by decide +kernel
theorem d_Ar_fill_5 : decode c_Ar_fill 5 = .ok (.iload_n 2, 1) := by decide +kernel
theorem d_Ar_fill_6 : decode c_Ar_fill 6 = .ok (.iload_n 3, 1) := by decide +kernel
theorem d_Ar_fill_7 : decode c_Ar_fill 7 = .ok (.if_icmp .ge 13, 3) := by decide +kernel
theorem d_Ar_fill_10 : decode c_Ar_fill 10 = .ok (.aload_n 0, 1) := by decide +kernel
theorem d_Ar_fill_11 : decode c_Ar_fill 11 = .ok (.iload_n 2, 1) := by decide +kernel
theorem d_Ar_fill_12 : decode c_Ar_fill 12 = .ok (.iload_n 1, 1) := by decide +kernel
theorem d_Ar_fill_13 : decode c_Ar_fill 13 = .ok (.iastore, 1) := by decide +kernel
theorem d_Ar_fill_14 : decode c_Ar_fill 14 = .ok (.iinc 2 1, 3) := by decide +kernel
theorem d_Ar_fill_17 : decode c_Ar_fill 17 = .ok (.goto (-12), 3) := by decide +kernel
theorem d_Ar_fill_20 : decode c_Ar_fill 20 = .ok (.return_, 1) := by decide +kernel
end
section
theorem upd_lt {f : Nat → Int32} {x : Int32} {u : Nat} : upd (fun k => if k < u then x else f k) u x = fun k => if k < u + 1 then x else f k := by
  funext k
  by_cases h : k = u
  · subst h; rw [pk_us, if_pos (by omega)]
  · rw [pk_un h]
    by_cases h2 : k < u
    · rw [if_pos h2, if_pos (by omega)]
    · rw [if_neg h2, if_neg (by omega)]
theorem upd_ltf {f g : Nat → Int32} {x : Int32} {u : Nat} (hx : x = g u) : upd (fun k => if k < u then g k else f k) u x = fun k => if k < u + 1 then g k else f k := by
  funext k
  by_cases h : k = u
  · subst h; rw [pk_us, if_pos (by omega), hx]
  · rw [pk_un h]
    by_cases h2 : k < u
    · rw [if_pos h2, if_pos (by omega)]
    · rw [if_neg h2, if_neg (by omega)]
end
section
set_option maxHeartbeats 4000000 in
set_option maxRecDepth 100000 in
theorem k_A_has (l : Launch) (D : va_G) (x : Int32) (n : Nat) (hn : n < 32) : Met l y_A_has (Cond.code y_A_has c_A_has 2 (some .boolean) :: BS) { frames := 0, cells := 0, slots := 0, locals := 0 } (va_Pc [.int x, .int (nI n)] (xR D [] [])) (QcRead (b2i (bt x n))) 0 0 (fun _ => False) := by
  refine Met.ofW (cc := c_A_has) (maxL := 2) (ret := (some .boolean)) (by decide) rfl ?_
  intro p e s m args below meth c s₁ B hml hv
  obtain ⟨rfl, hP, hK, hN⟩ := hv
  have hx := B.exec
  have hb := B.bytes
  have hr := B.returns
  have hB := xB B.pre
  have hown : s.vm.findClass R_A = some m.cls := findClass_of_methodNamed B.named
  have hlocks := B.notSynchronized
  have hl := lv_entry ([.int x, .int (nI n)]) (n := 2) (Nat.le_of_ble_eq_true rfl)
  rw [lg_entry_eq]
  generalize (lg_sl ([.int x, .int (nI n)]) ++ List.replicate (2 - (lg_sl ([.int x, .int (nI n)])).length) Slot.unset).toArray = ls at hl ⊢
  have hl : lv_has ls 2 [(0, .int x), (1, .int (nI n))] := hl
  refine lv_iload_n hx hb d_A_has_0 rfl (lv_at hl 0 rfl) ?_
  refine lv_iload_n hx hb d_A_has_1 rfl (lv_at hl 1 rfl) ?_
  refine lv_iushr hx hb d_A_has_2 rfl ?_
  refine lv_iconst (v := nI 1) hx hb d_A_has_3 (by decide) ?_
  refine lv_iand hx hb d_A_has_4 ?_
  refine lv_if_eq (tgt := 12) hx hb d_A_has_5 rfl (fun hc5 => ?_) (fun hc5 => ?_)
  · have hc5 : bt x n = false := (has_u hn).mp hc5
    refine lv_iconst (v := nI 0) hx hb d_A_has_12 (by decide) ?_
    refine xv_top (x' := b2i (bt x n)) (by rw [hc5]; rfl) ?_
    exact W.zret (v := b2i (bt x n)) hx hb hr (b2i_nar _) (fun t ht hW => ⟨rfl, ht⟩) (fun _ h => by cases h) d_A_has_13
  · have hc5 : bt x n = true := by cases hq : bt x n with | true => rfl | false => exact absurd ((has_u hn).mpr hq) hc5
    refine lv_iconst (v := nI 1) hx hb d_A_has_8 (by decide) ?_
    refine lv_goto (tgt := 13) hx hb d_A_has_9 rfl ?_
    refine xv_top (x' := b2i (bt x n)) (by rw [hc5]; rfl) ?_
    exact W.zret (v := b2i (bt x n)) hx hb hr (b2i_nar _) (fun t ht hW => ⟨rfl, ht⟩) (fun _ h => by cases h) d_A_has_13
set_option maxHeartbeats 4000000 in
set_option maxRecDepth 100000 in
theorem k_A_only (l : Launch) (D : va_G) (n : Nat) : Met l y_A_only (Cond.code y_A_only c_A_only 1 (some .int) :: BS) { frames := 0, cells := 0, slots := 0, locals := 0 } (va_Pc [.int (nI n)] (xR D [] [])) (QcRead (bit n)) 0 0 (fun _ => False) := by
  refine Met.ofW (cc := c_A_only) (maxL := 1) (ret := (some .int)) (by decide) rfl ?_
  intro p e s m args below meth c s₁ B hml hv
  obtain ⟨rfl, hP, hK, hN⟩ := hv
  have hx := B.exec
  have hb := B.bytes
  have hr := B.returns
  have hB := xB B.pre
  have hown : s.vm.findClass R_A = some m.cls := findClass_of_methodNamed B.named
  have hlocks := B.notSynchronized
  have hl := lv_entry ([.int (nI n)]) (n := 1) (Nat.le_of_ble_eq_true rfl)
  rw [lg_entry_eq]
  generalize (lg_sl ([.int (nI n)]) ++ List.replicate (1 - (lg_sl ([.int (nI n)])).length) Slot.unset).toArray = ls at hl ⊢
  have hl : lv_has ls 1 [(0, .int (nI n))] := hl
  refine lv_iconst (v := nI 1) hx hb d_A_only_0 (by decide) ?_
  refine lv_iload_n hx hb d_A_only_1 rfl (lv_at hl 0 rfl) ?_
  refine lv_ishl hx hb d_A_only_2 ?_
  refine xv_top (x' := bit n) (rfl) ?_
  exact W.iret (v := bit n) hx hb hr (fun t ht hW => ⟨rfl, ht⟩) (fun _ h => by cases h) d_A_only_3
set_option maxHeartbeats 4000000 in
set_option maxRecDepth 100000 in
theorem k_Web_count (l : Launch) (D : va_G) (w hd : Nat) (cA : ClassId) (ct : Int32) (h : Nat → Int32)  : Met l y_Web_count (Cond.code y_Web_count c_Web_count 1 (some .int) :: BS) { frames := 0, cells := 0, slots := 0, locals := 0 } (va_Pc [.ref w] (xR D [(w, .inr (1, [.ref hd, .int ct])), (hd, .inl (cA, 16, .inl h))] [(cA, .int)])) (QcRead (ct)) 0 0 (fun _ => False) := by
  refine Met.ofW (cc := c_Web_count) (maxL := 1) (ret := (some .int)) (by decide) rfl ?_
  intro p e s m args below meth c s₁ B hml hv
  obtain ⟨rfl, hP, hK, hN⟩ := hv
  have hx := B.exec
  have hb := B.bytes
  have hr := B.returns
  have hB := xB B.pre
  have hown : s.vm.findClass R_Web = some m.cls := findClass_of_methodNamed B.named
  have hlocks := B.notSynchronized
  have hl := lv_entry ([.ref w]) (n := 1) (Nat.le_of_ble_eq_true rfl)
  rw [lg_entry_eq]
  generalize (lg_sl ([.ref w]) ++ List.replicate (1 - (lg_sl ([.ref w])).length) Slot.unset).toArray = ls at hl ⊢
  have hl : lv_has ls 1 [(0, .ref w)] := hl
  refine lv_aload_n hx hb d_Web_count_0 rfl (lv_at hl 0 rfl) ?_
  refine va_get (D := D) (ci := 1) (v := .int ct) (C := R_Web) (T := F_Web) (N := 2) hx hb hB in_Web hown hK hP 0 rfl rfl 1 (by decide) (hB _ mf_Web_15) (fun _ h9 => h9) rfl d_Web_count_1 ?_
  exact W.iret (v := ct) hx hb hr (fun t ht hW => ⟨rfl, ht⟩) (fun _ h => by cases h) d_Web_count_4
set_option maxHeartbeats 4000000 in
set_option maxRecDepth 100000 in
theorem k_Web_headsOf (l : Launch) (D : va_G) (w hd : Nat) (cA : ClassId) (ct : Int32) (h : Nat → Int32) (u : Nat) (hu : u < 16) : Met l y_Web_headsOf (Cond.code y_Web_headsOf c_Web_headsOf 2 (some .int) :: BS) { frames := 0, cells := 0, slots := 0, locals := 0 } (va_Pc [.ref w, .int (nI u)] (xR D [(w, .inr (1, [.ref hd, .int ct])), (hd, .inl (cA, 16, .inl h))] [(cA, .int)])) (QcRead (h u)) 0 0 (fun _ => False) := by
  refine Met.ofW (cc := c_Web_headsOf) (maxL := 2) (ret := (some .int)) (by decide) rfl ?_
  intro p e s m args below meth c s₁ B hml hv
  obtain ⟨rfl, hP, hK, hN⟩ := hv
  have hx := B.exec
  have hb := B.bytes
  have hr := B.returns
  have hB := xB B.pre
  have hown : s.vm.findClass R_Web = some m.cls := findClass_of_methodNamed B.named
  have hlocks := B.notSynchronized
  have hl := lv_entry ([.ref w, .int (nI u)]) (n := 2) (Nat.le_of_ble_eq_true rfl)
  rw [lg_entry_eq]
  generalize (lg_sl ([.ref w, .int (nI u)]) ++ List.replicate (2 - (lg_sl ([.ref w, .int (nI u)])).length) Slot.unset).toArray = ls at hl ⊢
  have hl : lv_has ls 2 [(0, .ref w), (1, .int (nI u))] := hl
  refine lv_aload_n hx hb d_Web_headsOf_0 rfl (lv_at hl 0 rfl) ?_
  refine va_get (D := D) (ci := 1) (v := .ref hd) (C := R_Web) (T := F_Web) (N := 2) hx hb hB in_Web hown hK hP 0 rfl rfl 0 (by decide) (hB _ mf_Web_9) (fun _ h9 => h9) rfl d_Web_headsOf_1 ?_
  refine lv_iload_n hx hb d_Web_headsOf_4 rfl (lv_at hl 1 rfl) ?_
  refine xa_ld (u := u) hx hb hK hP 1 0 rfl rfl (by omega) (by decide) d_Web_headsOf_5 ?_
  exact W.iret (v := h u) hx hb hr (fun t ht hW => ⟨rfl, ht⟩) (fun _ h => by cases h) d_Web_headsOf_6
set_option maxHeartbeats 4000000 in
set_option maxRecDepth 100000 in
theorem k_Web_holds (l : Launch) (D : va_G) (w hd : Nat) (cA : ClassId) (ct : Int32) (h : Nat → Int32) (u v : Nat) (hu : u < 16) (hv : v < 16) : Met l y_Web_holds (Cond.code y_Web_holds c_Web_holds 3 (some .boolean) :: BS) { frames := 1, cells := 0, slots := 0, locals := 21 } (va_Pc [.ref w, .int (nI u), .int (nI v)] (xR D [(w, .inr (1, [.ref hd, .int ct])), (hd, .inl (cA, 16, .inl h))] [(cA, .int)])) (QcRead (b2i (bt (h u) v))) 0 0 (fun _ => False) := by
  refine Met.ofW (cc := c_Web_holds) (maxL := 3) (ret := (some .boolean)) (by decide) rfl ?_
  intro p e s m args below meth c s₁ B hml hv
  obtain ⟨rfl, hP, hK, hN⟩ := hv
  have hx := B.exec
  have hb := B.bytes
  have hr := B.returns
  have hB := xB B.pre
  have hown : s.vm.findClass R_Web = some m.cls := findClass_of_methodNamed B.named
  have hlocks := B.notSynchronized
  have hl := lv_entry ([.ref w, .int (nI u), .int (nI v)]) (n := 3) (Nat.le_of_ble_eq_true rfl)
  rw [lg_entry_eq]
  generalize (lg_sl ([.ref w, .int (nI u), .int (nI v)]) ++ List.replicate (3 - (lg_sl ([.ref w, .int (nI u), .int (nI v)])).length) Slot.unset).toArray = ls at hl ⊢
  have hl : lv_has ls 3 [(0, .ref w), (1, .int (nI u)), (2, .int (nI v))] := hl
  refine lv_aload_n hx hb d_Web_holds_0 rfl (lv_at hl 0 rfl) ?_
  refine va_get (D := D) (ci := 1) (v := .ref hd) (C := R_Web) (T := F_Web) (N := 2) hx hb hB in_Web hown hK hP 0 rfl rfl 0 (by decide) (hB _ mf_Web_9) (fun _ h9 => h9) rfl d_Web_holds_1 ?_
  refine lv_iload_n hx hb d_Web_holds_4 rfl (lv_at hl 1 rfl) ?_
  refine xa_ld (u := u) hx hb hK hP 1 0 rfl rfl (by omega) (by decide) d_Web_holds_5 ?_
  refine lv_iload_n hx hb d_Web_holds_6 rfl (lv_at hl 2 rfl) ?_
  refine xr_cal (va_runSN (As := [.int (h u), .int (nI v)]) (rest := []) ⟨hx, hb, hml, hown, hB⟩ (k_A_has l D (h u) v (by omega)) ⟨va_cnB 2 hB (xg0 mc_A_has) rfl rfl rfl (xn_Web_19 hN) (hB _ mz_A) (by decide +kernel) ⟨Nat.le_of_ble_eq_true rfl, Nat.le_of_ble_eq_true rfl⟩, hB _ ms_A_has, trivial⟩ (xpS (ws := []) (tys := []) (hP.sub [] rfl) (hK.sub [] rfl) hN) rfl rfl hl.1 rfl (lv_room (Nat.le_of_ble_eq_true rfl)) d_Web_holds_7 ⟨Nat.le_of_ble_eq_true rfl, Nat.le_of_ble_eq_true rfl⟩) ?_
  exact W.zret (v := b2i (bt (h u) v)) hx hb hr (b2i_nar _) (fun t ht hW => ⟨rfl, ht⟩) (fun _ h => by cases h) d_Web_holds_10
set_option maxHeartbeats 4000000 in
set_option maxRecDepth 100000 in
theorem k_Web_headsOfAll (l : Launch) (D : va_G) (w hd : Nat) (cA : ClassId) (ct : Int32) (h : Nat → Int32) (t : Int32) : Met l y_Web_headsOfAll (Cond.code y_Web_headsOfAll c_Web_headsOfAll 4 (some .int) :: BS) { frames := 1, cells := 0, slots := 0, locals := 21 } (va_Pc [.ref w, .int t] (xR D [(w, .inr (1, [.ref hd, .int ct])), (hd, .inl (cA, 16, .inl h))] [(cA, .int)])) (QcRead (un h t 16)) 0 0 (fun _ => False) := by
  refine Met.ofW (cc := c_Web_headsOfAll) (maxL := 4) (ret := (some .int)) (by decide) rfl ?_
  intro p e s m args below meth c s₁ B hml hv
  obtain ⟨rfl, hP, hK, hN⟩ := hv
  have hx := B.exec
  have hb := B.bytes
  have hr := B.returns
  have hB := xB B.pre
  have hown : s.vm.findClass R_Web = some m.cls := findClass_of_methodNamed B.named
  have hlocks := B.notSynchronized
  have hl := lv_entry ([.ref w, .int t]) (n := 4) (Nat.le_of_ble_eq_true rfl)
  rw [lg_entry_eq]
  generalize (lg_sl ([.ref w, .int t]) ++ List.replicate (4 - (lg_sl ([.ref w, .int t])).length) Slot.unset).toArray = ls at hl ⊢
  have hl : lv_has ls 4 [(0, .ref w), (1, .int t)] := hl
  refine lv_iconst (v := nI 0) hx hb d_Web_headsOfAll_0 (by decide) ?_
  refine lv_istore_n hx hb d_Web_headsOfAll_1 rfl hl (by decide) rfl (fun ls hl => ?_)
  have hl : lv_has ls 4 [(2, .int (nI 0)), (0, .ref w), (1, .int t)] := hl
  refine lv_iconst (v := nI 0) hx hb d_Web_headsOfAll_2 (by decide) ?_
  refine lv_istore_n hx hb d_Web_headsOfAll_3 rfl hl (by decide) rfl (fun ls hl => ?_)
  have hl : lv_has ls 4 [(3, .int (nI 0)), (2, .int (nI 0)), (0, .ref w), (1, .int t)] := hl
  refine xl_r (fun (u : Nat) ls => (u ≤ 16) ∧ lv_has ls 4 [(3, .int (nI u)), (2, .int (un h t u)), (0, .ref w), (1, .int t)]) (fun u => 16 - u) (fun u ls hI ih4 => ?_) 0 _ ⟨Nat.zero_le _, hl⟩
  obtain ⟨hI, hl⟩ := hI
  have hu_u := hI
  refine lv_iload_n hx hb d_Web_headsOfAll_4 rfl (lv_at hl 0 rfl) ?_
  refine lv_bipush (v := nI 16) hx hb d_Web_headsOfAll_5 (by decide) ?_
  refine lv_icmp_ge (tgt := 33) hx hb d_Web_headsOfAll_7 rfl (fun hc7 => ?_) (fun hc7 => ?_)
  · have hc7 : 16 ≤ u := (nI_leI (by omega) (by omega)).mp hc7
    refine lv_iload_n hx hb d_Web_headsOfAll_33 rfl (lv_at hl 1 rfl) ?_
    refine xv_top (x' := un h t 16) (by rw [show u = 16 by omega]) ?_
    exact W.iret (v := un h t 16) hx hb hr (fun t ht hW => ⟨rfl, ht⟩) (fun _ h => by cases h) d_Web_headsOfAll_34
  · have hc7 : ¬ (16 ≤ u) := fun q9 => hc7 ((nI_leI (by omega) (by omega)).mpr q9)
    refine lv_iload_n hx hb d_Web_headsOfAll_10 rfl (lv_at hl 3 rfl) ?_
    refine lv_iload_n hx hb d_Web_headsOfAll_11 rfl (lv_at hl 0 rfl) ?_
    refine xr_cal (va_runSN (As := [.int t, .int (nI u)]) (rest := []) ⟨hx, hb, hml, hown, hB⟩ (k_A_has l D t u (by omega)) ⟨va_cnB 2 hB (xg0 mc_A_has) rfl rfl rfl (xn_Web_19 hN) (hB _ mz_A) (by decide +kernel) ⟨Nat.le_of_ble_eq_true rfl, Nat.le_of_ble_eq_true rfl⟩, hB _ ms_A_has, trivial⟩ (xpS (ws := []) (tys := []) (hP.sub [] rfl) (hK.sub [] rfl) hN) rfl rfl hl.1 rfl (lv_room (Nat.le_of_ble_eq_true rfl)) d_Web_headsOfAll_12 ⟨Nat.le_of_ble_eq_true rfl, Nat.le_of_ble_eq_true rfl⟩) ?_
    refine lv_if_eq (tgt := 27) hx hb d_Web_headsOfAll_15 rfl (fun hc15 => ?_) (fun hc15 => ?_)
    · have hc15 := b2i_0.mp hc15
      have hl : lv_has ls 4 [(3, .int (nI u)), (2, .int (un h t (u + 1))), (0, .ref w), (1, .int t)] := by
        have hz : un h t u = un h t (u + 1) := (if_neg (by rw [hc15]; decide)).symm
        rw [← hz]; exact hl
      refine lv_iinc hx hb d_Web_headsOfAll_27 hl (k := 0) rfl (v := nI (u + 1)) (nI_1 u) (by decide) rfl (fun ls hl => ?_)
      have hl : lv_has ls 4 [(3, .int (nI (u + 1))), (2, .int (un h t (u + 1))), (0, .ref w), (1, .int t)] := hl
      refine lv_goto (tgt := 4) hx hb d_Web_headsOfAll_30 rfl ?_
      exact ih4 (u + 1) _ ⟨by omega, lv_sub hl [0, 1, 2, 3] rfl⟩ (by omega)
    · have hc15 := b2i_n.mp hc15
      refine lv_iload_n hx hb d_Web_headsOfAll_18 rfl (lv_at hl 1 rfl) ?_
      refine lv_aload_n hx hb d_Web_headsOfAll_19 rfl (lv_at hl 2 rfl) ?_
      refine va_get (D := D) (ci := 1) (v := .ref hd) (C := R_Web) (T := F_Web) (N := 2) hx hb hB in_Web hown hK hP 0 rfl rfl 0 (by decide) (hB _ mf_Web_9) (fun _ h9 => h9) rfl d_Web_headsOfAll_20 ?_
      refine lv_iload_n hx hb d_Web_headsOfAll_23 rfl (lv_at hl 0 rfl) ?_
      refine xa_ld (u := u) hx hb hK hP 1 0 rfl rfl (by omega) (by decide) d_Web_headsOfAll_24 ?_
      refine lv_ior hx hb d_Web_headsOfAll_25 ?_
      refine lv_istore_n hx hb d_Web_headsOfAll_26 rfl hl (by decide) rfl (fun ls hl => ?_)
      have hl : lv_has ls 4 [(2, .int ((un h t u) ||| (h u))), (3, .int (nI u)), (0, .ref w), (1, .int t)] := hl
      have hl : lv_has ls 4 [(2, .int (un h t (u + 1))), (3, .int (nI u)), (0, .ref w), (1, .int t)] := by
        have hz : (un h t u) ||| (h u) = un h t (u + 1) := (if_pos hc15).symm
        rw [← hz]; exact hl
      refine lv_iinc hx hb d_Web_headsOfAll_27 hl (k := 1) rfl (v := nI (u + 1)) (nI_1 u) (by decide) rfl (fun ls hl => ?_)
      have hl : lv_has ls 4 [(3, .int (nI (u + 1))), (2, .int (un h t (u + 1))), (0, .ref w), (1, .int t)] := hl
      refine lv_goto (tgt := 4) hx hb d_Web_headsOfAll_30 rfl ?_
      exact ih4 (u + 1) _ ⟨by omega, lv_sub hl [0, 1, 2, 3] rfl⟩ (by omega)
set_option maxHeartbeats 4000000 in
set_option maxRecDepth 100000 in
theorem k_Web_spread (l : Launch) (D : va_G) (w hd : Nat) (cA : ClassId) (ct : Int32) (h : Nat → Int32) (hg : gd h) (sx cx : Int32) (hsx : m16 sx) : Met l y_Web_spread (Cond.code y_Web_spread c_Web_spread 6 (some .int) :: BS) { frames := 2, cells := 0, slots := 0, locals := 44 } (va_Pc [.ref w, .int sx, .int cx] (xR D [(w, .inr (1, [.ref hd, .int ct])), (hd, .inl (cA, 16, .inl h))] [(cA, .int)])) (QcRead (SP h sx cx)) 0 0 (fun _ => False) := by
  refine Met.ofW (cc := c_Web_spread) (maxL := 6) (ret := (some .int)) (by decide) rfl ?_
  intro p e s m args below meth c s₁ B hml hv
  obtain ⟨rfl, hP, hK, hN⟩ := hv
  have hx := B.exec
  have hb := B.bytes
  have hr := B.returns
  have hB := xB B.pre
  have hown : s.vm.findClass R_Web = some m.cls := findClass_of_methodNamed B.named
  have hlocks := B.notSynchronized
  have hl := lv_entry ([.ref w, .int sx, .int cx]) (n := 6) (Nat.le_of_ble_eq_true rfl)
  rw [lg_entry_eq]
  generalize (lg_sl ([.ref w, .int sx, .int cx]) ++ List.replicate (6 - (lg_sl ([.ref w, .int sx, .int cx])).length) Slot.unset).toArray = ls at hl ⊢
  have hl : lv_has ls 6 [(0, .ref w), (1, .int sx), (2, .int cx)] := hl
  refine lv_iload_n hx hb d_Web_spread_0 rfl (lv_at hl 1 rfl) ?_
  refine lv_iload_n hx hb d_Web_spread_1 rfl (lv_at hl 2 rfl) ?_
  refine lv_iconst (v := -1) hx hb d_Web_spread_2 (by decide) ?_
  refine lv_ixor hx hb d_Web_spread_3 ?_
  refine lv_iand hx hb d_Web_spread_4 ?_
  refine lv_istore_n hx hb d_Web_spread_5 rfl hl (by decide) rfl (fun ls hl => ?_)
  have hl : lv_has ls 6 [(3, .int (sx &&& (cx ^^^ (-1)))), (0, .ref w), (1, .int sx), (2, .int cx)] := hl
  refine lv_iconst (v := nI 1) hx hb d_Web_spread_6 (by decide) ?_
  refine lv_istore hx hb d_Web_spread_7 hl (by decide) rfl (fun ls hl => ?_)
  have hl : lv_has ls 6 [(4, .int (nI 1)), (3, .int (sx &&& (cx ^^^ (-1)))), (0, .ref w), (1, .int sx), (2, .int cx)] := hl
  refine xl_r (fun (k : Nat) ls => (k ≤ 15) ∧ lv_has ls 6 [(4, .int (nI (k + 1))), (3, .int (itr h cx k (sx &&& (cx ^^^ (-1))))), (0, .ref w), (1, .int sx), (2, .int cx)]) (fun k => 15 - k) (fun k ls hI ih9 => ?_) 0 _ ⟨Nat.zero_le _, hl⟩
  obtain ⟨hI, hl⟩ := hI
  have hk := hI
  refine lv_iload hx hb d_Web_spread_9 (lv_at hl 0 rfl) ?_
  refine lv_bipush (v := nI 16) hx hb d_Web_spread_11 (by decide) ?_
  refine lv_icmp_ge (tgt := 47) hx hb d_Web_spread_13 rfl (fun hc13 => ?_) (fun hc13 => ?_)
  · have hc13 : 16 ≤ (k + 1) := (nI_leI (by omega) (by omega)).mp hc13
    refine lv_iload_n hx hb d_Web_spread_47 rfl (lv_at hl 1 rfl) ?_
    refine xv_top (x' := SP h sx cx) (by unfold SP; first | rw [itr_at (by omega) hc32] | rw [show k = 15 by omega]) ?_
    exact W.iret (v := SP h sx cx) hx hb hr (fun t ht hW => ⟨rfl, ht⟩) (fun _ h => by cases h) d_Web_spread_48
  · have hc13 : ¬ (16 ≤ (k + 1)) := fun q9 => hc13 ((nI_leI (by omega) (by omega)).mpr q9)
    refine lv_iload_n hx hb d_Web_spread_16 rfl (lv_at hl 1 rfl) ?_
    refine lv_aload_n hx hb d_Web_spread_17 rfl (lv_at hl 2 rfl) ?_
    refine lv_iload_n hx hb d_Web_spread_18 rfl (lv_at hl 1 rfl) ?_
    refine xr_cal (va_runV (As := [.int (itr h cx k (sx &&& (cx ^^^ (-1))))]) (rest := [.int (itr h cx k (sx &&& (cx ^^^ (-1))))]) ⟨hx, hb, hml, hown, hB⟩ (k_Web_headsOfAll l D w hd cA ct h (itr h cx k (sx &&& (cx ^^^ (-1))))) ⟨callB_of 1 hB (xg0 mc_Web_headsOfAll) rfl rfl rfl (hB _ mz_Web) (hB _ ml_Web_33) (by decide +kernel) ⟨Nat.le_of_ble_eq_true rfl, Nat.le_of_ble_eq_true rfl⟩, hB _ mi_Web_headsOfAll, hB _ me_Web_headsOfAll⟩ (xpV (ws := [(w, .inr (1, [.ref hd, .int ct])), (hd, .inl (cA, 16, .inl h))]) (tys := [(cA, .int)]) (hP.sub [0, 1] rfl) (hK.sub [0] rfl) hN (va_recv (ci := 1) (q0 := 0) (q := (R_Web, F_Web, 2)) hK hP rfl rfl)) rfl rfl hl.1 rfl (lv_room (Nat.le_of_ble_eq_true rfl)) d_Web_spread_19 ⟨Nat.le_of_ble_eq_true rfl, Nat.le_of_ble_eq_true rfl⟩) ?_
    refine lv_iload_n hx hb d_Web_spread_22 rfl (lv_at hl 4 rfl) ?_
    refine lv_iconst (v := -1) hx hb d_Web_spread_23 (by decide) ?_
    refine lv_ixor hx hb d_Web_spread_24 ?_
    refine lv_iand hx hb d_Web_spread_25 ?_
    refine lv_ior hx hb d_Web_spread_26 ?_
    refine lv_istore hx hb d_Web_spread_27 hl (by decide) rfl (fun ls hl => ?_)
    have hl : lv_has ls 6 [(5, .int ((itr h cx k (sx &&& (cx ^^^ (-1)))) ||| ((un h (itr h cx k (sx &&& (cx ^^^ (-1)))) 16) &&& (cx ^^^ (-1))))), (4, .int (nI (k + 1))), (3, .int (itr h cx k (sx &&& (cx ^^^ (-1))))), (0, .ref w), (1, .int sx), (2, .int cx)] := hl
    have hl : lv_has ls 6 [(5, .int (stp h cx (itr h cx k (sx &&& (cx ^^^ (-1)))))), (4, .int (nI (k + 1))), (3, .int (itr h cx k (sx &&& (cx ^^^ (-1))))), (0, .ref w), (1, .int sx), (2, .int cx)] := by
      have hz : (itr h cx k (sx &&& (cx ^^^ (-1)))) ||| ((un h (itr h cx k (sx &&& (cx ^^^ (-1)))) 16) &&& (cx ^^^ (-1))) = stp h cx (itr h cx k (sx &&& (cx ^^^ (-1)))) := rfl
      rw [← hz]; exact hl
    refine lv_iload hx hb d_Web_spread_29 (lv_at hl 0 rfl) ?_
    refine lv_iload_n hx hb d_Web_spread_31 rfl (lv_at hl 2 rfl) ?_
    refine lv_icmp_ne (tgt := 38) hx hb d_Web_spread_32 rfl (fun hc32 => ?_) (fun hc32 => ?_)
    · refine lv_iload hx hb d_Web_spread_38 (lv_at hl 0 rfl) ?_
      refine lv_istore_n hx hb d_Web_spread_40 rfl hl (by decide) rfl (fun ls hl => ?_)
      have hl : lv_has ls 6 [(3, .int (stp h cx (itr h cx k (sx &&& (cx ^^^ (-1)))))), (5, .int (stp h cx (itr h cx k (sx &&& (cx ^^^ (-1)))))), (4, .int (nI (k + 1))), (0, .ref w), (1, .int sx), (2, .int cx)] := hl
      have hl : lv_has ls 6 [(3, .int (itr h cx (k + 1) (sx &&& (cx ^^^ (-1))))), (5, .int (stp h cx (itr h cx k (sx &&& (cx ^^^ (-1)))))), (4, .int (nI (k + 1))), (0, .ref w), (1, .int sx), (2, .int cx)] := by
        have hz : stp h cx (itr h cx k (sx &&& (cx ^^^ (-1)))) = itr h cx (k + 1) (sx &&& (cx ^^^ (-1))) := rfl
        rw [← hz]; exact hl
      refine lv_iinc hx hb d_Web_spread_41 hl (k := 2) rfl (v := nI ((k + 1) + 1)) (nI_1 (k + 1)) (by decide) rfl (fun ls hl => ?_)
      have hl : lv_has ls 6 [(4, .int (nI ((k + 1) + 1))), (3, .int (itr h cx (k + 1) (sx &&& (cx ^^^ (-1))))), (5, .int (stp h cx (itr h cx k (sx &&& (cx ^^^ (-1)))))), (0, .ref w), (1, .int sx), (2, .int cx)] := hl
      refine lv_goto (tgt := 9) hx hb d_Web_spread_44 rfl ?_
      exact ih9 (k + 1) _ ⟨by omega, lv_sub hl [0, 1, 3, 4, 5] rfl⟩ (by omega)
    · refine lv_goto (tgt := 47) hx hb d_Web_spread_35 rfl ?_
      refine lv_iload_n hx hb d_Web_spread_47 rfl (lv_at hl 2 rfl) ?_
      refine xv_top (x' := SP h sx cx) (by unfold SP; first | rw [itr_at (by omega) hc32] | rw [show k = 15 by omega]) ?_
      exact W.iret (v := SP h sx cx) hx hb hr (fun t ht hW => ⟨rfl, ht⟩) (fun _ h => by cases h) d_Web_spread_48
end
section
set_option maxHeartbeats 4000000 in
set_option maxRecDepth 100000 in
theorem k_Wy_least (l : Launch) (D : va_G) (x : Int32) : Met l y_Wy_least (Cond.code y_Wy_least c_Wy_least 2 (some .int) :: BS) { frames := 1, cells := 0, slots := 0, locals := 21 } (va_Pc [.int x] (xR D [] [])) (QcRead (nI (first (fun i => bt x i) 0 16))) 0 0 (fun _ => False) := by
  refine Met.ofW (cc := c_Wy_least) (maxL := 2) (ret := (some .int)) (by decide) rfl ?_
  intro p e s m args below meth c s₁ B hml hv
  obtain ⟨rfl, hP, hK, hN⟩ := hv
  have hx := B.exec
  have hb := B.bytes
  have hr := B.returns
  have hB := xB B.pre
  have hown : s.vm.findClass R_Wy = some m.cls := findClass_of_methodNamed B.named
  have hlocks := B.notSynchronized
  have hl := lv_entry ([.int x]) (n := 2) (Nat.le_of_ble_eq_true rfl)
  rw [lg_entry_eq]
  generalize (lg_sl ([.int x]) ++ List.replicate (2 - (lg_sl ([.int x])).length) Slot.unset).toArray = ls at hl ⊢
  have hl : lv_has ls 2 [(0, .int x)] := hl
  refine lv_iconst (v := nI 0) hx hb d_Wy_least_0 (by decide) ?_
  refine lv_istore_n hx hb d_Wy_least_1 rfl hl (by decide) rfl (fun ls hl => ?_)
  have hl : lv_has ls 2 [(1, .int (nI 0)), (0, .int x)] := hl
  refine xl_r (fun (i : Nat) ls => (i ≤ 16 ∧ ∀ k9, k9 < i → (fun i => bt x i) k9 = false) ∧ lv_has ls 2 [(1, .int (nI i)), (0, .int x)]) (fun i => 16 - i) (fun i ls hI ih2 => ?_) 0 _ ⟨⟨Nat.zero_le _, lt_0⟩, hl⟩
  obtain ⟨hI, hl⟩ := hI
  obtain ⟨hu_i, hm⟩ := hI
  refine lv_iload_n hx hb d_Wy_least_2 rfl (lv_at hl 0 rfl) ?_
  refine lv_bipush (v := nI 16) hx hb d_Wy_least_3 (by decide) ?_
  refine lv_icmp_ge (tgt := 24) hx hb d_Wy_least_5 rfl (fun hc5 => ?_) (fun hc5 => ?_)
  · have hc5 : 16 ≤ i := (nI_leI (by omega) (by omega)).mp hc5
    refine lv_iconst (v := nI 0) hx hb d_Wy_least_24 (by decide) ?_
    refine xv_top (x' := nI (first (fun i => bt x i) 0 16)) (by first | rw [first_eq (p := (fun i => bt x i)) hc13 (by omega) hm] | rw [first_none (p := (fun i => bt x i)) (fun k9 hk9 => hm k9 (by omega))]) ?_
    exact W.iret (v := nI (first (fun i => bt x i) 0 16)) hx hb hr (fun t ht hW => ⟨rfl, ht⟩) (fun _ h => by cases h) d_Wy_least_25
  · have hc5 : ¬ (16 ≤ i) := fun q9 => hc5 ((nI_leI (by omega) (by omega)).mpr q9)
    refine lv_iload_n hx hb d_Wy_least_8 rfl (lv_at hl 1 rfl) ?_
    refine lv_iload_n hx hb d_Wy_least_9 rfl (lv_at hl 0 rfl) ?_
    refine xr_cal (va_runSN (As := [.int x, .int (nI i)]) (rest := []) ⟨hx, hb, hml, hown, hB⟩ (k_A_has l D x i (by omega)) ⟨va_cnB 2 hB (xg0 mc_A_has) rfl rfl rfl (xn_Wy_23 hN) (hB _ mz_A) (by decide +kernel) ⟨Nat.le_of_ble_eq_true rfl, Nat.le_of_ble_eq_true rfl⟩, hB _ ms_A_has, trivial⟩ (xpS (ws := []) (tys := []) (hP.sub [] rfl) (hK.sub [] rfl) hN) rfl rfl hl.1 rfl (lv_room (Nat.le_of_ble_eq_true rfl)) d_Wy_least_10 ⟨Nat.le_of_ble_eq_true rfl, Nat.le_of_ble_eq_true rfl⟩) ?_
    refine lv_if_eq (tgt := 18) hx hb d_Wy_least_13 rfl (fun hc13 => ?_) (fun hc13 => ?_)
    · have hc13 := b2i_0.mp hc13
      refine lv_iinc hx hb d_Wy_least_18 hl (k := 0) rfl (v := nI (i + 1)) (nI_1 i) (by decide) rfl (fun ls hl => ?_)
      have hl : lv_has ls 2 [(1, .int (nI (i + 1))), (0, .int x)] := hl
      refine lv_goto (tgt := 2) hx hb d_Wy_least_21 rfl ?_
      exact ih2 (i + 1) _ ⟨⟨by omega, lt_s hm (by exact hc13)⟩, lv_sub hl [0, 1] rfl⟩ (by omega)
    · have hc13 := b2i_n.mp hc13
      refine lv_iload_n hx hb d_Wy_least_16 rfl (lv_at hl 0 rfl) ?_
      refine xv_top (x' := nI (first (fun i => bt x i) 0 16)) (by first | rw [first_eq (p := (fun i => bt x i)) hc13 (by omega) hm] | rw [first_none (p := (fun i => bt x i)) (fun k9 hk9 => hm k9 (by omega))]) ?_
      exact W.iret (v := nI (first (fun i => bt x i) 0 16)) hx hb hr (fun t ht hW => ⟨rfl, ht⟩) (fun _ h => by cases h) d_Wy_least_17
set_option maxHeartbeats 4000000 in
set_option maxRecDepth 100000 in
theorem k_Wy_tailsInto (l : Launch) (D : va_G) (w hd : Nat) (cA : ClassId) (ct : Int32) (h : Nat → Int32) (ex : Int32) : Met l y_Wy_tailsInto (Cond.code y_Wy_tailsInto c_Wy_tailsInto 4 (some .int) :: BS) { frames := 1, cells := 0, slots := 0, locals := 21 } (va_Pc [.int ex, .ref w] (xR D [(w, .inr (1, [.ref hd, .int ct])), (hd, .inl (cA, 16, .inl h))] [(cA, .int)])) (QcRead (tl h ex 16)) 0 0 (fun _ => False) := by
  refine Met.ofW (cc := c_Wy_tailsInto) (maxL := 4) (ret := (some .int)) (by decide) rfl ?_
  intro p e s m args below meth c s₁ B hml hv
  obtain ⟨rfl, hP, hK, hN⟩ := hv
  have hx := B.exec
  have hb := B.bytes
  have hr := B.returns
  have hB := xB B.pre
  have hown : s.vm.findClass R_Wy = some m.cls := findClass_of_methodNamed B.named
  have hlocks := B.notSynchronized
  have hl := lv_entry ([.int ex, .ref w]) (n := 4) (Nat.le_of_ble_eq_true rfl)
  rw [lg_entry_eq]
  generalize (lg_sl ([.int ex, .ref w]) ++ List.replicate (4 - (lg_sl ([.int ex, .ref w])).length) Slot.unset).toArray = ls at hl ⊢
  have hl : lv_has ls 4 [(0, .int ex), (1, .ref w)] := hl
  refine lv_iconst (v := nI 0) hx hb d_Wy_tailsInto_0 (by decide) ?_
  refine lv_istore_n hx hb d_Wy_tailsInto_1 rfl hl (by decide) rfl (fun ls hl => ?_)
  have hl : lv_has ls 4 [(2, .int (nI 0)), (0, .int ex), (1, .ref w)] := hl
  refine lv_iconst (v := nI 0) hx hb d_Wy_tailsInto_2 (by decide) ?_
  refine lv_istore_n hx hb d_Wy_tailsInto_3 rfl hl (by decide) rfl (fun ls hl => ?_)
  have hl : lv_has ls 4 [(3, .int (nI 0)), (2, .int (nI 0)), (0, .int ex), (1, .ref w)] := hl
  refine xl_r (fun (u : Nat) ls => (u ≤ 16) ∧ lv_has ls 4 [(3, .int (nI u)), (2, .int (tl h ex u)), (0, .int ex), (1, .ref w)]) (fun u => 16 - u) (fun u ls hI ih4 => ?_) 0 _ ⟨Nat.zero_le _, hl⟩
  obtain ⟨hI, hl⟩ := hI
  have hu_u := hI
  refine lv_iload_n hx hb d_Wy_tailsInto_4 rfl (lv_at hl 0 rfl) ?_
  refine lv_bipush (v := nI 16) hx hb d_Wy_tailsInto_5 (by decide) ?_
  refine lv_icmp_ge (tgt := 33) hx hb d_Wy_tailsInto_7 rfl (fun hc7 => ?_) (fun hc7 => ?_)
  · have hc7 : 16 ≤ u := (nI_leI (by omega) (by omega)).mp hc7
    refine lv_iload_n hx hb d_Wy_tailsInto_33 rfl (lv_at hl 1 rfl) ?_
    refine xv_top (x' := tl h ex 16) (by rw [show u = 16 by omega]) ?_
    exact W.iret (v := tl h ex 16) hx hb hr (fun t ht hW => ⟨rfl, ht⟩) (fun _ h => by cases h) d_Wy_tailsInto_34
  · have hc7 : ¬ (16 ≤ u) := fun q9 => hc7 ((nI_leI (by omega) (by omega)).mpr q9)
    refine lv_aload_n hx hb d_Wy_tailsInto_10 rfl (lv_at hl 3 rfl) ?_
    refine lv_iload_n hx hb d_Wy_tailsInto_11 rfl (lv_at hl 0 rfl) ?_
    refine xr_cal (va_runV (As := [.int (nI u)]) (rest := []) ⟨hx, hb, hml, hown, hB⟩ (k_Web_headsOf l D w hd cA ct h u (by omega)) ⟨callB_of 1 hB (xg0 mc_Web_headsOf) rfl rfl rfl (hB _ mz_Web) (hB _ ml_Wy_27) (by decide +kernel) ⟨Nat.le_of_ble_eq_true rfl, Nat.le_of_ble_eq_true rfl⟩, hB _ mi_Web_headsOf, hB _ me_Web_headsOf⟩ (xpV (ws := [(w, .inr (1, [.ref hd, .int ct])), (hd, .inl (cA, 16, .inl h))]) (tys := [(cA, .int)]) (hP.sub [0, 1] rfl) (hK.sub [0] rfl) hN (va_recv (ci := 1) (q0 := 0) (q := (R_Web, F_Web, 2)) hK hP rfl rfl)) rfl rfl hl.1 rfl (lv_room (Nat.le_of_ble_eq_true rfl)) d_Wy_tailsInto_12 ⟨Nat.le_of_ble_eq_true rfl, Nat.le_of_ble_eq_true rfl⟩) ?_
    refine lv_iload_n hx hb d_Wy_tailsInto_15 rfl (lv_at hl 2 rfl) ?_
    refine lv_iand hx hb d_Wy_tailsInto_16 ?_
    refine lv_if_eq (tgt := 27) hx hb d_Wy_tailsInto_17 rfl (fun hc17 => ?_) (fun hc17 => ?_)
    · have hl : lv_has ls 4 [(3, .int (nI u)), (2, .int (tl h ex (u + 1))), (0, .int ex), (1, .ref w)] := by
        have hz : (tl h ex u) = tl h ex (u + 1) := (if_pos hc17).symm
        rw [← hz]; exact hl
      refine lv_iinc hx hb d_Wy_tailsInto_27 hl (k := 0) rfl (v := nI (u + 1)) (nI_1 u) (by decide) rfl (fun ls hl => ?_)
      have hl : lv_has ls 4 [(3, .int (nI (u + 1))), (2, .int (tl h ex (u + 1))), (0, .int ex), (1, .ref w)] := hl
      refine lv_goto (tgt := 4) hx hb d_Wy_tailsInto_30 rfl ?_
      exact ih4 (u + 1) _ ⟨by omega, lv_sub hl [0, 1, 2, 3] rfl⟩ (by omega)
    · refine lv_iload_n hx hb d_Wy_tailsInto_20 rfl (lv_at hl 1 rfl) ?_
      refine lv_iload_n hx hb d_Wy_tailsInto_21 rfl (lv_at hl 0 rfl) ?_
      refine xr_cal (va_runSN (As := [.int (nI u)]) (rest := [.int (tl h ex u)]) ⟨hx, hb, hml, hown, hB⟩ (k_A_only l D u) ⟨va_cnB 1 hB (xg0 mc_A_only) rfl rfl rfl (xn_Wy_15 hN) (hB _ mz_A) (by decide +kernel) ⟨Nat.le_of_ble_eq_true rfl, Nat.le_of_ble_eq_true rfl⟩, hB _ ms_A_only, trivial⟩ (xpS (ws := []) (tys := []) (hP.sub [] rfl) (hK.sub [] rfl) hN) rfl rfl hl.1 rfl (lv_room (Nat.le_of_ble_eq_true rfl)) d_Wy_tailsInto_22 ⟨Nat.le_of_ble_eq_true rfl, Nat.le_of_ble_eq_true rfl⟩) ?_
      refine lv_ior hx hb d_Wy_tailsInto_25 ?_
      refine lv_istore_n hx hb d_Wy_tailsInto_26 rfl hl (by decide) rfl (fun ls hl => ?_)
      have hl : lv_has ls 4 [(2, .int ((tl h ex u) ||| (bit u))), (3, .int (nI u)), (0, .int ex), (1, .ref w)] := hl
      have hl : lv_has ls 4 [(2, .int (tl h ex (u + 1))), (3, .int (nI u)), (0, .int ex), (1, .ref w)] := by
        have hz : ((tl h ex u) ||| (bit u)) = tl h ex (u + 1) := (if_neg hc17).symm
        rw [← hz]; exact hl
      refine lv_iinc hx hb d_Wy_tailsInto_27 hl (k := 1) rfl (v := nI (u + 1)) (nI_1 u) (by decide) rfl (fun ls hl => ?_)
      have hl : lv_has ls 4 [(3, .int (nI (u + 1))), (2, .int (tl h ex (u + 1))), (0, .int ex), (1, .ref w)] := hl
      refine lv_goto (tgt := 4) hx hb d_Wy_tailsInto_30 rfl ?_
      exact ih4 (u + 1) _ ⟨by omega, lv_sub hl [0, 1, 2, 3] rfl⟩ (by omega)
set_option maxHeartbeats 4000000 in
set_option maxRecDepth 100000 in
theorem k_Wy_lengthFrom (l : Launch) (D : va_G) (yw la : Nat) (cL : ClassId) (lf : Nat → Int32) (ux : Nat) (hux : ux < 32) : Met l y_Wy_lengthFrom (Cond.code y_Wy_lengthFrom c_Wy_lengthFrom 3 (some .int) :: BS) { frames := 1, cells := 0, slots := 0, locals := 21 } (va_Pc [.ref yw, .int (nI ux)] (xR D [(yw, .inr (3, [.ref la])), (la, .inl (cL, 16, .inl lf))] [(cL, .int)])) (QcRead (lenF lf ux)) 0 0 (fun _ => False) := by
  refine Met.ofW (cc := c_Wy_lengthFrom) (maxL := 3) (ret := (some .int)) (by decide) rfl ?_
  intro p e s m args below meth c s₁ B hml hv
  obtain ⟨rfl, hP, hK, hN⟩ := hv
  have hx := B.exec
  have hb := B.bytes
  have hr := B.returns
  have hB := xB B.pre
  have hown : s.vm.findClass R_Wy = some m.cls := findClass_of_methodNamed B.named
  have hlocks := B.notSynchronized
  have hl := lv_entry ([.ref yw, .int (nI ux)]) (n := 3) (Nat.le_of_ble_eq_true rfl)
  rw [lg_entry_eq]
  generalize (lg_sl ([.ref yw, .int (nI ux)]) ++ List.replicate (3 - (lg_sl ([.ref yw, .int (nI ux)])).length) Slot.unset).toArray = ls at hl ⊢
  have hl : lv_has ls 3 [(0, .ref yw), (1, .int (nI ux))] := hl
  refine lv_iconst (v := nI 0) hx hb d_Wy_lengthFrom_0 (by decide) ?_
  refine lv_istore_n hx hb d_Wy_lengthFrom_1 rfl hl (by decide) rfl (fun ls hl => ?_)
  have hl : lv_has ls 3 [(2, .int (nI 0)), (0, .ref yw), (1, .int (nI ux))] := hl
  refine xl_r (fun (n : Nat) ls => (n ≤ 16 ∧ ∀ k9, k9 < n → (fun n => bt (lf n) ux) k9 = false) ∧ lv_has ls 3 [(2, .int (nI n)), (0, .ref yw), (1, .int (nI ux))]) (fun n => 16 - n) (fun n ls hI ih2 => ?_) 0 _ ⟨⟨Nat.zero_le _, lt_0⟩, hl⟩
  obtain ⟨hI, hl⟩ := hI
  obtain ⟨hu_n, hm⟩ := hI
  refine lv_iload_n hx hb d_Wy_lengthFrom_2 rfl (lv_at hl 0 rfl) ?_
  refine lv_bipush (v := nI 16) hx hb d_Wy_lengthFrom_3 (by decide) ?_
  refine lv_icmp_ge (tgt := 29) hx hb d_Wy_lengthFrom_5 rfl (fun hc5 => ?_) (fun hc5 => ?_)
  · have hc5 : 16 ≤ n := (nI_leI (by omega) (by omega)).mp hc5
    refine lv_iconst (v := -1) hx hb d_Wy_lengthFrom_29 (by decide) ?_
    refine xv_top (x' := lenF lf ux) (by unfold lenF; first | rw [first_eq (p := (fun n => bt (lf n) ux)) hc18 (by omega) hm, if_pos (by omega)] | rw [first_none (p := (fun n => bt (lf n) ux)) (fun k9 hk9 => hm k9 (by omega)), if_neg (by omega)]) ?_
    exact W.iret (v := lenF lf ux) hx hb hr (fun t ht hW => ⟨rfl, ht⟩) (fun _ h => by cases h) d_Wy_lengthFrom_30
  · have hc5 : ¬ (16 ≤ n) := fun q9 => hc5 ((nI_leI (by omega) (by omega)).mpr q9)
    refine lv_aload_n hx hb d_Wy_lengthFrom_8 rfl (lv_at hl 1 rfl) ?_
    refine va_get (D := D) (ci := 3) (v := .ref la) (C := R_Wy) (T := F_Wy) (N := 1) hx hb hB in_Wy hown hK hP 0 rfl rfl 0 (by decide) (hB _ mf_Wy_9) (fun _ h9 => h9) rfl d_Wy_lengthFrom_9 ?_
    refine lv_iload_n hx hb d_Wy_lengthFrom_12 rfl (lv_at hl 0 rfl) ?_
    refine xa_ld (u := n) hx hb hK hP 1 0 rfl rfl (by omega) (by decide) d_Wy_lengthFrom_13 ?_
    refine lv_iload_n hx hb d_Wy_lengthFrom_14 rfl (lv_at hl 2 rfl) ?_
    refine xr_cal (va_runSN (As := [.int (lf n), .int (nI ux)]) (rest := []) ⟨hx, hb, hml, hown, hB⟩ (k_A_has l D (lf n) ux (by omega)) ⟨va_cnB 2 hB (xg0 mc_A_has) rfl rfl rfl (xn_Wy_23 hN) (hB _ mz_A) (by decide +kernel) ⟨Nat.le_of_ble_eq_true rfl, Nat.le_of_ble_eq_true rfl⟩, hB _ ms_A_has, trivial⟩ (xpS (ws := []) (tys := []) (hP.sub [] rfl) (hK.sub [] rfl) hN) rfl rfl hl.1 rfl (lv_room (Nat.le_of_ble_eq_true rfl)) d_Wy_lengthFrom_15 ⟨Nat.le_of_ble_eq_true rfl, Nat.le_of_ble_eq_true rfl⟩) ?_
    refine lv_if_eq (tgt := 23) hx hb d_Wy_lengthFrom_18 rfl (fun hc18 => ?_) (fun hc18 => ?_)
    · have hc18 := b2i_0.mp hc18
      refine lv_iinc hx hb d_Wy_lengthFrom_23 hl (k := 0) rfl (v := nI (n + 1)) (nI_1 n) (by decide) rfl (fun ls hl => ?_)
      have hl : lv_has ls 3 [(2, .int (nI (n + 1))), (0, .ref yw), (1, .int (nI ux))] := hl
      refine lv_goto (tgt := 2) hx hb d_Wy_lengthFrom_26 rfl ?_
      exact ih2 (n + 1) _ ⟨⟨by omega, lt_s hm (by exact hc18)⟩, lv_sub hl [0, 1, 2] rfl⟩ (by omega)
    · have hc18 := b2i_n.mp hc18
      refine lv_iload_n hx hb d_Wy_lengthFrom_21 rfl (lv_at hl 0 rfl) ?_
      refine xv_top (x' := lenF lf ux) (by unfold lenF; first | rw [first_eq (p := (fun n => bt (lf n) ux)) hc18 (by omega) hm, if_pos (by omega)] | rw [first_none (p := (fun n => bt (lf n) ux)) (fun k9 hk9 => hm k9 (by omega)), if_neg (by omega)]) ?_
      exact W.iret (v := lenF lf ux) hx hb hr (fun t ht hW => ⟨rfl, ht⟩) (fun _ h => by cases h) d_Wy_lengthFrom_22
set_option maxHeartbeats 4000000 in
set_option maxRecDepth 100000 in
theorem k_Wy_placeOnFirst (l : Launch) (D : va_G) (yw la : Nat) (cL : ClassId) (lf : Nat → Int32) (w hd : Nat) (cA : ClassId) (ct : Int32) (h : Nat → Int32) (ux L i : Nat) (hux : ux < 16) (hL : L < 16) (hi : i ≤ L) : Met l y_Wy_placeOnFirst (Cond.code y_Wy_placeOnFirst c_Wy_placeOnFirst 7 (some .int) :: BS) { frames := 2, cells := 0, slots := 0, locals := 42 } (va_Pc [.ref yw, .int (nI ux), .int (nI L), .int (nI i), .ref w] (xR D [(yw, .inr (3, [.ref la])), (la, .inl (cL, 16, .inl lf)), (w, .inr (1, [.ref hd, .int ct])), (hd, .inl (cA, 16, .inl h))] [(cL, .int), (cA, .int)])) (QcRead (nI (pw h lf L ux i))) 0 0 (fun _ => False) := by
  refine Met.ofW (cc := c_Wy_placeOnFirst) (maxL := 7) (ret := (some .int)) (by decide) rfl ?_
  intro p e s m args below meth c s₁ B hml hv
  obtain ⟨rfl, hP, hK, hN⟩ := hv
  have hx := B.exec
  have hb := B.bytes
  have hr := B.returns
  have hB := xB B.pre
  have hown : s.vm.findClass R_Wy = some m.cls := findClass_of_methodNamed B.named
  have hlocks := B.notSynchronized
  have hl := lv_entry ([.ref yw, .int (nI ux), .int (nI L), .int (nI i), .ref w]) (n := 7) (Nat.le_of_ble_eq_true rfl)
  rw [lg_entry_eq]
  generalize (lg_sl ([.ref yw, .int (nI ux), .int (nI L), .int (nI i), .ref w]) ++ List.replicate (7 - (lg_sl ([.ref yw, .int (nI ux), .int (nI L), .int (nI i), .ref w])).length) Slot.unset).toArray = ls at hl ⊢
  have hl : lv_has ls 7 [(0, .ref yw), (1, .int (nI ux)), (2, .int (nI L)), (3, .int (nI i)), (4, .ref w)] := hl
  refine lv_iload_n hx hb d_Wy_placeOnFirst_0 rfl (lv_at hl 1 rfl) ?_
  refine lv_istore hx hb d_Wy_placeOnFirst_1 hl (by decide) rfl (fun ls hl => ?_)
  have hl : lv_has ls 7 [(5, .int (nI ux)), (0, .ref yw), (1, .int (nI ux)), (2, .int (nI L)), (3, .int (nI i)), (4, .ref w)] := hl
  refine lv_iconst (v := nI 1) hx hb d_Wy_placeOnFirst_3 (by decide) ?_
  refine lv_istore hx hb d_Wy_placeOnFirst_4 hl (by decide) rfl (fun ls hl => ?_)
  have hl : lv_has ls 7 [(6, .int (nI 1)), (5, .int (nI ux)), (0, .ref yw), (1, .int (nI ux)), (2, .int (nI L)), (3, .int (nI i)), (4, .ref w)] := hl
  refine xl_r (fun (k : Nat) ls => (k ≤ i ∧ pw h lf L ux k < 16) ∧ lv_has ls 7 [(6, .int (nI (k + 1))), (5, .int (nI (pw h lf L ux k))), (0, .ref yw), (1, .int (nI ux)), (2, .int (nI L)), (3, .int (nI i)), (4, .ref w)]) (fun k => i - k) (fun k ls hI ih6 => ?_) 0 _ ⟨⟨Nat.zero_le _, hux⟩, hl⟩
  obtain ⟨hI, hl⟩ := hI
  obtain ⟨hk, hq⟩ := hI
  refine lv_iload hx hb d_Wy_placeOnFirst_6 (lv_at hl 0 rfl) ?_
  refine lv_iload_n hx hb d_Wy_placeOnFirst_8 rfl (lv_at hl 5 rfl) ?_
  refine lv_icmp_gt (tgt := 46) hx hb d_Wy_placeOnFirst_9 rfl (fun hc9 => ?_) (fun hc9 => ?_)
  · have hc9 : i < (k + 1) := (nI_ltI (by omega) (by omega)).mp hc9
    refine lv_iload hx hb d_Wy_placeOnFirst_46 (lv_at hl 1 rfl) ?_
    refine xv_top (x' := nI (pw h lf L ux i)) (by rw [show k = i by omega]) ?_
    exact W.iret (v := nI (pw h lf L ux i)) hx hb hr (fun t ht hW => ⟨rfl, ht⟩) (fun _ h => by cases h) d_Wy_placeOnFirst_48
  · have hc9 : ¬ (i < (k + 1)) := fun q9 => hc9 ((nI_ltI (by omega) (by omega)).mpr q9)
    refine lv_iload hx hb d_Wy_placeOnFirst_12 (lv_at hl 0 rfl) ?_
    refine lv_iload_n hx hb d_Wy_placeOnFirst_14 rfl (lv_at hl 4 rfl) ?_
    refine lv_icmp_gt (tgt := 46) hx hb d_Wy_placeOnFirst_15 rfl (fun hc15 => ?_) (fun hc15 => ?_)
    · have hc15 : L < (k + 1) := (nI_ltI (by omega) (by omega)).mp hc15
      exact absurd hc15 (by omega)
    · have hc15 : ¬ (L < (k + 1)) := fun q9 => hc15 ((nI_ltI (by omega) (by omega)).mpr q9)
      refine lv_aload hx hb d_Wy_placeOnFirst_18 (lv_at hl 6 rfl) ?_
      refine lv_iload hx hb d_Wy_placeOnFirst_20 (lv_at hl 1 rfl) ?_
      refine xr_cal (va_runV (As := [.int (nI (pw h lf L ux k))]) (rest := []) ⟨hx, hb, hml, hown, hB⟩ (k_Web_headsOf l D w hd cA ct h (pw h lf L ux k) (by omega)) ⟨callB_of 1 hB (xg0 mc_Web_headsOf) rfl rfl rfl (hB _ mz_Web) (hB _ ml_Wy_27) (by decide +kernel) ⟨Nat.le_of_ble_eq_true rfl, Nat.le_of_ble_eq_true rfl⟩, hB _ mi_Web_headsOf, hB _ me_Web_headsOf⟩ (xpV (ws := [(w, .inr (1, [.ref hd, .int ct])), (hd, .inl (cA, 16, .inl h))]) (tys := [(cA, .int)]) (hP.sub [2, 3] rfl) (hK.sub [1] rfl) hN (va_recv (ci := 1) (q0 := 2) (q := (R_Web, F_Web, 2)) hK hP rfl rfl)) rfl rfl hl.1 rfl (lv_room (Nat.le_of_ble_eq_true rfl)) d_Wy_placeOnFirst_22 ⟨Nat.le_of_ble_eq_true rfl, Nat.le_of_ble_eq_true rfl⟩) ?_
      refine lv_aload_n hx hb d_Wy_placeOnFirst_25 rfl (lv_at hl 2 rfl) ?_
      refine va_get (D := D) (ci := 3) (v := .ref la) (C := R_Wy) (T := F_Wy) (N := 1) hx hb hB in_Wy hown hK hP 0 rfl rfl 0 (by decide) (hB _ mf_Wy_9) (fun _ h9 => h9) rfl d_Wy_placeOnFirst_26 ?_
      refine lv_iload_n hx hb d_Wy_placeOnFirst_29 rfl (lv_at hl 4 rfl) ?_
      refine lv_iload hx hb d_Wy_placeOnFirst_30 (lv_at hl 0 rfl) ?_
      refine lv_isub hx hb d_Wy_placeOnFirst_32 ?_
      refine xv_top (x' := nI (L - (k + 1))) (pk_sub (by omega)) ?_
      refine xa_ld (u := (L - (k + 1))) hx hb hK hP 1 0 rfl rfl (by omega) (by decide) d_Wy_placeOnFirst_33 ?_
      refine lv_iand hx hb d_Wy_placeOnFirst_34 ?_
      refine xr_cal (va_runS (As := [.int ((h (pw h lf L ux k)) &&& (lf (L - (k + 1))))]) (rest := []) ⟨hx, hb, hml, hown, hB⟩ (k_Wy_least l D  ((h (pw h lf L ux k)) &&& (lf (L - (k + 1))))) ⟨callB_of 1 hB (xg0 mc_Wy_least) rfl rfl rfl (hB _ mz_Wy) (hB _ ml_Wy_32) (by decide +kernel) ⟨Nat.le_of_ble_eq_true rfl, Nat.le_of_ble_eq_true rfl⟩, hB _ ms_Wy_least⟩ (xpS (ws := []) (tys := []) (hP.sub [] rfl) (hK.sub [] rfl) hN) rfl rfl hl.1 rfl (lv_room (Nat.le_of_ble_eq_true rfl)) d_Wy_placeOnFirst_35 ⟨Nat.le_of_ble_eq_true rfl, Nat.le_of_ble_eq_true rfl⟩) ?_
      refine lv_istore hx hb d_Wy_placeOnFirst_38 hl (by decide) rfl (fun ls hl => ?_)
      have hl : lv_has ls 7 [(5, .int (nI (first (fun i => bt ((h (pw h lf L ux k)) &&& (lf (L - (k + 1)))) i) 0 16))), (6, .int (nI (k + 1))), (0, .ref yw), (1, .int (nI ux)), (2, .int (nI L)), (3, .int (nI i)), (4, .ref w)] := hl
      have hl : lv_has ls 7 [(5, .int (nI (pw h lf L ux (k + 1)))), (6, .int (nI (k + 1))), (0, .ref yw), (1, .int (nI ux)), (2, .int (nI L)), (3, .int (nI i)), (4, .ref w)] := by
        have hz : (nI (first (fun i => bt ((h (pw h lf L ux k)) &&& (lf (L - (k + 1)))) i) 0 16)) = nI (pw h lf L ux (k + 1)) := rfl
        rw [← hz]; exact hl
      refine lv_iinc hx hb d_Wy_placeOnFirst_40 hl (k := 1) rfl (v := nI ((k + 1) + 1)) (nI_1 (k + 1)) (by decide) rfl (fun ls hl => ?_)
      have hl : lv_has ls 7 [(6, .int (nI ((k + 1) + 1))), (5, .int (nI (pw h lf L ux (k + 1)))), (0, .ref yw), (1, .int (nI ux)), (2, .int (nI L)), (3, .int (nI i)), (4, .ref w)] := hl
      refine lv_goto (tgt := 6) hx hb d_Wy_placeOnFirst_43 rfl ?_
      exact ih6 (k + 1) _ ⟨⟨by omega, pw_lt hux (k + 1)⟩, lv_sub hl [0, 1, 2, 3, 4, 5, 6] rfl⟩ (by omega)
set_option maxHeartbeats 4000000 in
set_option maxRecDepth 100000 in
theorem k_Gr_count (l : Launch) (D : va_G) (g g0 g1 g2 g3 g4 g5 : Nat) (k0 k1 k2 k3 k4 k5 : ClassId) (gc : Int32) (rE nM lD bF oR cH : Nat → Int32)  : Met l y_Gr_count (Cond.code y_Gr_count c_Gr_count 1 (some .int) :: BS) { frames := 0, cells := 0, slots := 0, locals := 0 } (va_Pc [.ref g] (xR D [(g, .inr (2, [.ref g0, .ref g1, .ref g2, .ref g3, .ref g4, .ref g5, .int gc])), (g0, .inl (k0, 16, .inl rE)), (g1, .inl (k1, 16, .inl nM)), (g2, .inl (k2, 16, .inl lD)), (g3, .inl (k3, 16, .inl bF)), (g4, .inl (k4, 16, .inl oR)), (g5, .inl (k5, 16, .inl cH))] [(k0, .int), (k1, .int), (k2, .int), (k3, .int), (k4, .int), (k5, .int)])) (QcRead (gc)) 0 0 (fun _ => False) := by
  refine Met.ofW (cc := c_Gr_count) (maxL := 1) (ret := (some .int)) (by decide) rfl ?_
  intro p e s m args below meth c s₁ B hml hv
  obtain ⟨rfl, hP, hK, hN⟩ := hv
  have hx := B.exec
  have hb := B.bytes
  have hr := B.returns
  have hB := xB B.pre
  have hown : s.vm.findClass R_Gr = some m.cls := findClass_of_methodNamed B.named
  have hlocks := B.notSynchronized
  have hl := lv_entry ([.ref g]) (n := 1) (Nat.le_of_ble_eq_true rfl)
  rw [lg_entry_eq]
  generalize (lg_sl ([.ref g]) ++ List.replicate (1 - (lg_sl ([.ref g])).length) Slot.unset).toArray = ls at hl ⊢
  have hl : lv_has ls 1 [(0, .ref g)] := hl
  refine lv_aload_n hx hb d_Gr_count_0 rfl (lv_at hl 0 rfl) ?_
  refine va_get (D := D) (ci := 2) (v := .int gc) (C := R_Gr) (T := F_Gr) (N := 7) hx hb hB in_Gr hown hK hP 0 rfl rfl 6 (by decide) (hB _ mf_Gr_30) (fun _ h9 => h9) rfl d_Gr_count_1 ?_
  exact W.iret (v := gc) hx hb hr (fun t ht hW => ⟨rfl, ht⟩) (fun _ h => by cases h) d_Gr_count_4
set_option maxHeartbeats 4000000 in
set_option maxRecDepth 100000 in
theorem k_Gr_nameOf (l : Launch) (D : va_G) (g g0 g1 g2 g3 g4 g5 : Nat) (k0 k1 k2 k3 k4 k5 : ClassId) (gc : Int32) (rE nM lD bF oR cH : Nat → Int32) (v : Nat) (hv : v < 16) : Met l y_Gr_nameOf (Cond.code y_Gr_nameOf c_Gr_nameOf 2 (some .int) :: BS) { frames := 0, cells := 0, slots := 0, locals := 0 } (va_Pc [.ref g, .int (nI v)] (xR D [(g, .inr (2, [.ref g0, .ref g1, .ref g2, .ref g3, .ref g4, .ref g5, .int gc])), (g0, .inl (k0, 16, .inl rE)), (g1, .inl (k1, 16, .inl nM)), (g2, .inl (k2, 16, .inl lD)), (g3, .inl (k3, 16, .inl bF)), (g4, .inl (k4, 16, .inl oR)), (g5, .inl (k5, 16, .inl cH))] [(k0, .int), (k1, .int), (k2, .int), (k3, .int), (k4, .int), (k5, .int)])) (QcRead (nM v)) 0 0 (fun _ => False) := by
  refine Met.ofW (cc := c_Gr_nameOf) (maxL := 2) (ret := (some .int)) (by decide) rfl ?_
  intro p e s m args below meth c s₁ B hml hv
  obtain ⟨rfl, hP, hK, hN⟩ := hv
  have hx := B.exec
  have hb := B.bytes
  have hr := B.returns
  have hB := xB B.pre
  have hown : s.vm.findClass R_Gr = some m.cls := findClass_of_methodNamed B.named
  have hlocks := B.notSynchronized
  have hl := lv_entry ([.ref g, .int (nI v)]) (n := 2) (Nat.le_of_ble_eq_true rfl)
  rw [lg_entry_eq]
  generalize (lg_sl ([.ref g, .int (nI v)]) ++ List.replicate (2 - (lg_sl ([.ref g, .int (nI v)])).length) Slot.unset).toArray = ls at hl ⊢
  have hl : lv_has ls 2 [(0, .ref g), (1, .int (nI v))] := hl
  refine lv_aload_n hx hb d_Gr_nameOf_0 rfl (lv_at hl 0 rfl) ?_
  refine va_get (D := D) (ci := 2) (v := .ref g1) (C := R_Gr) (T := F_Gr) (N := 7) hx hb hB in_Gr hown hK hP 0 rfl rfl 1 (by decide) (hB _ mf_Gr_15) (fun _ h9 => h9) rfl d_Gr_nameOf_1 ?_
  refine lv_iload_n hx hb d_Gr_nameOf_4 rfl (lv_at hl 1 rfl) ?_
  refine xa_ld (u := v) hx hb hK hP 2 1 rfl rfl (by omega) (by decide) d_Gr_nameOf_5 ?_
  exact W.iret (v := nM v) hx hb hr (fun t ht hW => ⟨rfl, ht⟩) (fun _ h => by cases h) d_Gr_nameOf_6
set_option maxHeartbeats 4000000 in
set_option maxRecDepth 100000 in
theorem k_Gr_nameAt (l : Launch) (D : va_G) (g g0 g1 g2 g3 g4 g5 : Nat) (k0 k1 k2 k3 k4 k5 : ClassId) (gc : Int32) (rE nM lD bF oR cH : Nat → Int32) (v : Nat) (hv : v < 16) : Met l y_Gr_nameAt (Cond.code y_Gr_nameAt c_Gr_nameAt 2 (some .int) :: BS) { frames := 0, cells := 0, slots := 0, locals := 0 } (va_Pc [.ref g, .int (nI v)] (xR D [(g, .inr (2, [.ref g0, .ref g1, .ref g2, .ref g3, .ref g4, .ref g5, .int gc])), (g0, .inl (k0, 16, .inl rE)), (g1, .inl (k1, 16, .inl nM)), (g2, .inl (k2, 16, .inl lD)), (g3, .inl (k3, 16, .inl bF)), (g4, .inl (k4, 16, .inl oR)), (g5, .inl (k5, 16, .inl cH))] [(k0, .int), (k1, .int), (k2, .int), (k3, .int), (k4, .int), (k5, .int)])) (QcRead (oR v)) 0 0 (fun _ => False) := by
  refine Met.ofW (cc := c_Gr_nameAt) (maxL := 2) (ret := (some .int)) (by decide) rfl ?_
  intro p e s m args below meth c s₁ B hml hv
  obtain ⟨rfl, hP, hK, hN⟩ := hv
  have hx := B.exec
  have hb := B.bytes
  have hr := B.returns
  have hB := xB B.pre
  have hown : s.vm.findClass R_Gr = some m.cls := findClass_of_methodNamed B.named
  have hlocks := B.notSynchronized
  have hl := lv_entry ([.ref g, .int (nI v)]) (n := 2) (Nat.le_of_ble_eq_true rfl)
  rw [lg_entry_eq]
  generalize (lg_sl ([.ref g, .int (nI v)]) ++ List.replicate (2 - (lg_sl ([.ref g, .int (nI v)])).length) Slot.unset).toArray = ls at hl ⊢
  have hl : lv_has ls 2 [(0, .ref g), (1, .int (nI v))] := hl
  refine lv_aload_n hx hb d_Gr_nameAt_0 rfl (lv_at hl 0 rfl) ?_
  refine va_get (D := D) (ci := 2) (v := .ref g4) (C := R_Gr) (T := F_Gr) (N := 7) hx hb hB in_Gr hown hK hP 0 rfl rfl 4 (by decide) (hB _ mf_Gr_24) (fun _ h9 => h9) rfl d_Gr_nameAt_1 ?_
  refine lv_iload_n hx hb d_Gr_nameAt_4 rfl (lv_at hl 1 rfl) ?_
  refine xa_ld (u := v) hx hb hK hP 5 4 rfl rfl (by omega) (by decide) d_Gr_nameAt_5 ?_
  exact W.iret (v := oR v) hx hb hr (fun t ht hW => ⟨rfl, ht⟩) (fun _ h => by cases h) d_Gr_nameAt_6
set_option maxHeartbeats 4000000 in
set_option maxRecDepth 100000 in
theorem k_Gr_sizeOf (l : Launch) (D : va_G) (g g0 g1 g2 g3 g4 g5 : Nat) (k0 k1 k2 k3 k4 k5 : ClassId) (gc : Int32) (rE nM lD bF oR cH : Nat → Int32) (v : Nat) (hv : v < 16) : Met l y_Gr_sizeOf (Cond.code y_Gr_sizeOf c_Gr_sizeOf 4 (some .int) :: BS) { frames := 0, cells := 0, slots := 0, locals := 0 } (va_Pc [.ref g, .int (nI v)] (xR D [(g, .inr (2, [.ref g0, .ref g1, .ref g2, .ref g3, .ref g4, .ref g5, .int gc])), (g0, .inl (k0, 16, .inl rE)), (g1, .inl (k1, 16, .inl nM)), (g2, .inl (k2, 16, .inl lD)), (g3, .inl (k3, 16, .inl bF)), (g4, .inl (k4, 16, .inl oR)), (g5, .inl (k5, 16, .inl cH))] [(k0, .int), (k1, .int), (k2, .int), (k3, .int), (k4, .int), (k5, .int)])) (QcRead (nI (cq (fun u => decide (nM u = nM v)) 16))) 0 0 (fun _ => False) := by
  refine Met.ofW (cc := c_Gr_sizeOf) (maxL := 4) (ret := (some .int)) (by decide) rfl ?_
  intro p e s m args below meth c s₁ B hml hv
  obtain ⟨rfl, hP, hK, hN⟩ := hv
  have hx := B.exec
  have hb := B.bytes
  have hr := B.returns
  have hB := xB B.pre
  have hown : s.vm.findClass R_Gr = some m.cls := findClass_of_methodNamed B.named
  have hlocks := B.notSynchronized
  have hl := lv_entry ([.ref g, .int (nI v)]) (n := 4) (Nat.le_of_ble_eq_true rfl)
  rw [lg_entry_eq]
  generalize (lg_sl ([.ref g, .int (nI v)]) ++ List.replicate (4 - (lg_sl ([.ref g, .int (nI v)])).length) Slot.unset).toArray = ls at hl ⊢
  have hl : lv_has ls 4 [(0, .ref g), (1, .int (nI v))] := hl
  refine lv_iconst (v := nI 0) hx hb d_Gr_sizeOf_0 (by decide) ?_
  refine lv_istore_n hx hb d_Gr_sizeOf_1 rfl hl (by decide) rfl (fun ls hl => ?_)
  have hl : lv_has ls 4 [(2, .int (nI 0)), (0, .ref g), (1, .int (nI v))] := hl
  refine lv_iconst (v := nI 0) hx hb d_Gr_sizeOf_2 (by decide) ?_
  refine lv_istore_n hx hb d_Gr_sizeOf_3 rfl hl (by decide) rfl (fun ls hl => ?_)
  have hl : lv_has ls 4 [(3, .int (nI 0)), (2, .int (nI 0)), (0, .ref g), (1, .int (nI v))] := hl
  refine xl_r (fun (u : Nat) ls => (u ≤ 16) ∧ lv_has ls 4 [(3, .int (nI u)), (2, .int (nI (cq (fun u => decide (nM u = nM v)) u))), (0, .ref g), (1, .int (nI v))]) (fun u => 16 - u) (fun u ls hI ih4 => ?_) 0 _ ⟨Nat.zero_le _, hl⟩
  obtain ⟨hI, hl⟩ := hI
  have hu_u := hI
  refine lv_iload_n hx hb d_Gr_sizeOf_4 rfl (lv_at hl 0 rfl) ?_
  refine lv_bipush (v := nI 16) hx hb d_Gr_sizeOf_5 (by decide) ?_
  refine lv_icmp_ge (tgt := 34) hx hb d_Gr_sizeOf_7 rfl (fun hc7 => ?_) (fun hc7 => ?_)
  · have hc7 : 16 ≤ u := (nI_leI (by omega) (by omega)).mp hc7
    refine lv_iload_n hx hb d_Gr_sizeOf_34 rfl (lv_at hl 1 rfl) ?_
    refine xv_top (x' := nI (cq (fun u => decide (nM u = nM v)) 16)) (by rw [show u = 16 by omega]) ?_
    exact W.iret (v := nI (cq (fun u => decide (nM u = nM v)) 16)) hx hb hr (fun t ht hW => ⟨rfl, ht⟩) (fun _ h => by cases h) d_Gr_sizeOf_35
  · have hc7 : ¬ (16 ≤ u) := fun q9 => hc7 ((nI_leI (by omega) (by omega)).mpr q9)
    refine lv_aload_n hx hb d_Gr_sizeOf_10 rfl (lv_at hl 2 rfl) ?_
    refine va_get (D := D) (ci := 2) (v := .ref g1) (C := R_Gr) (T := F_Gr) (N := 7) hx hb hB in_Gr hown hK hP 0 rfl rfl 1 (by decide) (hB _ mf_Gr_15) (fun _ h9 => h9) rfl d_Gr_sizeOf_11 ?_
    refine lv_iload_n hx hb d_Gr_sizeOf_14 rfl (lv_at hl 0 rfl) ?_
    refine xa_ld (u := u) hx hb hK hP 2 1 rfl rfl (by omega) (by decide) d_Gr_sizeOf_15 ?_
    refine lv_aload_n hx hb d_Gr_sizeOf_16 rfl (lv_at hl 2 rfl) ?_
    refine va_get (D := D) (ci := 2) (v := .ref g1) (C := R_Gr) (T := F_Gr) (N := 7) hx hb hB in_Gr hown hK hP 0 rfl rfl 1 (by decide) (hB _ mf_Gr_15) (fun _ h9 => h9) rfl d_Gr_sizeOf_17 ?_
    refine lv_iload_n hx hb d_Gr_sizeOf_20 rfl (lv_at hl 3 rfl) ?_
    refine xa_ld (u := v) hx hb hK hP 2 1 rfl rfl (by omega) (by decide) d_Gr_sizeOf_21 ?_
    refine lv_icmp_ne (tgt := 28) hx hb d_Gr_sizeOf_22 rfl (fun hc22 => ?_) (fun hc22 => ?_)
    · have hl : lv_has ls 4 [(3, .int (nI u)), (2, .int (nI (cq (fun u => decide (nM u = nM v)) (u + 1)))), (0, .ref g), (1, .int (nI v))] := by
        have hz : (nI (cq (fun u => decide (nM u = nM v)) u)) = nI (cq (fun u => decide (nM u = nM v)) (u + 1)) := by rw [cq_f (decide_eq_false hc22)]
        rw [← hz]; exact hl
      refine lv_iinc hx hb d_Gr_sizeOf_28 hl (k := 0) rfl (v := nI (u + 1)) (nI_1 u) (by decide) rfl (fun ls hl => ?_)
      have hl : lv_has ls 4 [(3, .int (nI (u + 1))), (2, .int (nI (cq (fun u => decide (nM u = nM v)) (u + 1)))), (0, .ref g), (1, .int (nI v))] := hl
      refine lv_goto (tgt := 4) hx hb d_Gr_sizeOf_31 rfl ?_
      exact ih4 (u + 1) _ ⟨by omega, lv_sub hl [0, 1, 2, 3] rfl⟩ (by omega)
    · refine lv_iinc hx hb d_Gr_sizeOf_25 hl (k := 1) rfl (v := nI ((cq (fun u => decide (nM u = nM v)) u) + 1)) (nI_1 (cq (fun u => decide (nM u = nM v)) u)) (by decide) rfl (fun ls hl => ?_)
      have hl : lv_has ls 4 [(2, .int (nI ((cq (fun u => decide (nM u = nM v)) u) + 1))), (3, .int (nI u)), (0, .ref g), (1, .int (nI v))] := hl
      have hl : lv_has ls 4 [(2, .int (nI (cq (fun u => decide (nM u = nM v)) (u + 1)))), (3, .int (nI u)), (0, .ref g), (1, .int (nI v))] := by
        have hz : (nI ((cq (fun u => decide (nM u = nM v)) u) + 1)) = nI (cq (fun u => decide (nM u = nM v)) (u + 1)) := by rw [cq_t (decide_eq_true hc22)]
        rw [← hz]; exact hl
      refine lv_iinc hx hb d_Gr_sizeOf_28 hl (k := 1) rfl (v := nI (u + 1)) (nI_1 u) (by decide) rfl (fun ls hl => ?_)
      have hl : lv_has ls 4 [(3, .int (nI (u + 1))), (2, .int (nI (cq (fun u => decide (nM u = nM v)) (u + 1)))), (0, .ref g), (1, .int (nI v))] := hl
      refine lv_goto (tgt := 4) hx hb d_Gr_sizeOf_31 rfl ?_
      exact ih4 (u + 1) _ ⟨by omega, lv_sub hl [0, 1, 2, 3] rfl⟩ (by omega)
set_option maxHeartbeats 4000000 in
set_option maxRecDepth 100000 in
theorem k_Gr_positionOf (l : Launch) (D : va_G) (g g0 g1 g2 g3 g4 g5 : Nat) (k0 k1 k2 k3 k4 k5 : ClassId) (gc : Int32) (rE nM lD bF oR cH : Nat → Int32) (v : Nat) (hv : v < 16) (cn9 : Nat) (hcn : cn9 ≤ 16) (hgc : gc = nI cn9) : Met l y_Gr_positionOf (Cond.code y_Gr_positionOf c_Gr_positionOf 4 (some .int) :: BS) { frames := 0, cells := 0, slots := 0, locals := 0 } (va_Pc [.ref g, .int (nI v)] (xR D [(g, .inr (2, [.ref g0, .ref g1, .ref g2, .ref g3, .ref g4, .ref g5, .int gc])), (g0, .inl (k0, 16, .inl rE)), (g1, .inl (k1, 16, .inl nM)), (g2, .inl (k2, 16, .inl lD)), (g3, .inl (k3, 16, .inl bF)), (g4, .inl (k4, 16, .inl oR)), (g5, .inl (k5, 16, .inl cH))] [(k0, .int), (k1, .int), (k2, .int), (k3, .int), (k4, .int), (k5, .int)])) (QcRead (nI (lastq (fun u => decide (oR u = nM v)) cn9))) 0 0 (fun _ => False) := by
  refine Met.ofW (cc := c_Gr_positionOf) (maxL := 4) (ret := (some .int)) (by decide) rfl ?_
  intro p e s m args below meth c s₁ B hml hv
  obtain ⟨rfl, hP, hK, hN⟩ := hv
  have hx := B.exec
  have hb := B.bytes
  have hr := B.returns
  have hB := xB B.pre
  have hown : s.vm.findClass R_Gr = some m.cls := findClass_of_methodNamed B.named
  have hlocks := B.notSynchronized
  have hl := lv_entry ([.ref g, .int (nI v)]) (n := 4) (Nat.le_of_ble_eq_true rfl)
  rw [lg_entry_eq]
  generalize (lg_sl ([.ref g, .int (nI v)]) ++ List.replicate (4 - (lg_sl ([.ref g, .int (nI v)])).length) Slot.unset).toArray = ls at hl ⊢
  have hl : lv_has ls 4 [(0, .ref g), (1, .int (nI v))] := hl
  refine lv_iconst (v := nI 0) hx hb d_Gr_positionOf_0 (by decide) ?_
  refine lv_istore_n hx hb d_Gr_positionOf_1 rfl hl (by decide) rfl (fun ls hl => ?_)
  have hl : lv_has ls 4 [(2, .int (nI 0)), (0, .ref g), (1, .int (nI v))] := hl
  refine lv_iconst (v := nI 0) hx hb d_Gr_positionOf_2 (by decide) ?_
  refine lv_istore_n hx hb d_Gr_positionOf_3 rfl hl (by decide) rfl (fun ls hl => ?_)
  have hl : lv_has ls 4 [(3, .int (nI 0)), (2, .int (nI 0)), (0, .ref g), (1, .int (nI v))] := hl
  refine xl_r (fun (u : Nat) ls => (u ≤ cn9) ∧ lv_has ls 4 [(3, .int (nI u)), (2, .int (nI (lastq (fun u => decide (oR u = nM v)) u))), (0, .ref g), (1, .int (nI v))]) (fun u => cn9 - u) (fun u ls hI ih4 => ?_) 0 _ ⟨Nat.zero_le _, hl⟩
  obtain ⟨hI, hl⟩ := hI
  have hu_u := hI
  refine lv_iload_n hx hb d_Gr_positionOf_4 rfl (lv_at hl 0 rfl) ?_
  refine lv_aload_n hx hb d_Gr_positionOf_5 rfl (lv_at hl 2 rfl) ?_
  refine va_get (D := D) (ci := 2) (v := .int gc) (C := R_Gr) (T := F_Gr) (N := 7) hx hb hB in_Gr hown hK hP 0 rfl rfl 6 (by decide) (hB _ mf_Gr_30) (fun _ h9 => h9) rfl d_Gr_positionOf_6 ?_
  refine xv_top (x' := nI cn9) (hgc) ?_
  refine lv_icmp_ge (tgt := 35) hx hb d_Gr_positionOf_9 rfl (fun hc9 => ?_) (fun hc9 => ?_)
  · have hc9 : cn9 ≤ u := (nI_leI (by omega) (by omega)).mp hc9
    refine lv_iload_n hx hb d_Gr_positionOf_35 rfl (lv_at hl 1 rfl) ?_
    refine xv_top (x' := nI (lastq (fun u => decide (oR u = nM v)) cn9)) (by rw [show u = cn9 by omega]) ?_
    exact W.iret (v := nI (lastq (fun u => decide (oR u = nM v)) cn9)) hx hb hr (fun t ht hW => ⟨rfl, ht⟩) (fun _ h => by cases h) d_Gr_positionOf_36
  · have hc9 : ¬ (cn9 ≤ u) := fun q9 => hc9 ((nI_leI (by omega) (by omega)).mpr q9)
    refine lv_aload_n hx hb d_Gr_positionOf_12 rfl (lv_at hl 2 rfl) ?_
    refine va_get (D := D) (ci := 2) (v := .ref g4) (C := R_Gr) (T := F_Gr) (N := 7) hx hb hB in_Gr hown hK hP 0 rfl rfl 4 (by decide) (hB _ mf_Gr_24) (fun _ h9 => h9) rfl d_Gr_positionOf_13 ?_
    refine lv_iload_n hx hb d_Gr_positionOf_16 rfl (lv_at hl 0 rfl) ?_
    refine xa_ld (u := u) hx hb hK hP 5 4 rfl rfl (by omega) (by decide) d_Gr_positionOf_17 ?_
    refine lv_aload_n hx hb d_Gr_positionOf_18 rfl (lv_at hl 2 rfl) ?_
    refine va_get (D := D) (ci := 2) (v := .ref g1) (C := R_Gr) (T := F_Gr) (N := 7) hx hb hB in_Gr hown hK hP 0 rfl rfl 1 (by decide) (hB _ mf_Gr_15) (fun _ h9 => h9) rfl d_Gr_positionOf_19 ?_
    refine lv_iload_n hx hb d_Gr_positionOf_22 rfl (lv_at hl 3 rfl) ?_
    refine xa_ld (u := v) hx hb hK hP 2 1 rfl rfl (by omega) (by decide) d_Gr_positionOf_23 ?_
    refine lv_icmp_ne (tgt := 29) hx hb d_Gr_positionOf_24 rfl (fun hc24 => ?_) (fun hc24 => ?_)
    · have hl : lv_has ls 4 [(3, .int (nI u)), (2, .int (nI (lastq (fun u => decide (oR u = nM v)) (u + 1)))), (0, .ref g), (1, .int (nI v))] := by
        have hz : (nI (lastq (fun u => decide (oR u = nM v)) u)) = nI (lastq (fun u => decide (oR u = nM v)) (u + 1)) := by rw [lastq_f (decide_eq_false hc24)]
        rw [← hz]; exact hl
      refine lv_iinc hx hb d_Gr_positionOf_29 hl (k := 0) rfl (v := nI (u + 1)) (nI_1 u) (by decide) rfl (fun ls hl => ?_)
      have hl : lv_has ls 4 [(3, .int (nI (u + 1))), (2, .int (nI (lastq (fun u => decide (oR u = nM v)) (u + 1)))), (0, .ref g), (1, .int (nI v))] := hl
      refine lv_goto (tgt := 4) hx hb d_Gr_positionOf_32 rfl ?_
      exact ih4 (u + 1) _ ⟨by omega, lv_sub hl [0, 1, 2, 3] rfl⟩ (by omega)
    · refine lv_iload_n hx hb d_Gr_positionOf_27 rfl (lv_at hl 0 rfl) ?_
      refine lv_istore_n hx hb d_Gr_positionOf_28 rfl hl (by decide) rfl (fun ls hl => ?_)
      have hl : lv_has ls 4 [(2, .int (nI u)), (3, .int (nI u)), (0, .ref g), (1, .int (nI v))] := hl
      have hl : lv_has ls 4 [(2, .int (nI (lastq (fun u => decide (oR u = nM v)) (u + 1)))), (3, .int (nI u)), (0, .ref g), (1, .int (nI v))] := by
        have hz : (nI u) = nI (lastq (fun u => decide (oR u = nM v)) (u + 1)) := by rw [lastq_t (decide_eq_true hc24)]
        rw [← hz]; exact hl
      refine lv_iinc hx hb d_Gr_positionOf_29 hl (k := 1) rfl (v := nI (u + 1)) (nI_1 u) (by decide) rfl (fun ls hl => ?_)
      have hl : lv_has ls 4 [(3, .int (nI (u + 1))), (2, .int (nI (lastq (fun u => decide (oR u = nM v)) (u + 1)))), (0, .ref g), (1, .int (nI v))] := hl
      refine lv_goto (tgt := 4) hx hb d_Gr_positionOf_32 rfl ?_
      exact ih4 (u + 1) _ ⟨by omega, lv_sub hl [0, 1, 2, 3] rfl⟩ (by omega)
set_option maxHeartbeats 4000000 in
set_option maxRecDepth 100000 in
theorem k_Gr_longestOf (l : Launch) (D : va_G) (g g0 g1 g2 g3 g4 g5 : Nat) (k0 k1 k2 k3 k4 k5 : ClassId) (gc : Int32) (rE nM lD bF oR cH : Nat → Int32) (x : Int32) : Met l y_Gr_longestOf (Cond.code y_Gr_longestOf c_Gr_longestOf 4 (some .int) :: BS) { frames := 1, cells := 0, slots := 0, locals := 40 } (va_Pc [.ref g, .int x] (xR D [(g, .inr (2, [.ref g0, .ref g1, .ref g2, .ref g3, .ref g4, .ref g5, .int gc])), (g0, .inl (k0, 16, .inl rE)), (g1, .inl (k1, 16, .inl nM)), (g2, .inl (k2, 16, .inl lD)), (g3, .inl (k3, 16, .inl bF)), (g4, .inl (k4, 16, .inl oR)), (g5, .inl (k5, 16, .inl cH))] [(k0, .int), (k1, .int), (k2, .int), (k3, .int), (k4, .int), (k5, .int)])) (QcRead (mxq x cH 16)) 0 0 (fun _ => False) := by
  refine Met.ofW (cc := c_Gr_longestOf) (maxL := 4) (ret := (some .int)) (by decide) rfl ?_
  intro p e s m args below meth c s₁ B hml hv
  obtain ⟨rfl, hP, hK, hN⟩ := hv
  have hx := B.exec
  have hb := B.bytes
  have hr := B.returns
  have hB := xB B.pre
  have hown : s.vm.findClass R_Gr = some m.cls := findClass_of_methodNamed B.named
  have hlocks := B.notSynchronized
  have hl := lv_entry ([.ref g, .int x]) (n := 4) (Nat.le_of_ble_eq_true rfl)
  rw [lg_entry_eq]
  generalize (lg_sl ([.ref g, .int x]) ++ List.replicate (4 - (lg_sl ([.ref g, .int x])).length) Slot.unset).toArray = ls at hl ⊢
  have hl : lv_has ls 4 [(0, .ref g), (1, .int x)] := hl
  refine lv_iconst (v := nI 0) hx hb d_Gr_longestOf_0 (by decide) ?_
  refine lv_istore_n hx hb d_Gr_longestOf_1 rfl hl (by decide) rfl (fun ls hl => ?_)
  have hl : lv_has ls 4 [(2, .int (nI 0)), (0, .ref g), (1, .int x)] := hl
  refine lv_iconst (v := nI 0) hx hb d_Gr_longestOf_2 (by decide) ?_
  refine lv_istore_n hx hb d_Gr_longestOf_3 rfl hl (by decide) rfl (fun ls hl => ?_)
  have hl : lv_has ls 4 [(3, .int (nI 0)), (2, .int (nI 0)), (0, .ref g), (1, .int x)] := hl
  refine xl_r (fun (u : Nat) ls => (u ≤ 16) ∧ lv_has ls 4 [(3, .int (nI u)), (2, .int (mxq x cH u)), (0, .ref g), (1, .int x)]) (fun u => 16 - u) (fun u ls hI ih4 => ?_) 0 _ ⟨Nat.zero_le _, hl⟩
  obtain ⟨hI, hl⟩ := hI
  have hu_u := hI
  refine lv_iload_n hx hb d_Gr_longestOf_4 rfl (lv_at hl 0 rfl) ?_
  refine lv_bipush (v := nI 16) hx hb d_Gr_longestOf_5 (by decide) ?_
  refine lv_icmp_ge (tgt := 35) hx hb d_Gr_longestOf_7 rfl (fun hc7 => ?_) (fun hc7 => ?_)
  · have hc7 : 16 ≤ u := (nI_leI (by omega) (by omega)).mp hc7
    refine lv_iload_n hx hb d_Gr_longestOf_35 rfl (lv_at hl 1 rfl) ?_
    refine xv_top (x' := mxq x cH 16) (by rw [show u = 16 by omega]) ?_
    exact W.iret (v := mxq x cH 16) hx hb hr (fun t ht hW => ⟨rfl, ht⟩) (fun _ h => by cases h) d_Gr_longestOf_36
  · have hc7 : ¬ (16 ≤ u) := fun q9 => hc7 ((nI_leI (by omega) (by omega)).mpr q9)
    refine lv_iload_n hx hb d_Gr_longestOf_10 rfl (lv_at hl 3 rfl) ?_
    refine lv_iload_n hx hb d_Gr_longestOf_11 rfl (lv_at hl 0 rfl) ?_
    refine xr_cal (va_runSN (As := [.int x, .int (nI u)]) (rest := []) ⟨hx, hb, hml, hown, hB⟩ (k_A_has l D x u (by omega)) ⟨va_cnB 2 hB (xg0 mc_A_has) rfl rfl rfl (xn_Gr_53 hN) (hB _ mz_A) (by decide +kernel) ⟨Nat.le_of_ble_eq_true rfl, Nat.le_of_ble_eq_true rfl⟩, hB _ ms_A_has, trivial⟩ (xpS (ws := []) (tys := []) (hP.sub [] rfl) (hK.sub [] rfl) hN) rfl rfl hl.1 rfl (lv_room (Nat.le_of_ble_eq_true rfl)) d_Gr_longestOf_12 ⟨Nat.le_of_ble_eq_true rfl, Nat.le_of_ble_eq_true rfl⟩) ?_
    refine lv_if_eq (tgt := 29) hx hb d_Gr_longestOf_15 rfl (fun hc15 => ?_) (fun hc15 => ?_)
    · have hc15 := b2i_0.mp hc15
      have hl : lv_has ls 4 [(3, .int (nI u)), (2, .int (mxq x cH (u + 1))), (0, .ref g), (1, .int x)] := by
        have hz : (mxq x cH u) = mxq x cH (u + 1) := (if_neg (by rw [hc15]; decide)).symm
        rw [← hz]; exact hl
      refine lv_iinc hx hb d_Gr_longestOf_29 hl (k := 0) rfl (v := nI (u + 1)) (nI_1 u) (by decide) rfl (fun ls hl => ?_)
      have hl : lv_has ls 4 [(3, .int (nI (u + 1))), (2, .int (mxq x cH (u + 1))), (0, .ref g), (1, .int x)] := hl
      refine lv_goto (tgt := 4) hx hb d_Gr_longestOf_32 rfl ?_
      exact ih4 (u + 1) _ ⟨by omega, lv_sub hl [0, 1, 2, 3] rfl⟩ (by omega)
    · have hc15 := b2i_n.mp hc15
      refine lv_iload_n hx hb d_Gr_longestOf_18 rfl (lv_at hl 1 rfl) ?_
      refine lv_aload_n hx hb d_Gr_longestOf_19 rfl (lv_at hl 2 rfl) ?_
      refine va_get (D := D) (ci := 2) (v := .ref g5) (C := R_Gr) (T := F_Gr) (N := 7) hx hb hB in_Gr hown hK hP 0 rfl rfl 5 (by decide) (hB _ mf_Gr_27) (fun _ h9 => h9) rfl d_Gr_longestOf_20 ?_
      refine lv_iload_n hx hb d_Gr_longestOf_23 rfl (lv_at hl 0 rfl) ?_
      refine xa_ld (u := u) hx hb hK hP 6 5 rfl rfl (by omega) (by decide) d_Gr_longestOf_24 ?_
      refine va_mmax hx hb (hml.trans hl.1.symm) hown (hB _ ml_Gr_66) (hB _ ms_Ma_max) (hB _ mz_Ma) (hB _ mc_Ma_max) (by decide) (Nat.le_of_ble_eq_true rfl) (by decide) (by decide) d_Gr_longestOf_25 ?_
      refine lv_istore_n hx hb d_Gr_longestOf_28 rfl hl (by decide) rfl (fun ls hl => ?_)
      have hl : lv_has ls 4 [(2, .int (if mxq x cH u < cH u then cH u else mxq x cH u)), (3, .int (nI u)), (0, .ref g), (1, .int x)] := hl
      have hl : lv_has ls 4 [(2, .int (mxq x cH (u + 1))), (3, .int (nI u)), (0, .ref g), (1, .int x)] := by
        have hz : (if mxq x cH u < cH u then cH u else mxq x cH u) = mxq x cH (u + 1) := (if_pos hc15).symm
        rw [← hz]; exact hl
      refine lv_iinc hx hb d_Gr_longestOf_29 hl (k := 1) rfl (v := nI (u + 1)) (nI_1 u) (by decide) rfl (fun ls hl => ?_)
      have hl : lv_has ls 4 [(3, .int (nI (u + 1))), (2, .int (mxq x cH (u + 1))), (0, .ref g), (1, .int x)] := hl
      refine lv_goto (tgt := 4) hx hb d_Gr_longestOf_32 rfl ?_
      exact ih4 (u + 1) _ ⟨by omega, lv_sub hl [0, 1, 2, 3] rfl⟩ (by omega)
set_option maxHeartbeats 4000000 in
set_option maxRecDepth 100000 in
theorem k_Gr_reachedFromOneOf (l : Launch) (D : va_G) (g g0 g1 g2 g3 g4 g5 : Nat) (k0 k1 k2 k3 k4 k5 : ClassId) (gc : Int32) (rE nM lD bF oR cH : Nat → Int32) (x : Int32) (hx9 : Nat) (hh9 : hx9 < 32) : Met l y_Gr_reachedFromOneOf (Cond.code y_Gr_reachedFromOneOf c_Gr_reachedFromOneOf 4 (some .boolean) :: BS) { frames := 1, cells := 0, slots := 0, locals := 21 } (va_Pc [.ref g, .int x, .int (nI hx9)] (xR D [(g, .inr (2, [.ref g0, .ref g1, .ref g2, .ref g3, .ref g4, .ref g5, .int gc])), (g0, .inl (k0, 16, .inl rE)), (g1, .inl (k1, 16, .inl nM)), (g2, .inl (k2, 16, .inl lD)), (g3, .inl (k3, 16, .inl bF)), (g4, .inl (k4, 16, .inl oR)), (g5, .inl (k5, 16, .inl cH))] [(k0, .int), (k1, .int), (k2, .int), (k3, .int), (k4, .int), (k5, .int)])) (QcRead (b2i (anyq (fun u => bt x u && bt (rE u) hx9) 16))) 0 0 (fun _ => False) := by
  refine Met.ofW (cc := c_Gr_reachedFromOneOf) (maxL := 4) (ret := (some .boolean)) (by decide) rfl ?_
  intro p e s m args below meth c s₁ B hml hv
  obtain ⟨rfl, hP, hK, hN⟩ := hv
  have hx := B.exec
  have hb := B.bytes
  have hr := B.returns
  have hB := xB B.pre
  have hown : s.vm.findClass R_Gr = some m.cls := findClass_of_methodNamed B.named
  have hlocks := B.notSynchronized
  have hl := lv_entry ([.ref g, .int x, .int (nI hx9)]) (n := 4) (Nat.le_of_ble_eq_true rfl)
  rw [lg_entry_eq]
  generalize (lg_sl ([.ref g, .int x, .int (nI hx9)]) ++ List.replicate (4 - (lg_sl ([.ref g, .int x, .int (nI hx9)])).length) Slot.unset).toArray = ls at hl ⊢
  have hl : lv_has ls 4 [(0, .ref g), (1, .int x), (2, .int (nI hx9))] := hl
  refine lv_iconst (v := nI 0) hx hb d_Gr_reachedFromOneOf_0 (by decide) ?_
  refine lv_istore_n hx hb d_Gr_reachedFromOneOf_1 rfl hl (by decide) rfl (fun ls hl => ?_)
  have hl : lv_has ls 4 [(3, .int (nI 0)), (0, .ref g), (1, .int x), (2, .int (nI hx9))] := hl
  refine xl_r (fun (u : Nat) ls => (u ≤ 16 ∧ ∀ k9, k9 < u → (fun u => bt x u && bt (rE u) hx9) k9 = false) ∧ lv_has ls 4 [(3, .int (nI u)), (0, .ref g), (1, .int x), (2, .int (nI hx9))]) (fun u => 16 - u) (fun u ls hI ih2 => ?_) 0 _ ⟨⟨Nat.zero_le _, lt_0⟩, hl⟩
  obtain ⟨hI, hl⟩ := hI
  obtain ⟨hu_u, hm⟩ := hI
  refine lv_iload_n hx hb d_Gr_reachedFromOneOf_2 rfl (lv_at hl 0 rfl) ?_
  refine lv_bipush (v := nI 16) hx hb d_Gr_reachedFromOneOf_3 (by decide) ?_
  refine lv_icmp_ge (tgt := 37) hx hb d_Gr_reachedFromOneOf_5 rfl (fun hc5 => ?_) (fun hc5 => ?_)
  · have hc5 : 16 ≤ u := (nI_leI (by omega) (by omega)).mp hc5
    refine lv_iconst (v := nI 0) hx hb d_Gr_reachedFromOneOf_37 (by decide) ?_
    refine xv_top (x' := b2i (anyq (fun u => bt x u && bt (rE u) hx9) 16)) (by first | rw [anyq_t (p := (fun u => bt x u && bt (rE u) hx9)) (i := u) (by simp [hc13, hc26]) 16 (by omega)]; rfl | rw [anyq_f (p := (fun u => bt x u && bt (rE u) hx9)) 16 (fun k9 hk9 => hm k9 (by omega))]; rfl) ?_
    exact W.zret (v := b2i (anyq (fun u => bt x u && bt (rE u) hx9) 16)) hx hb hr (b2i_nar _) (fun t ht hW => ⟨rfl, ht⟩) (fun _ h => by cases h) d_Gr_reachedFromOneOf_38
  · have hc5 : ¬ (16 ≤ u) := fun q9 => hc5 ((nI_leI (by omega) (by omega)).mpr q9)
    refine lv_iload_n hx hb d_Gr_reachedFromOneOf_8 rfl (lv_at hl 2 rfl) ?_
    refine lv_iload_n hx hb d_Gr_reachedFromOneOf_9 rfl (lv_at hl 0 rfl) ?_
    refine xr_cal (va_runSN (As := [.int x, .int (nI u)]) (rest := []) ⟨hx, hb, hml, hown, hB⟩ (k_A_has l D x u (by omega)) ⟨va_cnB 2 hB (xg0 mc_A_has) rfl rfl rfl (xn_Gr_53 hN) (hB _ mz_A) (by decide +kernel) ⟨Nat.le_of_ble_eq_true rfl, Nat.le_of_ble_eq_true rfl⟩, hB _ ms_A_has, trivial⟩ (xpS (ws := []) (tys := []) (hP.sub [] rfl) (hK.sub [] rfl) hN) rfl rfl hl.1 rfl (lv_room (Nat.le_of_ble_eq_true rfl)) d_Gr_reachedFromOneOf_10 ⟨Nat.le_of_ble_eq_true rfl, Nat.le_of_ble_eq_true rfl⟩) ?_
    refine lv_if_eq (tgt := 31) hx hb d_Gr_reachedFromOneOf_13 rfl (fun hc13 => ?_) (fun hc13 => ?_)
    · have hc13 := b2i_0.mp hc13
      refine lv_iinc hx hb d_Gr_reachedFromOneOf_31 hl (k := 0) rfl (v := nI (u + 1)) (nI_1 u) (by decide) rfl (fun ls hl => ?_)
      have hl : lv_has ls 4 [(3, .int (nI (u + 1))), (0, .ref g), (1, .int x), (2, .int (nI hx9))] := hl
      refine lv_goto (tgt := 2) hx hb d_Gr_reachedFromOneOf_34 rfl ?_
      exact ih2 (u + 1) _ ⟨⟨by omega, lt_s hm (by first | (simp [hc13]; done) | (simp [hc26]; done))⟩, lv_sub hl [0, 1, 2, 3] rfl⟩ (by omega)
    · have hc13 := b2i_n.mp hc13
      refine lv_aload_n hx hb d_Gr_reachedFromOneOf_16 rfl (lv_at hl 1 rfl) ?_
      refine va_get (D := D) (ci := 2) (v := .ref g0) (C := R_Gr) (T := F_Gr) (N := 7) hx hb hB in_Gr hown hK hP 0 rfl rfl 0 (by decide) (hB _ mf_Gr_9) (fun _ h9 => h9) rfl d_Gr_reachedFromOneOf_17 ?_
      refine lv_iload_n hx hb d_Gr_reachedFromOneOf_20 rfl (lv_at hl 0 rfl) ?_
      refine xa_ld (u := u) hx hb hK hP 1 0 rfl rfl (by omega) (by decide) d_Gr_reachedFromOneOf_21 ?_
      refine lv_iload_n hx hb d_Gr_reachedFromOneOf_22 rfl (lv_at hl 3 rfl) ?_
      refine xr_cal (va_runSN (As := [.int (rE u), .int (nI hx9)]) (rest := []) ⟨hx, hb, hml, hown, hB⟩ (k_A_has l D (rE u) hx9 (by omega)) ⟨va_cnB 2 hB (xg0 mc_A_has) rfl rfl rfl (xn_Gr_53 hN) (hB _ mz_A) (by decide +kernel) ⟨Nat.le_of_ble_eq_true rfl, Nat.le_of_ble_eq_true rfl⟩, hB _ ms_A_has, trivial⟩ (xpS (ws := []) (tys := []) (hP.sub [] rfl) (hK.sub [] rfl) hN) rfl rfl hl.1 rfl (lv_room (Nat.le_of_ble_eq_true rfl)) d_Gr_reachedFromOneOf_23 ⟨Nat.le_of_ble_eq_true rfl, Nat.le_of_ble_eq_true rfl⟩) ?_
      refine lv_if_eq (tgt := 31) hx hb d_Gr_reachedFromOneOf_26 rfl (fun hc26 => ?_) (fun hc26 => ?_)
      · have hc26 := b2i_0.mp hc26
        refine lv_iinc hx hb d_Gr_reachedFromOneOf_31 hl (k := 0) rfl (v := nI (u + 1)) (nI_1 u) (by decide) rfl (fun ls hl => ?_)
        have hl : lv_has ls 4 [(3, .int (nI (u + 1))), (0, .ref g), (1, .int x), (2, .int (nI hx9))] := hl
        refine lv_goto (tgt := 2) hx hb d_Gr_reachedFromOneOf_34 rfl ?_
        exact ih2 (u + 1) _ ⟨⟨by omega, lt_s hm (by first | (simp [hc13]; done) | (simp [hc26]; done))⟩, lv_sub hl [0, 1, 2, 3] rfl⟩ (by omega)
      · have hc26 := b2i_n.mp hc26
        refine lv_iconst (v := nI 1) hx hb d_Gr_reachedFromOneOf_29 (by decide) ?_
        refine xv_top (x' := b2i (anyq (fun u => bt x u && bt (rE u) hx9) 16)) (by first | rw [anyq_t (p := (fun u => bt x u && bt (rE u) hx9)) (i := u) (by simp [hc13, hc26]) 16 (by omega)]; rfl | rw [anyq_f (p := (fun u => bt x u && bt (rE u) hx9)) 16 (fun k9 hk9 => hm k9 (by omega))]; rfl) ?_
        exact W.zret (v := b2i (anyq (fun u => bt x u && bt (rE u) hx9) 16)) hx hb hr (b2i_nar _) (fun t ht hW => ⟨rfl, ht⟩) (fun _ h => by cases h) d_Gr_reachedFromOneOf_30
set_option maxHeartbeats 4000000 in
set_option maxRecDepth 100000 in
theorem k_Gr_leastWith (l : Launch) (D : va_G) (g g0 g1 g2 g3 g4 g5 : Nat) (k0 k1 k2 k3 k4 k5 : ClassId) (gc : Int32) (rE nM lD bF oR cH : Nat → Int32) (v : Nat) (hv : v < 16) : Met l y_Gr_leastWith (Cond.code y_Gr_leastWith c_Gr_leastWith 3 (some .int) :: BS) { frames := 1, cells := 0, slots := 0, locals := 21 } (va_Pc [.ref g, .int (nI v)] (xR D [(g, .inr (2, [.ref g0, .ref g1, .ref g2, .ref g3, .ref g4, .ref g5, .int gc])), (g0, .inl (k0, 16, .inl rE)), (g1, .inl (k1, 16, .inl nM)), (g2, .inl (k2, 16, .inl lD)), (g3, .inl (k3, 16, .inl bF)), (g4, .inl (k4, 16, .inl oR)), (g5, .inl (k5, 16, .inl cH))] [(k0, .int), (k1, .int), (k2, .int), (k3, .int), (k4, .int), (k5, .int)])) (QcRead (nI (first (fun u => bt (rE v) u && bt (rE u) v) v v))) 0 0 (fun _ => False) := by
  refine Met.ofW (cc := c_Gr_leastWith) (maxL := 3) (ret := (some .int)) (by decide) rfl ?_
  intro p e s m args below meth c s₁ B hml hv
  obtain ⟨rfl, hP, hK, hN⟩ := hv
  have hx := B.exec
  have hb := B.bytes
  have hr := B.returns
  have hB := xB B.pre
  have hown : s.vm.findClass R_Gr = some m.cls := findClass_of_methodNamed B.named
  have hlocks := B.notSynchronized
  have hl := lv_entry ([.ref g, .int (nI v)]) (n := 3) (Nat.le_of_ble_eq_true rfl)
  rw [lg_entry_eq]
  generalize (lg_sl ([.ref g, .int (nI v)]) ++ List.replicate (3 - (lg_sl ([.ref g, .int (nI v)])).length) Slot.unset).toArray = ls at hl ⊢
  have hl : lv_has ls 3 [(0, .ref g), (1, .int (nI v))] := hl
  refine lv_iconst (v := nI 0) hx hb d_Gr_leastWith_0 (by decide) ?_
  refine lv_istore_n hx hb d_Gr_leastWith_1 rfl hl (by decide) rfl (fun ls hl => ?_)
  have hl : lv_has ls 3 [(2, .int (nI 0)), (0, .ref g), (1, .int (nI v))] := hl
  refine xl_r (fun (u : Nat) ls => (u ≤ v ∧ ∀ k9, k9 < u → (fun u => bt (rE v) u && bt (rE u) v) k9 = false) ∧ lv_has ls 3 [(2, .int (nI u)), (0, .ref g), (1, .int (nI v))]) (fun u => v - u) (fun u ls hI ih2 => ?_) 0 _ ⟨⟨Nat.zero_le _, lt_0⟩, hl⟩
  obtain ⟨hI, hl⟩ := hI
  obtain ⟨hu_u, hm⟩ := hI
  refine lv_iload_n hx hb d_Gr_leastWith_2 rfl (lv_at hl 0 rfl) ?_
  refine lv_iload_n hx hb d_Gr_leastWith_3 rfl (lv_at hl 2 rfl) ?_
  refine lv_icmp_ge (tgt := 41) hx hb d_Gr_leastWith_4 rfl (fun hc4 => ?_) (fun hc4 => ?_)
  · have hc4 : v ≤ u := (nI_leI (by omega) (by omega)).mp hc4
    refine lv_iload_n hx hb d_Gr_leastWith_41 rfl (lv_at hl 2 rfl) ?_
    refine xv_top (x' := nI (first (fun u => bt (rE v) u && bt (rE u) v) v v)) (by first | rw [first_eq (p := (fun u => bt (rE v) u && bt (rE u) v)) (j := u) (by simp [hc17, hc30]) (by omega) hm] | rw [first_none (p := (fun u => bt (rE v) u && bt (rE u) v)) (fun k9 hk9 => hm k9 (by omega))]) ?_
    exact W.iret (v := nI (first (fun u => bt (rE v) u && bt (rE u) v) v v)) hx hb hr (fun t ht hW => ⟨rfl, ht⟩) (fun _ h => by cases h) d_Gr_leastWith_42
  · have hc4 : ¬ (v ≤ u) := fun q9 => hc4 ((nI_leI (by omega) (by omega)).mpr q9)
    refine lv_aload_n hx hb d_Gr_leastWith_7 rfl (lv_at hl 1 rfl) ?_
    refine va_get (D := D) (ci := 2) (v := .ref g0) (C := R_Gr) (T := F_Gr) (N := 7) hx hb hB in_Gr hown hK hP 0 rfl rfl 0 (by decide) (hB _ mf_Gr_9) (fun _ h9 => h9) rfl d_Gr_leastWith_8 ?_
    refine lv_iload_n hx hb d_Gr_leastWith_11 rfl (lv_at hl 2 rfl) ?_
    refine xa_ld (u := v) hx hb hK hP 1 0 rfl rfl (by omega) (by decide) d_Gr_leastWith_12 ?_
    refine lv_iload_n hx hb d_Gr_leastWith_13 rfl (lv_at hl 0 rfl) ?_
    refine xr_cal (va_runSN (As := [.int (rE v), .int (nI u)]) (rest := []) ⟨hx, hb, hml, hown, hB⟩ (k_A_has l D (rE v) u (by omega)) ⟨va_cnB 2 hB (xg0 mc_A_has) rfl rfl rfl (xn_Gr_53 hN) (hB _ mz_A) (by decide +kernel) ⟨Nat.le_of_ble_eq_true rfl, Nat.le_of_ble_eq_true rfl⟩, hB _ ms_A_has, trivial⟩ (xpS (ws := []) (tys := []) (hP.sub [] rfl) (hK.sub [] rfl) hN) rfl rfl hl.1 rfl (lv_room (Nat.le_of_ble_eq_true rfl)) d_Gr_leastWith_14 ⟨Nat.le_of_ble_eq_true rfl, Nat.le_of_ble_eq_true rfl⟩) ?_
    refine lv_if_eq (tgt := 35) hx hb d_Gr_leastWith_17 rfl (fun hc17 => ?_) (fun hc17 => ?_)
    · have hc17 := b2i_0.mp hc17
      refine lv_iinc hx hb d_Gr_leastWith_35 hl (k := 0) rfl (v := nI (u + 1)) (nI_1 u) (by decide) rfl (fun ls hl => ?_)
      have hl : lv_has ls 3 [(2, .int (nI (u + 1))), (0, .ref g), (1, .int (nI v))] := hl
      refine lv_goto (tgt := 2) hx hb d_Gr_leastWith_38 rfl ?_
      exact ih2 (u + 1) _ ⟨⟨by omega, lt_s hm (by first | (simp [hc17]; done) | (simp [hc30]; done))⟩, lv_sub hl [0, 1, 2] rfl⟩ (by omega)
    · have hc17 := b2i_n.mp hc17
      refine lv_aload_n hx hb d_Gr_leastWith_20 rfl (lv_at hl 1 rfl) ?_
      refine va_get (D := D) (ci := 2) (v := .ref g0) (C := R_Gr) (T := F_Gr) (N := 7) hx hb hB in_Gr hown hK hP 0 rfl rfl 0 (by decide) (hB _ mf_Gr_9) (fun _ h9 => h9) rfl d_Gr_leastWith_21 ?_
      refine lv_iload_n hx hb d_Gr_leastWith_24 rfl (lv_at hl 0 rfl) ?_
      refine xa_ld (u := u) hx hb hK hP 1 0 rfl rfl (by omega) (by decide) d_Gr_leastWith_25 ?_
      refine lv_iload_n hx hb d_Gr_leastWith_26 rfl (lv_at hl 2 rfl) ?_
      refine xr_cal (va_runSN (As := [.int (rE u), .int (nI v)]) (rest := []) ⟨hx, hb, hml, hown, hB⟩ (k_A_has l D (rE u) v (by omega)) ⟨va_cnB 2 hB (xg0 mc_A_has) rfl rfl rfl (xn_Gr_53 hN) (hB _ mz_A) (by decide +kernel) ⟨Nat.le_of_ble_eq_true rfl, Nat.le_of_ble_eq_true rfl⟩, hB _ ms_A_has, trivial⟩ (xpS (ws := []) (tys := []) (hP.sub [] rfl) (hK.sub [] rfl) hN) rfl rfl hl.1 rfl (lv_room (Nat.le_of_ble_eq_true rfl)) d_Gr_leastWith_27 ⟨Nat.le_of_ble_eq_true rfl, Nat.le_of_ble_eq_true rfl⟩) ?_
      refine lv_if_eq (tgt := 35) hx hb d_Gr_leastWith_30 rfl (fun hc30 => ?_) (fun hc30 => ?_)
      · have hc30 := b2i_0.mp hc30
        refine lv_iinc hx hb d_Gr_leastWith_35 hl (k := 0) rfl (v := nI (u + 1)) (nI_1 u) (by decide) rfl (fun ls hl => ?_)
        have hl : lv_has ls 3 [(2, .int (nI (u + 1))), (0, .ref g), (1, .int (nI v))] := hl
        refine lv_goto (tgt := 2) hx hb d_Gr_leastWith_38 rfl ?_
        exact ih2 (u + 1) _ ⟨⟨by omega, lt_s hm (by first | (simp [hc17]; done) | (simp [hc30]; done))⟩, lv_sub hl [0, 1, 2] rfl⟩ (by omega)
      · have hc30 := b2i_n.mp hc30
        refine lv_iload_n hx hb d_Gr_leastWith_33 rfl (lv_at hl 0 rfl) ?_
        refine xv_top (x' := nI (first (fun u => bt (rE v) u && bt (rE u) v) v v)) (by first | rw [first_eq (p := (fun u => bt (rE v) u && bt (rE u) v)) (j := u) (by simp [hc17, hc30]) (by omega) hm] | rw [first_none (p := (fun u => bt (rE v) u && bt (rE u) v)) (fun k9 hk9 => hm k9 (by omega))]) ?_
        exact W.iret (v := nI (first (fun u => bt (rE v) u && bt (rE u) v) v v)) hx hb hr (fun t ht hW => ⟨rfl, ht⟩) (fun _ h => by cases h) d_Gr_leastWith_34
set_option maxHeartbeats 4000000 in
set_option maxRecDepth 100000 in
theorem k_Gr_leastFree (l : Launch) (D : va_G) (g g0 g1 g2 g3 g4 g5 : Nat) (k0 k1 k2 k3 k4 k5 : ClassId) (gc : Int32) (rE nM lD bF oR cH : Nat → Int32) (x : Int32) : Met l y_Gr_leastFree (Cond.code y_Gr_leastFree c_Gr_leastFree 3 (some .int) :: BS) { frames := 1, cells := 0, slots := 0, locals := 21 } (va_Pc [.ref g, .int x] (xR D [(g, .inr (2, [.ref g0, .ref g1, .ref g2, .ref g3, .ref g4, .ref g5, .int gc])), (g0, .inl (k0, 16, .inl rE)), (g1, .inl (k1, 16, .inl nM)), (g2, .inl (k2, 16, .inl lD)), (g3, .inl (k3, 16, .inl bF)), (g4, .inl (k4, 16, .inl oR)), (g5, .inl (k5, 16, .inl cH))] [(k0, .int), (k1, .int), (k2, .int), (k3, .int), (k4, .int), (k5, .int)])) (QcRead (nI (first (fun u => decide (nM u = nI u) && !(bt x u) && decide (bF u &&& (x ^^^ (-1)) = 0)) 0 16))) 0 0 (fun _ => False) := by
  refine Met.ofW (cc := c_Gr_leastFree) (maxL := 3) (ret := (some .int)) (by decide) rfl ?_
  intro p e s m args below meth c s₁ B hml hv
  obtain ⟨rfl, hP, hK, hN⟩ := hv
  have hx := B.exec
  have hb := B.bytes
  have hr := B.returns
  have hB := xB B.pre
  have hown : s.vm.findClass R_Gr = some m.cls := findClass_of_methodNamed B.named
  have hlocks := B.notSynchronized
  have hl := lv_entry ([.ref g, .int x]) (n := 3) (Nat.le_of_ble_eq_true rfl)
  rw [lg_entry_eq]
  generalize (lg_sl ([.ref g, .int x]) ++ List.replicate (3 - (lg_sl ([.ref g, .int x])).length) Slot.unset).toArray = ls at hl ⊢
  have hl : lv_has ls 3 [(0, .ref g), (1, .int x)] := hl
  refine lv_iconst (v := nI 0) hx hb d_Gr_leastFree_0 (by decide) ?_
  refine lv_istore_n hx hb d_Gr_leastFree_1 rfl hl (by decide) rfl (fun ls hl => ?_)
  have hl : lv_has ls 3 [(2, .int (nI 0)), (0, .ref g), (1, .int x)] := hl
  refine xl_r (fun (u : Nat) ls => (u ≤ 16 ∧ ∀ k9, k9 < u → (fun u => decide (nM u = nI u) && !(bt x u) && decide (bF u &&& (x ^^^ (-1)) = 0)) k9 = false) ∧ lv_has ls 3 [(2, .int (nI u)), (0, .ref g), (1, .int x)]) (fun u => 16 - u) (fun u ls hI ih2 => ?_) 0 _ ⟨⟨Nat.zero_le _, lt_0⟩, hl⟩
  obtain ⟨hI, hl⟩ := hI
  obtain ⟨hu_u, hm⟩ := hI
  refine lv_iload_n hx hb d_Gr_leastFree_2 rfl (lv_at hl 0 rfl) ?_
  refine lv_bipush (v := nI 16) hx hb d_Gr_leastFree_3 (by decide) ?_
  refine lv_icmp_ge (tgt := 47) hx hb d_Gr_leastFree_5 rfl (fun hc5 => ?_) (fun hc5 => ?_)
  · have hc5 : 16 ≤ u := (nI_leI (by omega) (by omega)).mp hc5
    refine lv_iconst (v := nI 0) hx hb d_Gr_leastFree_47 (by decide) ?_
    refine xv_top (x' := nI (first (fun u => decide (nM u = nI u) && !(bt x u) && decide (bF u &&& (x ^^^ (-1)) = 0)) 0 16)) (by first | rw [first_eq (p := (fun u => decide (nM u = nI u) && !(bt x u) && decide (bF u &&& (x ^^^ (-1)) = 0))) (j := u) (by (try dsimp only); rw [decide_eq_true hc15, hc23, decide_eq_true hc36]; rfl) (by omega) hm] | rw [first_none (p := (fun u => decide (nM u = nI u) && !(bt x u) && decide (bF u &&& (x ^^^ (-1)) = 0))) (fun k9 hk9 => hm k9 (by omega))]) ?_
    exact W.iret (v := nI (first (fun u => decide (nM u = nI u) && !(bt x u) && decide (bF u &&& (x ^^^ (-1)) = 0)) 0 16)) hx hb hr (fun t ht hW => ⟨rfl, ht⟩) (fun _ h => by cases h) d_Gr_leastFree_48
  · have hc5 : ¬ (16 ≤ u) := fun q9 => hc5 ((nI_leI (by omega) (by omega)).mpr q9)
    refine lv_aload_n hx hb d_Gr_leastFree_8 rfl (lv_at hl 1 rfl) ?_
    refine va_get (D := D) (ci := 2) (v := .ref g1) (C := R_Gr) (T := F_Gr) (N := 7) hx hb hB in_Gr hown hK hP 0 rfl rfl 1 (by decide) (hB _ mf_Gr_15) (fun _ h9 => h9) rfl d_Gr_leastFree_9 ?_
    refine lv_iload_n hx hb d_Gr_leastFree_12 rfl (lv_at hl 0 rfl) ?_
    refine xa_ld (u := u) hx hb hK hP 2 1 rfl rfl (by omega) (by decide) d_Gr_leastFree_13 ?_
    refine lv_iload_n hx hb d_Gr_leastFree_14 rfl (lv_at hl 0 rfl) ?_
    refine lv_icmp_ne (tgt := 41) hx hb d_Gr_leastFree_15 rfl (fun hc15 => ?_) (fun hc15 => ?_)
    · refine lv_iinc hx hb d_Gr_leastFree_41 hl (k := 0) rfl (v := nI (u + 1)) (nI_1 u) (by decide) rfl (fun ls hl => ?_)
      have hl : lv_has ls 3 [(2, .int (nI (u + 1))), (0, .ref g), (1, .int x)] := hl
      refine lv_goto (tgt := 2) hx hb d_Gr_leastFree_44 rfl ?_
      exact ih2 (u + 1) _ ⟨⟨by omega, lt_s hm (by (try dsimp only); first | (rw [decide_eq_false hc36, Bool.and_false]; done) | (rw [hc23]; simp; done) | (rw [decide_eq_false hc15]; rfl))⟩, lv_sub hl [0, 1, 2] rfl⟩ (by omega)
    · refine lv_iload_n hx hb d_Gr_leastFree_18 rfl (lv_at hl 2 rfl) ?_
      refine lv_iload_n hx hb d_Gr_leastFree_19 rfl (lv_at hl 0 rfl) ?_
      refine xr_cal (va_runSN (As := [.int x, .int (nI u)]) (rest := []) ⟨hx, hb, hml, hown, hB⟩ (k_A_has l D x u (by omega)) ⟨va_cnB 2 hB (xg0 mc_A_has) rfl rfl rfl (xn_Gr_53 hN) (hB _ mz_A) (by decide +kernel) ⟨Nat.le_of_ble_eq_true rfl, Nat.le_of_ble_eq_true rfl⟩, hB _ ms_A_has, trivial⟩ (xpS (ws := []) (tys := []) (hP.sub [] rfl) (hK.sub [] rfl) hN) rfl rfl hl.1 rfl (lv_room (Nat.le_of_ble_eq_true rfl)) d_Gr_leastFree_20 ⟨Nat.le_of_ble_eq_true rfl, Nat.le_of_ble_eq_true rfl⟩) ?_
      refine lv_if_ne (tgt := 41) hx hb d_Gr_leastFree_23 rfl (fun hc23 => ?_) (fun hc23 => ?_)
      · have hc23 := b2i_n.mp hc23
        refine lv_iinc hx hb d_Gr_leastFree_41 hl (k := 0) rfl (v := nI (u + 1)) (nI_1 u) (by decide) rfl (fun ls hl => ?_)
        have hl : lv_has ls 3 [(2, .int (nI (u + 1))), (0, .ref g), (1, .int x)] := hl
        refine lv_goto (tgt := 2) hx hb d_Gr_leastFree_44 rfl ?_
        exact ih2 (u + 1) _ ⟨⟨by omega, lt_s hm (by (try dsimp only); first | (rw [decide_eq_false hc36, Bool.and_false]; done) | (rw [hc23]; simp; done) | (rw [decide_eq_false hc15]; rfl))⟩, lv_sub hl [0, 1, 2] rfl⟩ (by omega)
      · have hc23 := b2i_0.mp hc23
        refine lv_aload_n hx hb d_Gr_leastFree_26 rfl (lv_at hl 1 rfl) ?_
        refine va_get (D := D) (ci := 2) (v := .ref g3) (C := R_Gr) (T := F_Gr) (N := 7) hx hb hB in_Gr hown hK hP 0 rfl rfl 3 (by decide) (hB _ mf_Gr_21) (fun _ h9 => h9) rfl d_Gr_leastFree_27 ?_
        refine lv_iload_n hx hb d_Gr_leastFree_30 rfl (lv_at hl 0 rfl) ?_
        refine xa_ld (u := u) hx hb hK hP 4 3 rfl rfl (by omega) (by decide) d_Gr_leastFree_31 ?_
        refine lv_iload_n hx hb d_Gr_leastFree_32 rfl (lv_at hl 2 rfl) ?_
        refine lv_iconst (v := -1) hx hb d_Gr_leastFree_33 (by decide) ?_
        refine lv_ixor hx hb d_Gr_leastFree_34 ?_
        refine lv_iand hx hb d_Gr_leastFree_35 ?_
        refine lv_if_ne (tgt := 41) hx hb d_Gr_leastFree_36 rfl (fun hc36 => ?_) (fun hc36 => ?_)
        · refine lv_iinc hx hb d_Gr_leastFree_41 hl (k := 0) rfl (v := nI (u + 1)) (nI_1 u) (by decide) rfl (fun ls hl => ?_)
          have hl : lv_has ls 3 [(2, .int (nI (u + 1))), (0, .ref g), (1, .int x)] := hl
          refine lv_goto (tgt := 2) hx hb d_Gr_leastFree_44 rfl ?_
          exact ih2 (u + 1) _ ⟨⟨by omega, lt_s hm (by (try dsimp only); first | (rw [decide_eq_false hc36, Bool.and_false]; done) | (rw [hc23]; simp; done) | (rw [decide_eq_false hc15]; rfl))⟩, lv_sub hl [0, 1, 2] rfl⟩ (by omega)
        · refine lv_iload_n hx hb d_Gr_leastFree_39 rfl (lv_at hl 0 rfl) ?_
          refine xv_top (x' := nI (first (fun u => decide (nM u = nI u) && !(bt x u) && decide (bF u &&& (x ^^^ (-1)) = 0)) 0 16)) (by first | rw [first_eq (p := (fun u => decide (nM u = nI u) && !(bt x u) && decide (bF u &&& (x ^^^ (-1)) = 0))) (j := u) (by (try dsimp only); rw [decide_eq_true hc15, hc23, decide_eq_true hc36]; rfl) (by omega) hm] | rw [first_none (p := (fun u => decide (nM u = nI u) && !(bt x u) && decide (bF u &&& (x ^^^ (-1)) = 0))) (fun k9 hk9 => hm k9 (by omega))]) ?_
          exact W.iret (v := nI (first (fun u => decide (nM u = nI u) && !(bt x u) && decide (bF u &&& (x ^^^ (-1)) = 0)) 0 16)) hx hb hr (fun t ht hW => ⟨rfl, ht⟩) (fun _ h => by cases h) d_Gr_leastFree_40
set_option maxHeartbeats 4000000 in
set_option maxRecDepth 100000 in
theorem k_Gr_pairsWithoutDetour (l : Launch) (D : va_G) (g g0 g1 g2 g3 g4 g5 : Nat) (k0 k1 k2 k3 k4 k5 : ClassId) (gc : Int32) (rE nM lD bF oR cH : Nat → Int32)  : Met l y_Gr_pairsWithoutDetour (Cond.code y_Gr_pairsWithoutDetour c_Gr_pairsWithoutDetour 4 (some .int) :: BS) { frames := 2, cells := 0, slots := 0, locals := 44 } (va_Pc [.ref g] (xR D [(g, .inr (2, [.ref g0, .ref g1, .ref g2, .ref g3, .ref g4, .ref g5, .int gc])), (g0, .inl (k0, 16, .inl rE)), (g1, .inl (k1, 16, .inl nM)), (g2, .inl (k2, 16, .inl lD)), (g3, .inl (k3, 16, .inl bF)), (g4, .inl (k4, 16, .inl oR)), (g5, .inl (k5, 16, .inl cH))] [(k0, .int), (k1, .int), (k2, .int), (k3, .int), (k4, .int), (k5, .int)])) (QcRead (nI (sq (fun a9 => cq ((fun u v => bt (lD u) v && !(anyq (fun k => bt (lD u &&& (bit v ^^^ (-1))) k && bt (rE k) v) 16)) a9) 16) 16))) 0 0 (fun _ => False) := by
  refine Met.ofW (cc := c_Gr_pairsWithoutDetour) (maxL := 4) (ret := (some .int)) (by decide) rfl ?_
  intro p e s m args below meth c s₁ B hml hv
  obtain ⟨rfl, hP, hK, hN⟩ := hv
  have hx := B.exec
  have hb := B.bytes
  have hr := B.returns
  have hB := xB B.pre
  have hown : s.vm.findClass R_Gr = some m.cls := findClass_of_methodNamed B.named
  have hlocks := B.notSynchronized
  have hl := lv_entry ([.ref g]) (n := 4) (Nat.le_of_ble_eq_true rfl)
  rw [lg_entry_eq]
  generalize (lg_sl ([.ref g]) ++ List.replicate (4 - (lg_sl ([.ref g])).length) Slot.unset).toArray = ls at hl ⊢
  have hl : lv_has ls 4 [(0, .ref g)] := hl
  refine lv_iconst (v := nI 0) hx hb d_Gr_pairsWithoutDetour_0 (by decide) ?_
  refine lv_istore_n hx hb d_Gr_pairsWithoutDetour_1 rfl hl (by decide) rfl (fun ls hl => ?_)
  have hl : lv_has ls 4 [(1, .int (nI 0)), (0, .ref g)] := hl
  refine lv_iconst (v := nI 0) hx hb d_Gr_pairsWithoutDetour_2 (by decide) ?_
  refine lv_istore_n hx hb d_Gr_pairsWithoutDetour_3 rfl hl (by decide) rfl (fun ls hl => ?_)
  have hl : lv_has ls 4 [(2, .int (nI 0)), (1, .int (nI 0)), (0, .ref g)] := hl
  refine xl_r (fun (u : Nat) ls => (u ≤ 16) ∧ lv_has ls 4 [(2, .int (nI u)), (1, .int (nI (sq (fun a9 => cq ((fun u v => bt (lD u) v && !(anyq (fun k => bt (lD u &&& (bit v ^^^ (-1))) k && bt (rE k) v) 16)) a9) 16) u))), (0, .ref g)]) (fun u => 16 - u) (fun u ls hI ih4 => ?_) 0 _ ⟨Nat.zero_le _, hl⟩
  obtain ⟨hI, hl⟩ := hI
  have hu_u := hI
  refine lv_iload_n hx hb d_Gr_pairsWithoutDetour_4 rfl (lv_at hl 0 rfl) ?_
  refine lv_bipush (v := nI 16) hx hb d_Gr_pairsWithoutDetour_5 (by decide) ?_
  refine lv_icmp_ge (tgt := 67) hx hb d_Gr_pairsWithoutDetour_7 rfl (fun hc7 => ?_) (fun hc7 => ?_)
  · have hc7 : 16 ≤ u := (nI_leI (by omega) (by omega)).mp hc7
    refine lv_iload_n hx hb d_Gr_pairsWithoutDetour_67 rfl (lv_at hl 1 rfl) ?_
    refine xv_top (x' := nI (sq (fun a9 => cq ((fun u v => bt (lD u) v && !(anyq (fun k => bt (lD u &&& (bit v ^^^ (-1))) k && bt (rE k) v) 16)) a9) 16) 16)) (by rw [show u = 16 by omega]) ?_
    exact W.iret (v := nI (sq (fun a9 => cq ((fun u v => bt (lD u) v && !(anyq (fun k => bt (lD u &&& (bit v ^^^ (-1))) k && bt (rE k) v) 16)) a9) 16) 16)) hx hb hr (fun t ht hW => ⟨rfl, ht⟩) (fun _ h => by cases h) d_Gr_pairsWithoutDetour_68
  · have hc7 : ¬ (16 ≤ u) := fun q9 => hc7 ((nI_leI (by omega) (by omega)).mpr q9)
    refine lv_iconst (v := nI 0) hx hb d_Gr_pairsWithoutDetour_10 (by decide) ?_
    refine lv_istore_n hx hb d_Gr_pairsWithoutDetour_11 rfl hl (by decide) rfl (fun ls hl => ?_)
    have hl : lv_has ls 4 [(3, .int (nI 0)), (2, .int (nI u)), (1, .int (nI (sq (fun a9 => cq ((fun u v => bt (lD u) v && !(anyq (fun k => bt (lD u &&& (bit v ^^^ (-1))) k && bt (rE k) v) 16)) a9) 16) u))), (0, .ref g)] := hl
    refine xl_r (fun (v : Nat) ls => (v ≤ 16) ∧ lv_has ls 4 [(3, .int (nI v)), (2, .int (nI u)), (1, .int (nI (sq (fun a9 => cq ((fun u v => bt (lD u) v && !(anyq (fun k => bt (lD u &&& (bit v ^^^ (-1))) k && bt (rE k) v) 16)) a9) 16) u + cq ((fun u v => bt (lD u) v && !(anyq (fun k => bt (lD u &&& (bit v ^^^ (-1))) k && bt (rE k) v) 16)) u) v))), (0, .ref g)]) (fun v => 16 - v) (fun v ls hI ih12 => ?_) 0 _ ⟨Nat.zero_le _, hl⟩
    obtain ⟨hI, hl⟩ := hI
    have hu_v := hI
    refine lv_iload_n hx hb d_Gr_pairsWithoutDetour_12 rfl (lv_at hl 0 rfl) ?_
    refine lv_bipush (v := nI 16) hx hb d_Gr_pairsWithoutDetour_13 (by decide) ?_
    refine lv_icmp_ge (tgt := 61) hx hb d_Gr_pairsWithoutDetour_15 rfl (fun hc15 => ?_) (fun hc15 => ?_)
    · have hc15 : 16 ≤ v := (nI_leI (by omega) (by omega)).mp hc15
      have hl : lv_has ls 4 [(3, .int (nI v)), (2, .int (nI u)), (1, .int (nI (sq (fun a9 => cq ((fun u v => bt (lD u) v && !(anyq (fun k => bt (lD u &&& (bit v ^^^ (-1))) k && bt (rE k) v) 16)) a9) 16) (u + 1)))), (0, .ref g)] := by
        have hz : (nI (sq (fun a9 => cq ((fun u v => bt (lD u) v && !(anyq (fun k => bt (lD u &&& (bit v ^^^ (-1))) k && bt (rE k) v) 16)) a9) 16) u + cq ((fun u v => bt (lD u) v && !(anyq (fun k => bt (lD u &&& (bit v ^^^ (-1))) k && bt (rE k) v) 16)) u) v)) = nI (sq (fun a9 => cq ((fun u v => bt (lD u) v && !(anyq (fun k => bt (lD u &&& (bit v ^^^ (-1))) k && bt (rE k) v) 16)) a9) 16) (u + 1)) := by rw [show v = 16 by omega]; rfl
        rw [← hz]; exact hl
      refine lv_iinc hx hb d_Gr_pairsWithoutDetour_61 hl (k := 1) rfl (v := nI (u + 1)) (nI_1 u) (by decide) rfl (fun ls hl => ?_)
      have hl : lv_has ls 4 [(2, .int (nI (u + 1))), (3, .int (nI v)), (1, .int (nI (sq (fun a9 => cq ((fun u v => bt (lD u) v && !(anyq (fun k => bt (lD u &&& (bit v ^^^ (-1))) k && bt (rE k) v) 16)) a9) 16) (u + 1)))), (0, .ref g)] := hl
      refine lv_goto (tgt := 4) hx hb d_Gr_pairsWithoutDetour_64 rfl ?_
      exact ih4 (u + 1) _ ⟨by omega, lv_sub hl [0, 2, 3] rfl⟩ (by omega)
    · have hc15 : ¬ (16 ≤ v) := fun q9 => hc15 ((nI_leI (by omega) (by omega)).mpr q9)
      refine lv_aload_n hx hb d_Gr_pairsWithoutDetour_18 rfl (lv_at hl 3 rfl) ?_
      refine va_get (D := D) (ci := 2) (v := .ref g2) (C := R_Gr) (T := F_Gr) (N := 7) hx hb hB in_Gr hown hK hP 0 rfl rfl 2 (by decide) (hB _ mf_Gr_18) (fun _ h9 => h9) rfl d_Gr_pairsWithoutDetour_19 ?_
      refine lv_iload_n hx hb d_Gr_pairsWithoutDetour_22 rfl (lv_at hl 1 rfl) ?_
      refine xa_ld (u := u) hx hb hK hP 3 2 rfl rfl (by omega) (by decide) d_Gr_pairsWithoutDetour_23 ?_
      refine lv_iload_n hx hb d_Gr_pairsWithoutDetour_24 rfl (lv_at hl 0 rfl) ?_
      refine xr_cal (va_runSN (As := [.int (lD u), .int (nI v)]) (rest := []) ⟨hx, hb, hml, hown, hB⟩ (k_A_has l D (lD u) v (by omega)) ⟨va_cnB 2 hB (xg0 mc_A_has) rfl rfl rfl (xn_Gr_53 hN) (hB _ mz_A) (by decide +kernel) ⟨Nat.le_of_ble_eq_true rfl, Nat.le_of_ble_eq_true rfl⟩, hB _ ms_A_has, trivial⟩ (xpS (ws := []) (tys := []) (hP.sub [] rfl) (hK.sub [] rfl) hN) rfl rfl hl.1 rfl (lv_room (Nat.le_of_ble_eq_true rfl)) d_Gr_pairsWithoutDetour_25 ⟨Nat.le_of_ble_eq_true rfl, Nat.le_of_ble_eq_true rfl⟩) ?_
      refine lv_if_eq (tgt := 55) hx hb d_Gr_pairsWithoutDetour_28 rfl (fun hc28 => ?_) (fun hc28 => ?_)
      · have hc28 := b2i_0.mp hc28
        have hl : lv_has ls 4 [(3, .int (nI v)), (2, .int (nI u)), (1, .int (nI (sq (fun a9 => cq ((fun u v => bt (lD u) v && !(anyq (fun k => bt (lD u &&& (bit v ^^^ (-1))) k && bt (rE k) v) 16)) a9) 16) u + cq ((fun u v => bt (lD u) v && !(anyq (fun k => bt (lD u &&& (bit v ^^^ (-1))) k && bt (rE k) v) 16)) u) (v + 1)))), (0, .ref g)] := by
          have hz : (nI (sq (fun a9 => cq ((fun u v => bt (lD u) v && !(anyq (fun k => bt (lD u &&& (bit v ^^^ (-1))) k && bt (rE k) v) 16)) a9) 16) u + cq ((fun u v => bt (lD u) v && !(anyq (fun k => bt (lD u &&& (bit v ^^^ (-1))) k && bt (rE k) v) 16)) u) v)) = nI (sq (fun a9 => cq ((fun u v => bt (lD u) v && !(anyq (fun k => bt (lD u &&& (bit v ^^^ (-1))) k && bt (rE k) v) 16)) a9) 16) u + cq ((fun u v => bt (lD u) v && !(anyq (fun k => bt (lD u &&& (bit v ^^^ (-1))) k && bt (rE k) v) 16)) u) (v + 1)) := by rw [cq_f (p := (fun u v => bt (lD u) v && !(anyq (fun k => bt (lD u &&& (bit v ^^^ (-1))) k && bt (rE k) v) 16)) u) (k := v) (by (try dsimp only); first | (rw [hc49]; simp; done) | (rw [hc28]; rfl))]
          rw [← hz]; exact hl
        refine lv_iinc hx hb d_Gr_pairsWithoutDetour_55 hl (k := 0) rfl (v := nI (v + 1)) (nI_1 v) (by decide) rfl (fun ls hl => ?_)
        have hl : lv_has ls 4 [(3, .int (nI (v + 1))), (2, .int (nI u)), (1, .int (nI (sq (fun a9 => cq ((fun u v => bt (lD u) v && !(anyq (fun k => bt (lD u &&& (bit v ^^^ (-1))) k && bt (rE k) v) 16)) a9) 16) u + cq ((fun u v => bt (lD u) v && !(anyq (fun k => bt (lD u &&& (bit v ^^^ (-1))) k && bt (rE k) v) 16)) u) (v + 1)))), (0, .ref g)] := hl
        refine lv_goto (tgt := 12) hx hb d_Gr_pairsWithoutDetour_58 rfl ?_
        exact ih12 (v + 1) _ ⟨by omega, lv_sub hl [0, 1, 2, 3] rfl⟩ (by omega)
      · have hc28 := b2i_n.mp hc28
        refine lv_aload_n hx hb d_Gr_pairsWithoutDetour_31 rfl (lv_at hl 3 rfl) ?_
        refine lv_aload_n hx hb d_Gr_pairsWithoutDetour_32 rfl (lv_at hl 3 rfl) ?_
        refine va_get (D := D) (ci := 2) (v := .ref g2) (C := R_Gr) (T := F_Gr) (N := 7) hx hb hB in_Gr hown hK hP 0 rfl rfl 2 (by decide) (hB _ mf_Gr_18) (fun _ h9 => h9) rfl d_Gr_pairsWithoutDetour_33 ?_
        refine lv_iload_n hx hb d_Gr_pairsWithoutDetour_36 rfl (lv_at hl 1 rfl) ?_
        refine xa_ld (u := u) hx hb hK hP 3 2 rfl rfl (by omega) (by decide) d_Gr_pairsWithoutDetour_37 ?_
        refine lv_iload_n hx hb d_Gr_pairsWithoutDetour_38 rfl (lv_at hl 0 rfl) ?_
        refine xr_cal (va_runSN (As := [.int (nI v)]) (rest := [.int (lD u), .ref g]) ⟨hx, hb, hml, hown, hB⟩ (k_A_only l D v) ⟨va_cnB 1 hB (xg0 mc_A_only) rfl rfl rfl (xn_Gr_57 hN) (hB _ mz_A) (by decide +kernel) ⟨Nat.le_of_ble_eq_true rfl, Nat.le_of_ble_eq_true rfl⟩, hB _ ms_A_only, trivial⟩ (xpS (ws := []) (tys := []) (hP.sub [] rfl) (hK.sub [] rfl) hN) rfl rfl hl.1 rfl (lv_room (Nat.le_of_ble_eq_true rfl)) d_Gr_pairsWithoutDetour_39 ⟨Nat.le_of_ble_eq_true rfl, Nat.le_of_ble_eq_true rfl⟩) ?_
        refine lv_iconst (v := -1) hx hb d_Gr_pairsWithoutDetour_42 (by decide) ?_
        refine lv_ixor hx hb d_Gr_pairsWithoutDetour_43 ?_
        refine lv_iand hx hb d_Gr_pairsWithoutDetour_44 ?_
        refine lv_iload_n hx hb d_Gr_pairsWithoutDetour_45 rfl (lv_at hl 0 rfl) ?_
        refine xr_cal (va_runV (As := [.int ((lD u) &&& ((bit v) ^^^ (-1))), .int (nI v)]) (rest := []) ⟨hx, hb, hml, hown, hB⟩ (k_Gr_reachedFromOneOf l D g g0 g1 g2 g3 g4 g5 k0 k1 k2 k3 k4 k5 gc rE nM lD bF oR cH ((lD u) &&& ((bit v) ^^^ (-1))) v (by omega)) ⟨callB_of 2 hB (xg0 mc_Gr_reachedFromOneOf) rfl rfl rfl (hB _ mz_Gr) (hB _ ml_Gr_60) (by decide +kernel) ⟨Nat.le_of_ble_eq_true rfl, Nat.le_of_ble_eq_true rfl⟩, hB _ mi_Gr_reachedFromOneOf, hB _ me_Gr_reachedFromOneOf⟩ (xpV (ws := [(g, .inr (2, [.ref g0, .ref g1, .ref g2, .ref g3, .ref g4, .ref g5, .int gc])), (g0, .inl (k0, 16, .inl rE)), (g1, .inl (k1, 16, .inl nM)), (g2, .inl (k2, 16, .inl lD)), (g3, .inl (k3, 16, .inl bF)), (g4, .inl (k4, 16, .inl oR)), (g5, .inl (k5, 16, .inl cH))]) (tys := [(k0, .int), (k1, .int), (k2, .int), (k3, .int), (k4, .int), (k5, .int)]) (hP.sub [0, 1, 2, 3, 4, 5, 6] rfl) (hK.sub [0, 1, 2, 3, 4, 5] rfl) hN (va_recv (ci := 2) (q0 := 0) (q := (R_Gr, F_Gr, 7)) hK hP rfl rfl)) rfl rfl hl.1 rfl (lv_room (Nat.le_of_ble_eq_true rfl)) d_Gr_pairsWithoutDetour_46 ⟨Nat.le_of_ble_eq_true rfl, Nat.le_of_ble_eq_true rfl⟩) ?_
        refine lv_if_ne (tgt := 55) hx hb d_Gr_pairsWithoutDetour_49 rfl (fun hc49 => ?_) (fun hc49 => ?_)
        · have hc49 := b2i_n.mp hc49
          have hl : lv_has ls 4 [(3, .int (nI v)), (2, .int (nI u)), (1, .int (nI (sq (fun a9 => cq ((fun u v => bt (lD u) v && !(anyq (fun k => bt (lD u &&& (bit v ^^^ (-1))) k && bt (rE k) v) 16)) a9) 16) u + cq ((fun u v => bt (lD u) v && !(anyq (fun k => bt (lD u &&& (bit v ^^^ (-1))) k && bt (rE k) v) 16)) u) (v + 1)))), (0, .ref g)] := by
            have hz : (nI (sq (fun a9 => cq ((fun u v => bt (lD u) v && !(anyq (fun k => bt (lD u &&& (bit v ^^^ (-1))) k && bt (rE k) v) 16)) a9) 16) u + cq ((fun u v => bt (lD u) v && !(anyq (fun k => bt (lD u &&& (bit v ^^^ (-1))) k && bt (rE k) v) 16)) u) v)) = nI (sq (fun a9 => cq ((fun u v => bt (lD u) v && !(anyq (fun k => bt (lD u &&& (bit v ^^^ (-1))) k && bt (rE k) v) 16)) a9) 16) u + cq ((fun u v => bt (lD u) v && !(anyq (fun k => bt (lD u &&& (bit v ^^^ (-1))) k && bt (rE k) v) 16)) u) (v + 1)) := by rw [cq_f (p := (fun u v => bt (lD u) v && !(anyq (fun k => bt (lD u &&& (bit v ^^^ (-1))) k && bt (rE k) v) 16)) u) (k := v) (by (try dsimp only); first | (rw [hc49]; simp; done) | (rw [hc28]; rfl))]
            rw [← hz]; exact hl
          refine lv_iinc hx hb d_Gr_pairsWithoutDetour_55 hl (k := 0) rfl (v := nI (v + 1)) (nI_1 v) (by decide) rfl (fun ls hl => ?_)
          have hl : lv_has ls 4 [(3, .int (nI (v + 1))), (2, .int (nI u)), (1, .int (nI (sq (fun a9 => cq ((fun u v => bt (lD u) v && !(anyq (fun k => bt (lD u &&& (bit v ^^^ (-1))) k && bt (rE k) v) 16)) a9) 16) u + cq ((fun u v => bt (lD u) v && !(anyq (fun k => bt (lD u &&& (bit v ^^^ (-1))) k && bt (rE k) v) 16)) u) (v + 1)))), (0, .ref g)] := hl
          refine lv_goto (tgt := 12) hx hb d_Gr_pairsWithoutDetour_58 rfl ?_
          exact ih12 (v + 1) _ ⟨by omega, lv_sub hl [0, 1, 2, 3] rfl⟩ (by omega)
        · have hc49 := b2i_0.mp hc49
          refine lv_iinc hx hb d_Gr_pairsWithoutDetour_52 hl (k := 2) rfl (v := nI ((sq (fun a9 => cq ((fun u v => bt (lD u) v && !(anyq (fun k => bt (lD u &&& (bit v ^^^ (-1))) k && bt (rE k) v) 16)) a9) 16) u + cq ((fun u v => bt (lD u) v && !(anyq (fun k => bt (lD u &&& (bit v ^^^ (-1))) k && bt (rE k) v) 16)) u) v) + 1)) (nI_1 (sq (fun a9 => cq ((fun u v => bt (lD u) v && !(anyq (fun k => bt (lD u &&& (bit v ^^^ (-1))) k && bt (rE k) v) 16)) a9) 16) u + cq ((fun u v => bt (lD u) v && !(anyq (fun k => bt (lD u &&& (bit v ^^^ (-1))) k && bt (rE k) v) 16)) u) v)) (by decide) rfl (fun ls hl => ?_)
          have hl : lv_has ls 4 [(1, .int (nI ((sq (fun a9 => cq ((fun u v => bt (lD u) v && !(anyq (fun k => bt (lD u &&& (bit v ^^^ (-1))) k && bt (rE k) v) 16)) a9) 16) u + cq ((fun u v => bt (lD u) v && !(anyq (fun k => bt (lD u &&& (bit v ^^^ (-1))) k && bt (rE k) v) 16)) u) v) + 1))), (3, .int (nI v)), (2, .int (nI u)), (0, .ref g)] := hl
          have hl : lv_has ls 4 [(1, .int (nI (sq (fun a9 => cq ((fun u v => bt (lD u) v && !(anyq (fun k => bt (lD u &&& (bit v ^^^ (-1))) k && bt (rE k) v) 16)) a9) 16) u + cq ((fun u v => bt (lD u) v && !(anyq (fun k => bt (lD u &&& (bit v ^^^ (-1))) k && bt (rE k) v) 16)) u) (v + 1)))), (3, .int (nI v)), (2, .int (nI u)), (0, .ref g)] := by
            have hz : (nI ((sq (fun a9 => cq ((fun u v => bt (lD u) v && !(anyq (fun k => bt (lD u &&& (bit v ^^^ (-1))) k && bt (rE k) v) 16)) a9) 16) u + cq ((fun u v => bt (lD u) v && !(anyq (fun k => bt (lD u &&& (bit v ^^^ (-1))) k && bt (rE k) v) 16)) u) v) + 1)) = nI (sq (fun a9 => cq ((fun u v => bt (lD u) v && !(anyq (fun k => bt (lD u &&& (bit v ^^^ (-1))) k && bt (rE k) v) 16)) a9) 16) u + cq ((fun u v => bt (lD u) v && !(anyq (fun k => bt (lD u &&& (bit v ^^^ (-1))) k && bt (rE k) v) 16)) u) (v + 1)) := by rw [cq_t (p := (fun u v => bt (lD u) v && !(anyq (fun k => bt (lD u &&& (bit v ^^^ (-1))) k && bt (rE k) v) 16)) u) (k := v) (by (try dsimp only); rw [hc28, hc49]; rfl)]; rfl
            rw [← hz]; exact hl
          refine lv_iinc hx hb d_Gr_pairsWithoutDetour_55 hl (k := 1) rfl (v := nI (v + 1)) (nI_1 v) (by decide) rfl (fun ls hl => ?_)
          have hl : lv_has ls 4 [(3, .int (nI (v + 1))), (1, .int (nI (sq (fun a9 => cq ((fun u v => bt (lD u) v && !(anyq (fun k => bt (lD u &&& (bit v ^^^ (-1))) k && bt (rE k) v) 16)) a9) 16) u + cq ((fun u v => bt (lD u) v && !(anyq (fun k => bt (lD u &&& (bit v ^^^ (-1))) k && bt (rE k) v) 16)) u) (v + 1)))), (2, .int (nI u)), (0, .ref g)] := hl
          refine lv_goto (tgt := 12) hx hb d_Gr_pairsWithoutDetour_58 rfl ?_
          exact ih12 (v + 1) _ ⟨by omega, lv_sub hl [0, 2, 1, 3] rfl⟩ (by omega)
end
section
set_option maxHeartbeats 4000000 in
set_option maxRecDepth 100000 in
theorem k_A_hasDetour (l : Launch) (D : va_G) (a w g yw f : Nat) (hd : Nat) (cA : ClassId) (ct : Int32) (h : Nat → Int32) (hg : gd h) (u v : Nat) (hu : u < 16) (hv : v < 16) : Met l y_A_hasDetour (Cond.code y_A_hasDetour c_A_hasDetour 3 (some .boolean) :: BS) { frames := 3, cells := 0, slots := 0, locals := 69 } (va_Pc [.ref a, .int (nI u), .int (nI v)] (xR D [(a, .inr (0, [.ref w, .ref g, .ref yw, .ref f])), (w, .inr (1, [.ref hd, .int ct])), (hd, .inl (cA, 16, .inl h))] [(cA, .int)])) (QcRead (b2i (bt (SP h (h u &&& (bit v ^^^ (-1))) (bit u)) v))) 0 0 (fun _ => False) := by
  refine Met.ofW (cc := c_A_hasDetour) (maxL := 3) (ret := (some .boolean)) (by decide) rfl ?_
  intro p e s m args below meth c s₁ B hml hv
  obtain ⟨rfl, hP, hK, hN⟩ := hv
  have hx := B.exec
  have hb := B.bytes
  have hr := B.returns
  have hB := xB B.pre
  have hown : s.vm.findClass R_A = some m.cls := findClass_of_methodNamed B.named
  have hlocks := B.notSynchronized
  have hl := lv_entry ([.ref a, .int (nI u), .int (nI v)]) (n := 3) (Nat.le_of_ble_eq_true rfl)
  rw [lg_entry_eq]
  generalize (lg_sl ([.ref a, .int (nI u), .int (nI v)]) ++ List.replicate (3 - (lg_sl ([.ref a, .int (nI u), .int (nI v)])).length) Slot.unset).toArray = ls at hl ⊢
  have hl : lv_has ls 3 [(0, .ref a), (1, .int (nI u)), (2, .int (nI v))] := hl
  refine lv_aload_n hx hb d_A_hasDetour_0 rfl (lv_at hl 0 rfl) ?_
  refine va_get (D := D) (ci := 0) (v := .ref w) (C := R_A) (T := F_A) (N := 4) hx hb hB in_A hown hK hP 0 rfl rfl 0 (by decide) (hB _ mf_A_10) (fun _ h9 => h9) rfl d_A_hasDetour_1 ?_
  refine lv_aload_n hx hb d_A_hasDetour_4 rfl (lv_at hl 0 rfl) ?_
  refine va_get (D := D) (ci := 0) (v := .ref w) (C := R_A) (T := F_A) (N := 4) hx hb hB in_A hown hK hP 0 rfl rfl 0 (by decide) (hB _ mf_A_10) (fun _ h9 => h9) rfl d_A_hasDetour_5 ?_
  refine lv_iload_n hx hb d_A_hasDetour_8 rfl (lv_at hl 1 rfl) ?_
  refine xr_cal (va_runV (As := [.int (nI u)]) (rest := [.ref w]) ⟨hx, hb, hml, hown, hB⟩ (k_Web_headsOf l D w hd cA ct h u (by omega)) ⟨callB_of 1 hB (xg0 mc_Web_headsOf) rfl rfl rfl (hB _ mz_Web) (hB _ ml_A_168) (by decide +kernel) ⟨Nat.le_of_ble_eq_true rfl, Nat.le_of_ble_eq_true rfl⟩, hB _ mi_Web_headsOf, hB _ me_Web_headsOf⟩ (xpV (ws := [(w, .inr (1, [.ref hd, .int ct])), (hd, .inl (cA, 16, .inl h))]) (tys := [(cA, .int)]) (hP.sub [1, 2] rfl) (hK.sub [0] rfl) hN (va_recv (ci := 1) (q0 := 1) (q := (R_Web, F_Web, 2)) hK hP rfl rfl)) rfl rfl hl.1 rfl (lv_room (Nat.le_of_ble_eq_true rfl)) d_A_hasDetour_9 ⟨Nat.le_of_ble_eq_true rfl, Nat.le_of_ble_eq_true rfl⟩) ?_
  refine lv_iload_n hx hb d_A_hasDetour_12 rfl (lv_at hl 2 rfl) ?_
  refine xr_cal (va_runS (As := [.int (nI v)]) (rest := [.int (h u), .ref w]) ⟨hx, hb, hml, hown, hB⟩ (k_A_only l D v) ⟨callB_of 1 hB (xg0 mc_A_only) rfl rfl rfl (hB _ mz_A) (hB _ ml_A_97) (by decide +kernel) ⟨Nat.le_of_ble_eq_true rfl, Nat.le_of_ble_eq_true rfl⟩, hB _ ms_A_only⟩ (xpS (ws := []) (tys := []) (hP.sub [] rfl) (hK.sub [] rfl) hN) rfl rfl hl.1 rfl (lv_room (Nat.le_of_ble_eq_true rfl)) d_A_hasDetour_13 ⟨Nat.le_of_ble_eq_true rfl, Nat.le_of_ble_eq_true rfl⟩) ?_
  refine lv_iconst (v := -1) hx hb d_A_hasDetour_16 (by decide) ?_
  refine lv_ixor hx hb d_A_hasDetour_17 ?_
  refine lv_iand hx hb d_A_hasDetour_18 ?_
  refine lv_iload_n hx hb d_A_hasDetour_19 rfl (lv_at hl 1 rfl) ?_
  refine xr_cal (va_runS (As := [.int (nI u)]) (rest := [.int ((h u) &&& ((bit v) ^^^ (-1))), .ref w]) ⟨hx, hb, hml, hown, hB⟩ (k_A_only l D u) ⟨callB_of 1 hB (xg0 mc_A_only) rfl rfl rfl (hB _ mz_A) (hB _ ml_A_97) (by decide +kernel) ⟨Nat.le_of_ble_eq_true rfl, Nat.le_of_ble_eq_true rfl⟩, hB _ ms_A_only⟩ (xpS (ws := []) (tys := []) (hP.sub [] rfl) (hK.sub [] rfl) hN) rfl rfl hl.1 rfl (lv_room (Nat.le_of_ble_eq_true rfl)) d_A_hasDetour_20 ⟨Nat.le_of_ble_eq_true rfl, Nat.le_of_ble_eq_true rfl⟩) ?_
  refine xr_cal (va_runV (As := [.int ((h u) &&& ((bit v) ^^^ (-1))), .int (bit u)]) (rest := []) ⟨hx, hb, hml, hown, hB⟩ (k_Web_spread l D w hd cA ct h hg ((h u) &&& ((bit v) ^^^ (-1))) (bit u) (m16_and (hg u hu))) ⟨callB_of 2 hB (xg0 mc_Web_spread) rfl rfl rfl (hB _ mz_Web) (hB _ ml_A_100) (by decide +kernel) ⟨Nat.le_of_ble_eq_true rfl, Nat.le_of_ble_eq_true rfl⟩, hB _ mi_Web_spread, hB _ me_Web_spread⟩ (xpV (ws := [(w, .inr (1, [.ref hd, .int ct])), (hd, .inl (cA, 16, .inl h))]) (tys := [(cA, .int)]) (hP.sub [1, 2] rfl) (hK.sub [0] rfl) hN (va_recv (ci := 1) (q0 := 1) (q := (R_Web, F_Web, 2)) hK hP rfl rfl)) rfl rfl hl.1 rfl (lv_room (Nat.le_of_ble_eq_true rfl)) d_A_hasDetour_23 ⟨Nat.le_of_ble_eq_true rfl, Nat.le_of_ble_eq_true rfl⟩) ?_
  refine lv_iload_n hx hb d_A_hasDetour_26 rfl (lv_at hl 2 rfl) ?_
  refine xr_cal (va_runS (As := [.int (SP h ((h u) &&& ((bit v) ^^^ (-1))) (bit u)), .int (nI v)]) (rest := []) ⟨hx, hb, hml, hown, hB⟩ (k_A_has l D (SP h ((h u) &&& ((bit v) ^^^ (-1))) (bit u)) v (by omega)) ⟨callB_of 2 hB (xg0 mc_A_has) rfl rfl rfl (hB _ mz_A) (hB _ ml_A_104) (by decide +kernel) ⟨Nat.le_of_ble_eq_true rfl, Nat.le_of_ble_eq_true rfl⟩, hB _ ms_A_has⟩ (xpS (ws := []) (tys := []) (hP.sub [] rfl) (hK.sub [] rfl) hN) rfl rfl hl.1 rfl (lv_room (Nat.le_of_ble_eq_true rfl)) d_A_hasDetour_27 ⟨Nat.le_of_ble_eq_true rfl, Nat.le_of_ble_eq_true rfl⟩) ?_
  exact W.zret (v := b2i (bt (SP h ((h u) &&& ((bit v) ^^^ (-1))) (bit u)) v)) hx hb hr (b2i_nar _) (fun t ht hW => ⟨rfl, ht⟩) (fun _ h => by cases h) d_A_hasDetour_30
set_option maxHeartbeats 4000000 in
set_option maxRecDepth 100000 in
theorem k_A_needsAll (l : Launch) (D : va_G) (a w g yw f : Nat) (hd : Nat) (cA : ClassId) (ct : Int32) (h : Nat → Int32) (hg : gd h) (r9 d9 : Nat) (ox : Int32) (hr9 : r9 < 16) (hd9 : d9 < 16) : Met l y_A_needsAll (Cond.code y_A_needsAll c_A_needsAll 5 (some .boolean) :: BS) { frames := 3, cells := 0, slots := 0, locals := 69 } (va_Pc [.ref a, .int (nI r9), .int (nI d9), .int ox] (xR D [(a, .inr (0, [.ref w, .ref g, .ref yw, .ref f])), (w, .inr (1, [.ref hd, .int ct])), (hd, .inl (cA, 16, .inl h))] [(cA, .int)])) (QcRead (b2i (!(anyq (fun e9 => bt ox e9 && bt (SP h (bit r9) (bit e9)) d9) 16)))) 0 0 (fun _ => False) := by
  refine Met.ofW (cc := c_A_needsAll) (maxL := 5) (ret := (some .boolean)) (by decide) rfl ?_
  intro p e s m args below meth c s₁ B hml hv
  obtain ⟨rfl, hP, hK, hN⟩ := hv
  have hx := B.exec
  have hb := B.bytes
  have hr := B.returns
  have hB := xB B.pre
  have hown : s.vm.findClass R_A = some m.cls := findClass_of_methodNamed B.named
  have hlocks := B.notSynchronized
  have hl := lv_entry ([.ref a, .int (nI r9), .int (nI d9), .int ox]) (n := 5) (Nat.le_of_ble_eq_true rfl)
  rw [lg_entry_eq]
  generalize (lg_sl ([.ref a, .int (nI r9), .int (nI d9), .int ox]) ++ List.replicate (5 - (lg_sl ([.ref a, .int (nI r9), .int (nI d9), .int ox])).length) Slot.unset).toArray = ls at hl ⊢
  have hl : lv_has ls 5 [(0, .ref a), (1, .int (nI r9)), (2, .int (nI d9)), (3, .int ox)] := hl
  refine lv_iconst (v := nI 0) hx hb d_A_needsAll_0 (by decide) ?_
  refine lv_istore hx hb d_A_needsAll_1 hl (by decide) rfl (fun ls hl => ?_)
  have hl : lv_has ls 5 [(4, .int (nI 0)), (0, .ref a), (1, .int (nI r9)), (2, .int (nI d9)), (3, .int ox)] := hl
  refine xl_r (fun (u : Nat) ls => (u ≤ 16 ∧ ∀ k9, k9 < u → (fun e9 => bt ox e9 && bt (SP h (bit r9) (bit e9)) d9) k9 = false) ∧ lv_has ls 5 [(4, .int (nI u)), (0, .ref a), (1, .int (nI r9)), (2, .int (nI d9)), (3, .int ox)]) (fun u => 16 - u) (fun u ls hI ih3 => ?_) 0 _ ⟨⟨Nat.zero_le _, lt_0⟩, hl⟩
  obtain ⟨hI, hl⟩ := hI
  obtain ⟨hu_u, hm⟩ := hI
  refine lv_iload hx hb d_A_needsAll_3 (lv_at hl 0 rfl) ?_
  refine lv_bipush (v := nI 16) hx hb d_A_needsAll_5 (by decide) ?_
  refine lv_icmp_ge (tgt := 50) hx hb d_A_needsAll_7 rfl (fun hc7 => ?_) (fun hc7 => ?_)
  · have hc7 : 16 ≤ u := (nI_leI (by omega) (by omega)).mp hc7
    refine lv_iconst (v := nI 1) hx hb d_A_needsAll_50 (by decide) ?_
    refine xv_top (x' := b2i (!(anyq (fun e9 => bt ox e9 && bt (SP h (bit r9) (bit e9)) d9) 16))) (by first | rw [anyq_t (p := (fun e9 => bt ox e9 && bt (SP h (bit r9) (bit e9)) d9)) (i := u) (by (try dsimp only); rw [hc16, hc39]; rfl) 16 (by omega)]; rfl | rw [anyq_f (p := (fun e9 => bt ox e9 && bt (SP h (bit r9) (bit e9)) d9)) 16 (fun k9 hk9 => hm k9 (by omega))]; rfl) ?_
    exact W.zret (v := b2i (!(anyq (fun e9 => bt ox e9 && bt (SP h (bit r9) (bit e9)) d9) 16))) hx hb hr (b2i_nar _) (fun t ht hW => ⟨rfl, ht⟩) (fun _ h => by cases h) d_A_needsAll_51
  · have hc7 : ¬ (16 ≤ u) := fun q9 => hc7 ((nI_leI (by omega) (by omega)).mpr q9)
    refine lv_iload_n hx hb d_A_needsAll_10 rfl (lv_at hl 4 rfl) ?_
    refine lv_iload hx hb d_A_needsAll_11 (lv_at hl 0 rfl) ?_
    refine xr_cal (va_runS (As := [.int ox, .int (nI u)]) (rest := []) ⟨hx, hb, hml, hown, hB⟩ (k_A_has l D ox u (by omega)) ⟨callB_of 2 hB (xg0 mc_A_has) rfl rfl rfl (hB _ mz_A) (hB _ ml_A_104) (by decide +kernel) ⟨Nat.le_of_ble_eq_true rfl, Nat.le_of_ble_eq_true rfl⟩, hB _ ms_A_has⟩ (xpS (ws := []) (tys := []) (hP.sub [] rfl) (hK.sub [] rfl) hN) rfl rfl hl.1 rfl (lv_room (Nat.le_of_ble_eq_true rfl)) d_A_needsAll_13 ⟨Nat.le_of_ble_eq_true rfl, Nat.le_of_ble_eq_true rfl⟩) ?_
    refine lv_if_eq (tgt := 44) hx hb d_A_needsAll_16 rfl (fun hc16 => ?_) (fun hc16 => ?_)
    · have hc16 := b2i_0.mp hc16
      refine lv_iinc hx hb d_A_needsAll_44 hl (k := 0) rfl (v := nI (u + 1)) (nI_1 u) (by decide) rfl (fun ls hl => ?_)
      have hl : lv_has ls 5 [(4, .int (nI (u + 1))), (0, .ref a), (1, .int (nI r9)), (2, .int (nI d9)), (3, .int ox)] := hl
      refine lv_goto (tgt := 3) hx hb d_A_needsAll_47 rfl ?_
      exact ih3 (u + 1) _ ⟨⟨by omega, lt_s hm (by (try dsimp only); first | (rw [hc16]; rfl) | (rw [hc39, Bool.and_false]))⟩, lv_sub hl [0, 1, 2, 3, 4] rfl⟩ (by omega)
    · have hc16 := b2i_n.mp hc16
      refine lv_aload_n hx hb d_A_needsAll_19 rfl (lv_at hl 1 rfl) ?_
      refine va_get (D := D) (ci := 0) (v := .ref w) (C := R_A) (T := F_A) (N := 4) hx hb hB in_A hown hK hP 0 rfl rfl 0 (by decide) (hB _ mf_A_10) (fun _ h9 => h9) rfl d_A_needsAll_20 ?_
      refine lv_iload_n hx hb d_A_needsAll_23 rfl (lv_at hl 2 rfl) ?_
      refine xr_cal (va_runS (As := [.int (nI r9)]) (rest := [.ref w]) ⟨hx, hb, hml, hown, hB⟩ (k_A_only l D r9) ⟨callB_of 1 hB (xg0 mc_A_only) rfl rfl rfl (hB _ mz_A) (hB _ ml_A_97) (by decide +kernel) ⟨Nat.le_of_ble_eq_true rfl, Nat.le_of_ble_eq_true rfl⟩, hB _ ms_A_only⟩ (xpS (ws := []) (tys := []) (hP.sub [] rfl) (hK.sub [] rfl) hN) rfl rfl hl.1 rfl (lv_room (Nat.le_of_ble_eq_true rfl)) d_A_needsAll_24 ⟨Nat.le_of_ble_eq_true rfl, Nat.le_of_ble_eq_true rfl⟩) ?_
      refine lv_iload hx hb d_A_needsAll_27 (lv_at hl 0 rfl) ?_
      refine xr_cal (va_runS (As := [.int (nI u)]) (rest := [.int (bit r9), .ref w]) ⟨hx, hb, hml, hown, hB⟩ (k_A_only l D u) ⟨callB_of 1 hB (xg0 mc_A_only) rfl rfl rfl (hB _ mz_A) (hB _ ml_A_97) (by decide +kernel) ⟨Nat.le_of_ble_eq_true rfl, Nat.le_of_ble_eq_true rfl⟩, hB _ ms_A_only⟩ (xpS (ws := []) (tys := []) (hP.sub [] rfl) (hK.sub [] rfl) hN) rfl rfl hl.1 rfl (lv_room (Nat.le_of_ble_eq_true rfl)) d_A_needsAll_29 ⟨Nat.le_of_ble_eq_true rfl, Nat.le_of_ble_eq_true rfl⟩) ?_
      refine xr_cal (va_runV (As := [.int (bit r9), .int (bit u)]) (rest := []) ⟨hx, hb, hml, hown, hB⟩ (k_Web_spread l D w hd cA ct h hg (bit r9) (bit u) (m16_bit hr9)) ⟨callB_of 2 hB (xg0 mc_Web_spread) rfl rfl rfl (hB _ mz_Web) (hB _ ml_A_100) (by decide +kernel) ⟨Nat.le_of_ble_eq_true rfl, Nat.le_of_ble_eq_true rfl⟩, hB _ mi_Web_spread, hB _ me_Web_spread⟩ (xpV (ws := [(w, .inr (1, [.ref hd, .int ct])), (hd, .inl (cA, 16, .inl h))]) (tys := [(cA, .int)]) (hP.sub [1, 2] rfl) (hK.sub [0] rfl) hN (va_recv (ci := 1) (q0 := 1) (q := (R_Web, F_Web, 2)) hK hP rfl rfl)) rfl rfl hl.1 rfl (lv_room (Nat.le_of_ble_eq_true rfl)) d_A_needsAll_32 ⟨Nat.le_of_ble_eq_true rfl, Nat.le_of_ble_eq_true rfl⟩) ?_
      refine lv_iload_n hx hb d_A_needsAll_35 rfl (lv_at hl 3 rfl) ?_
      refine xr_cal (va_runS (As := [.int (SP h (bit r9) (bit u)), .int (nI d9)]) (rest := []) ⟨hx, hb, hml, hown, hB⟩ (k_A_has l D (SP h (bit r9) (bit u)) d9 (by omega)) ⟨callB_of 2 hB (xg0 mc_A_has) rfl rfl rfl (hB _ mz_A) (hB _ ml_A_104) (by decide +kernel) ⟨Nat.le_of_ble_eq_true rfl, Nat.le_of_ble_eq_true rfl⟩, hB _ ms_A_has⟩ (xpS (ws := []) (tys := []) (hP.sub [] rfl) (hK.sub [] rfl) hN) rfl rfl hl.1 rfl (lv_room (Nat.le_of_ble_eq_true rfl)) d_A_needsAll_36 ⟨Nat.le_of_ble_eq_true rfl, Nat.le_of_ble_eq_true rfl⟩) ?_
      refine lv_if_eq (tgt := 44) hx hb d_A_needsAll_39 rfl (fun hc39 => ?_) (fun hc39 => ?_)
      · have hc39 := b2i_0.mp hc39
        refine lv_iinc hx hb d_A_needsAll_44 hl (k := 0) rfl (v := nI (u + 1)) (nI_1 u) (by decide) rfl (fun ls hl => ?_)
        have hl : lv_has ls 5 [(4, .int (nI (u + 1))), (0, .ref a), (1, .int (nI r9)), (2, .int (nI d9)), (3, .int ox)] := hl
        refine lv_goto (tgt := 3) hx hb d_A_needsAll_47 rfl ?_
        exact ih3 (u + 1) _ ⟨⟨by omega, lt_s hm (by (try dsimp only); first | (rw [hc16]; rfl) | (rw [hc39, Bool.and_false]))⟩, lv_sub hl [0, 1, 2, 3, 4] rfl⟩ (by omega)
      · have hc39 := b2i_n.mp hc39
        refine lv_iconst (v := nI 0) hx hb d_A_needsAll_42 (by decide) ?_
        refine xv_top (x' := b2i (!(anyq (fun e9 => bt ox e9 && bt (SP h (bit r9) (bit e9)) d9) 16))) (by first | rw [anyq_t (p := (fun e9 => bt ox e9 && bt (SP h (bit r9) (bit e9)) d9)) (i := u) (by (try dsimp only); rw [hc16, hc39]; rfl) 16 (by omega)]; rfl | rw [anyq_f (p := (fun e9 => bt ox e9 && bt (SP h (bit r9) (bit e9)) d9)) 16 (fun k9 hk9 => hm k9 (by omega))]; rfl) ?_
        exact W.zret (v := b2i (!(anyq (fun e9 => bt ox e9 && bt (SP h (bit r9) (bit e9)) d9) 16))) hx hb hr (b2i_nar _) (fun t ht hW => ⟨rfl, ht⟩) (fun _ h => by cases h) d_A_needsAll_43
set_option maxHeartbeats 4000000 in
set_option maxRecDepth 100000 in
theorem k_A_lastBefore (l : Launch) (D : va_G) (a w g yw f : Nat) (hd : Nat) (cA : ClassId) (ct : Int32) (h : Nat → Int32) (hg : gd h) (r9 v9 : Nat) (hr9 : r9 < 16) (hv9 : v9 < 16) : Met l y_A_lastBefore (Cond.code y_A_lastBefore c_A_lastBefore 5 (some .int) :: BS) { frames := 4, cells := 0, slots := 0, locals := 93 } (va_Pc [.ref a, .int (nI r9), .int (nI v9)] (xR D [(a, .inr (0, [.ref w, .ref g, .ref yw, .ref f])), (w, .inr (1, [.ref hd, .int ct])), (hd, .inl (cA, 16, .inl h))] [(cA, .int)])) (QcRead (nI (first (fun d9 => bt (mk (fun d9 => decide (¬ d9 = v9) && !(bt (SP h (bit r9) (bit d9)) v9)) 16) d9 && !(anyq (fun e9 => bt ((mk (fun d9 => decide (¬ d9 = v9) && !(bt (SP h (bit r9) (bit d9)) v9)) 16) &&& (bit d9 ^^^ (-1))) e9 && bt (SP h (bit r9) (bit e9)) d9) 16)) r9 16))) 0 0 (fun _ => False) := by
  refine Met.ofW (cc := c_A_lastBefore) (maxL := 5) (ret := (some .int)) (by decide) rfl ?_
  intro p e s m args below meth c s₁ B hml hv
  obtain ⟨rfl, hP, hK, hN⟩ := hv
  have hx := B.exec
  have hb := B.bytes
  have hr := B.returns
  have hB := xB B.pre
  have hown : s.vm.findClass R_A = some m.cls := findClass_of_methodNamed B.named
  have hlocks := B.notSynchronized
  have hl := lv_entry ([.ref a, .int (nI r9), .int (nI v9)]) (n := 5) (Nat.le_of_ble_eq_true rfl)
  rw [lg_entry_eq]
  generalize (lg_sl ([.ref a, .int (nI r9), .int (nI v9)]) ++ List.replicate (5 - (lg_sl ([.ref a, .int (nI r9), .int (nI v9)])).length) Slot.unset).toArray = ls at hl ⊢
  have hl : lv_has ls 5 [(0, .ref a), (1, .int (nI r9)), (2, .int (nI v9))] := hl
  refine lv_iconst (v := nI 0) hx hb d_A_lastBefore_0 (by decide) ?_
  refine lv_istore_n hx hb d_A_lastBefore_1 rfl hl (by decide) rfl (fun ls hl => ?_)
  have hl : lv_has ls 5 [(3, .int (nI 0)), (0, .ref a), (1, .int (nI r9)), (2, .int (nI v9))] := hl
  refine lv_iconst (v := nI 0) hx hb d_A_lastBefore_2 (by decide) ?_
  refine lv_istore hx hb d_A_lastBefore_3 hl (by decide) rfl (fun ls hl => ?_)
  have hl : lv_has ls 5 [(4, .int (nI 0)), (3, .int (nI 0)), (0, .ref a), (1, .int (nI r9)), (2, .int (nI v9))] := hl
  refine xl_r (fun (u : Nat) ls => (u ≤ 16) ∧ lv_has ls 5 [(4, .int (nI u)), (3, .int (mk (fun d9 => decide (¬ d9 = v9) && !(bt (SP h (bit r9) (bit d9)) v9)) u)), (0, .ref a), (1, .int (nI r9)), (2, .int (nI v9))]) (fun u => 16 - u) (fun u ls hI ih5 => ?_) 0 _ ⟨Nat.zero_le _, hl⟩
  obtain ⟨hI, hl⟩ := hI
  have hu_u := hI
  refine lv_iload hx hb d_A_lastBefore_5 (lv_at hl 0 rfl) ?_
  refine lv_bipush (v := nI 16) hx hb d_A_lastBefore_7 (by decide) ?_
  refine lv_icmp_ge (tgt := 55) hx hb d_A_lastBefore_9 rfl (fun hc9 => ?_) (fun hc9 => ?_)
  · have hc9 : 16 ≤ u := (nI_leI (by omega) (by omega)).mp hc9
    have hl : lv_has ls 5 [(4, .int (nI u)), (3, .int (mk (fun d9 => decide (¬ d9 = v9) && !(bt (SP h (bit r9) (bit d9)) v9)) 16)), (0, .ref a), (1, .int (nI r9)), (2, .int (nI v9))] := by
      have hz : (mk (fun d9 => decide (¬ d9 = v9) && !(bt (SP h (bit r9) (bit d9)) v9)) u) = (mk (fun d9 => decide (¬ d9 = v9) && !(bt (SP h (bit r9) (bit d9)) v9)) 16) := by rw [show u = 16 by omega]
      rw [← hz]; exact hl
    refine lv_iconst (v := nI 0) hx hb d_A_lastBefore_55 (by decide) ?_
    refine lv_istore hx hb d_A_lastBefore_56 hl (by decide) rfl (fun ls hl => ?_)
    have hl : lv_has ls 5 [(4, .int (nI 0)), (3, .int (mk (fun d9 => decide (¬ d9 = v9) && !(bt (SP h (bit r9) (bit d9)) v9)) 16)), (0, .ref a), (1, .int (nI r9)), (2, .int (nI v9))] := hl
    refine xl_r (fun (d : Nat) ls => (d ≤ 16 ∧ ∀ k9, k9 < d → (fun d9 => bt (mk (fun d9 => decide (¬ d9 = v9) && !(bt (SP h (bit r9) (bit d9)) v9)) 16) d9 && !(anyq (fun e9 => bt ((mk (fun d9 => decide (¬ d9 = v9) && !(bt (SP h (bit r9) (bit d9)) v9)) 16) &&& (bit d9 ^^^ (-1))) e9 && bt (SP h (bit r9) (bit e9)) d9) 16)) k9 = false) ∧ lv_has ls 5 [(4, .int (nI d)), (3, .int (mk (fun d9 => decide (¬ d9 = v9) && !(bt (SP h (bit r9) (bit d9)) v9)) 16)), (0, .ref a), (1, .int (nI r9)), (2, .int (nI v9))]) (fun d => 16 - d) (fun d ls hI ih58 => ?_) 0 _ ⟨⟨Nat.zero_le _, lt_0⟩, hl⟩
    obtain ⟨hI, hl⟩ := hI
    obtain ⟨hu_d, hm⟩ := hI
    refine lv_iload hx hb d_A_lastBefore_58 (lv_at hl 0 rfl) ?_
    refine lv_bipush (v := nI 16) hx hb d_A_lastBefore_60 (by decide) ?_
    refine lv_icmp_ge (tgt := 102) hx hb d_A_lastBefore_62 rfl (fun hc62 => ?_) (fun hc62 => ?_)
    · have hc62 : 16 ≤ d := (nI_leI (by omega) (by omega)).mp hc62
      refine lv_iload_n hx hb d_A_lastBefore_102 rfl (lv_at hl 3 rfl) ?_
      refine xv_top (x' := nI (first (fun d9 => bt (mk (fun d9 => decide (¬ d9 = v9) && !(bt (SP h (bit r9) (bit d9)) v9)) 16) d9 && !(anyq (fun e9 => bt ((mk (fun d9 => decide (¬ d9 = v9) && !(bt (SP h (bit r9) (bit d9)) v9)) 16) &&& (bit d9 ^^^ (-1))) e9 && bt (SP h (bit r9) (bit e9)) d9) 16)) r9 16)) (by first | rw [first_eq (p := (fun d9 => bt (mk (fun d9 => decide (¬ d9 = v9) && !(bt (SP h (bit r9) (bit d9)) v9)) 16) d9 && !(anyq (fun e9 => bt ((mk (fun d9 => decide (¬ d9 = v9) && !(bt (SP h (bit r9) (bit d9)) v9)) 16) &&& (bit d9 ^^^ (-1))) e9 && bt (SP h (bit r9) (bit e9)) d9) 16))) (j := d) (by (try dsimp only); rw [hc71, hc90]; rfl) (by omega) hm] | rw [first_none (p := (fun d9 => bt (mk (fun d9 => decide (¬ d9 = v9) && !(bt (SP h (bit r9) (bit d9)) v9)) 16) d9 && !(anyq (fun e9 => bt ((mk (fun d9 => decide (¬ d9 = v9) && !(bt (SP h (bit r9) (bit d9)) v9)) 16) &&& (bit d9 ^^^ (-1))) e9 && bt (SP h (bit r9) (bit e9)) d9) 16))) (fun k9 hk9 => hm k9 (by omega))]) ?_
      exact W.iret (v := nI (first (fun d9 => bt (mk (fun d9 => decide (¬ d9 = v9) && !(bt (SP h (bit r9) (bit d9)) v9)) 16) d9 && !(anyq (fun e9 => bt ((mk (fun d9 => decide (¬ d9 = v9) && !(bt (SP h (bit r9) (bit d9)) v9)) 16) &&& (bit d9 ^^^ (-1))) e9 && bt (SP h (bit r9) (bit e9)) d9) 16)) r9 16)) hx hb hr (fun t ht hW => ⟨rfl, ht⟩) (fun _ h => by cases h) d_A_lastBefore_103
    · have hc62 : ¬ (16 ≤ d) := fun q9 => hc62 ((nI_leI (by omega) (by omega)).mpr q9)
      refine lv_iload_n hx hb d_A_lastBefore_65 rfl (lv_at hl 1 rfl) ?_
      refine lv_iload hx hb d_A_lastBefore_66 (lv_at hl 0 rfl) ?_
      refine xr_cal (va_runS (As := [.int (mk (fun d9 => decide (¬ d9 = v9) && !(bt (SP h (bit r9) (bit d9)) v9)) 16), .int (nI d)]) (rest := []) ⟨hx, hb, hml, hown, hB⟩ (k_A_has l D (mk (fun d9 => decide (¬ d9 = v9) && !(bt (SP h (bit r9) (bit d9)) v9)) 16) d (by omega)) ⟨callB_of 2 hB (xg0 mc_A_has) rfl rfl rfl (hB _ mz_A) (hB _ ml_A_104) (by decide +kernel) ⟨Nat.le_of_ble_eq_true rfl, Nat.le_of_ble_eq_true rfl⟩, hB _ ms_A_has⟩ (xpS (ws := []) (tys := []) (hP.sub [] rfl) (hK.sub [] rfl) hN) rfl rfl hl.1 rfl (lv_room (Nat.le_of_ble_eq_true rfl)) d_A_lastBefore_68 ⟨Nat.le_of_ble_eq_true rfl, Nat.le_of_ble_eq_true rfl⟩) ?_
      refine lv_if_eq (tgt := 96) hx hb d_A_lastBefore_71 rfl (fun hc71 => ?_) (fun hc71 => ?_)
      · have hc71 := b2i_0.mp hc71
        refine lv_iinc hx hb d_A_lastBefore_96 hl (k := 0) rfl (v := nI (d + 1)) (nI_1 d) (by decide) rfl (fun ls hl => ?_)
        have hl : lv_has ls 5 [(4, .int (nI (d + 1))), (3, .int (mk (fun d9 => decide (¬ d9 = v9) && !(bt (SP h (bit r9) (bit d9)) v9)) 16)), (0, .ref a), (1, .int (nI r9)), (2, .int (nI v9))] := hl
        refine lv_goto (tgt := 58) hx hb d_A_lastBefore_99 rfl ?_
        exact ih58 (d + 1) _ ⟨⟨by omega, lt_s hm (by (try dsimp only); first | (rw [hc71]; rfl) | (rw [hc90, Bool.and_false]))⟩, lv_sub hl [0, 1, 2, 3, 4] rfl⟩ (by omega)
      · have hc71 := b2i_n.mp hc71
        refine lv_aload_n hx hb d_A_lastBefore_74 rfl (lv_at hl 2 rfl) ?_
        refine lv_iload_n hx hb d_A_lastBefore_75 rfl (lv_at hl 3 rfl) ?_
        refine lv_iload hx hb d_A_lastBefore_76 (lv_at hl 0 rfl) ?_
        refine lv_iload_n hx hb d_A_lastBefore_78 rfl (lv_at hl 1 rfl) ?_
        refine lv_iload hx hb d_A_lastBefore_79 (lv_at hl 0 rfl) ?_
        refine xr_cal (va_runS (As := [.int (nI d)]) (rest := [.int (mk (fun d9 => decide (¬ d9 = v9) && !(bt (SP h (bit r9) (bit d9)) v9)) 16), .int (nI d), .int (nI r9), .ref a]) ⟨hx, hb, hml, hown, hB⟩ (k_A_only l D d) ⟨callB_of 1 hB (xg0 mc_A_only) rfl rfl rfl (hB _ mz_A) (hB _ ml_A_97) (by decide +kernel) ⟨Nat.le_of_ble_eq_true rfl, Nat.le_of_ble_eq_true rfl⟩, hB _ ms_A_only⟩ (xpS (ws := []) (tys := []) (hP.sub [] rfl) (hK.sub [] rfl) hN) rfl rfl hl.1 rfl (lv_room (Nat.le_of_ble_eq_true rfl)) d_A_lastBefore_81 ⟨Nat.le_of_ble_eq_true rfl, Nat.le_of_ble_eq_true rfl⟩) ?_
        refine lv_iconst (v := -1) hx hb d_A_lastBefore_84 (by decide) ?_
        refine lv_ixor hx hb d_A_lastBefore_85 ?_
        refine lv_iand hx hb d_A_lastBefore_86 ?_
        refine xr_cal (va_runV (As := [.int (nI r9), .int (nI d), .int ((mk (fun d9 => decide (¬ d9 = v9) && !(bt (SP h (bit r9) (bit d9)) v9)) 16) &&& ((bit d) ^^^ (-1)))]) (rest := []) ⟨hx, hb, hml, hown, hB⟩ (k_A_needsAll l D a w g yw f hd cA ct h hg r9 d ((mk (fun d9 => decide (¬ d9 = v9) && !(bt (SP h (bit r9) (bit d9)) v9)) 16) &&& ((bit d) ^^^ (-1))) (by omega) (by omega)) ⟨callB_of 3 hB (xg0 mc_A_needsAll) rfl rfl rfl (hB _ mz_A) (hB _ ml_A_161) (by decide +kernel) ⟨Nat.le_of_ble_eq_true rfl, Nat.le_of_ble_eq_true rfl⟩, hB _ mi_A_needsAll, hB _ me_A_needsAll⟩ (xpV (ws := [(a, .inr (0, [.ref w, .ref g, .ref yw, .ref f])), (w, .inr (1, [.ref hd, .int ct])), (hd, .inl (cA, 16, .inl h))]) (tys := [(cA, .int)]) (hP.sub [0, 1, 2] rfl) (hK.sub [0] rfl) hN (va_recv (ci := 0) (q0 := 0) (q := (R_A, F_A, 4)) hK hP rfl rfl)) rfl rfl hl.1 rfl (lv_room (Nat.le_of_ble_eq_true rfl)) d_A_lastBefore_87 ⟨Nat.le_of_ble_eq_true rfl, Nat.le_of_ble_eq_true rfl⟩) ?_
        refine lv_if_eq (tgt := 96) hx hb d_A_lastBefore_90 rfl (fun hc90 => ?_) (fun hc90 => ?_)
        · have hc90 := b2i_0.mp hc90
          refine lv_iinc hx hb d_A_lastBefore_96 hl (k := 0) rfl (v := nI (d + 1)) (nI_1 d) (by decide) rfl (fun ls hl => ?_)
          have hl : lv_has ls 5 [(4, .int (nI (d + 1))), (3, .int (mk (fun d9 => decide (¬ d9 = v9) && !(bt (SP h (bit r9) (bit d9)) v9)) 16)), (0, .ref a), (1, .int (nI r9)), (2, .int (nI v9))] := hl
          refine lv_goto (tgt := 58) hx hb d_A_lastBefore_99 rfl ?_
          exact ih58 (d + 1) _ ⟨⟨by omega, lt_s hm (by (try dsimp only); first | (rw [hc71]; rfl) | (rw [hc90, Bool.and_false]))⟩, lv_sub hl [0, 1, 2, 3, 4] rfl⟩ (by omega)
        · have hc90 := b2i_n.mp hc90
          refine lv_iload hx hb d_A_lastBefore_93 (lv_at hl 0 rfl) ?_
          refine xv_top (x' := nI (first (fun d9 => bt (mk (fun d9 => decide (¬ d9 = v9) && !(bt (SP h (bit r9) (bit d9)) v9)) 16) d9 && !(anyq (fun e9 => bt ((mk (fun d9 => decide (¬ d9 = v9) && !(bt (SP h (bit r9) (bit d9)) v9)) 16) &&& (bit d9 ^^^ (-1))) e9 && bt (SP h (bit r9) (bit e9)) d9) 16)) r9 16)) (by first | rw [first_eq (p := (fun d9 => bt (mk (fun d9 => decide (¬ d9 = v9) && !(bt (SP h (bit r9) (bit d9)) v9)) 16) d9 && !(anyq (fun e9 => bt ((mk (fun d9 => decide (¬ d9 = v9) && !(bt (SP h (bit r9) (bit d9)) v9)) 16) &&& (bit d9 ^^^ (-1))) e9 && bt (SP h (bit r9) (bit e9)) d9) 16))) (j := d) (by (try dsimp only); rw [hc71, hc90]; rfl) (by omega) hm] | rw [first_none (p := (fun d9 => bt (mk (fun d9 => decide (¬ d9 = v9) && !(bt (SP h (bit r9) (bit d9)) v9)) 16) d9 && !(anyq (fun e9 => bt ((mk (fun d9 => decide (¬ d9 = v9) && !(bt (SP h (bit r9) (bit d9)) v9)) 16) &&& (bit d9 ^^^ (-1))) e9 && bt (SP h (bit r9) (bit e9)) d9) 16))) (fun k9 hk9 => hm k9 (by omega))]) ?_
          exact W.iret (v := nI (first (fun d9 => bt (mk (fun d9 => decide (¬ d9 = v9) && !(bt (SP h (bit r9) (bit d9)) v9)) 16) d9 && !(anyq (fun e9 => bt ((mk (fun d9 => decide (¬ d9 = v9) && !(bt (SP h (bit r9) (bit d9)) v9)) 16) &&& (bit d9 ^^^ (-1))) e9 && bt (SP h (bit r9) (bit e9)) d9) 16)) r9 16)) hx hb hr (fun t ht hW => ⟨rfl, ht⟩) (fun _ h => by cases h) d_A_lastBefore_95
  · have hc9 : ¬ (16 ≤ u) := fun q9 => hc9 ((nI_leI (by omega) (by omega)).mpr q9)
    refine lv_iload hx hb d_A_lastBefore_12 (lv_at hl 0 rfl) ?_
    refine lv_iload_n hx hb d_A_lastBefore_14 rfl (lv_at hl 4 rfl) ?_
    refine lv_icmp_eq (tgt := 49) hx hb d_A_lastBefore_15 rfl (fun hc15 => ?_) (fun hc15 => ?_)
    · have hc15 : u = v9 := (nI_eq (by omega) (by omega)).mp hc15
      have hl : lv_has ls 5 [(4, .int (nI u)), (3, .int (mk (fun d9 => decide (¬ d9 = v9) && !(bt (SP h (bit r9) (bit d9)) v9)) (u + 1))), (0, .ref a), (1, .int (nI r9)), (2, .int (nI v9))] := by
        have hz : (mk (fun d9 => decide (¬ d9 = v9) && !(bt (SP h (bit r9) (bit d9)) v9)) u) = mk (fun d9 => decide (¬ d9 = v9) && !(bt (SP h (bit r9) (bit d9)) v9)) (u + 1) := (if_neg (by (try dsimp only); first | (rw [hc38, Bool.not_true, Bool.and_false]; decide) | (rw [decide_eq_false (fun q9 => q9 hc15)]; simp))).symm
        rw [← hz]; exact hl
      refine lv_iinc hx hb d_A_lastBefore_49 hl (k := 0) rfl (v := nI (u + 1)) (nI_1 u) (by decide) rfl (fun ls hl => ?_)
      have hl : lv_has ls 5 [(4, .int (nI (u + 1))), (3, .int (mk (fun d9 => decide (¬ d9 = v9) && !(bt (SP h (bit r9) (bit d9)) v9)) (u + 1))), (0, .ref a), (1, .int (nI r9)), (2, .int (nI v9))] := hl
      refine lv_goto (tgt := 5) hx hb d_A_lastBefore_52 rfl ?_
      exact ih5 (u + 1) _ ⟨by omega, lv_sub hl [0, 1, 2, 3, 4] rfl⟩ (by omega)
    · have hc15 : ¬ (u = v9) := fun q9 => hc15 ((nI_eq (by omega) (by omega)).mpr q9)
      refine lv_aload_n hx hb d_A_lastBefore_18 rfl (lv_at hl 2 rfl) ?_
      refine va_get (D := D) (ci := 0) (v := .ref w) (C := R_A) (T := F_A) (N := 4) hx hb hB in_A hown hK hP 0 rfl rfl 0 (by decide) (hB _ mf_A_10) (fun _ h9 => h9) rfl d_A_lastBefore_19 ?_
      refine lv_iload_n hx hb d_A_lastBefore_22 rfl (lv_at hl 3 rfl) ?_
      refine xr_cal (va_runS (As := [.int (nI r9)]) (rest := [.ref w]) ⟨hx, hb, hml, hown, hB⟩ (k_A_only l D r9) ⟨callB_of 1 hB (xg0 mc_A_only) rfl rfl rfl (hB _ mz_A) (hB _ ml_A_97) (by decide +kernel) ⟨Nat.le_of_ble_eq_true rfl, Nat.le_of_ble_eq_true rfl⟩, hB _ ms_A_only⟩ (xpS (ws := []) (tys := []) (hP.sub [] rfl) (hK.sub [] rfl) hN) rfl rfl hl.1 rfl (lv_room (Nat.le_of_ble_eq_true rfl)) d_A_lastBefore_23 ⟨Nat.le_of_ble_eq_true rfl, Nat.le_of_ble_eq_true rfl⟩) ?_
      refine lv_iload hx hb d_A_lastBefore_26 (lv_at hl 0 rfl) ?_
      refine xr_cal (va_runS (As := [.int (nI u)]) (rest := [.int (bit r9), .ref w]) ⟨hx, hb, hml, hown, hB⟩ (k_A_only l D u) ⟨callB_of 1 hB (xg0 mc_A_only) rfl rfl rfl (hB _ mz_A) (hB _ ml_A_97) (by decide +kernel) ⟨Nat.le_of_ble_eq_true rfl, Nat.le_of_ble_eq_true rfl⟩, hB _ ms_A_only⟩ (xpS (ws := []) (tys := []) (hP.sub [] rfl) (hK.sub [] rfl) hN) rfl rfl hl.1 rfl (lv_room (Nat.le_of_ble_eq_true rfl)) d_A_lastBefore_28 ⟨Nat.le_of_ble_eq_true rfl, Nat.le_of_ble_eq_true rfl⟩) ?_
      refine xr_cal (va_runV (As := [.int (bit r9), .int (bit u)]) (rest := []) ⟨hx, hb, hml, hown, hB⟩ (k_Web_spread l D w hd cA ct h hg (bit r9) (bit u) (m16_bit hr9)) ⟨callB_of 2 hB (xg0 mc_Web_spread) rfl rfl rfl (hB _ mz_Web) (hB _ ml_A_100) (by decide +kernel) ⟨Nat.le_of_ble_eq_true rfl, Nat.le_of_ble_eq_true rfl⟩, hB _ mi_Web_spread, hB _ me_Web_spread⟩ (xpV (ws := [(w, .inr (1, [.ref hd, .int ct])), (hd, .inl (cA, 16, .inl h))]) (tys := [(cA, .int)]) (hP.sub [1, 2] rfl) (hK.sub [0] rfl) hN (va_recv (ci := 1) (q0 := 1) (q := (R_Web, F_Web, 2)) hK hP rfl rfl)) rfl rfl hl.1 rfl (lv_room (Nat.le_of_ble_eq_true rfl)) d_A_lastBefore_31 ⟨Nat.le_of_ble_eq_true rfl, Nat.le_of_ble_eq_true rfl⟩) ?_
      refine lv_iload_n hx hb d_A_lastBefore_34 rfl (lv_at hl 4 rfl) ?_
      refine xr_cal (va_runS (As := [.int (SP h (bit r9) (bit u)), .int (nI v9)]) (rest := []) ⟨hx, hb, hml, hown, hB⟩ (k_A_has l D (SP h (bit r9) (bit u)) v9 (by omega)) ⟨callB_of 2 hB (xg0 mc_A_has) rfl rfl rfl (hB _ mz_A) (hB _ ml_A_104) (by decide +kernel) ⟨Nat.le_of_ble_eq_true rfl, Nat.le_of_ble_eq_true rfl⟩, hB _ ms_A_has⟩ (xpS (ws := []) (tys := []) (hP.sub [] rfl) (hK.sub [] rfl) hN) rfl rfl hl.1 rfl (lv_room (Nat.le_of_ble_eq_true rfl)) d_A_lastBefore_35 ⟨Nat.le_of_ble_eq_true rfl, Nat.le_of_ble_eq_true rfl⟩) ?_
      refine lv_if_ne (tgt := 49) hx hb d_A_lastBefore_38 rfl (fun hc38 => ?_) (fun hc38 => ?_)
      · have hc38 := b2i_n.mp hc38
        have hl : lv_has ls 5 [(4, .int (nI u)), (3, .int (mk (fun d9 => decide (¬ d9 = v9) && !(bt (SP h (bit r9) (bit d9)) v9)) (u + 1))), (0, .ref a), (1, .int (nI r9)), (2, .int (nI v9))] := by
          have hz : (mk (fun d9 => decide (¬ d9 = v9) && !(bt (SP h (bit r9) (bit d9)) v9)) u) = mk (fun d9 => decide (¬ d9 = v9) && !(bt (SP h (bit r9) (bit d9)) v9)) (u + 1) := (if_neg (by (try dsimp only); first | (rw [hc38, Bool.not_true, Bool.and_false]; decide) | (rw [decide_eq_false (fun q9 => q9 hc15)]; simp))).symm
          rw [← hz]; exact hl
        refine lv_iinc hx hb d_A_lastBefore_49 hl (k := 0) rfl (v := nI (u + 1)) (nI_1 u) (by decide) rfl (fun ls hl => ?_)
        have hl : lv_has ls 5 [(4, .int (nI (u + 1))), (3, .int (mk (fun d9 => decide (¬ d9 = v9) && !(bt (SP h (bit r9) (bit d9)) v9)) (u + 1))), (0, .ref a), (1, .int (nI r9)), (2, .int (nI v9))] := hl
        refine lv_goto (tgt := 5) hx hb d_A_lastBefore_52 rfl ?_
        exact ih5 (u + 1) _ ⟨by omega, lv_sub hl [0, 1, 2, 3, 4] rfl⟩ (by omega)
      · have hc38 := b2i_0.mp hc38
        refine lv_iload_n hx hb d_A_lastBefore_41 rfl (lv_at hl 1 rfl) ?_
        refine lv_iload hx hb d_A_lastBefore_42 (lv_at hl 0 rfl) ?_
        refine xr_cal (va_runS (As := [.int (nI u)]) (rest := [.int (mk (fun d9 => decide (¬ d9 = v9) && !(bt (SP h (bit r9) (bit d9)) v9)) u)]) ⟨hx, hb, hml, hown, hB⟩ (k_A_only l D u) ⟨callB_of 1 hB (xg0 mc_A_only) rfl rfl rfl (hB _ mz_A) (hB _ ml_A_97) (by decide +kernel) ⟨Nat.le_of_ble_eq_true rfl, Nat.le_of_ble_eq_true rfl⟩, hB _ ms_A_only⟩ (xpS (ws := []) (tys := []) (hP.sub [] rfl) (hK.sub [] rfl) hN) rfl rfl hl.1 rfl (lv_room (Nat.le_of_ble_eq_true rfl)) d_A_lastBefore_44 ⟨Nat.le_of_ble_eq_true rfl, Nat.le_of_ble_eq_true rfl⟩) ?_
        refine lv_ior hx hb d_A_lastBefore_47 ?_
        refine lv_istore_n hx hb d_A_lastBefore_48 rfl hl (by decide) rfl (fun ls hl => ?_)
        have hl : lv_has ls 5 [(3, .int ((mk (fun d9 => decide (¬ d9 = v9) && !(bt (SP h (bit r9) (bit d9)) v9)) u) ||| (bit u))), (4, .int (nI u)), (0, .ref a), (1, .int (nI r9)), (2, .int (nI v9))] := hl
        have hl : lv_has ls 5 [(3, .int (mk (fun d9 => decide (¬ d9 = v9) && !(bt (SP h (bit r9) (bit d9)) v9)) (u + 1))), (4, .int (nI u)), (0, .ref a), (1, .int (nI r9)), (2, .int (nI v9))] := by
          have hz : ((mk (fun d9 => decide (¬ d9 = v9) && !(bt (SP h (bit r9) (bit d9)) v9)) u) ||| (bit u)) = mk (fun d9 => decide (¬ d9 = v9) && !(bt (SP h (bit r9) (bit d9)) v9)) (u + 1) := (if_pos (by (try dsimp only); rw [decide_eq_true hc15, hc38]; rfl)).symm
          rw [← hz]; exact hl
        refine lv_iinc hx hb d_A_lastBefore_49 hl (k := 1) rfl (v := nI (u + 1)) (nI_1 u) (by decide) rfl (fun ls hl => ?_)
        have hl : lv_has ls 5 [(4, .int (nI (u + 1))), (3, .int (mk (fun d9 => decide (¬ d9 = v9) && !(bt (SP h (bit r9) (bit d9)) v9)) (u + 1))), (0, .ref a), (1, .int (nI r9)), (2, .int (nI v9))] := hl
        refine lv_goto (tgt := 5) hx hb d_A_lastBefore_52 rfl ?_
        exact ih5 (u + 1) _ ⟨by omega, lv_sub hl [0, 1, 2, 3, 4] rfl⟩ (by omega)
set_option maxHeartbeats 4000000 in
set_option maxRecDepth 100000 in
theorem k_A_neededArrows (l : Launch) (D : va_G) (a w g yw f : Nat) (hd : Nat) (cA : ClassId) (ct : Int32) (h : Nat → Int32) (hg : gd h) : Met l y_A_neededArrows (Cond.code y_A_neededArrows c_A_neededArrows 4 (some .int) :: BS) { frames := 4, cells := 0, slots := 0, locals := 91 } (va_Pc [.ref a] (xR D [(a, .inr (0, [.ref w, .ref g, .ref yw, .ref f])), (w, .inr (1, [.ref hd, .int ct])), (hd, .inl (cA, 16, .inl h))] [(cA, .int)])) (QcRead (nI (sq (fun a9 => cq ((fun u v => bt (h u) v && !(bt (SP h (h u &&& (bit v ^^^ (-1))) (bit u)) v)) a9) 16) 16))) 0 0 (fun _ => False) := by
  refine Met.ofW (cc := c_A_neededArrows) (maxL := 4) (ret := (some .int)) (by decide) rfl ?_
  intro p e s m args below meth c s₁ B hml hv
  obtain ⟨rfl, hP, hK, hN⟩ := hv
  have hx := B.exec
  have hb := B.bytes
  have hr := B.returns
  have hB := xB B.pre
  have hown : s.vm.findClass R_A = some m.cls := findClass_of_methodNamed B.named
  have hlocks := B.notSynchronized
  have hl := lv_entry ([.ref a]) (n := 4) (Nat.le_of_ble_eq_true rfl)
  rw [lg_entry_eq]
  generalize (lg_sl ([.ref a]) ++ List.replicate (4 - (lg_sl ([.ref a])).length) Slot.unset).toArray = ls at hl ⊢
  have hl : lv_has ls 4 [(0, .ref a)] := hl
  refine lv_iconst (v := nI 0) hx hb d_A_neededArrows_0 (by decide) ?_
  refine lv_istore_n hx hb d_A_neededArrows_1 rfl hl (by decide) rfl (fun ls hl => ?_)
  have hl : lv_has ls 4 [(1, .int (nI 0)), (0, .ref a)] := hl
  refine lv_iconst (v := nI 0) hx hb d_A_neededArrows_2 (by decide) ?_
  refine lv_istore_n hx hb d_A_neededArrows_3 rfl hl (by decide) rfl (fun ls hl => ?_)
  have hl : lv_has ls 4 [(2, .int (nI 0)), (1, .int (nI 0)), (0, .ref a)] := hl
  refine xl_r (fun (u : Nat) ls => (u ≤ 16) ∧ lv_has ls 4 [(2, .int (nI u)), (1, .int (nI (sq (fun a9 => cq ((fun u v => bt (h u) v && !(bt (SP h (h u &&& (bit v ^^^ (-1))) (bit u)) v)) a9) 16) u))), (0, .ref a)]) (fun u => 16 - u) (fun u ls hI ih4 => ?_) 0 _ ⟨Nat.zero_le _, hl⟩
  obtain ⟨hI, hl⟩ := hI
  have hu_u := hI
  refine lv_iload_n hx hb d_A_neededArrows_4 rfl (lv_at hl 0 rfl) ?_
  refine lv_bipush (v := nI 16) hx hb d_A_neededArrows_5 (by decide) ?_
  refine lv_icmp_ge (tgt := 54) hx hb d_A_neededArrows_7 rfl (fun hc7 => ?_) (fun hc7 => ?_)
  · have hc7 : 16 ≤ u := (nI_leI (by omega) (by omega)).mp hc7
    refine lv_iload_n hx hb d_A_neededArrows_54 rfl (lv_at hl 1 rfl) ?_
    refine xv_top (x' := nI (sq (fun a9 => cq ((fun u v => bt (h u) v && !(bt (SP h (h u &&& (bit v ^^^ (-1))) (bit u)) v)) a9) 16) 16)) (by rw [show u = 16 by omega]) ?_
    exact W.iret (v := nI (sq (fun a9 => cq ((fun u v => bt (h u) v && !(bt (SP h (h u &&& (bit v ^^^ (-1))) (bit u)) v)) a9) 16) 16)) hx hb hr (fun t ht hW => ⟨rfl, ht⟩) (fun _ h => by cases h) d_A_neededArrows_55
  · have hc7 : ¬ (16 ≤ u) := fun q9 => hc7 ((nI_leI (by omega) (by omega)).mpr q9)
    refine lv_iconst (v := nI 0) hx hb d_A_neededArrows_10 (by decide) ?_
    refine lv_istore_n hx hb d_A_neededArrows_11 rfl hl (by decide) rfl (fun ls hl => ?_)
    have hl : lv_has ls 4 [(3, .int (nI 0)), (2, .int (nI u)), (1, .int (nI (sq (fun a9 => cq ((fun u v => bt (h u) v && !(bt (SP h (h u &&& (bit v ^^^ (-1))) (bit u)) v)) a9) 16) u))), (0, .ref a)] := hl
    refine xl_r (fun (v : Nat) ls => (v ≤ 16) ∧ lv_has ls 4 [(3, .int (nI v)), (2, .int (nI u)), (1, .int (nI (sq (fun a9 => cq ((fun u v => bt (h u) v && !(bt (SP h (h u &&& (bit v ^^^ (-1))) (bit u)) v)) a9) 16) u + cq ((fun u v => bt (h u) v && !(bt (SP h (h u &&& (bit v ^^^ (-1))) (bit u)) v)) u) v))), (0, .ref a)]) (fun v => 16 - v) (fun v ls hI ih12 => ?_) 0 _ ⟨Nat.zero_le _, hl⟩
    obtain ⟨hI, hl⟩ := hI
    have hu_v := hI
    refine lv_iload_n hx hb d_A_neededArrows_12 rfl (lv_at hl 0 rfl) ?_
    refine lv_bipush (v := nI 16) hx hb d_A_neededArrows_13 (by decide) ?_
    refine lv_icmp_ge (tgt := 48) hx hb d_A_neededArrows_15 rfl (fun hc15 => ?_) (fun hc15 => ?_)
    · have hc15 : 16 ≤ v := (nI_leI (by omega) (by omega)).mp hc15
      have hl : lv_has ls 4 [(3, .int (nI v)), (2, .int (nI u)), (1, .int (nI (sq (fun a9 => cq ((fun u v => bt (h u) v && !(bt (SP h (h u &&& (bit v ^^^ (-1))) (bit u)) v)) a9) 16) (u + 1)))), (0, .ref a)] := by
        have hz : (nI (sq (fun a9 => cq ((fun u v => bt (h u) v && !(bt (SP h (h u &&& (bit v ^^^ (-1))) (bit u)) v)) a9) 16) u + cq ((fun u v => bt (h u) v && !(bt (SP h (h u &&& (bit v ^^^ (-1))) (bit u)) v)) u) v)) = nI (sq (fun a9 => cq ((fun u v => bt (h u) v && !(bt (SP h (h u &&& (bit v ^^^ (-1))) (bit u)) v)) a9) 16) (u + 1)) := by rw [show v = 16 by omega]; rfl
        rw [← hz]; exact hl
      refine lv_iinc hx hb d_A_neededArrows_48 hl (k := 1) rfl (v := nI (u + 1)) (nI_1 u) (by decide) rfl (fun ls hl => ?_)
      have hl : lv_has ls 4 [(2, .int (nI (u + 1))), (3, .int (nI v)), (1, .int (nI (sq (fun a9 => cq ((fun u v => bt (h u) v && !(bt (SP h (h u &&& (bit v ^^^ (-1))) (bit u)) v)) a9) 16) (u + 1)))), (0, .ref a)] := hl
      refine lv_goto (tgt := 4) hx hb d_A_neededArrows_51 rfl ?_
      exact ih4 (u + 1) _ ⟨by omega, lv_sub hl [0, 2, 3] rfl⟩ (by omega)
    · have hc15 : ¬ (16 ≤ v) := fun q9 => hc15 ((nI_leI (by omega) (by omega)).mpr q9)
      refine lv_aload_n hx hb d_A_neededArrows_18 rfl (lv_at hl 3 rfl) ?_
      refine va_get (D := D) (ci := 0) (v := .ref w) (C := R_A) (T := F_A) (N := 4) hx hb hB in_A hown hK hP 0 rfl rfl 0 (by decide) (hB _ mf_A_10) (fun _ h9 => h9) rfl d_A_neededArrows_19 ?_
      refine lv_iload_n hx hb d_A_neededArrows_22 rfl (lv_at hl 1 rfl) ?_
      refine lv_iload_n hx hb d_A_neededArrows_23 rfl (lv_at hl 0 rfl) ?_
      refine xr_cal (va_runV (As := [.int (nI u), .int (nI v)]) (rest := []) ⟨hx, hb, hml, hown, hB⟩ (k_Web_holds l D w hd cA ct h u v (by omega) (by omega)) ⟨callB_of 2 hB (xg0 mc_Web_holds) rfl rfl rfl (hB _ mz_Web) (hB _ ml_A_48) (by decide +kernel) ⟨Nat.le_of_ble_eq_true rfl, Nat.le_of_ble_eq_true rfl⟩, hB _ mi_Web_holds, hB _ me_Web_holds⟩ (xpV (ws := [(w, .inr (1, [.ref hd, .int ct])), (hd, .inl (cA, 16, .inl h))]) (tys := [(cA, .int)]) (hP.sub [1, 2] rfl) (hK.sub [0] rfl) hN (va_recv (ci := 1) (q0 := 1) (q := (R_Web, F_Web, 2)) hK hP rfl rfl)) rfl rfl hl.1 rfl (lv_room (Nat.le_of_ble_eq_true rfl)) d_A_neededArrows_24 ⟨Nat.le_of_ble_eq_true rfl, Nat.le_of_ble_eq_true rfl⟩) ?_
      refine lv_if_eq (tgt := 42) hx hb d_A_neededArrows_27 rfl (fun hc27 => ?_) (fun hc27 => ?_)
      · have hc27 := b2i_0.mp hc27
        have hl : lv_has ls 4 [(3, .int (nI v)), (2, .int (nI u)), (1, .int (nI (sq (fun a9 => cq ((fun u v => bt (h u) v && !(bt (SP h (h u &&& (bit v ^^^ (-1))) (bit u)) v)) a9) 16) u + cq ((fun u v => bt (h u) v && !(bt (SP h (h u &&& (bit v ^^^ (-1))) (bit u)) v)) u) (v + 1)))), (0, .ref a)] := by
          have hz : (nI (sq (fun a9 => cq ((fun u v => bt (h u) v && !(bt (SP h (h u &&& (bit v ^^^ (-1))) (bit u)) v)) a9) 16) u + cq ((fun u v => bt (h u) v && !(bt (SP h (h u &&& (bit v ^^^ (-1))) (bit u)) v)) u) v)) = nI (sq (fun a9 => cq ((fun u v => bt (h u) v && !(bt (SP h (h u &&& (bit v ^^^ (-1))) (bit u)) v)) a9) 16) u + cq ((fun u v => bt (h u) v && !(bt (SP h (h u &&& (bit v ^^^ (-1))) (bit u)) v)) u) (v + 1)) := by rw [cq_f (p := (fun u v => bt (h u) v && !(bt (SP h (h u &&& (bit v ^^^ (-1))) (bit u)) v)) u) (k := v) (by (try dsimp only); first | (rw [hc36, Bool.not_true, Bool.and_false]; done) | (rw [hc27]; rfl))]
          rw [← hz]; exact hl
        refine lv_iinc hx hb d_A_neededArrows_42 hl (k := 0) rfl (v := nI (v + 1)) (nI_1 v) (by decide) rfl (fun ls hl => ?_)
        have hl : lv_has ls 4 [(3, .int (nI (v + 1))), (2, .int (nI u)), (1, .int (nI (sq (fun a9 => cq ((fun u v => bt (h u) v && !(bt (SP h (h u &&& (bit v ^^^ (-1))) (bit u)) v)) a9) 16) u + cq ((fun u v => bt (h u) v && !(bt (SP h (h u &&& (bit v ^^^ (-1))) (bit u)) v)) u) (v + 1)))), (0, .ref a)] := hl
        refine lv_goto (tgt := 12) hx hb d_A_neededArrows_45 rfl ?_
        exact ih12 (v + 1) _ ⟨by omega, lv_sub hl [0, 1, 2, 3] rfl⟩ (by omega)
      · have hc27 := b2i_n.mp hc27
        refine lv_aload_n hx hb d_A_neededArrows_30 rfl (lv_at hl 3 rfl) ?_
        refine lv_iload_n hx hb d_A_neededArrows_31 rfl (lv_at hl 1 rfl) ?_
        refine lv_iload_n hx hb d_A_neededArrows_32 rfl (lv_at hl 0 rfl) ?_
        refine xr_cal (va_runV (As := [.int (nI u), .int (nI v)]) (rest := []) ⟨hx, hb, hml, hown, hB⟩ (k_A_hasDetour l D a w g yw f hd cA ct h hg u v (by omega) (by omega)) ⟨callB_of 2 hB (xg0 mc_A_hasDetour) rfl rfl rfl (hB _ mz_A) (hB _ ml_A_165) (by decide +kernel) ⟨Nat.le_of_ble_eq_true rfl, Nat.le_of_ble_eq_true rfl⟩, hB _ mi_A_hasDetour, hB _ me_A_hasDetour⟩ (xpV (ws := [(a, .inr (0, [.ref w, .ref g, .ref yw, .ref f])), (w, .inr (1, [.ref hd, .int ct])), (hd, .inl (cA, 16, .inl h))]) (tys := [(cA, .int)]) (hP.sub [0, 1, 2] rfl) (hK.sub [0] rfl) hN (va_recv (ci := 0) (q0 := 0) (q := (R_A, F_A, 4)) hK hP rfl rfl)) rfl rfl hl.1 rfl (lv_room (Nat.le_of_ble_eq_true rfl)) d_A_neededArrows_33 ⟨Nat.le_of_ble_eq_true rfl, Nat.le_of_ble_eq_true rfl⟩) ?_
        refine lv_if_ne (tgt := 42) hx hb d_A_neededArrows_36 rfl (fun hc36 => ?_) (fun hc36 => ?_)
        · have hc36 := b2i_n.mp hc36
          have hl : lv_has ls 4 [(3, .int (nI v)), (2, .int (nI u)), (1, .int (nI (sq (fun a9 => cq ((fun u v => bt (h u) v && !(bt (SP h (h u &&& (bit v ^^^ (-1))) (bit u)) v)) a9) 16) u + cq ((fun u v => bt (h u) v && !(bt (SP h (h u &&& (bit v ^^^ (-1))) (bit u)) v)) u) (v + 1)))), (0, .ref a)] := by
            have hz : (nI (sq (fun a9 => cq ((fun u v => bt (h u) v && !(bt (SP h (h u &&& (bit v ^^^ (-1))) (bit u)) v)) a9) 16) u + cq ((fun u v => bt (h u) v && !(bt (SP h (h u &&& (bit v ^^^ (-1))) (bit u)) v)) u) v)) = nI (sq (fun a9 => cq ((fun u v => bt (h u) v && !(bt (SP h (h u &&& (bit v ^^^ (-1))) (bit u)) v)) a9) 16) u + cq ((fun u v => bt (h u) v && !(bt (SP h (h u &&& (bit v ^^^ (-1))) (bit u)) v)) u) (v + 1)) := by rw [cq_f (p := (fun u v => bt (h u) v && !(bt (SP h (h u &&& (bit v ^^^ (-1))) (bit u)) v)) u) (k := v) (by (try dsimp only); first | (rw [hc36, Bool.not_true, Bool.and_false]; done) | (rw [hc27]; rfl))]
            rw [← hz]; exact hl
          refine lv_iinc hx hb d_A_neededArrows_42 hl (k := 0) rfl (v := nI (v + 1)) (nI_1 v) (by decide) rfl (fun ls hl => ?_)
          have hl : lv_has ls 4 [(3, .int (nI (v + 1))), (2, .int (nI u)), (1, .int (nI (sq (fun a9 => cq ((fun u v => bt (h u) v && !(bt (SP h (h u &&& (bit v ^^^ (-1))) (bit u)) v)) a9) 16) u + cq ((fun u v => bt (h u) v && !(bt (SP h (h u &&& (bit v ^^^ (-1))) (bit u)) v)) u) (v + 1)))), (0, .ref a)] := hl
          refine lv_goto (tgt := 12) hx hb d_A_neededArrows_45 rfl ?_
          exact ih12 (v + 1) _ ⟨by omega, lv_sub hl [0, 1, 2, 3] rfl⟩ (by omega)
        · have hc36 := b2i_0.mp hc36
          refine lv_iinc hx hb d_A_neededArrows_39 hl (k := 2) rfl (v := nI ((sq (fun a9 => cq ((fun u v => bt (h u) v && !(bt (SP h (h u &&& (bit v ^^^ (-1))) (bit u)) v)) a9) 16) u + cq ((fun u v => bt (h u) v && !(bt (SP h (h u &&& (bit v ^^^ (-1))) (bit u)) v)) u) v) + 1)) (nI_1 (sq (fun a9 => cq ((fun u v => bt (h u) v && !(bt (SP h (h u &&& (bit v ^^^ (-1))) (bit u)) v)) a9) 16) u + cq ((fun u v => bt (h u) v && !(bt (SP h (h u &&& (bit v ^^^ (-1))) (bit u)) v)) u) v)) (by decide) rfl (fun ls hl => ?_)
          have hl : lv_has ls 4 [(1, .int (nI ((sq (fun a9 => cq ((fun u v => bt (h u) v && !(bt (SP h (h u &&& (bit v ^^^ (-1))) (bit u)) v)) a9) 16) u + cq ((fun u v => bt (h u) v && !(bt (SP h (h u &&& (bit v ^^^ (-1))) (bit u)) v)) u) v) + 1))), (3, .int (nI v)), (2, .int (nI u)), (0, .ref a)] := hl
          have hl : lv_has ls 4 [(1, .int (nI (sq (fun a9 => cq ((fun u v => bt (h u) v && !(bt (SP h (h u &&& (bit v ^^^ (-1))) (bit u)) v)) a9) 16) u + cq ((fun u v => bt (h u) v && !(bt (SP h (h u &&& (bit v ^^^ (-1))) (bit u)) v)) u) (v + 1)))), (3, .int (nI v)), (2, .int (nI u)), (0, .ref a)] := by
            have hz : (nI ((sq (fun a9 => cq ((fun u v => bt (h u) v && !(bt (SP h (h u &&& (bit v ^^^ (-1))) (bit u)) v)) a9) 16) u + cq ((fun u v => bt (h u) v && !(bt (SP h (h u &&& (bit v ^^^ (-1))) (bit u)) v)) u) v) + 1)) = nI (sq (fun a9 => cq ((fun u v => bt (h u) v && !(bt (SP h (h u &&& (bit v ^^^ (-1))) (bit u)) v)) a9) 16) u + cq ((fun u v => bt (h u) v && !(bt (SP h (h u &&& (bit v ^^^ (-1))) (bit u)) v)) u) (v + 1)) := by rw [cq_t (p := (fun u v => bt (h u) v && !(bt (SP h (h u &&& (bit v ^^^ (-1))) (bit u)) v)) u) (k := v) (by (try dsimp only); rw [hc27, hc36]; rfl)]; rfl
            rw [← hz]; exact hl
          refine lv_iinc hx hb d_A_neededArrows_42 hl (k := 1) rfl (v := nI (v + 1)) (nI_1 v) (by decide) rfl (fun ls hl => ?_)
          have hl : lv_has ls 4 [(3, .int (nI (v + 1))), (1, .int (nI (sq (fun a9 => cq ((fun u v => bt (h u) v && !(bt (SP h (h u &&& (bit v ^^^ (-1))) (bit u)) v)) a9) 16) u + cq ((fun u v => bt (h u) v && !(bt (SP h (h u &&& (bit v ^^^ (-1))) (bit u)) v)) u) (v + 1)))), (2, .int (nI u)), (0, .ref a)] := hl
          refine lv_goto (tgt := 12) hx hb d_A_neededArrows_45 rfl ?_
          exact ih12 (v + 1) _ ⟨by omega, lv_sub hl [0, 2, 1, 3] rfl⟩ (by omega)
set_option maxHeartbeats 4000000 in
set_option maxRecDepth 100000 in
theorem k_Fl_exitOf (l : Launch) (D : va_G) (n : Nat) : Met l y_Fl_exitOf (Cond.code y_Fl_exitOf c_Fl_exitOf 1 (some .int) :: BS) { frames := 0, cells := 0, slots := 0, locals := 0 } (va_Pc [.int (nI n)] (xR D [] [])) (QcRead (nI (n + 16))) 0 0 (fun _ => False) := by
  refine Met.ofW (cc := c_Fl_exitOf) (maxL := 1) (ret := (some .int)) (by decide) rfl ?_
  intro p e s m args below meth c s₁ B hml hv
  obtain ⟨rfl, hP, hK, hN⟩ := hv
  have hx := B.exec
  have hb := B.bytes
  have hr := B.returns
  have hB := xB B.pre
  have hown : s.vm.findClass R_Fl = some m.cls := findClass_of_methodNamed B.named
  have hlocks := B.notSynchronized
  have hl := lv_entry ([.int (nI n)]) (n := 1) (Nat.le_of_ble_eq_true rfl)
  rw [lg_entry_eq]
  generalize (lg_sl ([.int (nI n)]) ++ List.replicate (1 - (lg_sl ([.int (nI n)])).length) Slot.unset).toArray = ls at hl ⊢
  have hl : lv_has ls 1 [(0, .int (nI n))] := hl
  refine lv_iload_n hx hb d_Fl_exitOf_0 rfl (lv_at hl 0 rfl) ?_
  refine lv_bipush (v := nI 16) hx hb d_Fl_exitOf_1 (by decide) ?_
  refine lv_iadd hx hb d_Fl_exitOf_3 ?_
  refine xv_top (x' := nI (n + 16)) (nI_add n 16) ?_
  exact W.iret (v := nI (n + 16)) hx hb hr (fun t ht hW => ⟨rfl, ht⟩) (fun _ h => by cases h) d_Fl_exitOf_4
end
section
set_option maxHeartbeats 4000000 in
set_option maxRecDepth 100000 in
theorem k_M_isPlace (l : Launch) (D : va_G) (x : Int32) : Met l y_M_isPlace (Cond.code y_M_isPlace c_M_isPlace 1 (some .boolean) :: BS) { frames := 0, cells := 0, slots := 0, locals := 0 } (va_Pc [.int x] (xR D [] [])) (QcRead (b2i (isP x))) 0 0 (fun _ => False) := by
  refine Met.ofW (cc := c_M_isPlace) (maxL := 1) (ret := (some .boolean)) (by decide) rfl ?_
  intro p e s m args below meth c s₁ B hml hv
  obtain ⟨rfl, hP, hK, hN⟩ := hv
  have hx := B.exec
  have hb := B.bytes
  have hr := B.returns
  have hB := xB B.pre
  have hown : s.vm.findClass R_M = some m.cls := findClass_of_methodNamed B.named
  have hlocks := B.notSynchronized
  have hl := lv_entry ([.int x]) (n := 1) (Nat.le_of_ble_eq_true rfl)
  rw [lg_entry_eq]
  generalize (lg_sl ([.int x]) ++ List.replicate (1 - (lg_sl ([.int x])).length) Slot.unset).toArray = ls at hl ⊢
  have hl : lv_has ls 1 [(0, .int x)] := hl
  refine lv_iload_n hx hb d_M_isPlace_0 rfl (lv_at hl 0 rfl) ?_
  refine lv_if_lt (tgt := 14) hx hb d_M_isPlace_1 rfl (fun hc1 => ?_) (fun hc1 => ?_)
  · refine lv_iconst (v := nI 0) hx hb d_M_isPlace_14 (by decide) ?_
    refine xv_top (x' := b2i (isP x)) (by unfold isP; first | (rw [decide_eq_true hc1, decide_eq_true hc7]; rfl) | (rw [decide_eq_true hc1, decide_eq_false (fun q9 => q9 hc7)]; rfl) | (rw [decide_eq_false (fun q9 => q9 hc1)]; rfl)) ?_
    exact W.zret (v := b2i (isP x)) hx hb hr (b2i_nar _) (fun t ht hW => ⟨rfl, ht⟩) (fun _ h => by cases h) d_M_isPlace_15
  · refine lv_iload_n hx hb d_M_isPlace_4 rfl (lv_at hl 0 rfl) ?_
    refine lv_bipush (v := nI 15) hx hb d_M_isPlace_5 (by decide) ?_
    refine lv_icmp_gt (tgt := 14) hx hb d_M_isPlace_7 rfl (fun hc7 => ?_) (fun hc7 => ?_)
    · refine lv_iconst (v := nI 0) hx hb d_M_isPlace_14 (by decide) ?_
      refine xv_top (x' := b2i (isP x)) (by unfold isP; first | (rw [decide_eq_true hc1, decide_eq_true hc7]; rfl) | (rw [decide_eq_true hc1, decide_eq_false (fun q9 => q9 hc7)]; rfl) | (rw [decide_eq_false (fun q9 => q9 hc1)]; rfl)) ?_
      exact W.zret (v := b2i (isP x)) hx hb hr (b2i_nar _) (fun t ht hW => ⟨rfl, ht⟩) (fun _ h => by cases h) d_M_isPlace_15
    · refine lv_iconst (v := nI 1) hx hb d_M_isPlace_10 (by decide) ?_
      refine lv_goto (tgt := 15) hx hb d_M_isPlace_11 rfl ?_
      refine xv_top (x' := b2i (isP x)) (by unfold isP; first | (rw [decide_eq_true hc1, decide_eq_true hc7]; rfl) | (rw [decide_eq_true hc1, decide_eq_false (fun q9 => q9 hc7)]; rfl) | (rw [decide_eq_false (fun q9 => q9 hc1)]; rfl)) ?_
      exact W.zret (v := b2i (isP x)) hx hb hr (b2i_nar _) (fun t ht hW => ⟨rfl, ht⟩) (fun _ h => by cases h) d_M_isPlace_15
set_option maxHeartbeats 4000000 in
set_option maxRecDepth 100000 in
theorem k_M_has (l : Launch) (D : va_G) (x : Int32) (n : Nat) (hn : n < 32) : Met l y_M_has (Cond.code y_M_has c_M_has 2 (some .boolean) :: BS) { frames := 0, cells := 0, slots := 0, locals := 0 } (va_Pc [.int x, .int (nI n)] (xR D [] [])) (QcRead (b2i (bt x n))) 0 0 (fun _ => False) := by
  refine Met.ofW (cc := c_M_has) (maxL := 2) (ret := (some .boolean)) (by decide) rfl ?_
  intro p e s m args below meth c s₁ B hml hv
  obtain ⟨rfl, hP, hK, hN⟩ := hv
  have hx := B.exec
  have hb := B.bytes
  have hr := B.returns
  have hB := xB B.pre
  have hown : s.vm.findClass R_M = some m.cls := findClass_of_methodNamed B.named
  have hlocks := B.notSynchronized
  have hl := lv_entry ([.int x, .int (nI n)]) (n := 2) (Nat.le_of_ble_eq_true rfl)
  rw [lg_entry_eq]
  generalize (lg_sl ([.int x, .int (nI n)]) ++ List.replicate (2 - (lg_sl ([.int x, .int (nI n)])).length) Slot.unset).toArray = ls at hl ⊢
  have hl : lv_has ls 2 [(0, .int x), (1, .int (nI n))] := hl
  refine lv_iload_n hx hb d_M_has_0 rfl (lv_at hl 0 rfl) ?_
  refine lv_iload_n hx hb d_M_has_1 rfl (lv_at hl 1 rfl) ?_
  refine lv_ishr hx hb d_M_has_2 ?_
  refine lv_iconst (v := nI 1) hx hb d_M_has_3 (by decide) ?_
  refine lv_iand hx hb d_M_has_4 ?_
  refine lv_iconst (v := nI 1) hx hb d_M_has_5 (by decide) ?_
  refine lv_icmp_ne (tgt := 13) hx hb d_M_has_6 rfl (fun hc6 => ?_) (fun hc6 => ?_)
  · have hc6 : bt x n = false := by cases hq : bt x n with | false => rfl | true => exact absurd ((has_s hn).mpr hq) hc6
    refine lv_iconst (v := nI 0) hx hb d_M_has_13 (by decide) ?_
    refine xv_top (x' := b2i (bt x n)) (by rw [hc6]; rfl) ?_
    exact W.zret (v := b2i (bt x n)) hx hb hr (b2i_nar _) (fun t ht hW => ⟨rfl, ht⟩) (fun _ h => by cases h) d_M_has_14
  · have hc6 : bt x n = true := (has_s hn).mp hc6
    refine lv_iconst (v := nI 1) hx hb d_M_has_9 (by decide) ?_
    refine lv_goto (tgt := 14) hx hb d_M_has_10 rfl ?_
    refine xv_top (x' := b2i (bt x n)) (by rw [hc6]; rfl) ?_
    exact W.zret (v := b2i (bt x n)) hx hb hr (b2i_nar _) (fun t ht hW => ⟨rfl, ht⟩) (fun _ h => by cases h) d_M_has_14
set_option maxHeartbeats 4000000 in
set_option maxRecDepth 100000 in
theorem k_M_at (l : Launch) (D : va_G) (x : Int32) (n : Nat) (hn : n < 32) : Met l y_M_at (Cond.code y_M_at c_M_at 2 (some .boolean) :: BS) { frames := 0, cells := 0, slots := 0, locals := 0 } (va_Pc [.int x, .int (nI n)] (xR D [] [])) (QcRead (b2i (bt x n))) 0 0 (fun _ => False) := by
  refine Met.ofW (cc := c_M_at) (maxL := 2) (ret := (some .boolean)) (by decide) rfl ?_
  intro p e s m args below meth c s₁ B hml hv
  obtain ⟨rfl, hP, hK, hN⟩ := hv
  have hx := B.exec
  have hb := B.bytes
  have hr := B.returns
  have hB := xB B.pre
  have hown : s.vm.findClass R_M = some m.cls := findClass_of_methodNamed B.named
  have hlocks := B.notSynchronized
  have hl := lv_entry ([.int x, .int (nI n)]) (n := 2) (Nat.le_of_ble_eq_true rfl)
  rw [lg_entry_eq]
  generalize (lg_sl ([.int x, .int (nI n)]) ++ List.replicate (2 - (lg_sl ([.int x, .int (nI n)])).length) Slot.unset).toArray = ls at hl ⊢
  have hl : lv_has ls 2 [(0, .int x), (1, .int (nI n))] := hl
  refine lv_iload_n hx hb d_M_at_0 rfl (lv_at hl 0 rfl) ?_
  refine lv_iload_n hx hb d_M_at_1 rfl (lv_at hl 1 rfl) ?_
  refine lv_iushr hx hb d_M_at_2 rfl ?_
  refine lv_iconst (v := nI 1) hx hb d_M_at_3 (by decide) ?_
  refine lv_iand hx hb d_M_at_4 ?_
  refine lv_iconst (v := nI 1) hx hb d_M_at_5 (by decide) ?_
  refine lv_icmp_ne (tgt := 13) hx hb d_M_at_6 rfl (fun hc6 => ?_) (fun hc6 => ?_)
  · have hc6 : bt x n = false := by cases hq : bt x n with | false => rfl | true => exact absurd ((has_u1 hn).mpr hq) hc6
    refine lv_iconst (v := nI 0) hx hb d_M_at_13 (by decide) ?_
    refine xv_top (x' := b2i (bt x n)) (by rw [hc6]; rfl) ?_
    exact W.zret (v := b2i (bt x n)) hx hb hr (b2i_nar _) (fun t ht hW => ⟨rfl, ht⟩) (fun _ h => by cases h) d_M_at_14
  · have hc6 : bt x n = true := (has_u1 hn).mp hc6
    refine lv_iconst (v := nI 1) hx hb d_M_at_9 (by decide) ?_
    refine lv_goto (tgt := 14) hx hb d_M_at_10 rfl ?_
    refine xv_top (x' := b2i (bt x n)) (by rw [hc6]; rfl) ?_
    exact W.zret (v := b2i (bt x n)) hx hb hr (b2i_nar _) (fun t ht hW => ⟨rfl, ht⟩) (fun _ h => by cases h) d_M_at_14
set_option maxHeartbeats 4000000 in
set_option maxRecDepth 100000 in
theorem k_M_size (l : Launch) (D : va_G) (x : Int32) : Met l y_M_size (Cond.code y_M_size c_M_size 3 (some .int) :: BS) { frames := 0, cells := 0, slots := 0, locals := 0 } (va_Pc [.int x] (xR D [] [])) (QcRead (nI (cn x 16))) 0 0 (fun _ => False) := by
  refine Met.ofW (cc := c_M_size) (maxL := 3) (ret := (some .int)) (by decide) rfl ?_
  intro p e s m args below meth c s₁ B hml hv
  obtain ⟨rfl, hP, hK, hN⟩ := hv
  have hx := B.exec
  have hb := B.bytes
  have hr := B.returns
  have hB := xB B.pre
  have hown : s.vm.findClass R_M = some m.cls := findClass_of_methodNamed B.named
  have hlocks := B.notSynchronized
  have hl := lv_entry ([.int x]) (n := 3) (Nat.le_of_ble_eq_true rfl)
  rw [lg_entry_eq]
  generalize (lg_sl ([.int x]) ++ List.replicate (3 - (lg_sl ([.int x])).length) Slot.unset).toArray = ls at hl ⊢
  have hl : lv_has ls 3 [(0, .int x)] := hl
  refine lv_iconst (v := nI 0) hx hb d_M_size_0 (by decide) ?_
  refine lv_istore_n hx hb d_M_size_1 rfl hl (by decide) rfl (fun ls hl => ?_)
  have hl : lv_has ls 3 [(1, .int (nI 0)), (0, .int x)] := hl
  refine lv_iconst (v := nI 0) hx hb d_M_size_2 (by decide) ?_
  refine lv_istore_n hx hb d_M_size_3 rfl hl (by decide) rfl (fun ls hl => ?_)
  have hl : lv_has ls 3 [(2, .int (nI 0)), (1, .int (nI 0)), (0, .int x)] := hl
  refine xl_r (fun (u : Nat) ls => ((u ≤ 16)) ∧ lv_has ls 3 [(2, .int (nI u)), (1, .int (nI (cn x u))), (0, .int x)]) (fun u => 16 - u) (fun u ls hI ih4 => ?_) 0 _ ⟨Nat.zero_le _, hl⟩
  obtain ⟨hI, hl⟩ := hI
  have hu_u := hI
  refine lv_iload_n hx hb d_M_size_4 rfl (lv_at hl 0 rfl) ?_
  refine lv_bipush (v := nI 16) hx hb d_M_size_5 (by decide) ?_
  refine lv_icmp_ge (tgt := 24) hx hb d_M_size_7 rfl (fun hc7 => ?_) (fun hc7 => ?_)
  · have hc7 : 16 ≤ u := (nI_leI (by omega) (by omega)).mp hc7
    refine lv_iload_n hx hb d_M_size_24 rfl (lv_at hl 1 rfl) ?_
    refine xv_top (x' := nI (cn x 16)) (by rw [show u = 16 by omega]) ?_
    exact W.iret (v := nI (cn x 16)) hx hb hr (fun t ht hW => ⟨rfl, ht⟩) (fun _ h => by cases h) d_M_size_25
  · have hc7 : ¬ (16 ≤ u) := fun q9 => hc7 ((nI_leI (by omega) (by omega)).mpr q9)
    refine lv_iload_n hx hb d_M_size_10 rfl (lv_at hl 1 rfl) ?_
    refine lv_iload_n hx hb d_M_size_11 rfl (lv_at hl 2 rfl) ?_
    refine lv_iload_n hx hb d_M_size_12 rfl (lv_at hl 0 rfl) ?_
    refine lv_ishr hx hb d_M_size_13 ?_
    refine lv_iconst (v := nI 1) hx hb d_M_size_14 (by decide) ?_
    refine lv_iand hx hb d_M_size_15 ?_
    refine lv_iadd hx hb d_M_size_16 ?_
    refine lv_istore_n hx hb d_M_size_17 rfl hl (by decide) rfl (fun ls hl => ?_)
    have hl : lv_has ls 3 [(1, .int ((nI (cn x u)) + ((x >>> (nI u &&& 31)) &&& (nI 1)))), (2, .int (nI u)), (0, .int x)] := hl
    have hl : lv_has ls 3 [(1, .int (nI (cn x (u + 1)))), (2, .int (nI u)), (0, .int x)] := by
      have hz : ((nI (cn x u)) + ((x >>> (nI u &&& 31)) &&& (nI 1))) = nI (cn x (u + 1)) := sz_step (by omega)
      rw [← hz]; exact hl
    refine lv_iinc hx hb d_M_size_18 hl (k := 1) rfl (v := nI (u + 1)) (nI_1 u) (by decide) rfl (fun ls hl => ?_)
    have hl : lv_has ls 3 [(2, .int (nI (u + 1))), (1, .int (nI (cn x (u + 1)))), (0, .int x)] := hl
    refine lv_goto (tgt := 4) hx hb d_M_size_21 rfl ?_
    exact ih4 (u + 1) _ ⟨by omega, lv_sub hl [0, 1, 2] rfl⟩ (by omega)
set_option maxHeartbeats 4000000 in
set_option maxRecDepth 100000 in
theorem k_M_least (l : Launch) (D : va_G) (x : Int32) (hex : ∃ j, j < 16 ∧ bt x j = true) : Met l y_M_least (Cond.code y_M_least c_M_least 2 (some .int) :: BS) { frames := 1, cells := 0, slots := 0, locals := 21 } (va_Pc [.int x] (xR D [] [])) (QcRead (nI (first (fun i => bt x i) 0 16))) 0 0 (fun _ => False) := by
  refine Met.ofW (cc := c_M_least) (maxL := 2) (ret := (some .int)) (by decide) rfl ?_
  intro p e s m args below meth c s₁ B hml hv
  obtain ⟨rfl, hP, hK, hN⟩ := hv
  have hx := B.exec
  have hb := B.bytes
  have hr := B.returns
  have hB := xB B.pre
  have hown : s.vm.findClass R_M = some m.cls := findClass_of_methodNamed B.named
  have hlocks := B.notSynchronized
  have hl := lv_entry ([.int x]) (n := 2) (Nat.le_of_ble_eq_true rfl)
  rw [lg_entry_eq]
  generalize (lg_sl ([.int x]) ++ List.replicate (2 - (lg_sl ([.int x])).length) Slot.unset).toArray = ls at hl ⊢
  have hl : lv_has ls 2 [(0, .int x)] := hl
  refine lv_iconst (v := nI 0) hx hb d_M_least_0 (by decide) ?_
  refine lv_istore_n hx hb d_M_least_1 rfl hl (by decide) rfl (fun ls hl => ?_)
  have hl : lv_has ls 2 [(1, .int (nI 0)), (0, .int x)] := hl
  refine xl_r (fun (i : Nat) ls => ((i < 16) ∧ (∀ k9, k9 < i → bt x k9 = false)) ∧ lv_has ls 2 [(1, .int (nI i)), (0, .int x)]) (fun i => 16 - i) (fun i ls hI ih2 => ?_) 0 _ ⟨⟨by decide, lt_0⟩, hl⟩
  obtain ⟨hI, hl⟩ := hI
  obtain ⟨hi, hm⟩ := hI
  refine lv_iload_n hx hb d_M_least_2 rfl (lv_at hl 1 rfl) ?_
  refine lv_iload_n hx hb d_M_least_3 rfl (lv_at hl 0 rfl) ?_
  refine xr_cal (va_runS (As := [.int x, .int (nI i)]) (rest := []) ⟨hx, hb, hml, hown, hB⟩ (k_M_has l D  x i (by omega)) ⟨callB_of 2 hB (xg0 mc_M_has) rfl rfl rfl (hB _ mz_M) (hB _ ml_M_35) (by decide +kernel) ⟨Nat.le_of_ble_eq_true rfl, Nat.le_of_ble_eq_true rfl⟩, hB _ ms_M_has⟩ (xpS (ws := []) (tys := []) (hP.sub [] rfl) (hK.sub [] rfl) hN) rfl rfl hl.1 rfl (lv_room (Nat.le_of_ble_eq_true rfl)) d_M_least_4 ⟨Nat.le_of_ble_eq_true rfl, Nat.le_of_ble_eq_true rfl⟩) ?_
  refine lv_if_ne (tgt := 16) hx hb d_M_least_7 rfl (fun hc7 => ?_) (fun hc7 => ?_)
  · have hc7 := b2i_n.mp hc7
    refine lv_iload_n hx hb d_M_least_16 rfl (lv_at hl 0 rfl) ?_
    refine xv_top (x' := nI (first (fun i => bt x i) 0 16)) (by rw [first_eq (p := (fun i => bt x i)) hc7 hi hm]) ?_
    exact W.iret (v := nI (first (fun i => bt x i) 0 16)) hx hb hr (fun t ht hW => ⟨rfl, ht⟩) (fun _ h => by cases h) d_M_least_17
  · have hc7 := b2i_0.mp hc7
    refine lv_iinc hx hb d_M_least_10 hl (k := 0) rfl (v := nI (i + 1)) (nI_1 i) (by decide) rfl (fun ls hl => ?_)
    have hl : lv_has ls 2 [(1, .int (nI (i + 1))), (0, .int x)] := hl
    refine lv_goto (tgt := 2) hx hb d_M_least_13 rfl ?_
    exact ih2 (i + 1) _ ⟨⟨lst_step hex hm hi hc7, lt_s hm hc7⟩, lv_sub hl [0, 1] rfl⟩ (by omega)
set_option maxHeartbeats 4000000 in
set_option maxRecDepth 100000 in
theorem k_M_spread (l : Launch) (D : va_G) (mo m0 m1 m2 m3 m4 m5 m6 : Nat) (o0 o1 o2 o3 o4 o5 o6 : ClassId) (mc mn mg : Int32) (h mO mG mF mA mU mR : Nat → Int32) (hg : gd h) (sx al cx : Int32) (hsx : m16 sx) (hal : ∀ i, i < 16 → bt al i = !(bt cx i)) : Met l y_M_spread (Cond.code y_M_spread c_M_spread 6 (some .int) :: BS) { frames := 1, cells := 0, slots := 0, locals := 21 } (va_Pc [.ref mo, .int sx, .int al] (xR D [(mo, .inr (5, [.int mc, .int mn, .ref m0, .int mg, .ref m1, .ref m2, .ref m3, .ref m4, .ref m5, .ref m6])), (m0, .inl (o0, 16, .inl h)), (m1, .inl (o1, 16, .inl mO)), (m2, .inl (o2, 16, .inl mG)), (m3, .inl (o3, 16, .inl mF)), (m4, .inl (o4, 32, .inl mA)), (m5, .inl (o5, 32, .inl mU)), (m6, .inl (o6, 32, .inl mR))] [(o0, .int), (o1, .int), (o2, .int), (o3, .int), (o4, .int), (o5, .int), (o6, .int)])) (QcRead (SP h sx cx)) 0 0 (fun _ => False) := by
  refine Met.ofW (cc := c_M_spread) (maxL := 6) (ret := (some .int)) (by decide) rfl ?_
  intro p e s m args below meth c s₁ B hml hv
  obtain ⟨rfl, hP, hK, hN⟩ := hv
  have hx := B.exec
  have hb := B.bytes
  have hr := B.returns
  have hB := xB B.pre
  have hown : s.vm.findClass R_M = some m.cls := findClass_of_methodNamed B.named
  have hlocks := B.notSynchronized
  have hl := lv_entry ([.ref mo, .int sx, .int al]) (n := 6) (Nat.le_of_ble_eq_true rfl)
  rw [lg_entry_eq]
  generalize (lg_sl ([.ref mo, .int sx, .int al]) ++ List.replicate (6 - (lg_sl ([.ref mo, .int sx, .int al])).length) Slot.unset).toArray = ls at hl ⊢
  have hl : lv_has ls 6 [(0, .ref mo), (1, .int sx), (2, .int al)] := hl
  refine lv_iload_n hx hb d_M_spread_0 rfl (lv_at hl 1 rfl) ?_
  refine lv_iload_n hx hb d_M_spread_1 rfl (lv_at hl 2 rfl) ?_
  refine lv_iand hx hb d_M_spread_2 ?_
  refine lv_istore_n hx hb d_M_spread_3 rfl hl (by decide) rfl (fun ls hl => ?_)
  have hl : lv_has ls 6 [(3, .int (sx &&& al)), (0, .ref mo), (1, .int sx), (2, .int al)] := hl
  have hl : lv_has ls 6 [(3, .int (itr h cx 0 (sx &&& (cx ^^^ (-1))))), (0, .ref mo), (1, .int sx), (2, .int al)] := by
    have hz : (sx &&& al) = itr h cx 0 (sx &&& (cx ^^^ (-1))) := al_and hsx hal
    rw [← hz]; exact hl
  refine lv_iconst (v := nI 0) hx hb d_M_spread_4 (by decide) ?_
  refine lv_istore hx hb d_M_spread_5 hl (by decide) rfl (fun ls hl => ?_)
  have hl : lv_has ls 6 [(4, .int (nI 0)), (3, .int (itr h cx 0 (sx &&& (cx ^^^ (-1))))), (0, .ref mo), (1, .int sx), (2, .int al)] := hl
  refine xl_r2 (fun (k : Nat) (b9 : Int32) ls => ((k ≤ 16) ∧ ((k = 0 ∧ b9 = 0) ∨ ∃ j9, k = j9 + 1 ∧ b9 = itr h cx j9 (sx &&& (cx ^^^ (-1))))) ∧ lv_has ls 6 [(4, .int b9), (3, .int (itr h cx k (sx &&& (cx ^^^ (-1))))), (0, .ref mo), (1, .int sx), (2, .int al)]) (fun k b9 => 17 - k) (fun k b9 ls hI ih7 => ?_) 0 (nI 0) _ ⟨⟨Nat.zero_le _, Or.inl ⟨rfl, rfl⟩⟩, hl⟩
  obtain ⟨hI, hl⟩ := hI
  obtain ⟨hk, hkb⟩ := hI
  refine lv_iload_n hx hb d_M_spread_7 rfl (lv_at hl 1 rfl) ?_
  refine lv_iload hx hb d_M_spread_8 (lv_at hl 0 rfl) ?_
  refine lv_icmp_eq (tgt := 61) hx hb d_M_spread_10 rfl (fun hc10 => ?_) (fun hc10 => ?_)
  · refine lv_iload_n hx hb d_M_spread_61 rfl (lv_at hl 1 rfl) ?_
    refine xv_top (x' := SP h sx cx) (sp_end hg hsx hkb hc10) ?_
    exact W.iret (v := SP h sx cx) hx hb hr (fun t ht hW => ⟨rfl, ht⟩) (fun _ h => by cases h) d_M_spread_62
  · have hk1 : k + 1 ≤ 16 := by
      rcases hkb with ⟨h1, h2⟩ | ⟨j9, h1, h2⟩
      · omega
      · subst h1; subst h2
        have := itr_ne hg (m16_and hsx) hc10
        omega
    refine lv_iload_n hx hb d_M_spread_13 rfl (lv_at hl 1 rfl) ?_
    refine lv_istore hx hb d_M_spread_14 hl (by decide) rfl (fun ls hl => ?_)
    have hl : lv_has ls 6 [(4, .int (itr h cx k (sx &&& (cx ^^^ (-1))))), (3, .int (itr h cx k (sx &&& (cx ^^^ (-1))))), (0, .ref mo), (1, .int sx), (2, .int al)] := hl
    refine lv_iconst (v := nI 0) hx hb d_M_spread_16 (by decide) ?_
    refine lv_istore hx hb d_M_spread_17 hl (by decide) rfl (fun ls hl => ?_)
    have hl : lv_has ls 6 [(5, .int (nI 0)), (4, .int (itr h cx k (sx &&& (cx ^^^ (-1))))), (3, .int (itr h cx k (sx &&& (cx ^^^ (-1))))), (0, .ref mo), (1, .int sx), (2, .int al)] := hl
    refine xl_r (fun (v : Nat) ls => ((v ≤ 16)) ∧ lv_has ls 6 [(5, .int (nI v)), (4, .int (itr h cx k (sx &&& (cx ^^^ (-1))))), (3, .int (ac (fun v9 => h v9 &&& al) (itr h cx k (sx &&& (cx ^^^ (-1)))) (itr h cx k (sx &&& (cx ^^^ (-1)))) v)), (0, .ref mo), (1, .int sx), (2, .int al)]) (fun v => 16 - v) (fun v ls hI ih19 => ?_) 0 _ ⟨Nat.zero_le _, hl⟩
    obtain ⟨hI, hl⟩ := hI
    have hv := hI
    refine lv_iload hx hb d_M_spread_19 (lv_at hl 0 rfl) ?_
    refine lv_bipush (v := nI 16) hx hb d_M_spread_21 (by decide) ?_
    refine lv_icmp_ge (tgt := 58) hx hb d_M_spread_23 rfl (fun hc23 => ?_) (fun hc23 => ?_)
    · have hc23 : 16 ≤ v := (nI_leI (by omega) (by omega)).mp hc23
      have hl : lv_has ls 6 [(5, .int (nI v)), (4, .int (itr h cx k (sx &&& (cx ^^^ (-1))))), (3, .int (itr h cx (k + 1) (sx &&& (cx ^^^ (-1))))), (0, .ref mo), (1, .int sx), (2, .int al)] := by
        have hz : (ac (fun v9 => h v9 &&& al) (itr h cx k (sx &&& (cx ^^^ (-1)))) (itr h cx k (sx &&& (cx ^^^ (-1)))) v) = itr h cx (k + 1) (sx &&& (cx ^^^ (-1))) := by rw [show v = 16 by omega]; exact ac_stp hg (itr_m16 hg (m16_and hsx) k) hal
        rw [← hz]; exact hl
      refine lv_goto (tgt := 7) hx hb d_M_spread_58 rfl ?_
      exact ih7 (k + 1) (itr h cx k (sx &&& (cx ^^^ (-1)))) _ ⟨⟨hk1, Or.inr ⟨k, rfl, rfl⟩⟩, lv_sub hl [1, 2, 3, 4, 5] rfl⟩ (by omega)
    · have hc23 : ¬ (16 ≤ v) := fun q9 => hc23 ((nI_leI (by omega) (by omega)).mpr q9)
      refine lv_iload_n hx hb d_M_spread_26 rfl (lv_at hl 2 rfl) ?_
      refine lv_iload hx hb d_M_spread_27 (lv_at hl 1 rfl) ?_
      refine lv_iload hx hb d_M_spread_29 (lv_at hl 0 rfl) ?_
      refine xr_cal (va_runS (As := [.int (itr h cx k (sx &&& (cx ^^^ (-1)))), .int (nI v)]) (rest := [.int (ac (fun v9 => h v9 &&& al) (itr h cx k (sx &&& (cx ^^^ (-1)))) (itr h cx k (sx &&& (cx ^^^ (-1)))) v)]) ⟨hx, hb, hml, hown, hB⟩ (k_M_has l D  (itr h cx k (sx &&& (cx ^^^ (-1)))) v (by omega)) ⟨callB_of 2 hB (xg0 mc_M_has) rfl rfl rfl (hB _ mz_M) (hB _ ml_M_35) (by decide +kernel) ⟨Nat.le_of_ble_eq_true rfl, Nat.le_of_ble_eq_true rfl⟩, hB _ ms_M_has⟩ (xpS (ws := []) (tys := []) (hP.sub [] rfl) (hK.sub [] rfl) hN) rfl rfl hl.1 rfl (lv_room (Nat.le_of_ble_eq_true rfl)) d_M_spread_31 ⟨Nat.le_of_ble_eq_true rfl, Nat.le_of_ble_eq_true rfl⟩) ?_
      refine lv_if_eq (tgt := 49) hx hb d_M_spread_34 rfl (fun hc34 => ?_) (fun hc34 => ?_)
      · have hc34 := b2i_0.mp hc34
        refine lv_iconst (v := nI 0) hx hb d_M_spread_49 (by decide) ?_
        refine lv_ior hx hb d_M_spread_50 ?_
        refine lv_istore_n hx hb d_M_spread_51 rfl hl (by decide) rfl (fun ls hl => ?_)
        have hl : lv_has ls 6 [(3, .int ((ac (fun v9 => h v9 &&& al) (itr h cx k (sx &&& (cx ^^^ (-1)))) (itr h cx k (sx &&& (cx ^^^ (-1)))) v) ||| (nI 0))), (5, .int (nI v)), (4, .int (itr h cx k (sx &&& (cx ^^^ (-1))))), (0, .ref mo), (1, .int sx), (2, .int al)] := hl
        have hl : lv_has ls 6 [(3, .int (ac (fun v9 => h v9 &&& al) (itr h cx k (sx &&& (cx ^^^ (-1)))) (itr h cx k (sx &&& (cx ^^^ (-1)))) (v + 1))), (5, .int (nI v)), (4, .int (itr h cx k (sx &&& (cx ^^^ (-1))))), (0, .ref mo), (1, .int sx), (2, .int al)] := by
          have hz : ((ac (fun v9 => h v9 &&& al) (itr h cx k (sx &&& (cx ^^^ (-1)))) (itr h cx k (sx &&& (cx ^^^ (-1)))) v) ||| (nI 0)) = ac (fun v9 => h v9 &&& al) (itr h cx k (sx &&& (cx ^^^ (-1)))) (itr h cx k (sx &&& (cx ^^^ (-1)))) (v + 1) := by show _ = _ ||| _; rw [if_neg (by rw [hc34]; decide)]; rfl
          rw [← hz]; exact hl
        refine lv_iinc hx hb d_M_spread_52 hl (k := 1) rfl (v := nI (v + 1)) (nI_1 v) (by decide) rfl (fun ls hl => ?_)
        have hl : lv_has ls 6 [(5, .int (nI (v + 1))), (3, .int (ac (fun v9 => h v9 &&& al) (itr h cx k (sx &&& (cx ^^^ (-1)))) (itr h cx k (sx &&& (cx ^^^ (-1)))) (v + 1))), (4, .int (itr h cx k (sx &&& (cx ^^^ (-1))))), (0, .ref mo), (1, .int sx), (2, .int al)] := hl
        refine lv_goto (tgt := 19) hx hb d_M_spread_55 rfl ?_
        exact ih19 (v + 1) _ ⟨by omega, lv_sub hl [0, 2, 1, 3, 4, 5] rfl⟩ (by omega)
      · have hc34 := b2i_n.mp hc34
        refine lv_aload_n hx hb d_M_spread_37 rfl (lv_at hl 3 rfl) ?_
        refine va_get (D := D) (ci := 5) (v := .ref m0) (C := R_M) (T := F_M) (N := 10) hx hb hB in_M hown hK hP 0 rfl rfl 2 (by decide) (hB _ mf_M_7) (fun _ h9 => h9) rfl d_M_spread_38 ?_
        refine lv_iload hx hb d_M_spread_41 (lv_at hl 0 rfl) ?_
        refine xa_ld (u := v) hx hb hK hP 1 0 rfl rfl (by omega) (by decide) d_M_spread_43 ?_
        refine lv_iload_n hx hb d_M_spread_44 rfl (lv_at hl 5 rfl) ?_
        refine lv_iand hx hb d_M_spread_45 ?_
        refine lv_goto (tgt := 50) hx hb d_M_spread_46 rfl ?_
        refine lv_ior hx hb d_M_spread_50 ?_
        refine lv_istore_n hx hb d_M_spread_51 rfl hl (by decide) rfl (fun ls hl => ?_)
        have hl : lv_has ls 6 [(3, .int ((ac (fun v9 => h v9 &&& al) (itr h cx k (sx &&& (cx ^^^ (-1)))) (itr h cx k (sx &&& (cx ^^^ (-1)))) v) ||| ((h v) &&& al))), (5, .int (nI v)), (4, .int (itr h cx k (sx &&& (cx ^^^ (-1))))), (0, .ref mo), (1, .int sx), (2, .int al)] := hl
        have hl : lv_has ls 6 [(3, .int (ac (fun v9 => h v9 &&& al) (itr h cx k (sx &&& (cx ^^^ (-1)))) (itr h cx k (sx &&& (cx ^^^ (-1)))) (v + 1))), (5, .int (nI v)), (4, .int (itr h cx k (sx &&& (cx ^^^ (-1))))), (0, .ref mo), (1, .int sx), (2, .int al)] := by
          have hz : ((ac (fun v9 => h v9 &&& al) (itr h cx k (sx &&& (cx ^^^ (-1)))) (itr h cx k (sx &&& (cx ^^^ (-1)))) v) ||| ((h v) &&& al)) = ac (fun v9 => h v9 &&& al) (itr h cx k (sx &&& (cx ^^^ (-1)))) (itr h cx k (sx &&& (cx ^^^ (-1)))) (v + 1) := by show _ = _ ||| _; rw [if_pos hc34]
          rw [← hz]; exact hl
        refine lv_iinc hx hb d_M_spread_52 hl (k := 1) rfl (v := nI (v + 1)) (nI_1 v) (by decide) rfl (fun ls hl => ?_)
        have hl : lv_has ls 6 [(5, .int (nI (v + 1))), (3, .int (ac (fun v9 => h v9 &&& al) (itr h cx k (sx &&& (cx ^^^ (-1)))) (itr h cx k (sx &&& (cx ^^^ (-1)))) (v + 1))), (4, .int (itr h cx k (sx &&& (cx ^^^ (-1))))), (0, .ref mo), (1, .int sx), (2, .int al)] := hl
        refine lv_goto (tgt := 19) hx hb d_M_spread_55 rfl ?_
        exact ih19 (v + 1) _ ⟨by omega, lv_sub hl [0, 2, 1, 3, 4, 5] rfl⟩ (by omega)
set_option maxHeartbeats 4000000 in
set_option maxRecDepth 100000 in
theorem k_M_reach (l : Launch) (D : va_G) (mo m0 m1 m2 m3 m4 m5 m6 : Nat) (o0 o1 o2 o3 o4 o5 o6 : ClassId) (mc mn mg : Int32) (h mO mG mF mA mU mR : Nat → Int32) (hg : gd h) (v : Nat) (hv : v < 16) : Met l y_M_reach (Cond.code y_M_reach c_M_reach 2 (some .int) :: BS) { frames := 2, cells := 0, slots := 0, locals := 46 } (va_Pc [.ref mo, .int (nI v)] (xR D [(mo, .inr (5, [.int mc, .int mn, .ref m0, .int mg, .ref m1, .ref m2, .ref m3, .ref m4, .ref m5, .ref m6])), (m0, .inl (o0, 16, .inl h)), (m1, .inl (o1, 16, .inl mO)), (m2, .inl (o2, 16, .inl mG)), (m3, .inl (o3, 16, .inl mF)), (m4, .inl (o4, 32, .inl mA)), (m5, .inl (o5, 32, .inl mU)), (m6, .inl (o6, 32, .inl mR))] [(o0, .int), (o1, .int), (o2, .int), (o3, .int), (o4, .int), (o5, .int), (o6, .int)])) (QcRead (RE h v)) 0 0 (fun _ => False) := by
  refine Met.ofW (cc := c_M_reach) (maxL := 2) (ret := (some .int)) (by decide) rfl ?_
  intro p e s m args below meth c s₁ B hml hv
  obtain ⟨rfl, hP, hK, hN⟩ := hv
  have hx := B.exec
  have hb := B.bytes
  have hr := B.returns
  have hB := xB B.pre
  have hown : s.vm.findClass R_M = some m.cls := findClass_of_methodNamed B.named
  have hlocks := B.notSynchronized
  have hl := lv_entry ([.ref mo, .int (nI v)]) (n := 2) (Nat.le_of_ble_eq_true rfl)
  rw [lg_entry_eq]
  generalize (lg_sl ([.ref mo, .int (nI v)]) ++ List.replicate (2 - (lg_sl ([.ref mo, .int (nI v)])).length) Slot.unset).toArray = ls at hl ⊢
  have hl : lv_has ls 2 [(0, .ref mo), (1, .int (nI v))] := hl
  refine lv_aload_n hx hb d_M_reach_0 rfl (lv_at hl 0 rfl) ?_
  refine lv_iconst (v := nI 1) hx hb d_M_reach_1 (by decide) ?_
  refine lv_iload_n hx hb d_M_reach_2 rfl (lv_at hl 1 rfl) ?_
  refine lv_ishl hx hb d_M_reach_3 ?_
  refine xv_top (x' := bit v) (rfl) ?_
  refine lv_ldc (v := 65535) hx hb hown (hB _ mk_M_39) d_M_reach_4 ?_
  refine xr_cal (va_runV (As := [.int (bit v), .int 65535]) (rest := []) ⟨hx, hb, hml, hown, hB⟩ (k_M_spread l D mo m0 m1 m2 m3 m4 m5 m6 o0 o1 o2 o3 o4 o5 o6 mc mn mg h mO mG mF mA mU mR hg (bit v) 65535 0 (m16_bit hv) al_0) ⟨callB_of 2 hB (xg0 mc_M_spread) rfl rfl rfl (hB _ mz_M) (hB _ ml_M_40) (by decide +kernel) ⟨Nat.le_of_ble_eq_true rfl, Nat.le_of_ble_eq_true rfl⟩, hB _ mi_M_spread, hB _ me_M_spread⟩ (xpV (ws := [(mo, .inr (5, [.int mc, .int mn, .ref m0, .int mg, .ref m1, .ref m2, .ref m3, .ref m4, .ref m5, .ref m6])), (m0, .inl (o0, 16, .inl h)), (m1, .inl (o1, 16, .inl mO)), (m2, .inl (o2, 16, .inl mG)), (m3, .inl (o3, 16, .inl mF)), (m4, .inl (o4, 32, .inl mA)), (m5, .inl (o5, 32, .inl mU)), (m6, .inl (o6, 32, .inl mR))]) (tys := [(o0, .int), (o1, .int), (o2, .int), (o3, .int), (o4, .int), (o5, .int), (o6, .int)]) (hP.sub [0, 1, 2, 3, 4, 5, 6, 7] rfl) (hK.sub [0, 1, 2, 3, 4, 5, 6] rfl) hN (va_recv (ci := 5) (q0 := 0) (q := (R_M, F_M, 10)) hK hP rfl rfl)) rfl rfl hl.1 rfl (lv_room (Nat.le_of_ble_eq_true rfl)) d_M_reach_6 ⟨Nat.le_of_ble_eq_true rfl, Nat.le_of_ble_eq_true rfl⟩) ?_
  refine xv_top (x' := RE h v) (rfl) ?_
  exact W.iret (v := RE h v) hx hb hr (fun t ht hW => ⟨rfl, ht⟩) (fun _ h => by cases h) d_M_reach_9
set_option maxHeartbeats 4000000 in
set_option maxRecDepth 100000 in
theorem k_M_ends (l : Launch) (D : va_G) (mo m0 m1 m2 m3 m4 m5 m6 : Nat) (o0 o1 o2 o3 o4 o5 o6 : ClassId) (mc mn mg : Int32) (h mO mG mF mA mU mR : Nat → Int32) (tx : Int32) : Met l y_M_ends (Cond.code y_M_ends c_M_ends 4 (some .int) :: BS) { frames := 1, cells := 0, slots := 0, locals := 21 } (va_Pc [.ref mo, .int tx] (xR D [(mo, .inr (5, [.int mc, .int mn, .ref m0, .int mg, .ref m1, .ref m2, .ref m3, .ref m4, .ref m5, .ref m6])), (m0, .inl (o0, 16, .inl h)), (m1, .inl (o1, 16, .inl mO)), (m2, .inl (o2, 16, .inl mG)), (m3, .inl (o3, 16, .inl mF)), (m4, .inl (o4, 32, .inl mA)), (m5, .inl (o5, 32, .inl mU)), (m6, .inl (o6, 32, .inl mR))] [(o0, .int), (o1, .int), (o2, .int), (o3, .int), (o4, .int), (o5, .int), (o6, .int)])) (QcRead (un h tx 16)) 0 0 (fun _ => False) := by
  refine Met.ofW (cc := c_M_ends) (maxL := 4) (ret := (some .int)) (by decide) rfl ?_
  intro p e s m args below meth c s₁ B hml hv
  obtain ⟨rfl, hP, hK, hN⟩ := hv
  have hx := B.exec
  have hb := B.bytes
  have hr := B.returns
  have hB := xB B.pre
  have hown : s.vm.findClass R_M = some m.cls := findClass_of_methodNamed B.named
  have hlocks := B.notSynchronized
  have hl := lv_entry ([.ref mo, .int tx]) (n := 4) (Nat.le_of_ble_eq_true rfl)
  rw [lg_entry_eq]
  generalize (lg_sl ([.ref mo, .int tx]) ++ List.replicate (4 - (lg_sl ([.ref mo, .int tx])).length) Slot.unset).toArray = ls at hl ⊢
  have hl : lv_has ls 4 [(0, .ref mo), (1, .int tx)] := hl
  refine lv_iconst (v := nI 0) hx hb d_M_ends_0 (by decide) ?_
  refine lv_istore_n hx hb d_M_ends_1 rfl hl (by decide) rfl (fun ls hl => ?_)
  have hl : lv_has ls 4 [(2, .int (nI 0)), (0, .ref mo), (1, .int tx)] := hl
  refine lv_iconst (v := nI 0) hx hb d_M_ends_2 (by decide) ?_
  refine lv_istore_n hx hb d_M_ends_3 rfl hl (by decide) rfl (fun ls hl => ?_)
  have hl : lv_has ls 4 [(3, .int (nI 0)), (2, .int (nI 0)), (0, .ref mo), (1, .int tx)] := hl
  refine xl_r (fun (u : Nat) ls => ((u ≤ 16)) ∧ lv_has ls 4 [(3, .int (nI u)), (2, .int (un h tx u)), (0, .ref mo), (1, .int tx)]) (fun u => 16 - u) (fun u ls hI ih4 => ?_) 0 _ ⟨Nat.zero_le _, hl⟩
  obtain ⟨hI, hl⟩ := hI
  have hu_u := hI
  refine lv_iload_n hx hb d_M_ends_4 rfl (lv_at hl 0 rfl) ?_
  refine lv_bipush (v := nI 16) hx hb d_M_ends_5 (by decide) ?_
  refine lv_icmp_ge (tgt := 37) hx hb d_M_ends_7 rfl (fun hc7 => ?_) (fun hc7 => ?_)
  · have hc7 : 16 ≤ u := (nI_leI (by omega) (by omega)).mp hc7
    refine lv_iload_n hx hb d_M_ends_37 rfl (lv_at hl 1 rfl) ?_
    refine xv_top (x' := un h tx 16) (by rw [show u = 16 by omega]) ?_
    exact W.iret (v := un h tx 16) hx hb hr (fun t ht hW => ⟨rfl, ht⟩) (fun _ h => by cases h) d_M_ends_38
  · have hc7 : ¬ (16 ≤ u) := fun q9 => hc7 ((nI_leI (by omega) (by omega)).mpr q9)
    refine lv_iload_n hx hb d_M_ends_10 rfl (lv_at hl 1 rfl) ?_
    refine lv_iload_n hx hb d_M_ends_11 rfl (lv_at hl 3 rfl) ?_
    refine lv_iload_n hx hb d_M_ends_12 rfl (lv_at hl 0 rfl) ?_
    refine xr_cal (va_runS (As := [.int tx, .int (nI u)]) (rest := [.int (un h tx u)]) ⟨hx, hb, hml, hown, hB⟩ (k_M_has l D  tx u (by omega)) ⟨callB_of 2 hB (xg0 mc_M_has) rfl rfl rfl (hB _ mz_M) (hB _ ml_M_35) (by decide +kernel) ⟨Nat.le_of_ble_eq_true rfl, Nat.le_of_ble_eq_true rfl⟩, hB _ ms_M_has⟩ (xpS (ws := []) (tys := []) (hP.sub [] rfl) (hK.sub [] rfl) hN) rfl rfl hl.1 rfl (lv_room (Nat.le_of_ble_eq_true rfl)) d_M_ends_13 ⟨Nat.le_of_ble_eq_true rfl, Nat.le_of_ble_eq_true rfl⟩) ?_
    refine lv_if_eq (tgt := 28) hx hb d_M_ends_16 rfl (fun hc16 => ?_) (fun hc16 => ?_)
    · have hc16 := b2i_0.mp hc16
      refine lv_iconst (v := nI 0) hx hb d_M_ends_28 (by decide) ?_
      refine lv_ior hx hb d_M_ends_29 ?_
      refine lv_istore_n hx hb d_M_ends_30 rfl hl (by decide) rfl (fun ls hl => ?_)
      have hl : lv_has ls 4 [(2, .int ((un h tx u) ||| (nI 0))), (3, .int (nI u)), (0, .ref mo), (1, .int tx)] := hl
      have hl : lv_has ls 4 [(2, .int (un h tx (u + 1))), (3, .int (nI u)), (0, .ref mo), (1, .int tx)] := by
        have hz : ((un h tx u) ||| (nI 0)) = un h tx (u + 1) := (or_z _).trans (if_neg (by rw [hc16]; decide)).symm
        rw [← hz]; exact hl
      refine lv_iinc hx hb d_M_ends_31 hl (k := 1) rfl (v := nI (u + 1)) (nI_1 u) (by decide) rfl (fun ls hl => ?_)
      have hl : lv_has ls 4 [(3, .int (nI (u + 1))), (2, .int (un h tx (u + 1))), (0, .ref mo), (1, .int tx)] := hl
      refine lv_goto (tgt := 4) hx hb d_M_ends_34 rfl ?_
      exact ih4 (u + 1) _ ⟨by omega, lv_sub hl [0, 1, 2, 3] rfl⟩ (by omega)
    · have hc16 := b2i_n.mp hc16
      refine lv_aload_n hx hb d_M_ends_19 rfl (lv_at hl 2 rfl) ?_
      refine va_get (D := D) (ci := 5) (v := .ref m0) (C := R_M) (T := F_M) (N := 10) hx hb hB in_M hown hK hP 0 rfl rfl 2 (by decide) (hB _ mf_M_7) (fun _ h9 => h9) rfl d_M_ends_20 ?_
      refine lv_iload_n hx hb d_M_ends_23 rfl (lv_at hl 0 rfl) ?_
      refine xa_ld (u := u) hx hb hK hP 1 0 rfl rfl (by omega) (by decide) d_M_ends_24 ?_
      refine lv_goto (tgt := 29) hx hb d_M_ends_25 rfl ?_
      refine lv_ior hx hb d_M_ends_29 ?_
      refine lv_istore_n hx hb d_M_ends_30 rfl hl (by decide) rfl (fun ls hl => ?_)
      have hl : lv_has ls 4 [(2, .int ((un h tx u) ||| (h u))), (3, .int (nI u)), (0, .ref mo), (1, .int tx)] := hl
      have hl : lv_has ls 4 [(2, .int (un h tx (u + 1))), (3, .int (nI u)), (0, .ref mo), (1, .int tx)] := by
        have hz : ((un h tx u) ||| (h u)) = un h tx (u + 1) := (if_pos hc16).symm
        rw [← hz]; exact hl
      refine lv_iinc hx hb d_M_ends_31 hl (k := 1) rfl (v := nI (u + 1)) (nI_1 u) (by decide) rfl (fun ls hl => ?_)
      have hl : lv_has ls 4 [(3, .int (nI (u + 1))), (2, .int (un h tx (u + 1))), (0, .ref mo), (1, .int tx)] := hl
      refine lv_goto (tgt := 4) hx hb d_M_ends_34 rfl ?_
      exact ih4 (u + 1) _ ⟨by omega, lv_sub hl [0, 1, 2, 3] rfl⟩ (by omega)
set_option maxHeartbeats 4000000 in
set_option maxRecDepth 100000 in
theorem k_M_dependent (l : Launch) (D : va_G) (mo m0 m1 m2 m3 m4 m5 m6 : Nat) (o0 o1 o2 o3 o4 o5 o6 : ClassId) (mc mn mg : Int32) (h mO mG mF mA mU mR : Nat → Int32) (hg : gd h) (r9 v9 d9 : Nat) (hr9 : r9 < 16) (hv9 : v9 < 16) (hd9 : d9 < 16) : Met l y_M_dependent (Cond.code y_M_dependent c_M_dependent 4 (some .boolean) :: BS) { frames := 2, cells := 0, slots := 0, locals := 46 } (va_Pc [.ref mo, .int (nI r9), .int (nI v9), .int (nI d9)] (xR D [(mo, .inr (5, [.int mc, .int mn, .ref m0, .int mg, .ref m1, .ref m2, .ref m3, .ref m4, .ref m5, .ref m6])), (m0, .inl (o0, 16, .inl h)), (m1, .inl (o1, 16, .inl mO)), (m2, .inl (o2, 16, .inl mG)), (m3, .inl (o3, 16, .inl mF)), (m4, .inl (o4, 32, .inl mA)), (m5, .inl (o5, 32, .inl mU)), (m6, .inl (o6, 32, .inl mR))] [(o0, .int), (o1, .int), (o2, .int), (o3, .int), (o4, .int), (o5, .int), (o6, .int)])) (QcRead (b2i (decide (d9 = r9) || decide (d9 = v9) || !(bt (SP h (bit r9) (bit d9)) v9)))) 0 0 (fun _ => False) := by
  refine Met.ofW (cc := c_M_dependent) (maxL := 4) (ret := (some .boolean)) (by decide) rfl ?_
  intro p e s m args below meth c s₁ B hml hv
  obtain ⟨rfl, hP, hK, hN⟩ := hv
  have hx := B.exec
  have hb := B.bytes
  have hr := B.returns
  have hB := xB B.pre
  have hown : s.vm.findClass R_M = some m.cls := findClass_of_methodNamed B.named
  have hlocks := B.notSynchronized
  have hl := lv_entry ([.ref mo, .int (nI r9), .int (nI v9), .int (nI d9)]) (n := 4) (Nat.le_of_ble_eq_true rfl)
  rw [lg_entry_eq]
  generalize (lg_sl ([.ref mo, .int (nI r9), .int (nI v9), .int (nI d9)]) ++ List.replicate (4 - (lg_sl ([.ref mo, .int (nI r9), .int (nI v9), .int (nI d9)])).length) Slot.unset).toArray = ls at hl ⊢
  have hl : lv_has ls 4 [(0, .ref mo), (1, .int (nI r9)), (2, .int (nI v9)), (3, .int (nI d9))] := hl
  refine lv_iload_n hx hb d_M_dependent_0 rfl (lv_at hl 3 rfl) ?_
  refine lv_iload_n hx hb d_M_dependent_1 rfl (lv_at hl 1 rfl) ?_
  refine lv_icmp_eq (tgt := 32) hx hb d_M_dependent_2 rfl (fun hc2 => ?_) (fun hc2 => ?_)
  · have hc2 : d9 = r9 := (nI_eq (by omega) (by omega)).mp hc2
    refine lv_iconst (v := nI 1) hx hb d_M_dependent_32 (by decide) ?_
    refine lv_goto (tgt := 37) hx hb d_M_dependent_33 rfl ?_
    refine xv_top (x' := b2i (decide (d9 = r9) || decide (d9 = v9) || !(bt (SP h (bit r9) (bit d9)) v9))) (by first | (rw [decide_eq_true hc2]; rfl) | (rw [decide_eq_false hc2, decide_eq_true hc7]; rfl) | (rw [decide_eq_false hc2, decide_eq_false hc7, hc29]; rfl)) ?_
    exact W.zret (v := b2i (decide (d9 = r9) || decide (d9 = v9) || !(bt (SP h (bit r9) (bit d9)) v9))) hx hb hr (b2i_nar _) (fun t ht hW => ⟨rfl, ht⟩) (fun _ h => by cases h) d_M_dependent_37
  · have hc2 : ¬ (d9 = r9) := fun q9 => hc2 ((nI_eq (by omega) (by omega)).mpr q9)
    refine lv_iload_n hx hb d_M_dependent_5 rfl (lv_at hl 3 rfl) ?_
    refine lv_iload_n hx hb d_M_dependent_6 rfl (lv_at hl 2 rfl) ?_
    refine lv_icmp_eq (tgt := 32) hx hb d_M_dependent_7 rfl (fun hc7 => ?_) (fun hc7 => ?_)
    · have hc7 : d9 = v9 := (nI_eq (by omega) (by omega)).mp hc7
      refine lv_iconst (v := nI 1) hx hb d_M_dependent_32 (by decide) ?_
      refine lv_goto (tgt := 37) hx hb d_M_dependent_33 rfl ?_
      refine xv_top (x' := b2i (decide (d9 = r9) || decide (d9 = v9) || !(bt (SP h (bit r9) (bit d9)) v9))) (by first | (rw [decide_eq_true hc2]; rfl) | (rw [decide_eq_false hc2, decide_eq_true hc7]; rfl) | (rw [decide_eq_false hc2, decide_eq_false hc7, hc29]; rfl)) ?_
      exact W.zret (v := b2i (decide (d9 = r9) || decide (d9 = v9) || !(bt (SP h (bit r9) (bit d9)) v9))) hx hb hr (b2i_nar _) (fun t ht hW => ⟨rfl, ht⟩) (fun _ h => by cases h) d_M_dependent_37
    · have hc7 : ¬ (d9 = v9) := fun q9 => hc7 ((nI_eq (by omega) (by omega)).mpr q9)
      refine lv_aload_n hx hb d_M_dependent_10 rfl (lv_at hl 0 rfl) ?_
      refine lv_iconst (v := nI 1) hx hb d_M_dependent_11 (by decide) ?_
      refine lv_iload_n hx hb d_M_dependent_12 rfl (lv_at hl 1 rfl) ?_
      refine lv_ishl hx hb d_M_dependent_13 ?_
      refine xv_top (x' := bit r9) (rfl) ?_
      refine lv_ldc (v := 65535) hx hb hown (hB _ mk_M_39) d_M_dependent_14 ?_
      refine lv_iconst (v := nI 1) hx hb d_M_dependent_16 (by decide) ?_
      refine lv_iload_n hx hb d_M_dependent_17 rfl (lv_at hl 3 rfl) ?_
      refine lv_ishl hx hb d_M_dependent_18 ?_
      refine xv_top (x' := bit d9) (rfl) ?_
      refine lv_iconst (v := -1) hx hb d_M_dependent_19 (by decide) ?_
      refine lv_ixor hx hb d_M_dependent_20 ?_
      refine lv_iand hx hb d_M_dependent_21 ?_
      refine xr_cal (va_runV (As := [.int (bit r9), .int (65535 &&& ((bit d9) ^^^ (-1)))]) (rest := []) ⟨hx, hb, hml, hown, hB⟩ (k_M_spread l D mo m0 m1 m2 m3 m4 m5 m6 o0 o1 o2 o3 o4 o5 o6 mc mn mg h mO mG mF mA mU mR hg (bit r9) (65535 &&& ((bit d9) ^^^ (-1))) (bit d9) (m16_bit hr9) (al_d hd9)) ⟨callB_of 2 hB (xg0 mc_M_spread) rfl rfl rfl (hB _ mz_M) (hB _ ml_M_40) (by decide +kernel) ⟨Nat.le_of_ble_eq_true rfl, Nat.le_of_ble_eq_true rfl⟩, hB _ mi_M_spread, hB _ me_M_spread⟩ (xpV (ws := [(mo, .inr (5, [.int mc, .int mn, .ref m0, .int mg, .ref m1, .ref m2, .ref m3, .ref m4, .ref m5, .ref m6])), (m0, .inl (o0, 16, .inl h)), (m1, .inl (o1, 16, .inl mO)), (m2, .inl (o2, 16, .inl mG)), (m3, .inl (o3, 16, .inl mF)), (m4, .inl (o4, 32, .inl mA)), (m5, .inl (o5, 32, .inl mU)), (m6, .inl (o6, 32, .inl mR))]) (tys := [(o0, .int), (o1, .int), (o2, .int), (o3, .int), (o4, .int), (o5, .int), (o6, .int)]) (hP.sub [0, 1, 2, 3, 4, 5, 6, 7] rfl) (hK.sub [0, 1, 2, 3, 4, 5, 6] rfl) hN (va_recv (ci := 5) (q0 := 0) (q := (R_M, F_M, 10)) hK hP rfl rfl)) rfl rfl hl.1 rfl (lv_room (Nat.le_of_ble_eq_true rfl)) d_M_dependent_22 ⟨Nat.le_of_ble_eq_true rfl, Nat.le_of_ble_eq_true rfl⟩) ?_
      refine lv_iload_n hx hb d_M_dependent_25 rfl (lv_at hl 2 rfl) ?_
      refine xr_cal (va_runS (As := [.int (SP h (bit r9) (bit d9)), .int (nI v9)]) (rest := []) ⟨hx, hb, hml, hown, hB⟩ (k_M_has l D  (SP h (bit r9) (bit d9)) v9 (by omega)) ⟨callB_of 2 hB (xg0 mc_M_has) rfl rfl rfl (hB _ mz_M) (hB _ ml_M_35) (by decide +kernel) ⟨Nat.le_of_ble_eq_true rfl, Nat.le_of_ble_eq_true rfl⟩, hB _ ms_M_has⟩ (xpS (ws := []) (tys := []) (hP.sub [] rfl) (hK.sub [] rfl) hN) rfl rfl hl.1 rfl (lv_room (Nat.le_of_ble_eq_true rfl)) d_M_dependent_26 ⟨Nat.le_of_ble_eq_true rfl, Nat.le_of_ble_eq_true rfl⟩) ?_
      refine lv_if_ne (tgt := 36) hx hb d_M_dependent_29 rfl (fun hc29 => ?_) (fun hc29 => ?_)
      · have hc29 := b2i_n.mp hc29
        refine lv_iconst (v := nI 0) hx hb d_M_dependent_36 (by decide) ?_
        refine xv_top (x' := b2i (decide (d9 = r9) || decide (d9 = v9) || !(bt (SP h (bit r9) (bit d9)) v9))) (by first | (rw [decide_eq_true hc2]; rfl) | (rw [decide_eq_false hc2, decide_eq_true hc7]; rfl) | (rw [decide_eq_false hc2, decide_eq_false hc7, hc29]; rfl)) ?_
        exact W.zret (v := b2i (decide (d9 = r9) || decide (d9 = v9) || !(bt (SP h (bit r9) (bit d9)) v9))) hx hb hr (b2i_nar _) (fun t ht hW => ⟨rfl, ht⟩) (fun _ h => by cases h) d_M_dependent_37
      · have hc29 := b2i_0.mp hc29
        refine lv_iconst (v := nI 1) hx hb d_M_dependent_32 (by decide) ?_
        refine lv_goto (tgt := 37) hx hb d_M_dependent_33 rfl ?_
        refine xv_top (x' := b2i (decide (d9 = r9) || decide (d9 = v9) || !(bt (SP h (bit r9) (bit d9)) v9))) (by first | (rw [decide_eq_true hc2]; rfl) | (rw [decide_eq_false hc2, decide_eq_true hc7]; rfl) | (rw [decide_eq_false hc2, decide_eq_false hc7, hc29]; rfl)) ?_
        exact W.zret (v := b2i (decide (d9 = r9) || decide (d9 = v9) || !(bt (SP h (bit r9) (bit d9)) v9))) hx hb hr (b2i_nar _) (fun t ht hW => ⟨rfl, ht⟩) (fun _ h => by cases h) d_M_dependent_37
set_option maxHeartbeats 4000000 in
set_option maxRecDepth 100000 in
theorem k_M_leads (l : Launch) (D : va_G) (mo m0 m1 m2 m3 m4 m5 m6 : Nat) (o0 o1 o2 o3 o4 o5 o6 : ClassId) (mc mn mg : Int32) (h mO mG mF mA mU mR : Nat → Int32) (a9 b9 : Nat) (ha9 : a9 < 16) (hb9 : b9 < 16) : Met l y_M_leads (Cond.code y_M_leads c_M_leads 3 (some .boolean) :: BS) { frames := 2, cells := 0, slots := 0, locals := 44 } (va_Pc [.ref mo, .int (nI a9), .int (nI b9)] (xR D [(mo, .inr (5, [.int mc, .int mn, .ref m0, .int mg, .ref m1, .ref m2, .ref m3, .ref m4, .ref m5, .ref m6])), (m0, .inl (o0, 16, .inl h)), (m1, .inl (o1, 16, .inl mO)), (m2, .inl (o2, 16, .inl mG)), (m3, .inl (o3, 16, .inl mF)), (m4, .inl (o4, 32, .inl mA)), (m5, .inl (o5, 32, .inl mU)), (m6, .inl (o6, 32, .inl mR))] [(o0, .int), (o1, .int), (o2, .int), (o3, .int), (o4, .int), (o5, .int), (o6, .int)])) (QcRead (b2i (!(decide (a9 = b9)) && !(decide (un h (mG a9) 16 &&& mG b9 = 0))))) 0 0 (fun _ => False) := by
  refine Met.ofW (cc := c_M_leads) (maxL := 3) (ret := (some .boolean)) (by decide) rfl ?_
  intro p e s m args below meth c s₁ B hml hv
  obtain ⟨rfl, hP, hK, hN⟩ := hv
  have hx := B.exec
  have hb := B.bytes
  have hr := B.returns
  have hB := xB B.pre
  have hown : s.vm.findClass R_M = some m.cls := findClass_of_methodNamed B.named
  have hlocks := B.notSynchronized
  have hl := lv_entry ([.ref mo, .int (nI a9), .int (nI b9)]) (n := 3) (Nat.le_of_ble_eq_true rfl)
  rw [lg_entry_eq]
  generalize (lg_sl ([.ref mo, .int (nI a9), .int (nI b9)]) ++ List.replicate (3 - (lg_sl ([.ref mo, .int (nI a9), .int (nI b9)])).length) Slot.unset).toArray = ls at hl ⊢
  have hl : lv_has ls 3 [(0, .ref mo), (1, .int (nI a9)), (2, .int (nI b9))] := hl
  refine lv_iload_n hx hb d_M_leads_0 rfl (lv_at hl 1 rfl) ?_
  refine lv_iload_n hx hb d_M_leads_1 rfl (lv_at hl 2 rfl) ?_
  refine lv_icmp_eq (tgt := 29) hx hb d_M_leads_2 rfl (fun hc2 => ?_) (fun hc2 => ?_)
  · have hc2 : a9 = b9 := (nI_eq (by omega) (by omega)).mp hc2
    refine lv_iconst (v := nI 0) hx hb d_M_leads_29 (by decide) ?_
    refine xv_top (x' := b2i (!(decide (a9 = b9)) && !(decide (un h (mG a9) 16 &&& mG b9 = 0)))) (by first | (rw [decide_eq_true hc2]; rfl) | (rw [decide_eq_false hc2, decide_eq_true hc22]; rfl) | (rw [decide_eq_false hc2, decide_eq_false hc22]; rfl)) ?_
    exact W.zret (v := b2i (!(decide (a9 = b9)) && !(decide (un h (mG a9) 16 &&& mG b9 = 0)))) hx hb hr (b2i_nar _) (fun t ht hW => ⟨rfl, ht⟩) (fun _ h => by cases h) d_M_leads_30
  · have hc2 : ¬ (a9 = b9) := fun q9 => hc2 ((nI_eq (by omega) (by omega)).mpr q9)
    refine lv_aload_n hx hb d_M_leads_5 rfl (lv_at hl 0 rfl) ?_
    refine lv_aload_n hx hb d_M_leads_6 rfl (lv_at hl 0 rfl) ?_
    refine va_get (D := D) (ci := 5) (v := .ref m2) (C := R_M) (T := F_M) (N := 10) hx hb hB in_M hown hK hP 0 rfl rfl 5 (by decide) (hB _ mf_M_16) (fun _ h9 => h9) rfl d_M_leads_7 ?_
    refine lv_iload_n hx hb d_M_leads_10 rfl (lv_at hl 1 rfl) ?_
    refine xa_ld (u := a9) hx hb hK hP 3 2 rfl rfl (by omega) (by decide) d_M_leads_11 ?_
    refine xr_cal (va_runV (As := [.int (mG a9)]) (rest := []) ⟨hx, hb, hml, hown, hB⟩ (k_M_ends l D mo m0 m1 m2 m3 m4 m5 m6 o0 o1 o2 o3 o4 o5 o6 mc mn mg h mO mG mF mA mU mR (mG a9)) ⟨callB_of 1 hB (xg0 mc_M_ends) rfl rfl rfl (hB _ mz_M) (hB _ ml_M_64) (by decide +kernel) ⟨Nat.le_of_ble_eq_true rfl, Nat.le_of_ble_eq_true rfl⟩, hB _ mi_M_ends, hB _ me_M_ends⟩ (xpV (ws := [(mo, .inr (5, [.int mc, .int mn, .ref m0, .int mg, .ref m1, .ref m2, .ref m3, .ref m4, .ref m5, .ref m6])), (m0, .inl (o0, 16, .inl h)), (m1, .inl (o1, 16, .inl mO)), (m2, .inl (o2, 16, .inl mG)), (m3, .inl (o3, 16, .inl mF)), (m4, .inl (o4, 32, .inl mA)), (m5, .inl (o5, 32, .inl mU)), (m6, .inl (o6, 32, .inl mR))]) (tys := [(o0, .int), (o1, .int), (o2, .int), (o3, .int), (o4, .int), (o5, .int), (o6, .int)]) (hP.sub [0, 1, 2, 3, 4, 5, 6, 7] rfl) (hK.sub [0, 1, 2, 3, 4, 5, 6] rfl) hN (va_recv (ci := 5) (q0 := 0) (q := (R_M, F_M, 10)) hK hP rfl rfl)) rfl rfl hl.1 rfl (lv_room (Nat.le_of_ble_eq_true rfl)) d_M_leads_12 ⟨Nat.le_of_ble_eq_true rfl, Nat.le_of_ble_eq_true rfl⟩) ?_
    refine lv_aload_n hx hb d_M_leads_15 rfl (lv_at hl 0 rfl) ?_
    refine va_get (D := D) (ci := 5) (v := .ref m2) (C := R_M) (T := F_M) (N := 10) hx hb hB in_M hown hK hP 0 rfl rfl 5 (by decide) (hB _ mf_M_16) (fun _ h9 => h9) rfl d_M_leads_16 ?_
    refine lv_iload_n hx hb d_M_leads_19 rfl (lv_at hl 2 rfl) ?_
    refine xa_ld (u := b9) hx hb hK hP 3 2 rfl rfl (by omega) (by decide) d_M_leads_20 ?_
    refine lv_iand hx hb d_M_leads_21 ?_
    refine lv_if_eq (tgt := 29) hx hb d_M_leads_22 rfl (fun hc22 => ?_) (fun hc22 => ?_)
    · refine lv_iconst (v := nI 0) hx hb d_M_leads_29 (by decide) ?_
      refine xv_top (x' := b2i (!(decide (a9 = b9)) && !(decide (un h (mG a9) 16 &&& mG b9 = 0)))) (by first | (rw [decide_eq_true hc2]; rfl) | (rw [decide_eq_false hc2, decide_eq_true hc22]; rfl) | (rw [decide_eq_false hc2, decide_eq_false hc22]; rfl)) ?_
      exact W.zret (v := b2i (!(decide (a9 = b9)) && !(decide (un h (mG a9) 16 &&& mG b9 = 0)))) hx hb hr (b2i_nar _) (fun t ht hW => ⟨rfl, ht⟩) (fun _ h => by cases h) d_M_leads_30
    · refine lv_iconst (v := nI 1) hx hb d_M_leads_25 (by decide) ?_
      refine lv_goto (tgt := 30) hx hb d_M_leads_26 rfl ?_
      refine xv_top (x' := b2i (!(decide (a9 = b9)) && !(decide (un h (mG a9) 16 &&& mG b9 = 0)))) (by first | (rw [decide_eq_true hc2]; rfl) | (rw [decide_eq_false hc2, decide_eq_true hc22]; rfl) | (rw [decide_eq_false hc2, decide_eq_false hc22]; rfl)) ?_
      exact W.zret (v := b2i (!(decide (a9 = b9)) && !(decide (un h (mG a9) 16 &&& mG b9 = 0)))) hx hb hr (b2i_nar _) (fun t ht hW => ⟨rfl, ht⟩) (fun _ h => by cases h) d_M_leads_30
set_option maxHeartbeats 4000000 in
set_option maxRecDepth 100000 in
theorem k_M_thrown (l : Launch) (D : va_G) (mo m0 m1 m2 m3 m4 m5 m6 : Nat) (o0 o1 o2 o3 o4 o5 o6 : ClassId) (mc mn mg : Int32) (h mO mG mF mA mU mR : Nat → Int32)  : Met l y_M_thrown (Cond.code y_M_thrown c_M_thrown 1 (some .int) :: BS) { frames := 0, cells := 0, slots := 0, locals := 0 } (va_Pc [.ref mo] (xR D [(mo, .inr (5, [.int mc, .int mn, .ref m0, .int mg, .ref m1, .ref m2, .ref m3, .ref m4, .ref m5, .ref m6])), (m0, .inl (o0, 16, .inl h)), (m1, .inl (o1, 16, .inl mO)), (m2, .inl (o2, 16, .inl mG)), (m3, .inl (o3, 16, .inl mF)), (m4, .inl (o4, 32, .inl mA)), (m5, .inl (o5, 32, .inl mU)), (m6, .inl (o6, 32, .inl mR))] [(o0, .int), (o1, .int), (o2, .int), (o3, .int), (o4, .int), (o5, .int), (o6, .int)])) (QcRead (mc)) 0 0 (fun _ => False) := by
  refine Met.ofW (cc := c_M_thrown) (maxL := 1) (ret := (some .int)) (by decide) rfl ?_
  intro p e s m args below meth c s₁ B hml hv
  obtain ⟨rfl, hP, hK, hN⟩ := hv
  have hx := B.exec
  have hb := B.bytes
  have hr := B.returns
  have hB := xB B.pre
  have hown : s.vm.findClass R_M = some m.cls := findClass_of_methodNamed B.named
  have hlocks := B.notSynchronized
  have hl := lv_entry ([.ref mo]) (n := 1) (Nat.le_of_ble_eq_true rfl)
  rw [lg_entry_eq]
  generalize (lg_sl ([.ref mo]) ++ List.replicate (1 - (lg_sl ([.ref mo])).length) Slot.unset).toArray = ls at hl ⊢
  have hl : lv_has ls 1 [(0, .ref mo)] := hl
  refine lv_aload_n hx hb d_M_thrown_0 rfl (lv_at hl 0 rfl) ?_
  refine va_get (D := D) (ci := 5) (v := .int mc) (C := R_M) (T := F_M) (N := 10) hx hb hB in_M hown hK hP 0 rfl rfl 0 (by decide) (hB _ mf_M_31) (fun _ h9 => h9) rfl d_M_thrown_1 ?_
  exact W.iret (v := mc) hx hb hr (fun t ht hW => ⟨rfl, ht⟩) (fun _ h => by cases h) d_M_thrown_4
end
section
set_option maxHeartbeats 4000000 in
set_option maxRecDepth 100000 in
theorem k_Ar_fill (l : Launch) (D : va_G) (q9 : Nat) (cq : ClassId) (n9 : Nat) (fx : Nat → Int32) (x : Int32) (hn9 : n9 < 2 ^ 31) (sz : Nat) : Met l y_Ar_fill (Cond.code y_Ar_fill c_Ar_fill 4 none :: BS) { frames := 0, cells := 0, slots := 0, locals := 0 } (va_Pc [.ref q9, .int x] (xWp D [(q9, .inl (cq, n9, .inl fx))] [(cq, .int)] sz)) (xQv D [(q9, .inl (cq, n9, .inl fx))] [(q9, .inl (cq, n9, .inl (fun _ => x)))] [(cq, .int)] sz) 0 0 (va_A [(q9, .inl (cq, n9, .inl fx))] sz) := by
  refine Met.ofW (cc := c_Ar_fill) (maxL := 4) (ret := none) (by decide) rfl ?_
  intro p e s m args below meth c s₁ B hml hv
  obtain ⟨rfl, hsz, hP, hK, hD0, hN⟩ := hv
  have hx := B.exec
  have hb := B.bytes
  have hr := B.returns
  have hB := xB B.pre
  have hown : s.vm.findClass R_Ar = some m.cls := findClass_of_methodNamed B.named
  have hlocks := B.notSynchronized
  subst hsz
  have hD := hD0.self (sz := s.heap.size)
  obtain ⟨A, hAe⟩ : ∃ A, A = va_A [(q9, .inl (cq, n9, .inl fx))] s.heap.size := ⟨_, rfl⟩
  rw [← hAe] at hD
  have hA : ∀ q : Nat, s.heap.size ≤ q → A q := fun q h => by rw [hAe]; exact Or.inr h
  have hS : va_S A s.heap s.heap [] := va_S.rf
  have hl := lv_entry ([.ref q9, .int x]) (n := 4) (Nat.le_of_ble_eq_true rfl)
  rw [lg_entry_eq]
  generalize (lg_sl ([.ref q9, .int x]) ++ List.replicate (4 - (lg_sl ([.ref q9, .int x])).length) Slot.unset).toArray = ls at hl ⊢
  have hl : lv_has ls 4 [(0, .ref q9), (1, .int x)] := hl
  refine lv_iconst (v := nI 0) hx hb d_Ar_fill_0 (by decide) ?_
  refine lv_istore_n hx hb d_Ar_fill_1 rfl hl (by decide) rfl (fun ls hl => ?_)
  have hl : lv_has ls 4 [(2, .int (nI 0)), (0, .ref q9), (1, .int x)] := hl
  refine lv_aload_n hx hb d_Ar_fill_2 rfl (lv_at hl 1 rfl) ?_
  refine va_alen (v := nI n9) hx hb hK hP 0 0 rfl rfl rfl d_Ar_fill_3 ?_
  refine lv_istore_n hx hb d_Ar_fill_4 rfl hl (by decide) rfl (fun ls hl => ?_)
  have hl : lv_has ls 4 [(3, .int (nI n9)), (2, .int (nI 0)), (0, .ref q9), (1, .int x)] := hl
  have hz : fx = (fun k => if k < 0 then x else fx k) := funext fun k => (if_neg (Nat.not_lt_zero k)).symm
  rw [hz] at hP hD
  refine xl_w (fun (u : Nat) ls H locs => ((u ≤ n9)) ∧ lv_has ls 4 [(3, .int (nI n9)), (2, .int (nI u)), (0, .ref q9), (1, .int x)] ∧ va_P D cls [(q9, .inl (cq, n9, .inl (fun k => if k < u then x else fx k)))] H ∧ va_D A [(q9, .inl (cq, n9, .inl (fun k => if k < u then x else fx k)))] ∧ va_S A s.heap H locs) (fun u => n9 - u) (fun u ls H locs hI ih5 => ?_) 0 _ ⟨Nat.zero_le _, hl, hP, hD, hS⟩
  obtain ⟨hI, hl, hP, hD, hS⟩ := hI
  have hu := hI
  refine lv_iload_n hx hb d_Ar_fill_5 rfl (lv_at hl 1 rfl) ?_
  refine lv_iload_n hx hb d_Ar_fill_6 rfl (lv_at hl 0 rfl) ?_
  refine lv_icmp_ge (tgt := 20) hx hb d_Ar_fill_7 rfl (fun hc7 => ?_) (fun hc7 => ?_)
  · have hc7 : n9 ≤ u := (nI_leI (by omega) (by omega)).mp hc7
    have hP := xP_ext hP 0 (fun _ => x) rfl (fun j9 hj9 => if_pos (by omega))
    have hD := xD_ext hD 0 (y := .inl (cq, n9, .inl (fun _ => x))) rfl
    have hP : va_P D cls [(q9, .inl (cq, n9, .inl (fun _ => x)))] _ := hP
    have hD : va_D A [(q9, .inl (cq, n9, .inl (fun _ => x)))] := hD
    have hP9 := hP.sub (ws' := [(q9, .inl (cq, n9, .inl (fun _ => x)))]) [0] rfl
    have hD9 := hD.sub (ws' := [(q9, .inl (cq, n9, .inl (fun _ => x)))]) [0] (by decide) rfl
    subst hAe
    exact W.vret hx hb hr (fun t ht hW => ⟨⟨(), rfl, trivial, by rw [ht]; exact hP9, va_K.moved hW.alike hK, hD9⟩, hS.F ht⟩) hS.2.2 d_Ar_fill_20
  · have hc7 : ¬ (n9 ≤ u) := fun q9 => hc7 ((nI_leI (by omega) (by omega)).mpr q9)
    refine lv_aload_n hx hb d_Ar_fill_10 rfl (lv_at hl 2 rfl) ?_
    refine lv_iload_n hx hb d_Ar_fill_11 rfl (lv_at hl 1 rfl) ?_
    refine lv_iload_n hx hb d_Ar_fill_12 rfl (lv_at hl 3 rfl) ?_
    refine xa_st (u := u) hx hb hK hP hD hS 0 0 rfl rfl (by omega) (by omega) d_Ar_fill_13 (fun H locs hP hD hS => ?_)
    have hP : va_P D cls [(q9, .inl (cq, n9, .inl (upd (fun k => if k < u then x else fx k) u x)))] H := hP
    have hD : va_D A [(q9, .inl (cq, n9, .inl (upd (fun k => if k < u then x else fx k) u x)))] := hD
    have hz : (upd (fun k => if k < u then x else fx k) u x) = (fun k => if k < u + 1 then x else fx k) := upd_lt
    rw [hz] at hP hD
    refine lv_iinc hx hb d_Ar_fill_14 hl (k := 1) rfl (v := nI (u + 1)) (nI_1 u) (by decide) rfl (fun ls hl => ?_)
    have hl : lv_has ls 4 [(2, .int (nI (u + 1))), (3, .int (nI n9)), (0, .ref q9), (1, .int x)] := hl
    refine lv_goto (tgt := 5) hx hb d_Ar_fill_17 rfl ?_
    exact ih5 (u + 1) _ H locs ⟨by omega, lv_sub hl [1, 0, 2, 3] rfl, hP, hD, hS⟩ (by omega)
end
section
theorem upd_0f {f g : Nat → Int32} {x : Int32} (hx : x = g 0) : upd f 0 x = fun k => if k < 0 + 1 then g k else f k := by
  funext k
  by_cases h : k = 0
  · subst h; rw [pk_us, if_pos (by omega), hx]
  · rw [pk_un h, if_neg (by omega)]
theorem lt0_f {f g : Nat → Int32} : f = fun k => if k < 0 then g k else f k := funext fun k => (if_neg (Nat.not_lt_zero k)).symm
theorem keep_lt {f g : Nat → Int32} {v : Nat} (hx : g v = f v) : (fun k => if k < v then g k else f k) = fun k => if k < v + 1 then g k else f k := by
  funext k
  by_cases h : k = v
  · subst h; rw [if_neg (by omega), if_pos (by omega), hx]
  · by_cases h2 : k < v
    · rw [if_pos h2, if_pos (by omega)]
    · rw [if_neg h2, if_neg (by omega)]
theorem or_self32 (x : Int32) : x ||| x = x := by
  apply b_ext; intro i _; rw [b_or, Bool.or_self]
theorem wph_self {r : Nat → Int32} {m : Nat} : wph r m m = r m := by
  unfold wph; split
  · exact or_self32 _
  · rfl
def lwN (rE : Nat → Int32) (v : Nat) : Nat := first (fun u => bt (rE v) u && bt (rE u) v) v v
theorem lwN_le (rE : Nat → Int32) (v : Nat) : lwN rE v ≤ v := by
  unfold lwN
  by_cases h : ∃ j, j < v ∧ (bt (rE v) j && bt (rE j) v) = true
  · exact Nat.le_of_lt (first_spec (p := fun u => bt (rE v) u && bt (rE u) v) (d := v) (N := v) h).1
  · rw [first_none (fun k hk => by
      cases hb : (bt (rE v) k && bt (rE k) v) with
      | false => rfl
      | true => exact absurd ⟨k, hk, hb⟩ h)]
    exact Nat.le_refl _
end
section
set_option maxHeartbeats 4000000 in
set_option maxRecDepth 100000 in
theorem k_Web_put (l : Launch) (D : va_G) (w hd : Nat) (cA : ClassId) (ct : Int32) (h : Nat → Int32) (u v : Nat) (hu : u < 16) (hv : v < 16) (sz : Nat) : Met l y_Web_put (Cond.code y_Web_put c_Web_put 3 none :: BS) { frames := 1, cells := 0, slots := 0, locals := 20 } (va_Pc [.ref w, .int (nI u), .int (nI v)] (xWp D [(w, .inr (1, [.ref hd, .int ct])), (hd, .inl (cA, 16, .inl h))] [(cA, .int)] sz)) (xQv D [(w, .inr (1, [.ref hd, .int ct])), (hd, .inl (cA, 16, .inl h))] [(w, .inr (1, [.ref hd, .int (ct + nI 1)])), (hd, .inl (cA, 16, .inl (upd h u (h u ||| bit v))))] [(cA, .int)] sz) 0 0 (va_A [(w, .inr (1, [.ref hd, .int ct])), (hd, .inl (cA, 16, .inl h))] sz) := by
  refine Met.ofW (cc := c_Web_put) (maxL := 3) (ret := none) (by decide) rfl ?_
  intro p e s m args below meth c s₁ B hml hv
  obtain ⟨rfl, hsz, hP, hK, hD0, hN⟩ := hv
  have hx := B.exec
  have hb := B.bytes
  have hr := B.returns
  have hB := xB B.pre
  have hown : s.vm.findClass R_Web = some m.cls := findClass_of_methodNamed B.named
  have hlocks := B.notSynchronized
  subst hsz
  have hD := hD0.self (sz := s.heap.size)
  obtain ⟨A, hAe⟩ : ∃ A, A = va_A [(w, .inr (1, [.ref hd, .int ct])), (hd, .inl (cA, 16, .inl h))] s.heap.size := ⟨_, rfl⟩
  rw [← hAe] at hD
  have hA : ∀ q : Nat, s.heap.size ≤ q → A q := fun q h => by rw [hAe]; exact Or.inr h
  have hS : va_S A s.heap s.heap [] := va_S.rf
  have hl := lv_entry ([.ref w, .int (nI u), .int (nI v)]) (n := 3) (Nat.le_of_ble_eq_true rfl)
  rw [lg_entry_eq]
  generalize (lg_sl ([.ref w, .int (nI u), .int (nI v)]) ++ List.replicate (3 - (lg_sl ([.ref w, .int (nI u), .int (nI v)])).length) Slot.unset).toArray = ls at hl ⊢
  have hl : lv_has ls 3 [(0, .ref w), (1, .int (nI u)), (2, .int (nI v))] := hl
  refine lv_aload_n hx hb d_Web_put_0 rfl (lv_at hl 0 rfl) ?_
  refine va_get (D := D) (ci := 1) (v := .ref hd) (C := R_Web) (T := F_Web) (N := 2) hx hb hB in_Web hown hK hP 0 rfl rfl 0 (by decide) (hB _ mf_Web_9) (fun _ h9 => h9) rfl d_Web_put_1 ?_
  refine lv_iload_n hx hb d_Web_put_4 rfl (lv_at hl 1 rfl) ?_
  refine lv_dup2_11 hx hb d_Web_put_5 rfl rfl ?_
  refine xa_ld (u := u) hx hb hK hP 1 0 rfl rfl (by omega) (by decide) d_Web_put_6 ?_
  refine lv_iload_n hx hb d_Web_put_7 rfl (lv_at hl 2 rfl) ?_
  refine xr_cal (va_runSN (As := [.int (nI v)]) (rest := [.int (h u), .int (nI u), .ref hd]) ⟨hx, hb, hml, hown, hB⟩ (k_A_only l D v) ⟨va_cnB 1 hB (xg0 mc_A_only) rfl rfl rfl (xn_Web_23 hN) (hB _ mz_A) (by decide +kernel) ⟨Nat.le_of_ble_eq_true rfl, Nat.le_of_ble_eq_true rfl⟩, hB _ ms_A_only, trivial⟩ (xpS (ws := []) (tys := []) (hP.sub [] rfl) (hK.sub [] rfl) hN) rfl rfl hl.1 rfl (lv_room (Nat.le_of_ble_eq_true rfl)) d_Web_put_8 ⟨Nat.le_of_ble_eq_true rfl, Nat.le_of_ble_eq_true rfl⟩) ?_
  refine lv_ior hx hb d_Web_put_11 ?_
  refine xa_st (u := u) hx hb hK hP hD hS 1 0 rfl rfl (by omega) (by decide) d_Web_put_12 (fun H locs hP hD hS => ?_)
  have hP : va_P D cls [(w, .inr (1, [.ref hd, .int ct])), (hd, .inl (cA, 16, .inl (upd h u ((h u) ||| (bit v)))))] H := hP
  have hD : va_D A [(w, .inr (1, [.ref hd, .int ct])), (hd, .inl (cA, 16, .inl (upd h u ((h u) ||| (bit v)))))] := hD
  refine lv_aload_n hx hb d_Web_put_13 rfl (lv_at hl 0 rfl) ?_
  refine lv_dup hx hb d_Web_put_14 rfl ?_
  refine va_get (D := D) (ci := 1) (v := .int ct) (C := R_Web) (T := F_Web) (N := 2) hx hb hB in_Web hown hK hP 0 rfl rfl 1 (by decide) (hB _ mf_Web_15) (fun _ h9 => h9) rfl d_Web_put_15 ?_
  refine lv_iconst (v := nI 1) hx hb d_Web_put_18 (by decide) ?_
  refine lv_iadd hx hb d_Web_put_19 ?_
  refine va_put (D := D) (ci := 1) (v := .int (ct + (nI 1))) (ty := .int) (C := R_Web) (T := F_Web) (N := 2) hx hb hB in_Web t_Web t_Web_ok n_Web hown hK hP hD hS 0 rfl rfl 1 (by decide) (hB _ mf_Web_15) (fun _ h9 => h9) rfl (by decide +kernel) rfl rfl (Nat.le_of_ble_eq_true rfl) d_Web_put_20 (fun H locs hP hD hS => ?_)
  have hP : va_P D cls [(w, .inr (1, [.ref hd, .int (ct + (nI 1))])), (hd, .inl (cA, 16, .inl (upd h u ((h u) ||| (bit v)))))] H := hP
  have hD : va_D A [(w, .inr (1, [.ref hd, .int (ct + (nI 1))])), (hd, .inl (cA, 16, .inl (upd h u ((h u) ||| (bit v)))))] := hD
  have hP9 := hP.sub (ws' := [(w, .inr (1, [.ref hd, .int (ct + nI 1)])), (hd, .inl (cA, 16, .inl (upd h u (h u ||| bit v))))]) [0, 1] rfl
  have hD9 := hD.sub (ws' := [(w, .inr (1, [.ref hd, .int (ct + nI 1)])), (hd, .inl (cA, 16, .inl (upd h u (h u ||| bit v))))]) [0, 1] (by decide) rfl
  subst hAe
  exact W.vret hx hb hr (fun t ht hW => ⟨⟨(), rfl, trivial, by rw [ht]; exact hP9, va_K.moved hW.alike hK, hD9⟩, hS.F ht⟩) hS.2.2 d_Web_put_23
set_option maxHeartbeats 4000000 in
set_option maxRecDepth 100000 in
theorem k_Web_take (l : Launch) (D : va_G) (w hd : Nat) (cA : ClassId) (ct : Int32) (h : Nat → Int32) (u v : Nat) (hu : u < 16) (hv : v < 16) (sz : Nat) : Met l y_Web_take (Cond.code y_Web_take c_Web_take 3 none :: BS) { frames := 1, cells := 0, slots := 0, locals := 20 } (va_Pc [.ref w, .int (nI u), .int (nI v)] (xWp D [(w, .inr (1, [.ref hd, .int ct])), (hd, .inl (cA, 16, .inl h))] [(cA, .int)] sz)) (xQv D [(w, .inr (1, [.ref hd, .int ct])), (hd, .inl (cA, 16, .inl h))] [(w, .inr (1, [.ref hd, .int (ct - nI 1)])), (hd, .inl (cA, 16, .inl (upd h u (h u &&& (bit v ^^^ (-1))))))] [(cA, .int)] sz) 0 0 (va_A [(w, .inr (1, [.ref hd, .int ct])), (hd, .inl (cA, 16, .inl h))] sz) := by
  refine Met.ofW (cc := c_Web_take) (maxL := 3) (ret := none) (by decide) rfl ?_
  intro p e s m args below meth c s₁ B hml hv
  obtain ⟨rfl, hsz, hP, hK, hD0, hN⟩ := hv
  have hx := B.exec
  have hb := B.bytes
  have hr := B.returns
  have hB := xB B.pre
  have hown : s.vm.findClass R_Web = some m.cls := findClass_of_methodNamed B.named
  have hlocks := B.notSynchronized
  subst hsz
  have hD := hD0.self (sz := s.heap.size)
  obtain ⟨A, hAe⟩ : ∃ A, A = va_A [(w, .inr (1, [.ref hd, .int ct])), (hd, .inl (cA, 16, .inl h))] s.heap.size := ⟨_, rfl⟩
  rw [← hAe] at hD
  have hA : ∀ q : Nat, s.heap.size ≤ q → A q := fun q h => by rw [hAe]; exact Or.inr h
  have hS : va_S A s.heap s.heap [] := va_S.rf
  have hl := lv_entry ([.ref w, .int (nI u), .int (nI v)]) (n := 3) (Nat.le_of_ble_eq_true rfl)
  rw [lg_entry_eq]
  generalize (lg_sl ([.ref w, .int (nI u), .int (nI v)]) ++ List.replicate (3 - (lg_sl ([.ref w, .int (nI u), .int (nI v)])).length) Slot.unset).toArray = ls at hl ⊢
  have hl : lv_has ls 3 [(0, .ref w), (1, .int (nI u)), (2, .int (nI v))] := hl
  refine lv_aload_n hx hb d_Web_take_0 rfl (lv_at hl 0 rfl) ?_
  refine va_get (D := D) (ci := 1) (v := .ref hd) (C := R_Web) (T := F_Web) (N := 2) hx hb hB in_Web hown hK hP 0 rfl rfl 0 (by decide) (hB _ mf_Web_9) (fun _ h9 => h9) rfl d_Web_take_1 ?_
  refine lv_iload_n hx hb d_Web_take_4 rfl (lv_at hl 1 rfl) ?_
  refine lv_dup2_11 hx hb d_Web_take_5 rfl rfl ?_
  refine xa_ld (u := u) hx hb hK hP 1 0 rfl rfl (by omega) (by decide) d_Web_take_6 ?_
  refine lv_iload_n hx hb d_Web_take_7 rfl (lv_at hl 2 rfl) ?_
  refine xr_cal (va_runSN (As := [.int (nI v)]) (rest := [.int (h u), .int (nI u), .ref hd]) ⟨hx, hb, hml, hown, hB⟩ (k_A_only l D v) ⟨va_cnB 1 hB (xg0 mc_A_only) rfl rfl rfl (xn_Web_23 hN) (hB _ mz_A) (by decide +kernel) ⟨Nat.le_of_ble_eq_true rfl, Nat.le_of_ble_eq_true rfl⟩, hB _ ms_A_only, trivial⟩ (xpS (ws := []) (tys := []) (hP.sub [] rfl) (hK.sub [] rfl) hN) rfl rfl hl.1 rfl (lv_room (Nat.le_of_ble_eq_true rfl)) d_Web_take_8 ⟨Nat.le_of_ble_eq_true rfl, Nat.le_of_ble_eq_true rfl⟩) ?_
  refine lv_iconst (v := -1) hx hb d_Web_take_11 (by decide) ?_
  refine lv_ixor hx hb d_Web_take_12 ?_
  refine lv_iand hx hb d_Web_take_13 ?_
  refine xa_st (u := u) hx hb hK hP hD hS 1 0 rfl rfl (by omega) (by decide) d_Web_take_14 (fun H locs hP hD hS => ?_)
  have hP : va_P D cls [(w, .inr (1, [.ref hd, .int ct])), (hd, .inl (cA, 16, .inl (upd h u ((h u) &&& ((bit v) ^^^ (-1))))))] H := hP
  have hD : va_D A [(w, .inr (1, [.ref hd, .int ct])), (hd, .inl (cA, 16, .inl (upd h u ((h u) &&& ((bit v) ^^^ (-1))))))] := hD
  refine lv_aload_n hx hb d_Web_take_15 rfl (lv_at hl 0 rfl) ?_
  refine lv_dup hx hb d_Web_take_16 rfl ?_
  refine va_get (D := D) (ci := 1) (v := .int ct) (C := R_Web) (T := F_Web) (N := 2) hx hb hB in_Web hown hK hP 0 rfl rfl 1 (by decide) (hB _ mf_Web_15) (fun _ h9 => h9) rfl d_Web_take_17 ?_
  refine lv_iconst (v := nI 1) hx hb d_Web_take_20 (by decide) ?_
  refine lv_isub hx hb d_Web_take_21 ?_
  refine va_put (D := D) (ci := 1) (v := .int (ct - (nI 1))) (ty := .int) (C := R_Web) (T := F_Web) (N := 2) hx hb hB in_Web t_Web t_Web_ok n_Web hown hK hP hD hS 0 rfl rfl 1 (by decide) (hB _ mf_Web_15) (fun _ h9 => h9) rfl (by decide +kernel) rfl rfl (Nat.le_of_ble_eq_true rfl) d_Web_take_22 (fun H locs hP hD hS => ?_)
  have hP : va_P D cls [(w, .inr (1, [.ref hd, .int (ct - (nI 1))])), (hd, .inl (cA, 16, .inl (upd h u ((h u) &&& ((bit v) ^^^ (-1))))))] H := hP
  have hD : va_D A [(w, .inr (1, [.ref hd, .int (ct - (nI 1))])), (hd, .inl (cA, 16, .inl (upd h u ((h u) &&& ((bit v) ^^^ (-1))))))] := hD
  have hP9 := hP.sub (ws' := [(w, .inr (1, [.ref hd, .int (ct - nI 1)])), (hd, .inl (cA, 16, .inl (upd h u (h u &&& (bit v ^^^ (-1))))))]) [0, 1] rfl
  have hD9 := hD.sub (ws' := [(w, .inr (1, [.ref hd, .int (ct - nI 1)])), (hd, .inl (cA, 16, .inl (upd h u (h u &&& (bit v ^^^ (-1))))))]) [0, 1] (by decide) rfl
  subst hAe
  exact W.vret hx hb hr (fun t ht hW => ⟨⟨(), rfl, trivial, by rw [ht]; exact hP9, va_K.moved hW.alike hK, hD9⟩, hS.F ht⟩) hS.2.2 d_Web_take_25
set_option maxHeartbeats 4000000 in
set_option maxRecDepth 100000 in
theorem k_Web_takeAll (l : Launch) (D : va_G) (w hd : Nat) (cA : ClassId) (ct : Int32) (h : Nat → Int32)  (sz : Nat) : Met l y_Web_takeAll (Cond.code y_Web_takeAll c_Web_takeAll 1 none :: BS) { frames := 1, cells := 0, slots := 0, locals := 23 } (va_Pc [.ref w] (xWp D [(w, .inr (1, [.ref hd, .int ct])), (hd, .inl (cA, 16, .inl h))] [(cA, .int)] sz)) (xQv D [(w, .inr (1, [.ref hd, .int ct])), (hd, .inl (cA, 16, .inl h))] [(w, .inr (1, [.ref hd, .int (nI 0)])), (hd, .inl (cA, 16, .inl (fun _ => nI 0)))] [(cA, .int)] sz) 0 0 (va_A [(w, .inr (1, [.ref hd, .int ct])), (hd, .inl (cA, 16, .inl h))] sz) := by
  refine Met.ofW (cc := c_Web_takeAll) (maxL := 1) (ret := none) (by decide) rfl ?_
  intro p e s m args below meth c s₁ B hml hv
  obtain ⟨rfl, hsz, hP, hK, hD0, hN⟩ := hv
  have hx := B.exec
  have hb := B.bytes
  have hr := B.returns
  have hB := xB B.pre
  have hown : s.vm.findClass R_Web = some m.cls := findClass_of_methodNamed B.named
  have hlocks := B.notSynchronized
  subst hsz
  have hD := hD0.self (sz := s.heap.size)
  obtain ⟨A, hAe⟩ : ∃ A, A = va_A [(w, .inr (1, [.ref hd, .int ct])), (hd, .inl (cA, 16, .inl h))] s.heap.size := ⟨_, rfl⟩
  rw [← hAe] at hD
  have hA : ∀ q : Nat, s.heap.size ≤ q → A q := fun q h => by rw [hAe]; exact Or.inr h
  have hS : va_S A s.heap s.heap [] := va_S.rf
  have hl := lv_entry ([.ref w]) (n := 1) (Nat.le_of_ble_eq_true rfl)
  rw [lg_entry_eq]
  generalize (lg_sl ([.ref w]) ++ List.replicate (1 - (lg_sl ([.ref w])).length) Slot.unset).toArray = ls at hl ⊢
  have hl : lv_has ls 1 [(0, .ref w)] := hl
  refine lv_aload_n hx hb d_Web_takeAll_0 rfl (lv_at hl 0 rfl) ?_
  refine va_get (D := D) (ci := 1) (v := .ref hd) (C := R_Web) (T := F_Web) (N := 2) hx hb hB in_Web hown hK hP 0 rfl rfl 0 (by decide) (hB _ mf_Web_9) (fun _ h9 => h9) rfl d_Web_takeAll_1 ?_
  refine lv_iconst (v := nI 0) hx hb d_Web_takeAll_4 (by decide) ?_
  refine xw_v (wc := [(hd, .inl (cA, 16, .inl h))]) (wr := [(w, .inr (1, [.ref hd, .int ct]))]) (w1 := [(hd, .inl (cA, 16, .inl (fun _ => (nI 0))))]) (va_runS (As := [.ref hd, .int (nI 0)]) (rest := []) ⟨hx, hb, hml, hown, hB⟩ (k_Ar_fill l D hd cA 16 h (nI 0) (by decide) _) ⟨callB_of 2 hB (xg0 mc_Ar_fill) rfl rfl rfl (hB _ mz_Ar) (hB _ ml_Web_27) (by decide +kernel) ⟨Nat.le_of_ble_eq_true rfl, Nat.le_of_ble_eq_true rfl⟩, hB _ ms_Ar_fill⟩ (xqS (ws := [(hd, .inl (cA, 16, .inl h))]) (tys := [(cA, .int)]) (hP.sub [1] rfl) (hD.sub [1] (by decide) rfl) (hK.sub [0] rfl) hN) rfl rfl hl.1 rfl (lv_room (Nat.le_of_ble_eq_true rfl)) d_Web_takeAll_5 ⟨Nat.le_of_ble_eq_true rfl, Nat.le_of_ble_eq_true rfl⟩) hP hD hS hA [1] [0] rfl rfl (by decide) (by decide) (fun H locs hP hD hS => ?_)
  have hP : va_P D cls [(w, .inr (1, [.ref hd, .int ct])), (hd, .inl (cA, 16, .inl (fun _ => (nI 0))))] H := hP
  have hD : va_D A [(w, .inr (1, [.ref hd, .int ct])), (hd, .inl (cA, 16, .inl (fun _ => (nI 0))))] := hD
  refine lv_aload_n hx hb d_Web_takeAll_8 rfl (lv_at hl 0 rfl) ?_
  refine lv_iconst (v := nI 0) hx hb d_Web_takeAll_9 (by decide) ?_
  refine va_put (D := D) (ci := 1) (v := .int (nI 0)) (ty := .int) (C := R_Web) (T := F_Web) (N := 2) hx hb hB in_Web t_Web t_Web_ok n_Web hown hK hP hD hS 0 rfl rfl 1 (by decide) (hB _ mf_Web_15) (fun _ h9 => h9) rfl (by decide +kernel) rfl rfl (Nat.le_of_ble_eq_true rfl) d_Web_takeAll_10 (fun H locs hP hD hS => ?_)
  have hP : va_P D cls [(w, .inr (1, [.ref hd, .int (nI 0)])), (hd, .inl (cA, 16, .inl (fun _ => (nI 0))))] H := hP
  have hD : va_D A [(w, .inr (1, [.ref hd, .int (nI 0)])), (hd, .inl (cA, 16, .inl (fun _ => (nI 0))))] := hD
  have hP9 := hP.sub (ws' := [(w, .inr (1, [.ref hd, .int (nI 0)])), (hd, .inl (cA, 16, .inl (fun _ => nI 0)))]) [0, 1] rfl
  have hD9 := hD.sub (ws' := [(w, .inr (1, [.ref hd, .int (nI 0)])), (hd, .inl (cA, 16, .inl (fun _ => nI 0)))]) [0, 1] (by decide) rfl
  subst hAe
  exact W.vret hx hb hr (fun t ht hW => ⟨⟨(), rfl, trivial, by rw [ht]; exact hP9, va_K.moved hW.alike hK, hD9⟩, hS.F ht⟩) hS.2.2 d_Web_takeAll_13
set_option maxHeartbeats 4000000 in
set_option maxRecDepth 100000 in
theorem k_Wy_readTo (l : Launch) (D : va_G) (yw la : Nat) (cL : ClassId) (lf : Nat → Int32) (w hd : Nat) (cA : ClassId) (ct : Int32) (h : Nat → Int32) (v : Nat) (hv : v < 16) (sz : Nat) : Met l y_Wy_readTo (Cond.code y_Wy_readTo c_Wy_readTo 4 none :: BS) { frames := 2, cells := 0, slots := 0, locals := 44 } (va_Pc [.ref yw, .int (nI v), .ref w] (xWp D [(yw, .inr (3, [.ref la])), (la, .inl (cL, 16, .inl lf)), (w, .inr (1, [.ref hd, .int ct])), (hd, .inl (cA, 16, .inl h))] [(cL, .int), (cA, .int)] sz)) (xQv D [(yw, .inr (3, [.ref la])), (la, .inl (cL, 16, .inl lf)), (w, .inr (1, [.ref hd, .int ct])), (hd, .inl (cA, 16, .inl h))] [(yw, .inr (3, [.ref la])), (la, .inl (cL, 16, .inl (ly h v))), (w, .inr (1, [.ref hd, .int ct])), (hd, .inl (cA, 16, .inl h))] [(cL, .int), (cA, .int)] sz) 0 0 (va_A [(yw, .inr (3, [.ref la])), (la, .inl (cL, 16, .inl lf)), (w, .inr (1, [.ref hd, .int ct])), (hd, .inl (cA, 16, .inl h))] sz) := by
  refine Met.ofW (cc := c_Wy_readTo) (maxL := 4) (ret := none) (by decide) rfl ?_
  intro p e s m args below meth c s₁ B hml hv
  obtain ⟨rfl, hsz, hP, hK, hD0, hN⟩ := hv
  have hx := B.exec
  have hb := B.bytes
  have hr := B.returns
  have hB := xB B.pre
  have hown : s.vm.findClass R_Wy = some m.cls := findClass_of_methodNamed B.named
  have hlocks := B.notSynchronized
  subst hsz
  have hD := hD0.self (sz := s.heap.size)
  obtain ⟨A, hAe⟩ : ∃ A, A = va_A [(yw, .inr (3, [.ref la])), (la, .inl (cL, 16, .inl lf)), (w, .inr (1, [.ref hd, .int ct])), (hd, .inl (cA, 16, .inl h))] s.heap.size := ⟨_, rfl⟩
  rw [← hAe] at hD
  have hA : ∀ q : Nat, s.heap.size ≤ q → A q := fun q h => by rw [hAe]; exact Or.inr h
  have hS : va_S A s.heap s.heap [] := va_S.rf
  have hl := lv_entry ([.ref yw, .int (nI v), .ref w]) (n := 4) (Nat.le_of_ble_eq_true rfl)
  rw [lg_entry_eq]
  generalize (lg_sl ([.ref yw, .int (nI v), .ref w]) ++ List.replicate (4 - (lg_sl ([.ref yw, .int (nI v), .ref w])).length) Slot.unset).toArray = ls at hl ⊢
  have hl : lv_has ls 4 [(0, .ref yw), (1, .int (nI v)), (2, .ref w)] := hl
  refine lv_aload_n hx hb d_Wy_readTo_0 rfl (lv_at hl 0 rfl) ?_
  refine va_get (D := D) (ci := 3) (v := .ref la) (C := R_Wy) (T := F_Wy) (N := 1) hx hb hB in_Wy hown hK hP 0 rfl rfl 0 (by decide) (hB _ mf_Wy_9) (fun _ h9 => h9) rfl d_Wy_readTo_1 ?_
  refine lv_iconst (v := nI 0) hx hb d_Wy_readTo_4 (by decide) ?_
  refine lv_iload_n hx hb d_Wy_readTo_5 rfl (lv_at hl 1 rfl) ?_
  refine xr_cal (va_runSN (As := [.int (nI v)]) (rest := [.int (nI 0), .ref la]) ⟨hx, hb, hml, hown, hB⟩ (k_A_only l D v) ⟨va_cnB 1 hB (xg0 mc_A_only) rfl rfl rfl (xn_Wy_15 hN) (hB _ mz_A) (by decide +kernel) ⟨Nat.le_of_ble_eq_true rfl, Nat.le_of_ble_eq_true rfl⟩, hB _ ms_A_only, trivial⟩ (xpS (ws := []) (tys := []) (hP.sub [] rfl) (hK.sub [] rfl) hN) rfl rfl hl.1 rfl (lv_room (Nat.le_of_ble_eq_true rfl)) d_Wy_readTo_6 ⟨Nat.le_of_ble_eq_true rfl, Nat.le_of_ble_eq_true rfl⟩) ?_
  refine xa_st (u := 0) hx hb hK hP hD hS 1 0 rfl rfl (by decide) (by decide) d_Wy_readTo_9 (fun H locs hP hD hS => ?_)
  have hP : va_P D cls [(yw, .inr (3, [.ref la])), (la, .inl (cL, 16, .inl (upd lf 0 (bit v)))), (w, .inr (1, [.ref hd, .int ct])), (hd, .inl (cA, 16, .inl h))] H := hP
  have hD : va_D A [(yw, .inr (3, [.ref la])), (la, .inl (cL, 16, .inl (upd lf 0 (bit v)))), (w, .inr (1, [.ref hd, .int ct])), (hd, .inl (cA, 16, .inl h))] := hD
  refine lv_iconst (v := nI 1) hx hb d_Wy_readTo_10 (by decide) ?_
  refine lv_istore_n hx hb d_Wy_readTo_11 rfl hl (by decide) rfl (fun ls hl => ?_)
  have hl : lv_has ls 4 [(3, .int (nI 1)), (0, .ref yw), (1, .int (nI v)), (2, .ref w)] := hl
  have hz : (upd lf 0 (bit v)) = (fun k => if k < 0 + 1 then ly h v k else lf k) := upd_0f rfl
  rw [hz] at hP hD
  refine xl_w (fun (n : Nat) ls H locs => ((n ≤ 15)) ∧ lv_has ls 4 [(3, .int (nI (n + 1))), (0, .ref yw), (1, .int (nI v)), (2, .ref w)] ∧ va_P D cls [(yw, .inr (3, [.ref la])), (la, .inl (cL, 16, .inl (fun k => if k < n + 1 then ly h v k else lf k))), (w, .inr (1, [.ref hd, .int ct])), (hd, .inl (cA, 16, .inl h))] H ∧ va_D A [(yw, .inr (3, [.ref la])), (la, .inl (cL, 16, .inl (fun k => if k < n + 1 then ly h v k else lf k))), (w, .inr (1, [.ref hd, .int ct])), (hd, .inl (cA, 16, .inl h))] ∧ va_S A s.heap H locs) (fun n => 15 - n) (fun n ls H locs hI ih12 => ?_) 0 _ ⟨Nat.zero_le _, hl, hP, hD, hS⟩
  obtain ⟨hI, hl, hP, hD, hS⟩ := hI
  have hn := hI
  refine lv_iload_n hx hb d_Wy_readTo_12 rfl (lv_at hl 0 rfl) ?_
  refine lv_bipush (v := nI 16) hx hb d_Wy_readTo_13 (by decide) ?_
  refine lv_icmp_ge (tgt := 42) hx hb d_Wy_readTo_15 rfl (fun hc15 => ?_) (fun hc15 => ?_)
  · have hc15 : 16 ≤ (n + 1) := (nI_leI (by omega) (by omega)).mp hc15
    have hP := xP_ext hP 1 (ly h v) rfl (fun j9 hj9 => if_pos (by omega))
    have hD := xD_ext hD 1 (y := .inl (cL, 16, .inl (ly h v))) rfl
    have hP : va_P D cls [(yw, .inr (3, [.ref la])), (la, .inl (cL, 16, .inl (ly h v))), (w, .inr (1, [.ref hd, .int ct])), (hd, .inl (cA, 16, .inl h))] _ := hP
    have hD : va_D A [(yw, .inr (3, [.ref la])), (la, .inl (cL, 16, .inl (ly h v))), (w, .inr (1, [.ref hd, .int ct])), (hd, .inl (cA, 16, .inl h))] := hD
    have hP9 := hP.sub (ws' := [(yw, .inr (3, [.ref la])), (la, .inl (cL, 16, .inl (ly h v))), (w, .inr (1, [.ref hd, .int ct])), (hd, .inl (cA, 16, .inl h))]) [0, 1, 2, 3] rfl
    have hD9 := hD.sub (ws' := [(yw, .inr (3, [.ref la])), (la, .inl (cL, 16, .inl (ly h v))), (w, .inr (1, [.ref hd, .int ct])), (hd, .inl (cA, 16, .inl h))]) [0, 1, 2, 3] (by decide) rfl
    subst hAe
    exact W.vret hx hb hr (fun t ht hW => ⟨⟨(), rfl, trivial, by rw [ht]; exact hP9, va_K.moved hW.alike hK, hD9⟩, hS.F ht⟩) hS.2.2 d_Wy_readTo_42
  · have hc15 : ¬ (16 ≤ (n + 1)) := fun q9 => hc15 ((nI_leI (by omega) (by omega)).mpr q9)
    refine lv_aload_n hx hb d_Wy_readTo_18 rfl (lv_at hl 1 rfl) ?_
    refine va_get (D := D) (ci := 3) (v := .ref la) (C := R_Wy) (T := F_Wy) (N := 1) hx hb hB in_Wy hown hK hP 0 rfl rfl 0 (by decide) (hB _ mf_Wy_9) (fun _ h9 => h9) rfl d_Wy_readTo_19 ?_
    refine lv_iload_n hx hb d_Wy_readTo_22 rfl (lv_at hl 0 rfl) ?_
    refine lv_aload_n hx hb d_Wy_readTo_23 rfl (lv_at hl 1 rfl) ?_
    refine va_get (D := D) (ci := 3) (v := .ref la) (C := R_Wy) (T := F_Wy) (N := 1) hx hb hB in_Wy hown hK hP 0 rfl rfl 0 (by decide) (hB _ mf_Wy_9) (fun _ h9 => h9) rfl d_Wy_readTo_24 ?_
    refine lv_iload_n hx hb d_Wy_readTo_27 rfl (lv_at hl 0 rfl) ?_
    refine lv_iconst (v := nI 1) hx hb d_Wy_readTo_28 (by decide) ?_
    refine lv_isub hx hb d_Wy_readTo_29 ?_
    refine xv_top (x' := nI n) (by rw [pk_sub (by omega)]; rfl) ?_
    refine xa_ld (u := n) hx hb hK hP 1 0 rfl rfl (by omega) (by decide) d_Wy_readTo_30 ?_
    refine xv_top (x' := ly h v n) (if_pos (by omega)) ?_
    refine lv_aload_n hx hb d_Wy_readTo_31 rfl (lv_at hl 3 rfl) ?_
    refine xr_cal (va_runS (As := [.int (ly h v n), .ref w]) (rest := [.int (nI (n + 1)), .ref la]) ⟨hx, hb, hml, hown, hB⟩ (k_Wy_tailsInto l D w hd cA ct h (ly h v n)) ⟨callB_of 2 hB (xg0 mc_Wy_tailsInto) rfl rfl rfl (hB _ mz_Wy) (hB _ ml_Wy_19) (by decide +kernel) ⟨Nat.le_of_ble_eq_true rfl, Nat.le_of_ble_eq_true rfl⟩, hB _ ms_Wy_tailsInto⟩ (xpS (ws := [(w, .inr (1, [.ref hd, .int ct])), (hd, .inl (cA, 16, .inl h))]) (tys := [(cA, .int)]) (hP.sub [2, 3] rfl) (hK.sub [1] rfl) hN) rfl rfl hl.1 rfl (lv_room (Nat.le_of_ble_eq_true rfl)) d_Wy_readTo_32 ⟨Nat.le_of_ble_eq_true rfl, Nat.le_of_ble_eq_true rfl⟩) ?_
    refine xv_top (x' := ly h v (n + 1)) (rfl) ?_
    refine xa_st (u := (n + 1)) hx hb hK hP hD hS 1 0 rfl rfl (by omega) (by decide) d_Wy_readTo_35 (fun H locs hP hD hS => ?_)
    have hP : va_P D cls [(yw, .inr (3, [.ref la])), (la, .inl (cL, 16, .inl (upd (fun k => if k < n + 1 then ly h v k else lf k) (n + 1) (ly h v (n + 1))))), (w, .inr (1, [.ref hd, .int ct])), (hd, .inl (cA, 16, .inl h))] H := hP
    have hD : va_D A [(yw, .inr (3, [.ref la])), (la, .inl (cL, 16, .inl (upd (fun k => if k < n + 1 then ly h v k else lf k) (n + 1) (ly h v (n + 1))))), (w, .inr (1, [.ref hd, .int ct])), (hd, .inl (cA, 16, .inl h))] := hD
    have hz : (upd (fun k => if k < n + 1 then ly h v k else lf k) (n + 1) (ly h v (n + 1))) = (fun k => if k < n + 1 + 1 then ly h v k else lf k) := upd_ltf rfl
    rw [hz] at hP hD
    refine lv_iinc hx hb d_Wy_readTo_36 hl (k := 0) rfl (v := nI ((n + 1) + 1)) (nI_1 (n + 1)) (by decide) rfl (fun ls hl => ?_)
    have hl : lv_has ls 4 [(3, .int (nI ((n + 1) + 1))), (0, .ref yw), (1, .int (nI v)), (2, .ref w)] := hl
    refine lv_goto (tgt := 12) hx hb d_Wy_readTo_39 rfl ?_
    exact ih12 (n + 1) _ H locs ⟨by omega, lv_sub hl [0, 1, 2, 3] rfl, hP, hD, hS⟩ (by omega)
set_option maxHeartbeats 4000000 in
set_option maxRecDepth 100000 in
theorem k_Gr_readReached (l : Launch) (D : va_G) (g g0 g1 g2 g3 g4 g5 : Nat) (k0 k1 k2 k3 k4 k5 : ClassId) (gc : Int32) (rE nM lD bF oR cH : Nat → Int32) (w hd : Nat) (cA : ClassId) (ct : Int32) (h : Nat → Int32) (hg : gd h) (sz : Nat) : Met l y_Gr_readReached (Cond.code y_Gr_readReached c_Gr_readReached 4 none :: BS) { frames := 1, cells := 0, slots := 0, locals := 21 } (va_Pc [.ref g, .ref w] (xWp D [(g, .inr (2, [.ref g0, .ref g1, .ref g2, .ref g3, .ref g4, .ref g5, .int gc])), (g0, .inl (k0, 16, .inl rE)), (g1, .inl (k1, 16, .inl nM)), (g2, .inl (k2, 16, .inl lD)), (g3, .inl (k3, 16, .inl bF)), (g4, .inl (k4, 16, .inl oR)), (g5, .inl (k5, 16, .inl cH)), (w, .inr (1, [.ref hd, .int ct])), (hd, .inl (cA, 16, .inl h))] [(k0, .int), (k1, .int), (k2, .int), (k3, .int), (k4, .int), (k5, .int), (cA, .int)] sz)) (xQv D [(g, .inr (2, [.ref g0, .ref g1, .ref g2, .ref g3, .ref g4, .ref g5, .int gc])), (g0, .inl (k0, 16, .inl rE)), (g1, .inl (k1, 16, .inl nM)), (g2, .inl (k2, 16, .inl lD)), (g3, .inl (k3, 16, .inl bF)), (g4, .inl (k4, 16, .inl oR)), (g5, .inl (k5, 16, .inl cH)), (w, .inr (1, [.ref hd, .int ct])), (hd, .inl (cA, 16, .inl h))] [(g, .inr (2, [.ref g0, .ref g1, .ref g2, .ref g3, .ref g4, .ref g5, .int gc])), (g0, .inl (k0, 16, .inl (RE h))), (g1, .inl (k1, 16, .inl nM)), (g2, .inl (k2, 16, .inl lD)), (g3, .inl (k3, 16, .inl bF)), (g4, .inl (k4, 16, .inl oR)), (g5, .inl (k5, 16, .inl cH)), (w, .inr (1, [.ref hd, .int ct])), (hd, .inl (cA, 16, .inl h))] [(k0, .int), (k1, .int), (k2, .int), (k3, .int), (k4, .int), (k5, .int), (cA, .int)] sz) 0 0 (va_A [(g, .inr (2, [.ref g0, .ref g1, .ref g2, .ref g3, .ref g4, .ref g5, .int gc])), (g0, .inl (k0, 16, .inl rE)), (g1, .inl (k1, 16, .inl nM)), (g2, .inl (k2, 16, .inl lD)), (g3, .inl (k3, 16, .inl bF)), (g4, .inl (k4, 16, .inl oR)), (g5, .inl (k5, 16, .inl cH)), (w, .inr (1, [.ref hd, .int ct])), (hd, .inl (cA, 16, .inl h))] sz) := by
  refine Met.ofW (cc := c_Gr_readReached) (maxL := 4) (ret := none) (by decide) rfl ?_
  intro p e s m args below meth c s₁ B hml hv
  obtain ⟨rfl, hsz, hP, hK, hD0, hN⟩ := hv
  have hx := B.exec
  have hb := B.bytes
  have hr := B.returns
  have hB := xB B.pre
  have hown : s.vm.findClass R_Gr = some m.cls := findClass_of_methodNamed B.named
  have hlocks := B.notSynchronized
  subst hsz
  have hD := hD0.self (sz := s.heap.size)
  obtain ⟨A, hAe⟩ : ∃ A, A = va_A [(g, .inr (2, [.ref g0, .ref g1, .ref g2, .ref g3, .ref g4, .ref g5, .int gc])), (g0, .inl (k0, 16, .inl rE)), (g1, .inl (k1, 16, .inl nM)), (g2, .inl (k2, 16, .inl lD)), (g3, .inl (k3, 16, .inl bF)), (g4, .inl (k4, 16, .inl oR)), (g5, .inl (k5, 16, .inl cH)), (w, .inr (1, [.ref hd, .int ct])), (hd, .inl (cA, 16, .inl h))] s.heap.size := ⟨_, rfl⟩
  rw [← hAe] at hD
  have hA : ∀ q : Nat, s.heap.size ≤ q → A q := fun q h => by rw [hAe]; exact Or.inr h
  have hS : va_S A s.heap s.heap [] := va_S.rf
  have hl := lv_entry ([.ref g, .ref w]) (n := 4) (Nat.le_of_ble_eq_true rfl)
  rw [lg_entry_eq]
  generalize (lg_sl ([.ref g, .ref w]) ++ List.replicate (4 - (lg_sl ([.ref g, .ref w])).length) Slot.unset).toArray = ls at hl ⊢
  have hl : lv_has ls 4 [(0, .ref g), (1, .ref w)] := hl
  refine lv_iconst (v := nI 0) hx hb d_Gr_readReached_0 (by decide) ?_
  refine lv_istore_n hx hb d_Gr_readReached_1 rfl hl (by decide) rfl (fun ls hl => ?_)
  have hl : lv_has ls 4 [(2, .int (nI 0)), (0, .ref g), (1, .ref w)] := hl
  have hz : rE = (fun k => if k < 0 then ws0 h k else rE k) := lt0_f
  rw [hz] at hP hD
  refine xl_w (fun (u : Nat) ls H locs => ((u ≤ 16)) ∧ lv_has ls 4 [(2, .int (nI u)), (0, .ref g), (1, .ref w)] ∧ va_P D cls [(g, .inr (2, [.ref g0, .ref g1, .ref g2, .ref g3, .ref g4, .ref g5, .int gc])), (g0, .inl (k0, 16, .inl (fun k => if k < u then ws0 h k else rE k))), (g1, .inl (k1, 16, .inl nM)), (g2, .inl (k2, 16, .inl lD)), (g3, .inl (k3, 16, .inl bF)), (g4, .inl (k4, 16, .inl oR)), (g5, .inl (k5, 16, .inl cH)), (w, .inr (1, [.ref hd, .int ct])), (hd, .inl (cA, 16, .inl h))] H ∧ va_D A [(g, .inr (2, [.ref g0, .ref g1, .ref g2, .ref g3, .ref g4, .ref g5, .int gc])), (g0, .inl (k0, 16, .inl (fun k => if k < u then ws0 h k else rE k))), (g1, .inl (k1, 16, .inl nM)), (g2, .inl (k2, 16, .inl lD)), (g3, .inl (k3, 16, .inl bF)), (g4, .inl (k4, 16, .inl oR)), (g5, .inl (k5, 16, .inl cH)), (w, .inr (1, [.ref hd, .int ct])), (hd, .inl (cA, 16, .inl h))] ∧ va_S A s.heap H locs) (fun u => 16 - u) (fun u ls H locs hI ih2 => ?_) 0 _ ⟨Nat.zero_le _, hl, hP, hD, hS⟩
  obtain ⟨hI, hl, hP, hD, hS⟩ := hI
  have hu := hI
  refine lv_iload_n hx hb d_Gr_readReached_2 rfl (lv_at hl 0 rfl) ?_
  refine lv_bipush (v := nI 16) hx hb d_Gr_readReached_3 (by decide) ?_
  refine lv_icmp_ge (tgt := 30) hx hb d_Gr_readReached_5 rfl (fun hc5 => ?_) (fun hc5 => ?_)
  · have hc5 : 16 ≤ u := (nI_leI (by omega) (by omega)).mp hc5
    have hP := xP_ext hP 1 (ws0 h) rfl (fun j9 hj9 => if_pos (by omega))
    have hD := xD_ext hD 1 (y := .inl (k0, 16, .inl (ws0 h))) rfl
    have hP : va_P D cls [(g, .inr (2, [.ref g0, .ref g1, .ref g2, .ref g3, .ref g4, .ref g5, .int gc])), (g0, .inl (k0, 16, .inl (ws0 h))), (g1, .inl (k1, 16, .inl nM)), (g2, .inl (k2, 16, .inl lD)), (g3, .inl (k3, 16, .inl bF)), (g4, .inl (k4, 16, .inl oR)), (g5, .inl (k5, 16, .inl cH)), (w, .inr (1, [.ref hd, .int ct])), (hd, .inl (cA, 16, .inl h))] _ := hP
    have hD : va_D A [(g, .inr (2, [.ref g0, .ref g1, .ref g2, .ref g3, .ref g4, .ref g5, .int gc])), (g0, .inl (k0, 16, .inl (ws0 h))), (g1, .inl (k1, 16, .inl nM)), (g2, .inl (k2, 16, .inl lD)), (g3, .inl (k3, 16, .inl bF)), (g4, .inl (k4, 16, .inl oR)), (g5, .inl (k5, 16, .inl cH)), (w, .inr (1, [.ref hd, .int ct])), (hd, .inl (cA, 16, .inl h))] := hD
    refine lv_iconst (v := nI 0) hx hb d_Gr_readReached_30 (by decide) ?_
    refine lv_istore_n hx hb d_Gr_readReached_31 rfl hl (by decide) rfl (fun ls hl => ?_)
    have hl : lv_has ls 4 [(2, .int (nI 0)), (0, .ref g), (1, .ref w)] := hl
    have hz : (ws0 h) = (wsh h 0) := rfl
    rw [hz] at hP hD
    refine xl_w (fun (m9 : Nat) ls H locs => ((m9 ≤ 16)) ∧ lv_has ls 4 [(2, .int (nI m9)), (0, .ref g), (1, .ref w)] ∧ va_P D cls [(g, .inr (2, [.ref g0, .ref g1, .ref g2, .ref g3, .ref g4, .ref g5, .int gc])), (g0, .inl (k0, 16, .inl (wsh h m9))), (g1, .inl (k1, 16, .inl nM)), (g2, .inl (k2, 16, .inl lD)), (g3, .inl (k3, 16, .inl bF)), (g4, .inl (k4, 16, .inl oR)), (g5, .inl (k5, 16, .inl cH)), (w, .inr (1, [.ref hd, .int ct])), (hd, .inl (cA, 16, .inl h))] H ∧ va_D A [(g, .inr (2, [.ref g0, .ref g1, .ref g2, .ref g3, .ref g4, .ref g5, .int gc])), (g0, .inl (k0, 16, .inl (wsh h m9))), (g1, .inl (k1, 16, .inl nM)), (g2, .inl (k2, 16, .inl lD)), (g3, .inl (k3, 16, .inl bF)), (g4, .inl (k4, 16, .inl oR)), (g5, .inl (k5, 16, .inl cH)), (w, .inr (1, [.ref hd, .int ct])), (hd, .inl (cA, 16, .inl h))] ∧ va_S A s.heap H locs) (fun m9 => 16 - m9) (fun m9 ls H locs hI ih32 => ?_) 0 _ ⟨Nat.zero_le _, hl, hP, hD, hS⟩
    obtain ⟨hI, hl, hP, hD, hS⟩ := hI
    have hm9 := hI
    refine lv_iload_n hx hb d_Gr_readReached_32 rfl (lv_at hl 0 rfl) ?_
    refine lv_bipush (v := nI 16) hx hb d_Gr_readReached_33 (by decide) ?_
    refine lv_icmp_ge (tgt := 86) hx hb d_Gr_readReached_35 rfl (fun hc35 => ?_) (fun hc35 => ?_)
    · have hc35 : 16 ≤ m9 := (nI_leI (by omega) (by omega)).mp hc35
      have hP := xP_ext hP 1 (RE h) rfl (fun j9 hj9 => by rw [show m9 = 16 by omega]; exact wsh_RE hg hj9)
      have hD := xD_ext hD 1 (y := .inl (k0, 16, .inl (RE h))) rfl
      have hP : va_P D cls [(g, .inr (2, [.ref g0, .ref g1, .ref g2, .ref g3, .ref g4, .ref g5, .int gc])), (g0, .inl (k0, 16, .inl (RE h))), (g1, .inl (k1, 16, .inl nM)), (g2, .inl (k2, 16, .inl lD)), (g3, .inl (k3, 16, .inl bF)), (g4, .inl (k4, 16, .inl oR)), (g5, .inl (k5, 16, .inl cH)), (w, .inr (1, [.ref hd, .int ct])), (hd, .inl (cA, 16, .inl h))] _ := hP
      have hD : va_D A [(g, .inr (2, [.ref g0, .ref g1, .ref g2, .ref g3, .ref g4, .ref g5, .int gc])), (g0, .inl (k0, 16, .inl (RE h))), (g1, .inl (k1, 16, .inl nM)), (g2, .inl (k2, 16, .inl lD)), (g3, .inl (k3, 16, .inl bF)), (g4, .inl (k4, 16, .inl oR)), (g5, .inl (k5, 16, .inl cH)), (w, .inr (1, [.ref hd, .int ct])), (hd, .inl (cA, 16, .inl h))] := hD
      have hP9 := hP.sub (ws' := [(g, .inr (2, [.ref g0, .ref g1, .ref g2, .ref g3, .ref g4, .ref g5, .int gc])), (g0, .inl (k0, 16, .inl (RE h))), (g1, .inl (k1, 16, .inl nM)), (g2, .inl (k2, 16, .inl lD)), (g3, .inl (k3, 16, .inl bF)), (g4, .inl (k4, 16, .inl oR)), (g5, .inl (k5, 16, .inl cH)), (w, .inr (1, [.ref hd, .int ct])), (hd, .inl (cA, 16, .inl h))]) [0, 1, 2, 3, 4, 5, 6, 7, 8] rfl
      have hD9 := hD.sub (ws' := [(g, .inr (2, [.ref g0, .ref g1, .ref g2, .ref g3, .ref g4, .ref g5, .int gc])), (g0, .inl (k0, 16, .inl (RE h))), (g1, .inl (k1, 16, .inl nM)), (g2, .inl (k2, 16, .inl lD)), (g3, .inl (k3, 16, .inl bF)), (g4, .inl (k4, 16, .inl oR)), (g5, .inl (k5, 16, .inl cH)), (w, .inr (1, [.ref hd, .int ct])), (hd, .inl (cA, 16, .inl h))]) [0, 1, 2, 3, 4, 5, 6, 7, 8] (by decide) rfl
      subst hAe
      exact W.vret hx hb hr (fun t ht hW => ⟨⟨(), rfl, trivial, by rw [ht]; exact hP9, va_K.moved hW.alike hK, hD9⟩, hS.F ht⟩) hS.2.2 d_Gr_readReached_86
    · have hc35 : ¬ (16 ≤ m9) := fun q9 => hc35 ((nI_leI (by omega) (by omega)).mpr q9)
      refine lv_iconst (v := nI 0) hx hb d_Gr_readReached_38 (by decide) ?_
      refine lv_istore_n hx hb d_Gr_readReached_39 rfl hl (by decide) rfl (fun ls hl => ?_)
      have hl : lv_has ls 4 [(3, .int (nI 0)), (2, .int (nI m9)), (0, .ref g), (1, .ref w)] := hl
      have hz : (wsh h m9) = (fun k => if k < 0 then wph (wsh h m9) m9 k else wsh h m9 k) := lt0_f
      rw [hz] at hP hD
      refine xl_w (fun (v : Nat) ls H locs => ((v ≤ 16)) ∧ lv_has ls 4 [(3, .int (nI v)), (2, .int (nI m9)), (0, .ref g), (1, .ref w)] ∧ va_P D cls [(g, .inr (2, [.ref g0, .ref g1, .ref g2, .ref g3, .ref g4, .ref g5, .int gc])), (g0, .inl (k0, 16, .inl (fun k => if k < v then wph (wsh h m9) m9 k else wsh h m9 k))), (g1, .inl (k1, 16, .inl nM)), (g2, .inl (k2, 16, .inl lD)), (g3, .inl (k3, 16, .inl bF)), (g4, .inl (k4, 16, .inl oR)), (g5, .inl (k5, 16, .inl cH)), (w, .inr (1, [.ref hd, .int ct])), (hd, .inl (cA, 16, .inl h))] H ∧ va_D A [(g, .inr (2, [.ref g0, .ref g1, .ref g2, .ref g3, .ref g4, .ref g5, .int gc])), (g0, .inl (k0, 16, .inl (fun k => if k < v then wph (wsh h m9) m9 k else wsh h m9 k))), (g1, .inl (k1, 16, .inl nM)), (g2, .inl (k2, 16, .inl lD)), (g3, .inl (k3, 16, .inl bF)), (g4, .inl (k4, 16, .inl oR)), (g5, .inl (k5, 16, .inl cH)), (w, .inr (1, [.ref hd, .int ct])), (hd, .inl (cA, 16, .inl h))] ∧ va_S A s.heap H locs) (fun v => 16 - v) (fun v ls H locs hI ih40 => ?_) 0 _ ⟨Nat.zero_le _, hl, hP, hD, hS⟩
      obtain ⟨hI, hl, hP, hD, hS⟩ := hI
      have hv := hI
      refine lv_iload_n hx hb d_Gr_readReached_40 rfl (lv_at hl 0 rfl) ?_
      refine lv_bipush (v := nI 16) hx hb d_Gr_readReached_41 (by decide) ?_
      refine lv_icmp_ge (tgt := 80) hx hb d_Gr_readReached_43 rfl (fun hc43 => ?_) (fun hc43 => ?_)
      · have hc43 : 16 ≤ v := (nI_leI (by omega) (by omega)).mp hc43
        have hP := xP_ext hP 1 (wsh h (m9 + 1)) rfl (fun j9 hj9 => if_pos (by omega))
        have hD := xD_ext hD 1 (y := .inl (k0, 16, .inl (wsh h (m9 + 1)))) rfl
        have hP : va_P D cls [(g, .inr (2, [.ref g0, .ref g1, .ref g2, .ref g3, .ref g4, .ref g5, .int gc])), (g0, .inl (k0, 16, .inl (wsh h (m9 + 1)))), (g1, .inl (k1, 16, .inl nM)), (g2, .inl (k2, 16, .inl lD)), (g3, .inl (k3, 16, .inl bF)), (g4, .inl (k4, 16, .inl oR)), (g5, .inl (k5, 16, .inl cH)), (w, .inr (1, [.ref hd, .int ct])), (hd, .inl (cA, 16, .inl h))] _ := hP
        have hD : va_D A [(g, .inr (2, [.ref g0, .ref g1, .ref g2, .ref g3, .ref g4, .ref g5, .int gc])), (g0, .inl (k0, 16, .inl (wsh h (m9 + 1)))), (g1, .inl (k1, 16, .inl nM)), (g2, .inl (k2, 16, .inl lD)), (g3, .inl (k3, 16, .inl bF)), (g4, .inl (k4, 16, .inl oR)), (g5, .inl (k5, 16, .inl cH)), (w, .inr (1, [.ref hd, .int ct])), (hd, .inl (cA, 16, .inl h))] := hD
        refine lv_iinc hx hb d_Gr_readReached_80 hl (k := 1) rfl (v := nI (m9 + 1)) (nI_1 m9) (by decide) rfl (fun ls hl => ?_)
        have hl : lv_has ls 4 [(2, .int (nI (m9 + 1))), (3, .int (nI v)), (0, .ref g), (1, .ref w)] := hl
        refine lv_goto (tgt := 32) hx hb d_Gr_readReached_83 rfl ?_
        exact ih32 (m9 + 1) _ H locs ⟨by omega, lv_sub hl [0, 2, 3] rfl, hP, hD, hS⟩ (by omega)
      · have hc43 : ¬ (16 ≤ v) := fun q9 => hc43 ((nI_leI (by omega) (by omega)).mpr q9)
        refine lv_aload_n hx hb d_Gr_readReached_46 rfl (lv_at hl 2 rfl) ?_
        refine va_get (D := D) (ci := 2) (v := .ref g0) (C := R_Gr) (T := F_Gr) (N := 7) hx hb hB in_Gr hown hK hP 0 rfl rfl 0 (by decide) (hB _ mf_Gr_9) (fun _ h9 => h9) rfl d_Gr_readReached_47 ?_
        refine lv_iload_n hx hb d_Gr_readReached_50 rfl (lv_at hl 0 rfl) ?_
        refine xa_ld (u := v) hx hb hK hP 1 0 rfl rfl (by omega) (by decide) d_Gr_readReached_51 ?_
        refine xv_top (x' := wsh h m9 v) (if_neg (by omega)) ?_
        refine lv_iload_n hx hb d_Gr_readReached_52 rfl (lv_at hl 1 rfl) ?_
        refine xr_cal (va_runSN (As := [.int (wsh h m9 v), .int (nI m9)]) (rest := []) ⟨hx, hb, hml, hown, hB⟩ (k_A_has l D (wsh h m9 v) m9 (by omega)) ⟨va_cnB 2 hB (xg0 mc_A_has) rfl rfl rfl (xn_Gr_53 hN) (hB _ mz_A) (by decide +kernel) ⟨Nat.le_of_ble_eq_true rfl, Nat.le_of_ble_eq_true rfl⟩, hB _ ms_A_has, trivial⟩ (xpS (ws := []) (tys := []) (hP.sub [] rfl) (hK.sub [] rfl) hN) rfl rfl hl.1 rfl (lv_room (Nat.le_of_ble_eq_true rfl)) d_Gr_readReached_53 ⟨Nat.le_of_ble_eq_true rfl, Nat.le_of_ble_eq_true rfl⟩) ?_
        refine lv_if_eq (tgt := 74) hx hb d_Gr_readReached_56 rfl (fun hc56 => ?_) (fun hc56 => ?_)
        · have hc56 := b2i_0.mp hc56
          have hz : (fun k => if k < v then wph (wsh h m9) m9 k else wsh h m9 k) = (fun k => if k < v + 1 then wph (wsh h m9) m9 k else wsh h m9 k) := keep_lt (if_neg (by rw [hc56]; decide))
          rw [hz] at hP hD
          refine lv_iinc hx hb d_Gr_readReached_74 hl (k := 0) rfl (v := nI (v + 1)) (nI_1 v) (by decide) rfl (fun ls hl => ?_)
          have hl : lv_has ls 4 [(3, .int (nI (v + 1))), (2, .int (nI m9)), (0, .ref g), (1, .ref w)] := hl
          refine lv_goto (tgt := 40) hx hb d_Gr_readReached_77 rfl ?_
          exact ih40 (v + 1) _ H locs ⟨by omega, lv_sub hl [0, 1, 2, 3] rfl, hP, hD, hS⟩ (by omega)
        · have hc56 := b2i_n.mp hc56
          refine lv_aload_n hx hb d_Gr_readReached_59 rfl (lv_at hl 2 rfl) ?_
          refine va_get (D := D) (ci := 2) (v := .ref g0) (C := R_Gr) (T := F_Gr) (N := 7) hx hb hB in_Gr hown hK hP 0 rfl rfl 0 (by decide) (hB _ mf_Gr_9) (fun _ h9 => h9) rfl d_Gr_readReached_60 ?_
          refine lv_iload_n hx hb d_Gr_readReached_63 rfl (lv_at hl 0 rfl) ?_
          refine lv_dup2_11 hx hb d_Gr_readReached_64 rfl rfl ?_
          refine xa_ld (u := v) hx hb hK hP 1 0 rfl rfl (by omega) (by decide) d_Gr_readReached_65 ?_
          refine xv_top (x' := wsh h m9 v) (if_neg (by omega)) ?_
          refine lv_aload_n hx hb d_Gr_readReached_66 rfl (lv_at hl 2 rfl) ?_
          refine va_get (D := D) (ci := 2) (v := .ref g0) (C := R_Gr) (T := F_Gr) (N := 7) hx hb hB in_Gr hown hK hP 0 rfl rfl 0 (by decide) (hB _ mf_Gr_9) (fun _ h9 => h9) rfl d_Gr_readReached_67 ?_
          refine lv_iload_n hx hb d_Gr_readReached_70 rfl (lv_at hl 1 rfl) ?_
          refine xa_ld (u := m9) hx hb hK hP 1 0 rfl rfl (by omega) (by decide) d_Gr_readReached_71 ?_
          refine xv_top (x' := wsh h m9 m9) (by (try dsimp only); split; exact wph_self; rfl) ?_
          refine lv_ior hx hb d_Gr_readReached_72 ?_
          refine xv_top (x' := wph (wsh h m9) m9 v) ((if_pos hc56).symm) ?_
          refine xa_st (u := v) hx hb hK hP hD hS 1 0 rfl rfl (by omega) (by decide) d_Gr_readReached_73 (fun H locs hP hD hS => ?_)
          have hP : va_P D cls [(g, .inr (2, [.ref g0, .ref g1, .ref g2, .ref g3, .ref g4, .ref g5, .int gc])), (g0, .inl (k0, 16, .inl (upd (fun k => if k < v then wph (wsh h m9) m9 k else wsh h m9 k) v (wph (wsh h m9) m9 v)))), (g1, .inl (k1, 16, .inl nM)), (g2, .inl (k2, 16, .inl lD)), (g3, .inl (k3, 16, .inl bF)), (g4, .inl (k4, 16, .inl oR)), (g5, .inl (k5, 16, .inl cH)), (w, .inr (1, [.ref hd, .int ct])), (hd, .inl (cA, 16, .inl h))] H := hP
          have hD : va_D A [(g, .inr (2, [.ref g0, .ref g1, .ref g2, .ref g3, .ref g4, .ref g5, .int gc])), (g0, .inl (k0, 16, .inl (upd (fun k => if k < v then wph (wsh h m9) m9 k else wsh h m9 k) v (wph (wsh h m9) m9 v)))), (g1, .inl (k1, 16, .inl nM)), (g2, .inl (k2, 16, .inl lD)), (g3, .inl (k3, 16, .inl bF)), (g4, .inl (k4, 16, .inl oR)), (g5, .inl (k5, 16, .inl cH)), (w, .inr (1, [.ref hd, .int ct])), (hd, .inl (cA, 16, .inl h))] := hD
          have hz : (upd (fun k => if k < v then wph (wsh h m9) m9 k else wsh h m9 k) v (wph (wsh h m9) m9 v)) = (fun k => if k < v + 1 then wph (wsh h m9) m9 k else wsh h m9 k) := upd_ltf rfl
          rw [hz] at hP hD
          refine lv_iinc hx hb d_Gr_readReached_74 hl (k := 0) rfl (v := nI (v + 1)) (nI_1 v) (by decide) rfl (fun ls hl => ?_)
          have hl : lv_has ls 4 [(3, .int (nI (v + 1))), (2, .int (nI m9)), (0, .ref g), (1, .ref w)] := hl
          refine lv_goto (tgt := 40) hx hb d_Gr_readReached_77 rfl ?_
          exact ih40 (v + 1) _ H locs ⟨by omega, lv_sub hl [0, 1, 2, 3] rfl, hP, hD, hS⟩ (by omega)
  · have hc5 : ¬ (16 ≤ u) := fun q9 => hc5 ((nI_leI (by omega) (by omega)).mpr q9)
    refine lv_aload_n hx hb d_Gr_readReached_8 rfl (lv_at hl 1 rfl) ?_
    refine va_get (D := D) (ci := 2) (v := .ref g0) (C := R_Gr) (T := F_Gr) (N := 7) hx hb hB in_Gr hown hK hP 0 rfl rfl 0 (by decide) (hB _ mf_Gr_9) (fun _ h9 => h9) rfl d_Gr_readReached_9 ?_
    refine lv_iload_n hx hb d_Gr_readReached_12 rfl (lv_at hl 0 rfl) ?_
    refine lv_iload_n hx hb d_Gr_readReached_13 rfl (lv_at hl 0 rfl) ?_
    refine xr_cal (va_runSN (As := [.int (nI u)]) (rest := [.int (nI u), .ref g0]) ⟨hx, hb, hml, hown, hB⟩ (k_A_only l D u) ⟨va_cnB 1 hB (xg0 mc_A_only) rfl rfl rfl (xn_Gr_57 hN) (hB _ mz_A) (by decide +kernel) ⟨Nat.le_of_ble_eq_true rfl, Nat.le_of_ble_eq_true rfl⟩, hB _ ms_A_only, trivial⟩ (xpS (ws := []) (tys := []) (hP.sub [] rfl) (hK.sub [] rfl) hN) rfl rfl hl.1 rfl (lv_room (Nat.le_of_ble_eq_true rfl)) d_Gr_readReached_14 ⟨Nat.le_of_ble_eq_true rfl, Nat.le_of_ble_eq_true rfl⟩) ?_
    refine lv_aload_n hx hb d_Gr_readReached_17 rfl (lv_at hl 2 rfl) ?_
    refine lv_iload_n hx hb d_Gr_readReached_18 rfl (lv_at hl 0 rfl) ?_
    refine xr_cal (va_runV (As := [.int (nI u)]) (rest := [.int (bit u), .int (nI u), .ref g0]) ⟨hx, hb, hml, hown, hB⟩ (k_Web_headsOf l D w hd cA ct h u (by omega)) ⟨callB_of 1 hB (xg0 mc_Web_headsOf) rfl rfl rfl (hB _ mz_Web) (hB _ ml_Gr_72) (by decide +kernel) ⟨Nat.le_of_ble_eq_true rfl, Nat.le_of_ble_eq_true rfl⟩, hB _ mi_Web_headsOf, hB _ me_Web_headsOf⟩ (xpV (ws := [(w, .inr (1, [.ref hd, .int ct])), (hd, .inl (cA, 16, .inl h))]) (tys := [(cA, .int)]) (hP.sub [7, 8] rfl) (hK.sub [6] rfl) hN (va_recv (ci := 1) (q0 := 7) (q := (R_Web, F_Web, 2)) hK hP rfl rfl)) rfl rfl hl.1 rfl (lv_room (Nat.le_of_ble_eq_true rfl)) d_Gr_readReached_19 ⟨Nat.le_of_ble_eq_true rfl, Nat.le_of_ble_eq_true rfl⟩) ?_
    refine lv_ior hx hb d_Gr_readReached_22 ?_
    refine xa_st (u := u) hx hb hK hP hD hS 1 0 rfl rfl (by omega) (by decide) d_Gr_readReached_23 (fun H locs hP hD hS => ?_)
    have hP : va_P D cls [(g, .inr (2, [.ref g0, .ref g1, .ref g2, .ref g3, .ref g4, .ref g5, .int gc])), (g0, .inl (k0, 16, .inl (upd (fun k => if k < u then ws0 h k else rE k) u ((bit u) ||| (h u))))), (g1, .inl (k1, 16, .inl nM)), (g2, .inl (k2, 16, .inl lD)), (g3, .inl (k3, 16, .inl bF)), (g4, .inl (k4, 16, .inl oR)), (g5, .inl (k5, 16, .inl cH)), (w, .inr (1, [.ref hd, .int ct])), (hd, .inl (cA, 16, .inl h))] H := hP
    have hD : va_D A [(g, .inr (2, [.ref g0, .ref g1, .ref g2, .ref g3, .ref g4, .ref g5, .int gc])), (g0, .inl (k0, 16, .inl (upd (fun k => if k < u then ws0 h k else rE k) u ((bit u) ||| (h u))))), (g1, .inl (k1, 16, .inl nM)), (g2, .inl (k2, 16, .inl lD)), (g3, .inl (k3, 16, .inl bF)), (g4, .inl (k4, 16, .inl oR)), (g5, .inl (k5, 16, .inl cH)), (w, .inr (1, [.ref hd, .int ct])), (hd, .inl (cA, 16, .inl h))] := hD
    have hz : (upd (fun k => if k < u then ws0 h k else rE k) u ((bit u) ||| (h u))) = (fun k => if k < u + 1 then ws0 h k else rE k) := upd_ltf rfl
    rw [hz] at hP hD
    refine lv_iinc hx hb d_Gr_readReached_24 hl (k := 0) rfl (v := nI (u + 1)) (nI_1 u) (by decide) rfl (fun ls hl => ?_)
    have hl : lv_has ls 4 [(2, .int (nI (u + 1))), (0, .ref g), (1, .ref w)] := hl
    refine lv_goto (tgt := 2) hx hb d_Gr_readReached_27 rfl ?_
    exact ih2 (u + 1) _ H locs ⟨by omega, lv_sub hl [0, 1, 2] rfl, hP, hD, hS⟩ (by omega)
set_option maxHeartbeats 4000000 in
set_option maxRecDepth 100000 in
theorem k_Gr_readNames (l : Launch) (D : va_G) (g g0 g1 g2 g3 g4 g5 : Nat) (k0 k1 k2 k3 k4 k5 : ClassId) (gc : Int32) (rE nM lD bF oR cH : Nat → Int32)  (sz : Nat) : Met l y_Gr_readNames (Cond.code y_Gr_readNames c_Gr_readNames 2 none :: BS) { frames := 2, cells := 0, slots := 0, locals := 43 } (va_Pc [.ref g] (xWp D [(g, .inr (2, [.ref g0, .ref g1, .ref g2, .ref g3, .ref g4, .ref g5, .int gc])), (g0, .inl (k0, 16, .inl rE)), (g1, .inl (k1, 16, .inl nM)), (g2, .inl (k2, 16, .inl lD)), (g3, .inl (k3, 16, .inl bF)), (g4, .inl (k4, 16, .inl oR)), (g5, .inl (k5, 16, .inl cH))] [(k0, .int), (k1, .int), (k2, .int), (k3, .int), (k4, .int), (k5, .int)] sz)) (xQv D [(g, .inr (2, [.ref g0, .ref g1, .ref g2, .ref g3, .ref g4, .ref g5, .int gc])), (g0, .inl (k0, 16, .inl rE)), (g1, .inl (k1, 16, .inl nM)), (g2, .inl (k2, 16, .inl lD)), (g3, .inl (k3, 16, .inl bF)), (g4, .inl (k4, 16, .inl oR)), (g5, .inl (k5, 16, .inl cH))] [(g, .inr (2, [.ref g0, .ref g1, .ref g2, .ref g3, .ref g4, .ref g5, .int (nI (cq (fun v9 => decide (lwN rE v9 = v9)) 16))])), (g0, .inl (k0, 16, .inl rE)), (g1, .inl (k1, 16, .inl (fun k => nI (lwN rE k)))), (g2, .inl (k2, 16, .inl lD)), (g3, .inl (k3, 16, .inl bF)), (g4, .inl (k4, 16, .inl oR)), (g5, .inl (k5, 16, .inl cH))] [(k0, .int), (k1, .int), (k2, .int), (k3, .int), (k4, .int), (k5, .int)] sz) 0 0 (va_A [(g, .inr (2, [.ref g0, .ref g1, .ref g2, .ref g3, .ref g4, .ref g5, .int gc])), (g0, .inl (k0, 16, .inl rE)), (g1, .inl (k1, 16, .inl nM)), (g2, .inl (k2, 16, .inl lD)), (g3, .inl (k3, 16, .inl bF)), (g4, .inl (k4, 16, .inl oR)), (g5, .inl (k5, 16, .inl cH))] sz) := by
  refine Met.ofW (cc := c_Gr_readNames) (maxL := 2) (ret := none) (by decide) rfl ?_
  intro p e s m args below meth c s₁ B hml hv
  obtain ⟨rfl, hsz, hP, hK, hD0, hN⟩ := hv
  have hx := B.exec
  have hb := B.bytes
  have hr := B.returns
  have hB := xB B.pre
  have hown : s.vm.findClass R_Gr = some m.cls := findClass_of_methodNamed B.named
  have hlocks := B.notSynchronized
  subst hsz
  have hD := hD0.self (sz := s.heap.size)
  obtain ⟨A, hAe⟩ : ∃ A, A = va_A [(g, .inr (2, [.ref g0, .ref g1, .ref g2, .ref g3, .ref g4, .ref g5, .int gc])), (g0, .inl (k0, 16, .inl rE)), (g1, .inl (k1, 16, .inl nM)), (g2, .inl (k2, 16, .inl lD)), (g3, .inl (k3, 16, .inl bF)), (g4, .inl (k4, 16, .inl oR)), (g5, .inl (k5, 16, .inl cH))] s.heap.size := ⟨_, rfl⟩
  rw [← hAe] at hD
  have hA : ∀ q : Nat, s.heap.size ≤ q → A q := fun q h => by rw [hAe]; exact Or.inr h
  have hS : va_S A s.heap s.heap [] := va_S.rf
  have hl := lv_entry ([.ref g]) (n := 2) (Nat.le_of_ble_eq_true rfl)
  rw [lg_entry_eq]
  generalize (lg_sl ([.ref g]) ++ List.replicate (2 - (lg_sl ([.ref g])).length) Slot.unset).toArray = ls at hl ⊢
  have hl : lv_has ls 2 [(0, .ref g)] := hl
  refine lv_aload_n hx hb d_Gr_readNames_0 rfl (lv_at hl 0 rfl) ?_
  refine lv_iconst (v := nI 0) hx hb d_Gr_readNames_1 (by decide) ?_
  refine va_put (D := D) (ci := 2) (v := .int (nI 0)) (ty := .int) (C := R_Gr) (T := F_Gr) (N := 7) hx hb hB in_Gr t_Gr t_Gr_ok n_Gr hown hK hP hD hS 0 rfl rfl 6 (by decide) (hB _ mf_Gr_30) (fun _ h9 => h9) rfl (by decide +kernel) rfl rfl (Nat.le_of_ble_eq_true rfl) d_Gr_readNames_2 (fun H locs hP hD hS => ?_)
  have hP : va_P D cls [(g, .inr (2, [.ref g0, .ref g1, .ref g2, .ref g3, .ref g4, .ref g5, .int (nI 0)])), (g0, .inl (k0, 16, .inl rE)), (g1, .inl (k1, 16, .inl nM)), (g2, .inl (k2, 16, .inl lD)), (g3, .inl (k3, 16, .inl bF)), (g4, .inl (k4, 16, .inl oR)), (g5, .inl (k5, 16, .inl cH))] H := hP
  have hD : va_D A [(g, .inr (2, [.ref g0, .ref g1, .ref g2, .ref g3, .ref g4, .ref g5, .int (nI 0)])), (g0, .inl (k0, 16, .inl rE)), (g1, .inl (k1, 16, .inl nM)), (g2, .inl (k2, 16, .inl lD)), (g3, .inl (k3, 16, .inl bF)), (g4, .inl (k4, 16, .inl oR)), (g5, .inl (k5, 16, .inl cH))] := hD
  refine lv_iconst (v := nI 0) hx hb d_Gr_readNames_5 (by decide) ?_
  refine lv_istore_n hx hb d_Gr_readNames_6 rfl hl (by decide) rfl (fun ls hl => ?_)
  have hl : lv_has ls 2 [(1, .int (nI 0)), (0, .ref g)] := hl
  have hz : nM = (fun k => if k < 0 then nI (lwN rE k) else nM k) := lt0_f
  rw [hz] at hP hD
  have hP : va_P D cls [(g, .inr (2, [.ref g0, .ref g1, .ref g2, .ref g3, .ref g4, .ref g5, .int (nI (cq (fun v9 => decide (lwN rE v9 = v9)) 0))])), (g0, .inl (k0, 16, .inl rE)), (g1, .inl (k1, 16, .inl (fun k => if k < 0 then nI (lwN rE k) else nM k))), (g2, .inl (k2, 16, .inl lD)), (g3, .inl (k3, 16, .inl bF)), (g4, .inl (k4, 16, .inl oR)), (g5, .inl (k5, 16, .inl cH))] _ := hP
  have hD : va_D A [(g, .inr (2, [.ref g0, .ref g1, .ref g2, .ref g3, .ref g4, .ref g5, .int (nI (cq (fun v9 => decide (lwN rE v9 = v9)) 0))])), (g0, .inl (k0, 16, .inl rE)), (g1, .inl (k1, 16, .inl (fun k => if k < 0 then nI (lwN rE k) else nM k))), (g2, .inl (k2, 16, .inl lD)), (g3, .inl (k3, 16, .inl bF)), (g4, .inl (k4, 16, .inl oR)), (g5, .inl (k5, 16, .inl cH))] := hD
  refine xl_w (fun (u : Nat) ls H locs => ((u ≤ 16)) ∧ lv_has ls 2 [(1, .int (nI u)), (0, .ref g)] ∧ va_P D cls [(g, .inr (2, [.ref g0, .ref g1, .ref g2, .ref g3, .ref g4, .ref g5, .int (nI (cq (fun v9 => decide (lwN rE v9 = v9)) u))])), (g0, .inl (k0, 16, .inl rE)), (g1, .inl (k1, 16, .inl (fun k => if k < u then nI (lwN rE k) else nM k))), (g2, .inl (k2, 16, .inl lD)), (g3, .inl (k3, 16, .inl bF)), (g4, .inl (k4, 16, .inl oR)), (g5, .inl (k5, 16, .inl cH))] H ∧ va_D A [(g, .inr (2, [.ref g0, .ref g1, .ref g2, .ref g3, .ref g4, .ref g5, .int (nI (cq (fun v9 => decide (lwN rE v9 = v9)) u))])), (g0, .inl (k0, 16, .inl rE)), (g1, .inl (k1, 16, .inl (fun k => if k < u then nI (lwN rE k) else nM k))), (g2, .inl (k2, 16, .inl lD)), (g3, .inl (k3, 16, .inl bF)), (g4, .inl (k4, 16, .inl oR)), (g5, .inl (k5, 16, .inl cH))] ∧ va_S A s.heap H locs) (fun u => 16 - u) (fun u ls H locs hI ih7 => ?_) 0 _ ⟨Nat.zero_le _, hl, hP, hD, hS⟩
  obtain ⟨hI, hl, hP, hD, hS⟩ := hI
  have hu := hI
  refine lv_iload_n hx hb d_Gr_readNames_7 rfl (lv_at hl 0 rfl) ?_
  refine lv_bipush (v := nI 16) hx hb d_Gr_readNames_8 (by decide) ?_
  refine lv_icmp_ge (tgt := 50) hx hb d_Gr_readNames_10 rfl (fun hc10 => ?_) (fun hc10 => ?_)
  · have hc10 : 16 ≤ u := (nI_leI (by omega) (by omega)).mp hc10
    have hP := xP_ext hP 2 (fun k => nI (lwN rE k)) rfl (fun j9 hj9 => if_pos (by omega))
    have hD := xD_ext hD 2 (y := .inl (k1, 16, .inl (fun k => nI (lwN rE k)))) rfl
    have hP : va_P D cls [(g, .inr (2, [.ref g0, .ref g1, .ref g2, .ref g3, .ref g4, .ref g5, .int (nI (cq (fun v9 => decide (lwN rE v9 = v9)) u))])), (g0, .inl (k0, 16, .inl rE)), (g1, .inl (k1, 16, .inl (fun k => nI (lwN rE k)))), (g2, .inl (k2, 16, .inl lD)), (g3, .inl (k3, 16, .inl bF)), (g4, .inl (k4, 16, .inl oR)), (g5, .inl (k5, 16, .inl cH))] _ := hP
    have hD : va_D A [(g, .inr (2, [.ref g0, .ref g1, .ref g2, .ref g3, .ref g4, .ref g5, .int (nI (cq (fun v9 => decide (lwN rE v9 = v9)) u))])), (g0, .inl (k0, 16, .inl rE)), (g1, .inl (k1, 16, .inl (fun k => nI (lwN rE k)))), (g2, .inl (k2, 16, .inl lD)), (g3, .inl (k3, 16, .inl bF)), (g4, .inl (k4, 16, .inl oR)), (g5, .inl (k5, 16, .inl cH))] := hD
    have hz : (nI (cq (fun v9 => decide (lwN rE v9 = v9)) u)) = nI (cq (fun v9 => decide (lwN rE v9 = v9)) 16) := by rw [show u = 16 by omega]
    rw [hz] at hP hD
    have hP9 := hP.sub (ws' := [(g, .inr (2, [.ref g0, .ref g1, .ref g2, .ref g3, .ref g4, .ref g5, .int (nI (cq (fun v9 => decide (lwN rE v9 = v9)) 16))])), (g0, .inl (k0, 16, .inl rE)), (g1, .inl (k1, 16, .inl (fun k => nI (lwN rE k)))), (g2, .inl (k2, 16, .inl lD)), (g3, .inl (k3, 16, .inl bF)), (g4, .inl (k4, 16, .inl oR)), (g5, .inl (k5, 16, .inl cH))]) [0, 1, 2, 3, 4, 5, 6] rfl
    have hD9 := hD.sub (ws' := [(g, .inr (2, [.ref g0, .ref g1, .ref g2, .ref g3, .ref g4, .ref g5, .int (nI (cq (fun v9 => decide (lwN rE v9 = v9)) 16))])), (g0, .inl (k0, 16, .inl rE)), (g1, .inl (k1, 16, .inl (fun k => nI (lwN rE k)))), (g2, .inl (k2, 16, .inl lD)), (g3, .inl (k3, 16, .inl bF)), (g4, .inl (k4, 16, .inl oR)), (g5, .inl (k5, 16, .inl cH))]) [0, 1, 2, 3, 4, 5, 6] (by decide) rfl
    subst hAe
    exact W.vret hx hb hr (fun t ht hW => ⟨⟨(), rfl, trivial, by rw [ht]; exact hP9, va_K.moved hW.alike hK, hD9⟩, hS.F ht⟩) hS.2.2 d_Gr_readNames_50
  · have hc10 : ¬ (16 ≤ u) := fun q9 => hc10 ((nI_leI (by omega) (by omega)).mpr q9)
    refine lv_aload_n hx hb d_Gr_readNames_13 rfl (lv_at hl 1 rfl) ?_
    refine va_get (D := D) (ci := 2) (v := .ref g1) (C := R_Gr) (T := F_Gr) (N := 7) hx hb hB in_Gr hown hK hP 0 rfl rfl 1 (by decide) (hB _ mf_Gr_15) (fun _ h9 => h9) rfl d_Gr_readNames_14 ?_
    refine lv_iload_n hx hb d_Gr_readNames_17 rfl (lv_at hl 0 rfl) ?_
    refine lv_aload_n hx hb d_Gr_readNames_18 rfl (lv_at hl 1 rfl) ?_
    refine lv_iload_n hx hb d_Gr_readNames_19 rfl (lv_at hl 0 rfl) ?_
    refine xr_cal (va_runV (As := [.int (nI u)]) (rest := [.int (nI u), .ref g1]) ⟨hx, hb, hml, hown, hB⟩ (k_Gr_leastWith l D g g0 g1 g2 g3 g4 g5 k0 k1 k2 k3 k4 k5 (nI (cq (fun v9 => decide (lwN rE v9 = v9)) u)) rE (fun k => if k < u then nI (lwN rE k) else nM k) lD bF oR cH u (by omega)) ⟨callB_of 1 hB (xg0 mc_Gr_leastWith) rfl rfl rfl (hB _ mz_Gr) (hB _ ml_Gr_77) (by decide +kernel) ⟨Nat.le_of_ble_eq_true rfl, Nat.le_of_ble_eq_true rfl⟩, hB _ mi_Gr_leastWith, hB _ me_Gr_leastWith⟩ (xpV (ws := [(g, .inr (2, [.ref g0, .ref g1, .ref g2, .ref g3, .ref g4, .ref g5, .int (nI (cq (fun v9 => decide (lwN rE v9 = v9)) u))])), (g0, .inl (k0, 16, .inl rE)), (g1, .inl (k1, 16, .inl (fun k => if k < u then nI (lwN rE k) else nM k))), (g2, .inl (k2, 16, .inl lD)), (g3, .inl (k3, 16, .inl bF)), (g4, .inl (k4, 16, .inl oR)), (g5, .inl (k5, 16, .inl cH))]) (tys := [(k0, .int), (k1, .int), (k2, .int), (k3, .int), (k4, .int), (k5, .int)]) (hP.sub [0, 1, 2, 3, 4, 5, 6] rfl) (hK.sub [0, 1, 2, 3, 4, 5] rfl) hN (va_recv (ci := 2) (q0 := 0) (q := (R_Gr, F_Gr, 7)) hK hP rfl rfl)) rfl rfl hl.1 rfl (lv_room (Nat.le_of_ble_eq_true rfl)) d_Gr_readNames_20 ⟨Nat.le_of_ble_eq_true rfl, Nat.le_of_ble_eq_true rfl⟩) ?_
    refine xv_top (x' := nI (lwN rE u)) (rfl) ?_
    refine xa_st (u := u) hx hb hK hP hD hS 2 1 rfl rfl (by omega) (by decide) d_Gr_readNames_23 (fun H locs hP hD hS => ?_)
    have hP : va_P D cls [(g, .inr (2, [.ref g0, .ref g1, .ref g2, .ref g3, .ref g4, .ref g5, .int (nI (cq (fun v9 => decide (lwN rE v9 = v9)) u))])), (g0, .inl (k0, 16, .inl rE)), (g1, .inl (k1, 16, .inl (upd (fun k => if k < u then nI (lwN rE k) else nM k) u (nI (lwN rE u))))), (g2, .inl (k2, 16, .inl lD)), (g3, .inl (k3, 16, .inl bF)), (g4, .inl (k4, 16, .inl oR)), (g5, .inl (k5, 16, .inl cH))] H := hP
    have hD : va_D A [(g, .inr (2, [.ref g0, .ref g1, .ref g2, .ref g3, .ref g4, .ref g5, .int (nI (cq (fun v9 => decide (lwN rE v9 = v9)) u))])), (g0, .inl (k0, 16, .inl rE)), (g1, .inl (k1, 16, .inl (upd (fun k => if k < u then nI (lwN rE k) else nM k) u (nI (lwN rE u))))), (g2, .inl (k2, 16, .inl lD)), (g3, .inl (k3, 16, .inl bF)), (g4, .inl (k4, 16, .inl oR)), (g5, .inl (k5, 16, .inl cH))] := hD
    have hz : (upd (fun k => if k < u then nI (lwN rE k) else nM k) u (nI (lwN rE u))) = (fun k => if k < u + 1 then nI (lwN rE k) else nM k) := upd_ltf rfl
    rw [hz] at hP hD
    have hlw := lwN_le rE u
    refine lv_aload_n hx hb d_Gr_readNames_24 rfl (lv_at hl 1 rfl) ?_
    refine va_get (D := D) (ci := 2) (v := .ref g1) (C := R_Gr) (T := F_Gr) (N := 7) hx hb hB in_Gr hown hK hP 0 rfl rfl 1 (by decide) (hB _ mf_Gr_15) (fun _ h9 => h9) rfl d_Gr_readNames_25 ?_
    refine lv_iload_n hx hb d_Gr_readNames_28 rfl (lv_at hl 0 rfl) ?_
    refine xa_ld (u := u) hx hb hK hP 2 1 rfl rfl (by omega) (by decide) d_Gr_readNames_29 ?_
    refine xv_top (x' := nI (lwN rE u)) (if_pos (by omega)) ?_
    refine lv_iload_n hx hb d_Gr_readNames_30 rfl (lv_at hl 0 rfl) ?_
    refine lv_icmp_ne (tgt := 44) hx hb d_Gr_readNames_31 rfl (fun hc31 => ?_) (fun hc31 => ?_)
    · have hc31 : ¬ ((lwN rE u) = u) := fun q9 => hc31 ((nI_eq (by omega) (by omega)).mpr q9)
      have hz : (nI (cq (fun v9 => decide (lwN rE v9 = v9)) u)) = nI (cq (fun v9 => decide (lwN rE v9 = v9)) (u + 1)) := by rw [cq_f (decide_eq_false hc31)]
      rw [hz] at hP hD
      refine lv_iinc hx hb d_Gr_readNames_44 hl (k := 0) rfl (v := nI (u + 1)) (nI_1 u) (by decide) rfl (fun ls hl => ?_)
      have hl : lv_has ls 2 [(1, .int (nI (u + 1))), (0, .ref g)] := hl
      refine lv_goto (tgt := 7) hx hb d_Gr_readNames_47 rfl ?_
      exact ih7 (u + 1) _ H locs ⟨by omega, lv_sub hl [0, 1] rfl, hP, hD, hS⟩ (by omega)
    · have hc31 : (lwN rE u) = u := (nI_eq (by omega) (by omega)).mp hc31
      refine lv_aload_n hx hb d_Gr_readNames_34 rfl (lv_at hl 1 rfl) ?_
      refine lv_dup hx hb d_Gr_readNames_35 rfl ?_
      refine va_get (D := D) (ci := 2) (v := .int (nI (cq (fun v9 => decide (lwN rE v9 = v9)) u))) (C := R_Gr) (T := F_Gr) (N := 7) hx hb hB in_Gr hown hK hP 0 rfl rfl 6 (by decide) (hB _ mf_Gr_30) (fun _ h9 => h9) rfl d_Gr_readNames_36 ?_
      refine lv_iconst (v := nI 1) hx hb d_Gr_readNames_39 (by decide) ?_
      refine lv_iadd hx hb d_Gr_readNames_40 ?_
      refine va_put (D := D) (ci := 2) (v := .int ((nI (cq (fun v9 => decide (lwN rE v9 = v9)) u)) + (nI 1))) (ty := .int) (C := R_Gr) (T := F_Gr) (N := 7) hx hb hB in_Gr t_Gr t_Gr_ok n_Gr hown hK hP hD hS 0 rfl rfl 6 (by decide) (hB _ mf_Gr_30) (fun _ h9 => h9) rfl (by decide +kernel) rfl rfl (Nat.le_of_ble_eq_true rfl) d_Gr_readNames_41 (fun H locs hP hD hS => ?_)
      have hP : va_P D cls [(g, .inr (2, [.ref g0, .ref g1, .ref g2, .ref g3, .ref g4, .ref g5, .int ((nI (cq (fun v9 => decide (lwN rE v9 = v9)) u)) + (nI 1))])), (g0, .inl (k0, 16, .inl rE)), (g1, .inl (k1, 16, .inl (fun k => if k < u + 1 then nI (lwN rE k) else nM k))), (g2, .inl (k2, 16, .inl lD)), (g3, .inl (k3, 16, .inl bF)), (g4, .inl (k4, 16, .inl oR)), (g5, .inl (k5, 16, .inl cH))] H := hP
      have hD : va_D A [(g, .inr (2, [.ref g0, .ref g1, .ref g2, .ref g3, .ref g4, .ref g5, .int ((nI (cq (fun v9 => decide (lwN rE v9 = v9)) u)) + (nI 1))])), (g0, .inl (k0, 16, .inl rE)), (g1, .inl (k1, 16, .inl (fun k => if k < u + 1 then nI (lwN rE k) else nM k))), (g2, .inl (k2, 16, .inl lD)), (g3, .inl (k3, 16, .inl bF)), (g4, .inl (k4, 16, .inl oR)), (g5, .inl (k5, 16, .inl cH))] := hD
      have hz : ((nI (cq (fun v9 => decide (lwN rE v9 = v9)) u)) + (nI 1)) = nI (cq (fun v9 => decide (lwN rE v9 = v9)) (u + 1)) := by rw [cq_t (decide_eq_true hc31)]; exact nI_add _ 1
      rw [hz] at hP hD
      refine lv_iinc hx hb d_Gr_readNames_44 hl (k := 0) rfl (v := nI (u + 1)) (nI_1 u) (by decide) rfl (fun ls hl => ?_)
      have hl : lv_has ls 2 [(1, .int (nI (u + 1))), (0, .ref g)] := hl
      refine lv_goto (tgt := 7) hx hb d_Gr_readNames_47 rfl ?_
      exact ih7 (u + 1) _ H locs ⟨by omega, lv_sub hl [0, 1] rfl, hP, hD, hS⟩ (by omega)
end
section
theorem st_congr {P Q : Nat → Prop} (h : ∀ i, i < 16 → (P i ↔ Q i)) : st P = st Q := st_eq (m16_st P) (fun i hi => by rw [bt_st]; exact ⟨fun q => (h i hi).mp q.2, fun q => ⟨hi, (h i hi).mpr q⟩⟩)
def LdP (h : Nat → Int32) (nm : Nat → Nat) (u v g x : Nat) : Prop := g ≠ x ∧ ∃ a b, (a < u ∨ (a = u ∧ b < v)) ∧ b < 16 ∧ Eg h a b ∧ nm a = g ∧ nm b = x
noncomputable def LTp (h : Nat → Int32) (nm : Nat → Nat) (u v : Nat) : Nat → Int32 := fun g => st (fun x => LdP h nm u v g x)
noncomputable def BFp (h : Nat → Int32) (nm : Nat → Nat) (u v : Nat) : Nat → Int32 := fun g => st (fun x => LdP h nm u v x g)
theorem LP_00 {h : Nat → Int32} {nm : Nat → Nat} {g x : Nat} : ¬ LdP h nm 0 0 g x := by
  rintro ⟨_, a, b, h1, _⟩; omega
theorem st_none {P : Nat → Prop} (h : ∀ i, i < 16 → ¬ P i) : st P = nI 0 := by
  show st P = 0
  apply m16_zero (m16_st P)
  intro i hi
  cases hb : bt (st P) i with
  | false => rfl
  | true => exact absurd (bt_st.mp hb).2 (h i hi)
theorem LTp_00 {h : Nat → Int32} {nm : Nat → Nat} : (fun _ => nI 0) = LTp h nm 0 0 := funext fun g => (st_none (fun _ _ => LP_00)).symm
theorem BFp_00 {h : Nat → Int32} {nm : Nat → Nat} : (fun _ => nI 0) = BFp h nm 0 0 := funext fun g => (st_none (fun _ _ => LP_00)).symm
theorem LP_st {h : Nat → Int32} {nm : Nat → Nat} {u v g x : Nat} : LdP h nm u (v + 1) g x ↔ LdP h nm u v g x ∨ (g ≠ x ∧ v < 16 ∧ Eg h u v ∧ nm u = g ∧ nm v = x) := by
  constructor
  · rintro ⟨h1, a, b, h2, h3, h4, h5, h6⟩
    by_cases hn : a = u ∧ b = v
    · obtain ⟨rfl, rfl⟩ := hn
      exact Or.inr ⟨h1, h3, h4, h5, h6⟩
    · exact Or.inl ⟨h1, a, b, by omega, h3, h4, h5, h6⟩
  · rintro (⟨h1, a, b, h2, h3, h4, h5, h6⟩ | ⟨h1, h3, h4, h5, h6⟩)
    · exact ⟨h1, a, b, by omega, h3, h4, h5, h6⟩
    · exact ⟨h1, u, v, by omega, h3, h4, h5, h6⟩
theorem LP_row {h : Nat → Int32} {nm : Nat → Nat} {u g x : Nat} : LdP h nm u 16 g x ↔ LdP h nm (u + 1) 0 g x := by
  constructor
  · rintro ⟨h1, a, b, h2, h3, h4⟩; exact ⟨h1, a, b, by omega, h3, h4⟩
  · rintro ⟨h1, a, b, h2, h3, h4⟩; exact ⟨h1, a, b, by omega, h3, h4⟩
theorem LTp_row {h : Nat → Int32} {nm : Nat → Nat} {u : Nat} : LTp h nm u 16 = LTp h nm (u + 1) 0 := funext fun g => st_congr (fun _ _ => LP_row)
theorem BFp_row {h : Nat → Int32} {nm : Nat → Nat} {u : Nat} : BFp h nm u 16 = BFp h nm (u + 1) 0 := funext fun g => st_congr (fun _ _ => LP_row)
theorem LP_skip {h : Nat → Int32} {nm : Nat → Nat} {u v g x : Nat} (hs : ¬ (bt (h u) v = true ∧ ¬ nm u = nm v)) : LdP h nm u v g x ↔ LdP h nm u (v + 1) g x := by
  rw [LP_st]
  constructor
  · exact Or.inl
  · rintro (h1 | ⟨h1, _, h3, h4, h5⟩)
    · exact h1
    · exact absurd ⟨h3.2, fun q => h1 (by rw [← h4, ← h5]; exact q)⟩ hs
theorem LTp_skip {h : Nat → Int32} {nm : Nat → Nat} {u v : Nat} (hs : ¬ (bt (h u) v = true ∧ ¬ nm u = nm v)) : LTp h nm u v = LTp h nm u (v + 1) := funext fun g => st_congr (fun _ _ => LP_skip hs)
theorem BFp_skip {h : Nat → Int32} {nm : Nat → Nat} {u v : Nat} (hs : ¬ (bt (h u) v = true ∧ ¬ nm u = nm v)) : BFp h nm u v = BFp h nm u (v + 1) := funext fun g => st_congr (fun _ _ => LP_skip hs)
theorem LTp_add {h : Nat → Int32} {nm : Nat → Nat} {u v : Nat} (hu : u < 16) (hv : v < 16) (hb : bt (h u) v = true) (hne : ¬ nm u = nm v) (hnv : nm v < 16) : upd (LTp h nm u v) (nm u) (LTp h nm u v (nm u) ||| bit (nm v)) = LTp h nm u (v + 1) := by
  funext g
  by_cases hg : g = nm u
  · subst hg
    rw [pk_us]
    apply st_eq (m16_or (m16_st _) (m16_bit hnv))
    intro i hi
    rw [b_or, Bool.or_eq_true, LP_st, bt_bit (by omega) (by omega), decide_eq_true_eq]
    show bt (st _) i = true ∨ _ ↔ _
    rw [bt_st]
    constructor
    · rintro (h1 | h1)
      · exact Or.inl h1.2
      · subst h1; exact Or.inr ⟨hne, hv, ⟨hu, hb⟩, rfl, rfl⟩
    · rintro (h1 | ⟨_, _, _, _, h1⟩)
      · exact Or.inl ⟨hi, h1⟩
      · exact Or.inr h1.symm
  · rw [pk_un hg]
    apply st_congr
    intro i _
    rw [LP_st]
    exact ⟨Or.inl, fun q => q.elim id (fun q => absurd q.2.2.2.1.symm hg)⟩
theorem BFp_add {h : Nat → Int32} {nm : Nat → Nat} {u v : Nat} (hu : u < 16) (hv : v < 16) (hb : bt (h u) v = true) (hne : ¬ nm u = nm v) (hnu : nm u < 16) : upd (BFp h nm u v) (nm v) (BFp h nm u v (nm v) ||| bit (nm u)) = BFp h nm u (v + 1) := by
  funext g
  by_cases hg : g = nm v
  · subst hg
    rw [pk_us]
    apply st_eq (m16_or (m16_st _) (m16_bit hnu))
    intro i hi
    rw [b_or, Bool.or_eq_true, LP_st, bt_bit (by omega) (by omega), decide_eq_true_eq]
    show bt (st _) i = true ∨ _ ↔ _
    rw [bt_st]
    constructor
    · rintro (h1 | h1)
      · exact Or.inl h1.2
      · subst h1; exact Or.inr ⟨hne, hv, ⟨hu, hb⟩, rfl, rfl⟩
    · rintro (h1 | ⟨_, _, _, h1, _⟩)
      · exact Or.inl ⟨hi, h1⟩
      · exact Or.inr h1.symm
  · rw [pk_un hg]
    apply st_congr
    intro i _
    rw [LP_st]
    exact ⟨Or.inl, fun q => q.elim id (fun q => absurd q.2.2.2.2.symm hg)⟩
def nxF (nM bF : Nat → Int32) (x : Int32) : Nat := first (fun u => decide (nM u = nI u) && !(bt x u) && decide (bF u &&& (x ^^^ (-1)) = 0)) 0 16
def plF (nM bF : Nat → Int32) : Nat → Int32
  | 0 => nI 0
  | k + 1 => plF nM bF k ||| bit (nxF nM bF (plF nM bF k))
theorem nxF_lt (nM bF : Nat → Int32) (x : Int32) : nxF nM bF x < 16 := first_lt (by omega)
def chF (bF : Nat → Int32) (od : Nat → Nat) (cH : Nat → Int32) : Nat → Nat → Int32
  | 0 => cH
  | k + 1 => upd (chF bF od cH k) (od k) (nI 1 + mxq (bF (od k)) (chF bF od cH k) 16)
def lgF (bF : Nat → Int32) (od : Nat → Nat) (cH : Nat → Int32) : Nat → Int32
  | 0 => nI 0
  | k + 1 => if lgF bF od cH k < chF bF od cH (k + 1) (od k) then chF bF od cH (k + 1) (od k) else lgF bF od cH k
end
section
set_option maxHeartbeats 4000000 in
set_option maxRecDepth 100000 in
theorem k_Gr_readLeads (l : Launch) (D : va_G) (g g0 g1 g2 g3 g4 g5 : Nat) (k0 k1 k2 k3 k4 k5 : ClassId) (gc : Int32) (rE : Nat → Int32) (nm : Nat → Nat) (lD : Nat → Int32) (bF : Nat → Int32) (oR : Nat → Int32) (cH : Nat → Int32) (w hd : Nat) (cA : ClassId) (ct : Int32) (h : Nat → Int32) (hnm : ∀ k, k < 16 → nm k < 16) (sz : Nat) : Met l y_Gr_readLeads (Cond.code y_Gr_readLeads c_Gr_readLeads 4 none :: BS) { frames := 2, cells := 0, slots := 0, locals := 43 } (va_Pc [.ref g, .ref w] (xWp D [(g, .inr (2, [.ref g0, .ref g1, .ref g2, .ref g3, .ref g4, .ref g5, .int gc])), (g0, .inl (k0, 16, .inl rE)), (g1, .inl (k1, 16, .inl (fun k => nI (nm k)))), (g2, .inl (k2, 16, .inl lD)), (g3, .inl (k3, 16, .inl bF)), (g4, .inl (k4, 16, .inl oR)), (g5, .inl (k5, 16, .inl cH)), (w, .inr (1, [.ref hd, .int ct])), (hd, .inl (cA, 16, .inl h))] [(k0, .int), (k1, .int), (k2, .int), (k3, .int), (k4, .int), (k5, .int), (cA, .int)] sz)) (xQv D [(g, .inr (2, [.ref g0, .ref g1, .ref g2, .ref g3, .ref g4, .ref g5, .int gc])), (g0, .inl (k0, 16, .inl rE)), (g1, .inl (k1, 16, .inl (fun k => nI (nm k)))), (g2, .inl (k2, 16, .inl lD)), (g3, .inl (k3, 16, .inl bF)), (g4, .inl (k4, 16, .inl oR)), (g5, .inl (k5, 16, .inl cH)), (w, .inr (1, [.ref hd, .int ct])), (hd, .inl (cA, 16, .inl h))] [(g, .inr (2, [.ref g0, .ref g1, .ref g2, .ref g3, .ref g4, .ref g5, .int gc])), (g0, .inl (k0, 16, .inl rE)), (g1, .inl (k1, 16, .inl (fun k => nI (nm k)))), (g2, .inl (k2, 16, .inl (LTp h nm 16 0))), (g3, .inl (k3, 16, .inl (BFp h nm 16 0))), (g4, .inl (k4, 16, .inl oR)), (g5, .inl (k5, 16, .inl cH)), (w, .inr (1, [.ref hd, .int ct])), (hd, .inl (cA, 16, .inl h))] [(k0, .int), (k1, .int), (k2, .int), (k3, .int), (k4, .int), (k5, .int), (cA, .int)] sz) 0 0 (va_A [(g, .inr (2, [.ref g0, .ref g1, .ref g2, .ref g3, .ref g4, .ref g5, .int gc])), (g0, .inl (k0, 16, .inl rE)), (g1, .inl (k1, 16, .inl (fun k => nI (nm k)))), (g2, .inl (k2, 16, .inl lD)), (g3, .inl (k3, 16, .inl bF)), (g4, .inl (k4, 16, .inl oR)), (g5, .inl (k5, 16, .inl cH)), (w, .inr (1, [.ref hd, .int ct])), (hd, .inl (cA, 16, .inl h))] sz) := by
  refine Met.ofW (cc := c_Gr_readLeads) (maxL := 4) (ret := none) (by decide) rfl ?_
  intro p e s m args below meth c s₁ B hml hv
  obtain ⟨rfl, hsz, hP, hK, hD0, hN⟩ := hv
  have hx := B.exec
  have hb := B.bytes
  have hr := B.returns
  have hB := xB B.pre
  have hown : s.vm.findClass R_Gr = some m.cls := findClass_of_methodNamed B.named
  have hlocks := B.notSynchronized
  subst hsz
  have hD := hD0.self (sz := s.heap.size)
  obtain ⟨A, hAe⟩ : ∃ A, A = va_A [(g, .inr (2, [.ref g0, .ref g1, .ref g2, .ref g3, .ref g4, .ref g5, .int gc])), (g0, .inl (k0, 16, .inl rE)), (g1, .inl (k1, 16, .inl (fun k => nI (nm k)))), (g2, .inl (k2, 16, .inl lD)), (g3, .inl (k3, 16, .inl bF)), (g4, .inl (k4, 16, .inl oR)), (g5, .inl (k5, 16, .inl cH)), (w, .inr (1, [.ref hd, .int ct])), (hd, .inl (cA, 16, .inl h))] s.heap.size := ⟨_, rfl⟩
  rw [← hAe] at hD
  have hA : ∀ q : Nat, s.heap.size ≤ q → A q := fun q h => by rw [hAe]; exact Or.inr h
  have hS : va_S A s.heap s.heap [] := va_S.rf
  have hl := lv_entry ([.ref g, .ref w]) (n := 4) (Nat.le_of_ble_eq_true rfl)
  rw [lg_entry_eq]
  generalize (lg_sl ([.ref g, .ref w]) ++ List.replicate (4 - (lg_sl ([.ref g, .ref w])).length) Slot.unset).toArray = ls at hl ⊢
  have hl : lv_has ls 4 [(0, .ref g), (1, .ref w)] := hl
  refine lv_aload_n hx hb d_Gr_readLeads_0 rfl (lv_at hl 0 rfl) ?_
  refine va_get (D := D) (ci := 2) (v := .ref g2) (C := R_Gr) (T := F_Gr) (N := 7) hx hb hB in_Gr hown hK hP 0 rfl rfl 2 (by decide) (hB _ mf_Gr_18) (fun _ h9 => h9) rfl d_Gr_readLeads_1 ?_
  refine lv_iconst (v := nI 0) hx hb d_Gr_readLeads_4 (by decide) ?_
  refine xw_v (wc := [(g2, .inl (k2, 16, .inl lD))]) (wr := [(g, .inr (2, [.ref g0, .ref g1, .ref g2, .ref g3, .ref g4, .ref g5, .int gc])), (g0, .inl (k0, 16, .inl rE)), (g1, .inl (k1, 16, .inl (fun k => nI (nm k)))), (g3, .inl (k3, 16, .inl bF)), (g4, .inl (k4, 16, .inl oR)), (g5, .inl (k5, 16, .inl cH)), (w, .inr (1, [.ref hd, .int ct])), (hd, .inl (cA, 16, .inl h))]) (w1 := [(g2, .inl (k2, 16, .inl (fun _ => (nI 0))))]) (va_runS (As := [.ref g2, .int (nI 0)]) (rest := []) ⟨hx, hb, hml, hown, hB⟩ (k_Ar_fill l D g2 k2 16 lD (nI 0) (by decide) _) ⟨callB_of 2 hB (xg0 mc_Ar_fill) rfl rfl rfl (hB _ mz_Ar) (hB _ ml_Gr_80) (by decide +kernel) ⟨Nat.le_of_ble_eq_true rfl, Nat.le_of_ble_eq_true rfl⟩, hB _ ms_Ar_fill⟩ (xqS (ws := [(g2, .inl (k2, 16, .inl lD))]) (tys := [(k2, .int)]) (hP.sub [3] rfl) (hD.sub [3] (by decide) rfl) (hK.sub [2] rfl) hN) rfl rfl hl.1 rfl (lv_room (Nat.le_of_ble_eq_true rfl)) d_Gr_readLeads_5 ⟨Nat.le_of_ble_eq_true rfl, Nat.le_of_ble_eq_true rfl⟩) hP hD hS hA [3] [0, 1, 2, 4, 5, 6, 7, 8] rfl rfl (by decide) (by decide) (fun H locs hP hD hS => ?_)
  have hP : va_P D cls [(g, .inr (2, [.ref g0, .ref g1, .ref g2, .ref g3, .ref g4, .ref g5, .int gc])), (g0, .inl (k0, 16, .inl rE)), (g1, .inl (k1, 16, .inl (fun k => nI (nm k)))), (g3, .inl (k3, 16, .inl bF)), (g4, .inl (k4, 16, .inl oR)), (g5, .inl (k5, 16, .inl cH)), (w, .inr (1, [.ref hd, .int ct])), (hd, .inl (cA, 16, .inl h)), (g2, .inl (k2, 16, .inl (fun _ => (nI 0))))] H := hP
  have hD : va_D A [(g, .inr (2, [.ref g0, .ref g1, .ref g2, .ref g3, .ref g4, .ref g5, .int gc])), (g0, .inl (k0, 16, .inl rE)), (g1, .inl (k1, 16, .inl (fun k => nI (nm k)))), (g3, .inl (k3, 16, .inl bF)), (g4, .inl (k4, 16, .inl oR)), (g5, .inl (k5, 16, .inl cH)), (w, .inr (1, [.ref hd, .int ct])), (hd, .inl (cA, 16, .inl h)), (g2, .inl (k2, 16, .inl (fun _ => (nI 0))))] := hD
  refine lv_aload_n hx hb d_Gr_readLeads_8 rfl (lv_at hl 0 rfl) ?_
  refine va_get (D := D) (ci := 2) (v := .ref g3) (C := R_Gr) (T := F_Gr) (N := 7) hx hb hB in_Gr hown hK hP 0 rfl rfl 3 (by decide) (hB _ mf_Gr_21) (fun _ h9 => h9) rfl d_Gr_readLeads_9 ?_
  refine lv_iconst (v := nI 0) hx hb d_Gr_readLeads_12 (by decide) ?_
  refine xw_v (wc := [(g3, .inl (k3, 16, .inl bF))]) (wr := [(g, .inr (2, [.ref g0, .ref g1, .ref g2, .ref g3, .ref g4, .ref g5, .int gc])), (g0, .inl (k0, 16, .inl rE)), (g1, .inl (k1, 16, .inl (fun k => nI (nm k)))), (g4, .inl (k4, 16, .inl oR)), (g5, .inl (k5, 16, .inl cH)), (w, .inr (1, [.ref hd, .int ct])), (hd, .inl (cA, 16, .inl h)), (g2, .inl (k2, 16, .inl (fun _ => (nI 0))))]) (w1 := [(g3, .inl (k3, 16, .inl (fun _ => (nI 0))))]) (va_runS (As := [.ref g3, .int (nI 0)]) (rest := []) ⟨hx, hb, hml, hown, hB⟩ (k_Ar_fill l D g3 k3 16 bF (nI 0) (by decide) _) ⟨callB_of 2 hB (xg0 mc_Ar_fill) rfl rfl rfl (hB _ mz_Ar) (hB _ ml_Gr_80) (by decide +kernel) ⟨Nat.le_of_ble_eq_true rfl, Nat.le_of_ble_eq_true rfl⟩, hB _ ms_Ar_fill⟩ (xqS (ws := [(g3, .inl (k3, 16, .inl bF))]) (tys := [(k3, .int)]) (hP.sub [3] rfl) (hD.sub [3] (by decide) rfl) (hK.sub [3] rfl) hN) rfl rfl hl.1 rfl (lv_room (Nat.le_of_ble_eq_true rfl)) d_Gr_readLeads_13 ⟨Nat.le_of_ble_eq_true rfl, Nat.le_of_ble_eq_true rfl⟩) hP hD hS hA [3] [0, 1, 2, 4, 5, 6, 7, 8] rfl rfl (by decide) (by decide) (fun H locs hP hD hS => ?_)
  have hP : va_P D cls [(g, .inr (2, [.ref g0, .ref g1, .ref g2, .ref g3, .ref g4, .ref g5, .int gc])), (g0, .inl (k0, 16, .inl rE)), (g1, .inl (k1, 16, .inl (fun k => nI (nm k)))), (g4, .inl (k4, 16, .inl oR)), (g5, .inl (k5, 16, .inl cH)), (w, .inr (1, [.ref hd, .int ct])), (hd, .inl (cA, 16, .inl h)), (g2, .inl (k2, 16, .inl (fun _ => (nI 0)))), (g3, .inl (k3, 16, .inl (fun _ => (nI 0))))] H := hP
  have hD : va_D A [(g, .inr (2, [.ref g0, .ref g1, .ref g2, .ref g3, .ref g4, .ref g5, .int gc])), (g0, .inl (k0, 16, .inl rE)), (g1, .inl (k1, 16, .inl (fun k => nI (nm k)))), (g4, .inl (k4, 16, .inl oR)), (g5, .inl (k5, 16, .inl cH)), (w, .inr (1, [.ref hd, .int ct])), (hd, .inl (cA, 16, .inl h)), (g2, .inl (k2, 16, .inl (fun _ => (nI 0)))), (g3, .inl (k3, 16, .inl (fun _ => (nI 0))))] := hD
  refine lv_iconst (v := nI 0) hx hb d_Gr_readLeads_16 (by decide) ?_
  refine lv_istore_n hx hb d_Gr_readLeads_17 rfl hl (by decide) rfl (fun ls hl => ?_)
  have hl : lv_has ls 4 [(2, .int (nI 0)), (0, .ref g), (1, .ref w)] := hl
  have hP := xP_ext hP 7 (LTp h nm 0 0) rfl (fun j9 hj9 => congrFun LTp_00 j9)
  have hD := xD_ext hD 7 (y := .inl (k2, 16, .inl (LTp h nm 0 0))) rfl
  have hP : va_P D cls [(g, .inr (2, [.ref g0, .ref g1, .ref g2, .ref g3, .ref g4, .ref g5, .int gc])), (g0, .inl (k0, 16, .inl rE)), (g1, .inl (k1, 16, .inl (fun k => nI (nm k)))), (g4, .inl (k4, 16, .inl oR)), (g5, .inl (k5, 16, .inl cH)), (w, .inr (1, [.ref hd, .int ct])), (hd, .inl (cA, 16, .inl h)), (g2, .inl (k2, 16, .inl (LTp h nm 0 0))), (g3, .inl (k3, 16, .inl (fun _ => (nI 0))))] _ := hP
  have hD : va_D A [(g, .inr (2, [.ref g0, .ref g1, .ref g2, .ref g3, .ref g4, .ref g5, .int gc])), (g0, .inl (k0, 16, .inl rE)), (g1, .inl (k1, 16, .inl (fun k => nI (nm k)))), (g4, .inl (k4, 16, .inl oR)), (g5, .inl (k5, 16, .inl cH)), (w, .inr (1, [.ref hd, .int ct])), (hd, .inl (cA, 16, .inl h)), (g2, .inl (k2, 16, .inl (LTp h nm 0 0))), (g3, .inl (k3, 16, .inl (fun _ => (nI 0))))] := hD
  have hP := xP_ext hP 8 (BFp h nm 0 0) rfl (fun j9 hj9 => congrFun BFp_00 j9)
  have hD := xD_ext hD 8 (y := .inl (k3, 16, .inl (BFp h nm 0 0))) rfl
  have hP : va_P D cls [(g, .inr (2, [.ref g0, .ref g1, .ref g2, .ref g3, .ref g4, .ref g5, .int gc])), (g0, .inl (k0, 16, .inl rE)), (g1, .inl (k1, 16, .inl (fun k => nI (nm k)))), (g4, .inl (k4, 16, .inl oR)), (g5, .inl (k5, 16, .inl cH)), (w, .inr (1, [.ref hd, .int ct])), (hd, .inl (cA, 16, .inl h)), (g2, .inl (k2, 16, .inl (LTp h nm 0 0))), (g3, .inl (k3, 16, .inl (BFp h nm 0 0)))] _ := hP
  have hD : va_D A [(g, .inr (2, [.ref g0, .ref g1, .ref g2, .ref g3, .ref g4, .ref g5, .int gc])), (g0, .inl (k0, 16, .inl rE)), (g1, .inl (k1, 16, .inl (fun k => nI (nm k)))), (g4, .inl (k4, 16, .inl oR)), (g5, .inl (k5, 16, .inl cH)), (w, .inr (1, [.ref hd, .int ct])), (hd, .inl (cA, 16, .inl h)), (g2, .inl (k2, 16, .inl (LTp h nm 0 0))), (g3, .inl (k3, 16, .inl (BFp h nm 0 0)))] := hD
  refine xl_w (fun (u : Nat) ls H locs => ((u ≤ 16)) ∧ lv_has ls 4 [(2, .int (nI u)), (0, .ref g), (1, .ref w)] ∧ va_P D cls [(g, .inr (2, [.ref g0, .ref g1, .ref g2, .ref g3, .ref g4, .ref g5, .int gc])), (g0, .inl (k0, 16, .inl rE)), (g1, .inl (k1, 16, .inl (fun k => nI (nm k)))), (g4, .inl (k4, 16, .inl oR)), (g5, .inl (k5, 16, .inl cH)), (w, .inr (1, [.ref hd, .int ct])), (hd, .inl (cA, 16, .inl h)), (g2, .inl (k2, 16, .inl (LTp h nm u 0))), (g3, .inl (k3, 16, .inl (BFp h nm u 0)))] H ∧ va_D A [(g, .inr (2, [.ref g0, .ref g1, .ref g2, .ref g3, .ref g4, .ref g5, .int gc])), (g0, .inl (k0, 16, .inl rE)), (g1, .inl (k1, 16, .inl (fun k => nI (nm k)))), (g4, .inl (k4, 16, .inl oR)), (g5, .inl (k5, 16, .inl cH)), (w, .inr (1, [.ref hd, .int ct])), (hd, .inl (cA, 16, .inl h)), (g2, .inl (k2, 16, .inl (LTp h nm u 0))), (g3, .inl (k3, 16, .inl (BFp h nm u 0)))] ∧ va_S A s.heap H locs) (fun u => 16 - u) (fun u ls H locs hI ih18 => ?_) 0 _ ⟨Nat.zero_le _, hl, hP, hD, hS⟩
  obtain ⟨hI, hl, hP, hD, hS⟩ := hI
  have hu := hI
  refine lv_iload_n hx hb d_Gr_readLeads_18 rfl (lv_at hl 0 rfl) ?_
  refine lv_bipush (v := nI 16) hx hb d_Gr_readLeads_19 (by decide) ?_
  refine lv_icmp_ge (tgt := 114) hx hb d_Gr_readLeads_21 rfl (fun hc21 => ?_) (fun hc21 => ?_)
  · have hc21 : 16 ≤ u := (nI_leI (by omega) (by omega)).mp hc21
    have hz : (LTp h nm u 0) = (LTp h nm 16 0) := by rw [show u = 16 by omega]
    rw [hz] at hP hD
    have hz : (BFp h nm u 0) = (BFp h nm 16 0) := by rw [show u = 16 by omega]
    rw [hz] at hP hD
    have hP9 := hP.sub (ws' := [(g, .inr (2, [.ref g0, .ref g1, .ref g2, .ref g3, .ref g4, .ref g5, .int gc])), (g0, .inl (k0, 16, .inl rE)), (g1, .inl (k1, 16, .inl (fun k => nI (nm k)))), (g2, .inl (k2, 16, .inl (LTp h nm 16 0))), (g3, .inl (k3, 16, .inl (BFp h nm 16 0))), (g4, .inl (k4, 16, .inl oR)), (g5, .inl (k5, 16, .inl cH)), (w, .inr (1, [.ref hd, .int ct])), (hd, .inl (cA, 16, .inl h))]) [0, 1, 2, 7, 8, 3, 4, 5, 6] rfl
    have hD9 := hD.sub (ws' := [(g, .inr (2, [.ref g0, .ref g1, .ref g2, .ref g3, .ref g4, .ref g5, .int gc])), (g0, .inl (k0, 16, .inl rE)), (g1, .inl (k1, 16, .inl (fun k => nI (nm k)))), (g2, .inl (k2, 16, .inl (LTp h nm 16 0))), (g3, .inl (k3, 16, .inl (BFp h nm 16 0))), (g4, .inl (k4, 16, .inl oR)), (g5, .inl (k5, 16, .inl cH)), (w, .inr (1, [.ref hd, .int ct])), (hd, .inl (cA, 16, .inl h))]) [0, 1, 2, 7, 8, 3, 4, 5, 6] (by decide) rfl
    subst hAe
    exact W.vret hx hb hr (fun t ht hW => ⟨⟨(), rfl, trivial, by rw [ht]; exact hP9, va_K.moved hW.alike hK, hD9⟩, hS.F ht⟩) hS.2.2 d_Gr_readLeads_114
  · have hc21 : ¬ (16 ≤ u) := fun q9 => hc21 ((nI_leI (by omega) (by omega)).mpr q9)
    refine lv_iconst (v := nI 0) hx hb d_Gr_readLeads_24 (by decide) ?_
    refine lv_istore_n hx hb d_Gr_readLeads_25 rfl hl (by decide) rfl (fun ls hl => ?_)
    have hl : lv_has ls 4 [(3, .int (nI 0)), (2, .int (nI u)), (0, .ref g), (1, .ref w)] := hl
    refine xl_w (fun (v : Nat) ls H locs => ((v ≤ 16)) ∧ lv_has ls 4 [(3, .int (nI v)), (2, .int (nI u)), (0, .ref g), (1, .ref w)] ∧ va_P D cls [(g, .inr (2, [.ref g0, .ref g1, .ref g2, .ref g3, .ref g4, .ref g5, .int gc])), (g0, .inl (k0, 16, .inl rE)), (g1, .inl (k1, 16, .inl (fun k => nI (nm k)))), (g4, .inl (k4, 16, .inl oR)), (g5, .inl (k5, 16, .inl cH)), (w, .inr (1, [.ref hd, .int ct])), (hd, .inl (cA, 16, .inl h)), (g2, .inl (k2, 16, .inl (LTp h nm u v))), (g3, .inl (k3, 16, .inl (BFp h nm u v)))] H ∧ va_D A [(g, .inr (2, [.ref g0, .ref g1, .ref g2, .ref g3, .ref g4, .ref g5, .int gc])), (g0, .inl (k0, 16, .inl rE)), (g1, .inl (k1, 16, .inl (fun k => nI (nm k)))), (g4, .inl (k4, 16, .inl oR)), (g5, .inl (k5, 16, .inl cH)), (w, .inr (1, [.ref hd, .int ct])), (hd, .inl (cA, 16, .inl h)), (g2, .inl (k2, 16, .inl (LTp h nm u v))), (g3, .inl (k3, 16, .inl (BFp h nm u v)))] ∧ va_S A s.heap H locs) (fun v => 16 - v) (fun v ls H locs hI ih26 => ?_) 0 _ ⟨Nat.zero_le _, hl, hP, hD, hS⟩
    obtain ⟨hI, hl, hP, hD, hS⟩ := hI
    have hv := hI
    refine lv_iload_n hx hb d_Gr_readLeads_26 rfl (lv_at hl 0 rfl) ?_
    refine lv_bipush (v := nI 16) hx hb d_Gr_readLeads_27 (by decide) ?_
    refine lv_icmp_ge (tgt := 108) hx hb d_Gr_readLeads_29 rfl (fun hc29 => ?_) (fun hc29 => ?_)
    · have hc29 : 16 ≤ v := (nI_leI (by omega) (by omega)).mp hc29
      have hz : (LTp h nm u v) = (LTp h nm (u + 1) 0) := by rw [show v = 16 by omega]; exact LTp_row
      rw [hz] at hP hD
      have hz : (BFp h nm u v) = (BFp h nm (u + 1) 0) := by rw [show v = 16 by omega]; exact BFp_row
      rw [hz] at hP hD
      refine lv_iinc hx hb d_Gr_readLeads_108 hl (k := 1) rfl (v := nI (u + 1)) (nI_1 u) (by decide) rfl (fun ls hl => ?_)
      have hl : lv_has ls 4 [(2, .int (nI (u + 1))), (3, .int (nI v)), (0, .ref g), (1, .ref w)] := hl
      refine lv_goto (tgt := 18) hx hb d_Gr_readLeads_111 rfl ?_
      exact ih18 (u + 1) _ H locs ⟨by omega, lv_sub hl [0, 2, 3] rfl, hP, hD, hS⟩ (by omega)
    · have hc29 : ¬ (16 ≤ v) := fun q9 => hc29 ((nI_leI (by omega) (by omega)).mpr q9)
      refine lv_aload_n hx hb d_Gr_readLeads_32 rfl (lv_at hl 3 rfl) ?_
      refine lv_iload_n hx hb d_Gr_readLeads_33 rfl (lv_at hl 1 rfl) ?_
      refine lv_iload_n hx hb d_Gr_readLeads_34 rfl (lv_at hl 0 rfl) ?_
      refine xr_cal (va_runV (As := [.int (nI u), .int (nI v)]) (rest := []) ⟨hx, hb, hml, hown, hB⟩ (k_Web_holds l D w hd cA ct h u v (by omega) (by omega)) ⟨callB_of 2 hB (xg0 mc_Web_holds) rfl rfl rfl (hB _ mz_Web) (hB _ ml_Gr_86) (by decide +kernel) ⟨Nat.le_of_ble_eq_true rfl, Nat.le_of_ble_eq_true rfl⟩, hB _ mi_Web_holds, hB _ me_Web_holds⟩ (xpV (ws := [(w, .inr (1, [.ref hd, .int ct])), (hd, .inl (cA, 16, .inl h))]) (tys := [(cA, .int)]) (hP.sub [5, 6] rfl) (hK.sub [6] rfl) hN (va_recv (ci := 1) (q0 := 5) (q := (R_Web, F_Web, 2)) hK hP rfl rfl)) rfl rfl hl.1 rfl (lv_room (Nat.le_of_ble_eq_true rfl)) d_Gr_readLeads_35 ⟨Nat.le_of_ble_eq_true rfl, Nat.le_of_ble_eq_true rfl⟩) ?_
      refine lv_if_eq (tgt := 102) hx hb d_Gr_readLeads_38 rfl (fun hc38 => ?_) (fun hc38 => ?_)
      · have hc38 := b2i_0.mp hc38
        have hz : (LTp h nm u v) = (LTp h nm u (v + 1)) := LTp_skip (by first | (intro q9; rw [hc38] at q9; exact absurd q9.1 (by decide)) | exact fun q9 => q9.2 hc53)
        rw [hz] at hP hD
        have hz : (BFp h nm u v) = (BFp h nm u (v + 1)) := BFp_skip (by first | (intro q9; rw [hc38] at q9; exact absurd q9.1 (by decide)) | exact fun q9 => q9.2 hc53)
        rw [hz] at hP hD
        refine lv_iinc hx hb d_Gr_readLeads_102 hl (k := 0) rfl (v := nI (v + 1)) (nI_1 v) (by decide) rfl (fun ls hl => ?_)
        have hl : lv_has ls 4 [(3, .int (nI (v + 1))), (2, .int (nI u)), (0, .ref g), (1, .ref w)] := hl
        refine lv_goto (tgt := 26) hx hb d_Gr_readLeads_105 rfl ?_
        exact ih26 (v + 1) _ H locs ⟨by omega, lv_sub hl [0, 1, 2, 3] rfl, hP, hD, hS⟩ (by omega)
      · have hc38 := b2i_n.mp hc38
        have hnu := hnm u (by omega)
        have hnv := hnm v (by omega)
        refine lv_aload_n hx hb d_Gr_readLeads_41 rfl (lv_at hl 2 rfl) ?_
        refine va_get (D := D) (ci := 2) (v := .ref g1) (C := R_Gr) (T := F_Gr) (N := 7) hx hb hB in_Gr hown hK hP 0 rfl rfl 1 (by decide) (hB _ mf_Gr_15) (fun _ h9 => h9) rfl d_Gr_readLeads_42 ?_
        refine lv_iload_n hx hb d_Gr_readLeads_45 rfl (lv_at hl 1 rfl) ?_
        refine xa_ld (u := u) hx hb hK hP 2 1 rfl rfl (by omega) (by decide) d_Gr_readLeads_46 ?_
        refine xv_top (x' := nI (nm u)) (rfl) ?_
        refine lv_aload_n hx hb d_Gr_readLeads_47 rfl (lv_at hl 2 rfl) ?_
        refine va_get (D := D) (ci := 2) (v := .ref g1) (C := R_Gr) (T := F_Gr) (N := 7) hx hb hB in_Gr hown hK hP 0 rfl rfl 1 (by decide) (hB _ mf_Gr_15) (fun _ h9 => h9) rfl d_Gr_readLeads_48 ?_
        refine lv_iload_n hx hb d_Gr_readLeads_51 rfl (lv_at hl 0 rfl) ?_
        refine xa_ld (u := v) hx hb hK hP 2 1 rfl rfl (by omega) (by decide) d_Gr_readLeads_52 ?_
        refine xv_top (x' := nI (nm v)) (rfl) ?_
        refine lv_icmp_eq (tgt := 102) hx hb d_Gr_readLeads_53 rfl (fun hc53 => ?_) (fun hc53 => ?_)
        · have hc53 : (nm u) = (nm v) := (nI_eq (by omega) (by omega)).mp hc53
          have hz : (LTp h nm u v) = (LTp h nm u (v + 1)) := LTp_skip (by first | (intro q9; rw [hc38] at q9; exact absurd q9.1 (by decide)) | exact fun q9 => q9.2 hc53)
          rw [hz] at hP hD
          have hz : (BFp h nm u v) = (BFp h nm u (v + 1)) := BFp_skip (by first | (intro q9; rw [hc38] at q9; exact absurd q9.1 (by decide)) | exact fun q9 => q9.2 hc53)
          rw [hz] at hP hD
          refine lv_iinc hx hb d_Gr_readLeads_102 hl (k := 0) rfl (v := nI (v + 1)) (nI_1 v) (by decide) rfl (fun ls hl => ?_)
          have hl : lv_has ls 4 [(3, .int (nI (v + 1))), (2, .int (nI u)), (0, .ref g), (1, .ref w)] := hl
          refine lv_goto (tgt := 26) hx hb d_Gr_readLeads_105 rfl ?_
          exact ih26 (v + 1) _ H locs ⟨by omega, lv_sub hl [0, 1, 2, 3] rfl, hP, hD, hS⟩ (by omega)
        · have hc53 : ¬ ((nm u) = (nm v)) := fun q9 => hc53 ((nI_eq (by omega) (by omega)).mpr q9)
          refine lv_aload_n hx hb d_Gr_readLeads_56 rfl (lv_at hl 2 rfl) ?_
          refine va_get (D := D) (ci := 2) (v := .ref g2) (C := R_Gr) (T := F_Gr) (N := 7) hx hb hB in_Gr hown hK hP 0 rfl rfl 2 (by decide) (hB _ mf_Gr_18) (fun _ h9 => h9) rfl d_Gr_readLeads_57 ?_
          refine lv_aload_n hx hb d_Gr_readLeads_60 rfl (lv_at hl 2 rfl) ?_
          refine va_get (D := D) (ci := 2) (v := .ref g1) (C := R_Gr) (T := F_Gr) (N := 7) hx hb hB in_Gr hown hK hP 0 rfl rfl 1 (by decide) (hB _ mf_Gr_15) (fun _ h9 => h9) rfl d_Gr_readLeads_61 ?_
          refine lv_iload_n hx hb d_Gr_readLeads_64 rfl (lv_at hl 1 rfl) ?_
          refine xa_ld (u := u) hx hb hK hP 2 1 rfl rfl (by omega) (by decide) d_Gr_readLeads_65 ?_
          refine xv_top (x' := nI (nm u)) (rfl) ?_
          refine lv_dup2_11 hx hb d_Gr_readLeads_66 rfl rfl ?_
          refine xa_ld (u := (nm u)) hx hb hK hP 7 2 rfl rfl (by omega) (by decide) d_Gr_readLeads_67 ?_
          refine lv_aload_n hx hb d_Gr_readLeads_68 rfl (lv_at hl 2 rfl) ?_
          refine va_get (D := D) (ci := 2) (v := .ref g1) (C := R_Gr) (T := F_Gr) (N := 7) hx hb hB in_Gr hown hK hP 0 rfl rfl 1 (by decide) (hB _ mf_Gr_15) (fun _ h9 => h9) rfl d_Gr_readLeads_69 ?_
          refine lv_iload_n hx hb d_Gr_readLeads_72 rfl (lv_at hl 0 rfl) ?_
          refine xa_ld (u := v) hx hb hK hP 2 1 rfl rfl (by omega) (by decide) d_Gr_readLeads_73 ?_
          refine xv_top (x' := nI (nm v)) (rfl) ?_
          refine xr_cal (va_runSN (As := [.int (nI (nm v))]) (rest := [.int ((LTp h nm u v) (nm u)), .int (nI (nm u)), .ref g2]) ⟨hx, hb, hml, hown, hB⟩ (k_A_only l D (nm v)) ⟨va_cnB 1 hB (xg0 mc_A_only) rfl rfl rfl (xn_Gr_57 hN) (hB _ mz_A) (by decide +kernel) ⟨Nat.le_of_ble_eq_true rfl, Nat.le_of_ble_eq_true rfl⟩, hB _ ms_A_only, trivial⟩ (xpS (ws := []) (tys := []) (hP.sub [] rfl) (hK.sub [] rfl) hN) rfl rfl hl.1 rfl (lv_room (Nat.le_of_ble_eq_true rfl)) d_Gr_readLeads_74 ⟨Nat.le_of_ble_eq_true rfl, Nat.le_of_ble_eq_true rfl⟩) ?_
          refine lv_ior hx hb d_Gr_readLeads_77 ?_
          refine xa_st (u := (nm u)) hx hb hK hP hD hS 7 2 rfl rfl (by omega) (by decide) d_Gr_readLeads_78 (fun H locs hP hD hS => ?_)
          have hP : va_P D cls [(g, .inr (2, [.ref g0, .ref g1, .ref g2, .ref g3, .ref g4, .ref g5, .int gc])), (g0, .inl (k0, 16, .inl rE)), (g1, .inl (k1, 16, .inl (fun k => nI (nm k)))), (g4, .inl (k4, 16, .inl oR)), (g5, .inl (k5, 16, .inl cH)), (w, .inr (1, [.ref hd, .int ct])), (hd, .inl (cA, 16, .inl h)), (g2, .inl (k2, 16, .inl (upd (LTp h nm u v) (nm u) (((LTp h nm u v) (nm u)) ||| (bit (nm v)))))), (g3, .inl (k3, 16, .inl (BFp h nm u v)))] H := hP
          have hD : va_D A [(g, .inr (2, [.ref g0, .ref g1, .ref g2, .ref g3, .ref g4, .ref g5, .int gc])), (g0, .inl (k0, 16, .inl rE)), (g1, .inl (k1, 16, .inl (fun k => nI (nm k)))), (g4, .inl (k4, 16, .inl oR)), (g5, .inl (k5, 16, .inl cH)), (w, .inr (1, [.ref hd, .int ct])), (hd, .inl (cA, 16, .inl h)), (g2, .inl (k2, 16, .inl (upd (LTp h nm u v) (nm u) (((LTp h nm u v) (nm u)) ||| (bit (nm v)))))), (g3, .inl (k3, 16, .inl (BFp h nm u v)))] := hD
          refine lv_aload_n hx hb d_Gr_readLeads_79 rfl (lv_at hl 2 rfl) ?_
          refine va_get (D := D) (ci := 2) (v := .ref g3) (C := R_Gr) (T := F_Gr) (N := 7) hx hb hB in_Gr hown hK hP 0 rfl rfl 3 (by decide) (hB _ mf_Gr_21) (fun _ h9 => h9) rfl d_Gr_readLeads_80 ?_
          refine lv_aload_n hx hb d_Gr_readLeads_83 rfl (lv_at hl 2 rfl) ?_
          refine va_get (D := D) (ci := 2) (v := .ref g1) (C := R_Gr) (T := F_Gr) (N := 7) hx hb hB in_Gr hown hK hP 0 rfl rfl 1 (by decide) (hB _ mf_Gr_15) (fun _ h9 => h9) rfl d_Gr_readLeads_84 ?_
          refine lv_iload_n hx hb d_Gr_readLeads_87 rfl (lv_at hl 0 rfl) ?_
          refine xa_ld (u := v) hx hb hK hP 2 1 rfl rfl (by omega) (by decide) d_Gr_readLeads_88 ?_
          refine xv_top (x' := nI (nm v)) (rfl) ?_
          refine lv_dup2_11 hx hb d_Gr_readLeads_89 rfl rfl ?_
          refine xa_ld (u := (nm v)) hx hb hK hP 8 3 rfl rfl (by omega) (by decide) d_Gr_readLeads_90 ?_
          refine lv_aload_n hx hb d_Gr_readLeads_91 rfl (lv_at hl 2 rfl) ?_
          refine va_get (D := D) (ci := 2) (v := .ref g1) (C := R_Gr) (T := F_Gr) (N := 7) hx hb hB in_Gr hown hK hP 0 rfl rfl 1 (by decide) (hB _ mf_Gr_15) (fun _ h9 => h9) rfl d_Gr_readLeads_92 ?_
          refine lv_iload_n hx hb d_Gr_readLeads_95 rfl (lv_at hl 1 rfl) ?_
          refine xa_ld (u := u) hx hb hK hP 2 1 rfl rfl (by omega) (by decide) d_Gr_readLeads_96 ?_
          refine xv_top (x' := nI (nm u)) (rfl) ?_
          refine xr_cal (va_runSN (As := [.int (nI (nm u))]) (rest := [.int ((BFp h nm u v) (nm v)), .int (nI (nm v)), .ref g3]) ⟨hx, hb, hml, hown, hB⟩ (k_A_only l D (nm u)) ⟨va_cnB 1 hB (xg0 mc_A_only) rfl rfl rfl (xn_Gr_57 hN) (hB _ mz_A) (by decide +kernel) ⟨Nat.le_of_ble_eq_true rfl, Nat.le_of_ble_eq_true rfl⟩, hB _ ms_A_only, trivial⟩ (xpS (ws := []) (tys := []) (hP.sub [] rfl) (hK.sub [] rfl) hN) rfl rfl hl.1 rfl (lv_room (Nat.le_of_ble_eq_true rfl)) d_Gr_readLeads_97 ⟨Nat.le_of_ble_eq_true rfl, Nat.le_of_ble_eq_true rfl⟩) ?_
          refine lv_ior hx hb d_Gr_readLeads_100 ?_
          refine xa_st (u := (nm v)) hx hb hK hP hD hS 8 3 rfl rfl (by omega) (by decide) d_Gr_readLeads_101 (fun H locs hP hD hS => ?_)
          have hP : va_P D cls [(g, .inr (2, [.ref g0, .ref g1, .ref g2, .ref g3, .ref g4, .ref g5, .int gc])), (g0, .inl (k0, 16, .inl rE)), (g1, .inl (k1, 16, .inl (fun k => nI (nm k)))), (g4, .inl (k4, 16, .inl oR)), (g5, .inl (k5, 16, .inl cH)), (w, .inr (1, [.ref hd, .int ct])), (hd, .inl (cA, 16, .inl h)), (g2, .inl (k2, 16, .inl (upd (LTp h nm u v) (nm u) (((LTp h nm u v) (nm u)) ||| (bit (nm v)))))), (g3, .inl (k3, 16, .inl (upd (BFp h nm u v) (nm v) (((BFp h nm u v) (nm v)) ||| (bit (nm u))))))] H := hP
          have hD : va_D A [(g, .inr (2, [.ref g0, .ref g1, .ref g2, .ref g3, .ref g4, .ref g5, .int gc])), (g0, .inl (k0, 16, .inl rE)), (g1, .inl (k1, 16, .inl (fun k => nI (nm k)))), (g4, .inl (k4, 16, .inl oR)), (g5, .inl (k5, 16, .inl cH)), (w, .inr (1, [.ref hd, .int ct])), (hd, .inl (cA, 16, .inl h)), (g2, .inl (k2, 16, .inl (upd (LTp h nm u v) (nm u) (((LTp h nm u v) (nm u)) ||| (bit (nm v)))))), (g3, .inl (k3, 16, .inl (upd (BFp h nm u v) (nm v) (((BFp h nm u v) (nm v)) ||| (bit (nm u))))))] := hD
          have hz : (upd (LTp h nm u v) (nm u) (((LTp h nm u v) (nm u)) ||| (bit (nm v)))) = (LTp h nm u (v + 1)) := LTp_add (by omega) (by omega) hc38 hc53 hnv
          rw [hz] at hP hD
          have hz : (upd (BFp h nm u v) (nm v) (((BFp h nm u v) (nm v)) ||| (bit (nm u)))) = (BFp h nm u (v + 1)) := BFp_add (by omega) (by omega) hc38 hc53 hnu
          rw [hz] at hP hD
          refine lv_iinc hx hb d_Gr_readLeads_102 hl (k := 0) rfl (v := nI (v + 1)) (nI_1 v) (by decide) rfl (fun ls hl => ?_)
          have hl : lv_has ls 4 [(3, .int (nI (v + 1))), (2, .int (nI u)), (0, .ref g), (1, .ref w)] := hl
          refine lv_goto (tgt := 26) hx hb d_Gr_readLeads_105 rfl ?_
          exact ih26 (v + 1) _ H locs ⟨by omega, lv_sub hl [0, 1, 2, 3] rfl, hP, hD, hS⟩ (by omega)
set_option maxHeartbeats 4000000 in
set_option maxRecDepth 100000 in
theorem k_Gr_readOrder (l : Launch) (D : va_G) (g g0 g1 g2 g3 g4 g5 : Nat) (k0 k1 k2 k3 k4 k5 : ClassId) (cn9 : Nat) (rE : Nat → Int32) (nM : Nat → Int32) (lD : Nat → Int32) (bF : Nat → Int32) (oR : Nat → Int32) (cH : Nat → Int32) (hcn : cn9 ≤ 16) (sz : Nat) : Met l y_Gr_readOrder (Cond.code y_Gr_readOrder c_Gr_readOrder 3 none :: BS) { frames := 2, cells := 0, slots := 0, locals := 43 } (va_Pc [.ref g] (xWp D [(g, .inr (2, [.ref g0, .ref g1, .ref g2, .ref g3, .ref g4, .ref g5, .int (nI cn9)])), (g0, .inl (k0, 16, .inl rE)), (g1, .inl (k1, 16, .inl nM)), (g2, .inl (k2, 16, .inl lD)), (g3, .inl (k3, 16, .inl bF)), (g4, .inl (k4, 16, .inl oR)), (g5, .inl (k5, 16, .inl cH))] [(k0, .int), (k1, .int), (k2, .int), (k3, .int), (k4, .int), (k5, .int)] sz)) (xQv D [(g, .inr (2, [.ref g0, .ref g1, .ref g2, .ref g3, .ref g4, .ref g5, .int (nI cn9)])), (g0, .inl (k0, 16, .inl rE)), (g1, .inl (k1, 16, .inl nM)), (g2, .inl (k2, 16, .inl lD)), (g3, .inl (k3, 16, .inl bF)), (g4, .inl (k4, 16, .inl oR)), (g5, .inl (k5, 16, .inl cH))] [(g, .inr (2, [.ref g0, .ref g1, .ref g2, .ref g3, .ref g4, .ref g5, .int (nI cn9)])), (g0, .inl (k0, 16, .inl rE)), (g1, .inl (k1, 16, .inl nM)), (g2, .inl (k2, 16, .inl lD)), (g3, .inl (k3, 16, .inl bF)), (g4, .inl (k4, 16, .inl (fun k => if k < cn9 then nI (nxF nM bF (plF nM bF k)) else oR k))), (g5, .inl (k5, 16, .inl cH))] [(k0, .int), (k1, .int), (k2, .int), (k3, .int), (k4, .int), (k5, .int)] sz) 0 0 (va_A [(g, .inr (2, [.ref g0, .ref g1, .ref g2, .ref g3, .ref g4, .ref g5, .int (nI cn9)])), (g0, .inl (k0, 16, .inl rE)), (g1, .inl (k1, 16, .inl nM)), (g2, .inl (k2, 16, .inl lD)), (g3, .inl (k3, 16, .inl bF)), (g4, .inl (k4, 16, .inl oR)), (g5, .inl (k5, 16, .inl cH))] sz) := by
  refine Met.ofW (cc := c_Gr_readOrder) (maxL := 3) (ret := none) (by decide) rfl ?_
  intro p e s m args below meth c s₁ B hml hv
  obtain ⟨rfl, hsz, hP, hK, hD0, hN⟩ := hv
  have hx := B.exec
  have hb := B.bytes
  have hr := B.returns
  have hB := xB B.pre
  have hown : s.vm.findClass R_Gr = some m.cls := findClass_of_methodNamed B.named
  have hlocks := B.notSynchronized
  subst hsz
  have hD := hD0.self (sz := s.heap.size)
  obtain ⟨A, hAe⟩ : ∃ A, A = va_A [(g, .inr (2, [.ref g0, .ref g1, .ref g2, .ref g3, .ref g4, .ref g5, .int (nI cn9)])), (g0, .inl (k0, 16, .inl rE)), (g1, .inl (k1, 16, .inl nM)), (g2, .inl (k2, 16, .inl lD)), (g3, .inl (k3, 16, .inl bF)), (g4, .inl (k4, 16, .inl oR)), (g5, .inl (k5, 16, .inl cH))] s.heap.size := ⟨_, rfl⟩
  rw [← hAe] at hD
  have hA : ∀ q : Nat, s.heap.size ≤ q → A q := fun q h => by rw [hAe]; exact Or.inr h
  have hS : va_S A s.heap s.heap [] := va_S.rf
  have hl := lv_entry ([.ref g]) (n := 3) (Nat.le_of_ble_eq_true rfl)
  rw [lg_entry_eq]
  generalize (lg_sl ([.ref g]) ++ List.replicate (3 - (lg_sl ([.ref g])).length) Slot.unset).toArray = ls at hl ⊢
  have hl : lv_has ls 3 [(0, .ref g)] := hl
  refine lv_iconst (v := nI 0) hx hb d_Gr_readOrder_0 (by decide) ?_
  refine lv_istore_n hx hb d_Gr_readOrder_1 rfl hl (by decide) rfl (fun ls hl => ?_)
  have hl : lv_has ls 3 [(1, .int (nI 0)), (0, .ref g)] := hl
  refine lv_iconst (v := nI 0) hx hb d_Gr_readOrder_2 (by decide) ?_
  refine lv_istore_n hx hb d_Gr_readOrder_3 rfl hl (by decide) rfl (fun ls hl => ?_)
  have hl : lv_has ls 3 [(2, .int (nI 0)), (1, .int (nI 0)), (0, .ref g)] := hl
  have hz : oR = (fun k => if k < 0 then nI (nxF nM bF (plF nM bF k)) else oR k) := lt0_f
  rw [hz] at hP hD
  refine xl_w (fun (u : Nat) ls H locs => ((u ≤ cn9)) ∧ lv_has ls 3 [(2, .int (nI u)), (1, .int (plF nM bF u)), (0, .ref g)] ∧ va_P D cls [(g, .inr (2, [.ref g0, .ref g1, .ref g2, .ref g3, .ref g4, .ref g5, .int (nI cn9)])), (g0, .inl (k0, 16, .inl rE)), (g1, .inl (k1, 16, .inl nM)), (g2, .inl (k2, 16, .inl lD)), (g3, .inl (k3, 16, .inl bF)), (g4, .inl (k4, 16, .inl (fun k => if k < u then nI (nxF nM bF (plF nM bF k)) else oR k))), (g5, .inl (k5, 16, .inl cH))] H ∧ va_D A [(g, .inr (2, [.ref g0, .ref g1, .ref g2, .ref g3, .ref g4, .ref g5, .int (nI cn9)])), (g0, .inl (k0, 16, .inl rE)), (g1, .inl (k1, 16, .inl nM)), (g2, .inl (k2, 16, .inl lD)), (g3, .inl (k3, 16, .inl bF)), (g4, .inl (k4, 16, .inl (fun k => if k < u then nI (nxF nM bF (plF nM bF k)) else oR k))), (g5, .inl (k5, 16, .inl cH))] ∧ va_S A s.heap H locs) (fun u => cn9 - u) (fun u ls H locs hI ih4 => ?_) 0 _ ⟨Nat.zero_le _, hl, hP, hD, hS⟩
  obtain ⟨hI, hl, hP, hD, hS⟩ := hI
  have hu := hI
  refine lv_iload_n hx hb d_Gr_readOrder_4 rfl (lv_at hl 0 rfl) ?_
  refine lv_aload_n hx hb d_Gr_readOrder_5 rfl (lv_at hl 2 rfl) ?_
  refine va_get (D := D) (ci := 2) (v := .int (nI cn9)) (C := R_Gr) (T := F_Gr) (N := 7) hx hb hB in_Gr hown hK hP 0 rfl rfl 6 (by decide) (hB _ mf_Gr_30) (fun _ h9 => h9) rfl d_Gr_readOrder_6 ?_
  refine lv_icmp_ge (tgt := 41) hx hb d_Gr_readOrder_9 rfl (fun hc9 => ?_) (fun hc9 => ?_)
  · have hc9 : cn9 ≤ u := (nI_leI (by omega) (by omega)).mp hc9
    have hz : (fun k => if k < u then nI (nxF nM bF (plF nM bF k)) else oR k) = (fun k => if k < cn9 then nI (nxF nM bF (plF nM bF k)) else oR k) := by rw [show u = cn9 by omega]
    rw [hz] at hP hD
    have hP9 := hP.sub (ws' := [(g, .inr (2, [.ref g0, .ref g1, .ref g2, .ref g3, .ref g4, .ref g5, .int (nI cn9)])), (g0, .inl (k0, 16, .inl rE)), (g1, .inl (k1, 16, .inl nM)), (g2, .inl (k2, 16, .inl lD)), (g3, .inl (k3, 16, .inl bF)), (g4, .inl (k4, 16, .inl (fun k => if k < cn9 then nI (nxF nM bF (plF nM bF k)) else oR k))), (g5, .inl (k5, 16, .inl cH))]) [0, 1, 2, 3, 4, 5, 6] rfl
    have hD9 := hD.sub (ws' := [(g, .inr (2, [.ref g0, .ref g1, .ref g2, .ref g3, .ref g4, .ref g5, .int (nI cn9)])), (g0, .inl (k0, 16, .inl rE)), (g1, .inl (k1, 16, .inl nM)), (g2, .inl (k2, 16, .inl lD)), (g3, .inl (k3, 16, .inl bF)), (g4, .inl (k4, 16, .inl (fun k => if k < cn9 then nI (nxF nM bF (plF nM bF k)) else oR k))), (g5, .inl (k5, 16, .inl cH))]) [0, 1, 2, 3, 4, 5, 6] (by decide) rfl
    subst hAe
    exact W.vret hx hb hr (fun t ht hW => ⟨⟨(), rfl, trivial, by rw [ht]; exact hP9, va_K.moved hW.alike hK, hD9⟩, hS.F ht⟩) hS.2.2 d_Gr_readOrder_41
  · have hc9 : ¬ (cn9 ≤ u) := fun q9 => hc9 ((nI_leI (by omega) (by omega)).mpr q9)
    refine lv_aload_n hx hb d_Gr_readOrder_12 rfl (lv_at hl 2 rfl) ?_
    refine va_get (D := D) (ci := 2) (v := .ref g4) (C := R_Gr) (T := F_Gr) (N := 7) hx hb hB in_Gr hown hK hP 0 rfl rfl 4 (by decide) (hB _ mf_Gr_24) (fun _ h9 => h9) rfl d_Gr_readOrder_13 ?_
    refine lv_iload_n hx hb d_Gr_readOrder_16 rfl (lv_at hl 0 rfl) ?_
    refine lv_aload_n hx hb d_Gr_readOrder_17 rfl (lv_at hl 2 rfl) ?_
    refine lv_iload_n hx hb d_Gr_readOrder_18 rfl (lv_at hl 1 rfl) ?_
    refine xr_cal (va_runV (As := [.int (plF nM bF u)]) (rest := [.int (nI u), .ref g4]) ⟨hx, hb, hml, hown, hB⟩ (k_Gr_leastFree l D g g0 g1 g2 g3 g4 g5 k0 k1 k2 k3 k4 k5 (nI cn9) rE nM lD bF (fun k => if k < u then nI (nxF nM bF (plF nM bF k)) else oR k) cH (plF nM bF u)) ⟨callB_of 1 hB (xg0 mc_Gr_leastFree) rfl rfl rfl (hB _ mz_Gr) (hB _ ml_Gr_89) (by decide +kernel) ⟨Nat.le_of_ble_eq_true rfl, Nat.le_of_ble_eq_true rfl⟩, hB _ mi_Gr_leastFree, hB _ me_Gr_leastFree⟩ (xpV (ws := [(g, .inr (2, [.ref g0, .ref g1, .ref g2, .ref g3, .ref g4, .ref g5, .int (nI cn9)])), (g0, .inl (k0, 16, .inl rE)), (g1, .inl (k1, 16, .inl nM)), (g2, .inl (k2, 16, .inl lD)), (g3, .inl (k3, 16, .inl bF)), (g4, .inl (k4, 16, .inl (fun k => if k < u then nI (nxF nM bF (plF nM bF k)) else oR k))), (g5, .inl (k5, 16, .inl cH))]) (tys := [(k0, .int), (k1, .int), (k2, .int), (k3, .int), (k4, .int), (k5, .int)]) (hP.sub [0, 1, 2, 3, 4, 5, 6] rfl) (hK.sub [0, 1, 2, 3, 4, 5] rfl) hN (va_recv (ci := 2) (q0 := 0) (q := (R_Gr, F_Gr, 7)) hK hP rfl rfl)) rfl rfl hl.1 rfl (lv_room (Nat.le_of_ble_eq_true rfl)) d_Gr_readOrder_19 ⟨Nat.le_of_ble_eq_true rfl, Nat.le_of_ble_eq_true rfl⟩) ?_
    refine xv_top (x' := nI (nxF nM bF (plF nM bF u))) (rfl) ?_
    refine xa_st (u := u) hx hb hK hP hD hS 5 4 rfl rfl (by omega) (by decide) d_Gr_readOrder_22 (fun H locs hP hD hS => ?_)
    have hP : va_P D cls [(g, .inr (2, [.ref g0, .ref g1, .ref g2, .ref g3, .ref g4, .ref g5, .int (nI cn9)])), (g0, .inl (k0, 16, .inl rE)), (g1, .inl (k1, 16, .inl nM)), (g2, .inl (k2, 16, .inl lD)), (g3, .inl (k3, 16, .inl bF)), (g4, .inl (k4, 16, .inl (upd (fun k => if k < u then nI (nxF nM bF (plF nM bF k)) else oR k) u (nI (nxF nM bF (plF nM bF u)))))), (g5, .inl (k5, 16, .inl cH))] H := hP
    have hD : va_D A [(g, .inr (2, [.ref g0, .ref g1, .ref g2, .ref g3, .ref g4, .ref g5, .int (nI cn9)])), (g0, .inl (k0, 16, .inl rE)), (g1, .inl (k1, 16, .inl nM)), (g2, .inl (k2, 16, .inl lD)), (g3, .inl (k3, 16, .inl bF)), (g4, .inl (k4, 16, .inl (upd (fun k => if k < u then nI (nxF nM bF (plF nM bF k)) else oR k) u (nI (nxF nM bF (plF nM bF u)))))), (g5, .inl (k5, 16, .inl cH))] := hD
    have hz : (upd (fun k => if k < u then nI (nxF nM bF (plF nM bF k)) else oR k) u (nI (nxF nM bF (plF nM bF u)))) = (fun k => if k < u + 1 then nI (nxF nM bF (plF nM bF k)) else oR k) := upd_ltf rfl
    rw [hz] at hP hD
    refine lv_iload_n hx hb d_Gr_readOrder_23 rfl (lv_at hl 1 rfl) ?_
    refine lv_aload_n hx hb d_Gr_readOrder_24 rfl (lv_at hl 2 rfl) ?_
    refine va_get (D := D) (ci := 2) (v := .ref g4) (C := R_Gr) (T := F_Gr) (N := 7) hx hb hB in_Gr hown hK hP 0 rfl rfl 4 (by decide) (hB _ mf_Gr_24) (fun _ h9 => h9) rfl d_Gr_readOrder_25 ?_
    refine lv_iload_n hx hb d_Gr_readOrder_28 rfl (lv_at hl 0 rfl) ?_
    refine xa_ld (u := u) hx hb hK hP 5 4 rfl rfl (by omega) (by decide) d_Gr_readOrder_29 ?_
    refine xv_top (x' := nI (nxF nM bF (plF nM bF u))) (if_pos (by omega)) ?_
    refine xr_cal (va_runSN (As := [.int (nI (nxF nM bF (plF nM bF u)))]) (rest := [.int (plF nM bF u)]) ⟨hx, hb, hml, hown, hB⟩ (k_A_only l D (nxF nM bF (plF nM bF u))) ⟨va_cnB 1 hB (xg0 mc_A_only) rfl rfl rfl (xn_Gr_57 hN) (hB _ mz_A) (by decide +kernel) ⟨Nat.le_of_ble_eq_true rfl, Nat.le_of_ble_eq_true rfl⟩, hB _ ms_A_only, trivial⟩ (xpS (ws := []) (tys := []) (hP.sub [] rfl) (hK.sub [] rfl) hN) rfl rfl hl.1 rfl (lv_room (Nat.le_of_ble_eq_true rfl)) d_Gr_readOrder_30 ⟨Nat.le_of_ble_eq_true rfl, Nat.le_of_ble_eq_true rfl⟩) ?_
    refine lv_ior hx hb d_Gr_readOrder_33 ?_
    refine lv_istore_n hx hb d_Gr_readOrder_34 rfl hl (by decide) rfl (fun ls hl => ?_)
    have hl : lv_has ls 3 [(1, .int ((plF nM bF u) ||| (bit (nxF nM bF (plF nM bF u))))), (2, .int (nI u)), (0, .ref g)] := hl
    have hl : lv_has ls 3 [(1, .int (plF nM bF (u + 1))), (2, .int (nI u)), (0, .ref g)] := by
      have hz : ((plF nM bF u) ||| (bit (nxF nM bF (plF nM bF u)))) = plF nM bF (u + 1) := rfl
      rw [← hz]; exact hl
    refine lv_iinc hx hb d_Gr_readOrder_35 hl (k := 1) rfl (v := nI (u + 1)) (nI_1 u) (by decide) rfl (fun ls hl => ?_)
    have hl : lv_has ls 3 [(2, .int (nI (u + 1))), (1, .int (plF nM bF (u + 1))), (0, .ref g)] := hl
    refine lv_goto (tgt := 4) hx hb d_Gr_readOrder_38 rfl ?_
    exact ih4 (u + 1) _ H locs ⟨by omega, lv_sub hl [0, 1, 2] rfl, hP, hD, hS⟩ (by omega)
set_option maxHeartbeats 4000000 in
set_option maxRecDepth 100000 in
theorem k_Gr_read (l : Launch) (D : va_G) (g g0 g1 g2 g3 g4 g5 : Nat) (k0 k1 k2 k3 k4 k5 : ClassId) (gc : Int32) (rE : Nat → Int32) (nM : Nat → Int32) (lD : Nat → Int32) (bF : Nat → Int32) (oR : Nat → Int32) (cH : Nat → Int32) (w hd : Nat) (cA : ClassId) (ct : Int32) (h : Nat → Int32) (hg : gd h) (sz : Nat) : Met l y_Gr_read (Cond.code y_Gr_read c_Gr_read 2 none :: BS) { frames := 3, cells := 0, slots := 0, locals := 66 } (va_Pc [.ref g, .ref w] (xWp D [(g, .inr (2, [.ref g0, .ref g1, .ref g2, .ref g3, .ref g4, .ref g5, .int gc])), (g0, .inl (k0, 16, .inl rE)), (g1, .inl (k1, 16, .inl nM)), (g2, .inl (k2, 16, .inl lD)), (g3, .inl (k3, 16, .inl bF)), (g4, .inl (k4, 16, .inl oR)), (g5, .inl (k5, 16, .inl cH)), (w, .inr (1, [.ref hd, .int ct])), (hd, .inl (cA, 16, .inl h))] [(k0, .int), (k1, .int), (k2, .int), (k3, .int), (k4, .int), (k5, .int), (cA, .int)] sz)) (xQv D [(g, .inr (2, [.ref g0, .ref g1, .ref g2, .ref g3, .ref g4, .ref g5, .int gc])), (g0, .inl (k0, 16, .inl rE)), (g1, .inl (k1, 16, .inl nM)), (g2, .inl (k2, 16, .inl lD)), (g3, .inl (k3, 16, .inl bF)), (g4, .inl (k4, 16, .inl oR)), (g5, .inl (k5, 16, .inl cH)), (w, .inr (1, [.ref hd, .int ct])), (hd, .inl (cA, 16, .inl h))] [(g, .inr (2, [.ref g0, .ref g1, .ref g2, .ref g3, .ref g4, .ref g5, .int (nI (cq (fun v9 => decide (lwN (RE h) v9 = v9)) 16))])), (g0, .inl (k0, 16, .inl (RE h))), (g1, .inl (k1, 16, .inl (fun k => nI (lwN (RE h) k)))), (g2, .inl (k2, 16, .inl (LTp h (lwN (RE h)) 16 0))), (g3, .inl (k3, 16, .inl (BFp h (lwN (RE h)) 16 0))), (g4, .inl (k4, 16, .inl (fun k => if k < (cq (fun v9 => decide (lwN (RE h) v9 = v9)) 16) then nI (nxF (fun k => nI (lwN (RE h) k)) (BFp h (lwN (RE h)) 16 0) (plF (fun k => nI (lwN (RE h) k)) (BFp h (lwN (RE h)) 16 0) k)) else oR k))), (g5, .inl (k5, 16, .inl cH)), (w, .inr (1, [.ref hd, .int ct])), (hd, .inl (cA, 16, .inl h))] [(k0, .int), (k1, .int), (k2, .int), (k3, .int), (k4, .int), (k5, .int), (cA, .int)] sz) 0 0 (va_A [(g, .inr (2, [.ref g0, .ref g1, .ref g2, .ref g3, .ref g4, .ref g5, .int gc])), (g0, .inl (k0, 16, .inl rE)), (g1, .inl (k1, 16, .inl nM)), (g2, .inl (k2, 16, .inl lD)), (g3, .inl (k3, 16, .inl bF)), (g4, .inl (k4, 16, .inl oR)), (g5, .inl (k5, 16, .inl cH)), (w, .inr (1, [.ref hd, .int ct])), (hd, .inl (cA, 16, .inl h))] sz) := by
  refine Met.ofW (cc := c_Gr_read) (maxL := 2) (ret := none) (by decide) rfl ?_
  intro p e s m args below meth c s₁ B hml hv
  obtain ⟨rfl, hsz, hP, hK, hD0, hN⟩ := hv
  have hx := B.exec
  have hb := B.bytes
  have hr := B.returns
  have hB := xB B.pre
  have hown : s.vm.findClass R_Gr = some m.cls := findClass_of_methodNamed B.named
  have hlocks := B.notSynchronized
  subst hsz
  have hD := hD0.self (sz := s.heap.size)
  obtain ⟨A, hAe⟩ : ∃ A, A = va_A [(g, .inr (2, [.ref g0, .ref g1, .ref g2, .ref g3, .ref g4, .ref g5, .int gc])), (g0, .inl (k0, 16, .inl rE)), (g1, .inl (k1, 16, .inl nM)), (g2, .inl (k2, 16, .inl lD)), (g3, .inl (k3, 16, .inl bF)), (g4, .inl (k4, 16, .inl oR)), (g5, .inl (k5, 16, .inl cH)), (w, .inr (1, [.ref hd, .int ct])), (hd, .inl (cA, 16, .inl h))] s.heap.size := ⟨_, rfl⟩
  rw [← hAe] at hD
  have hA : ∀ q : Nat, s.heap.size ≤ q → A q := fun q h => by rw [hAe]; exact Or.inr h
  have hS : va_S A s.heap s.heap [] := va_S.rf
  have hl := lv_entry ([.ref g, .ref w]) (n := 2) (Nat.le_of_ble_eq_true rfl)
  rw [lg_entry_eq]
  generalize (lg_sl ([.ref g, .ref w]) ++ List.replicate (2 - (lg_sl ([.ref g, .ref w])).length) Slot.unset).toArray = ls at hl ⊢
  have hl : lv_has ls 2 [(0, .ref g), (1, .ref w)] := hl
  refine lv_aload_n hx hb d_Gr_read_0 rfl (lv_at hl 0 rfl) ?_
  refine lv_aload_n hx hb d_Gr_read_1 rfl (lv_at hl 1 rfl) ?_
  refine xw_v (wc := [(g, .inr (2, [.ref g0, .ref g1, .ref g2, .ref g3, .ref g4, .ref g5, .int gc])), (g0, .inl (k0, 16, .inl rE)), (g1, .inl (k1, 16, .inl nM)), (g2, .inl (k2, 16, .inl lD)), (g3, .inl (k3, 16, .inl bF)), (g4, .inl (k4, 16, .inl oR)), (g5, .inl (k5, 16, .inl cH)), (w, .inr (1, [.ref hd, .int ct])), (hd, .inl (cA, 16, .inl h))]) (wr := []) (w1 := [(g, .inr (2, [.ref g0, .ref g1, .ref g2, .ref g3, .ref g4, .ref g5, .int gc])), (g0, .inl (k0, 16, .inl (RE h))), (g1, .inl (k1, 16, .inl nM)), (g2, .inl (k2, 16, .inl lD)), (g3, .inl (k3, 16, .inl bF)), (g4, .inl (k4, 16, .inl oR)), (g5, .inl (k5, 16, .inl cH)), (w, .inr (1, [.ref hd, .int ct])), (hd, .inl (cA, 16, .inl h))]) (va_runV (As := [.ref w]) (rest := []) ⟨hx, hb, hml, hown, hB⟩ (k_Gr_readReached l D g g0 g1 g2 g3 g4 g5 k0 k1 k2 k3 k4 k5 gc rE nM lD bF oR cH w hd cA ct h hg _) ⟨callB_of 1 hB (xg0 mc_Gr_readReached) rfl rfl rfl (hB _ mz_Gr) (hB _ ml_Gr_34) (by decide +kernel) ⟨Nat.le_of_ble_eq_true rfl, Nat.le_of_ble_eq_true rfl⟩, hB _ mi_Gr_readReached, hB _ me_Gr_readReached⟩ (xqV (ws := [(g, .inr (2, [.ref g0, .ref g1, .ref g2, .ref g3, .ref g4, .ref g5, .int gc])), (g0, .inl (k0, 16, .inl rE)), (g1, .inl (k1, 16, .inl nM)), (g2, .inl (k2, 16, .inl lD)), (g3, .inl (k3, 16, .inl bF)), (g4, .inl (k4, 16, .inl oR)), (g5, .inl (k5, 16, .inl cH)), (w, .inr (1, [.ref hd, .int ct])), (hd, .inl (cA, 16, .inl h))]) (tys := [(k0, .int), (k1, .int), (k2, .int), (k3, .int), (k4, .int), (k5, .int), (cA, .int)]) (hP.sub [0, 1, 2, 3, 4, 5, 6, 7, 8] rfl) (hD.sub [0, 1, 2, 3, 4, 5, 6, 7, 8] (by decide) rfl) (hK.sub [0, 1, 2, 3, 4, 5, 6] rfl) hN (va_recv (ci := 2) (q0 := 0) (q := (R_Gr, F_Gr, 7)) hK hP rfl rfl)) rfl rfl hl.1 rfl (lv_room (Nat.le_of_ble_eq_true rfl)) d_Gr_read_2 ⟨Nat.le_of_ble_eq_true rfl, Nat.le_of_ble_eq_true rfl⟩) hP hD hS hA [0, 1, 2, 3, 4, 5, 6, 7, 8] [] rfl rfl (by decide) (by decide) (fun H locs hP hD hS => ?_)
  have hP : va_P D cls [(g, .inr (2, [.ref g0, .ref g1, .ref g2, .ref g3, .ref g4, .ref g5, .int gc])), (g0, .inl (k0, 16, .inl (RE h))), (g1, .inl (k1, 16, .inl nM)), (g2, .inl (k2, 16, .inl lD)), (g3, .inl (k3, 16, .inl bF)), (g4, .inl (k4, 16, .inl oR)), (g5, .inl (k5, 16, .inl cH)), (w, .inr (1, [.ref hd, .int ct])), (hd, .inl (cA, 16, .inl h))] H := hP
  have hD : va_D A [(g, .inr (2, [.ref g0, .ref g1, .ref g2, .ref g3, .ref g4, .ref g5, .int gc])), (g0, .inl (k0, 16, .inl (RE h))), (g1, .inl (k1, 16, .inl nM)), (g2, .inl (k2, 16, .inl lD)), (g3, .inl (k3, 16, .inl bF)), (g4, .inl (k4, 16, .inl oR)), (g5, .inl (k5, 16, .inl cH)), (w, .inr (1, [.ref hd, .int ct])), (hd, .inl (cA, 16, .inl h))] := hD
  refine lv_aload_n hx hb d_Gr_read_5 rfl (lv_at hl 0 rfl) ?_
  refine xw_v (wc := [(g, .inr (2, [.ref g0, .ref g1, .ref g2, .ref g3, .ref g4, .ref g5, .int gc])), (g0, .inl (k0, 16, .inl (RE h))), (g1, .inl (k1, 16, .inl nM)), (g2, .inl (k2, 16, .inl lD)), (g3, .inl (k3, 16, .inl bF)), (g4, .inl (k4, 16, .inl oR)), (g5, .inl (k5, 16, .inl cH))]) (wr := [(w, .inr (1, [.ref hd, .int ct])), (hd, .inl (cA, 16, .inl h))]) (w1 := [(g, .inr (2, [.ref g0, .ref g1, .ref g2, .ref g3, .ref g4, .ref g5, .int (nI (cq (fun v9 => decide (lwN (RE h) v9 = v9)) 16))])), (g0, .inl (k0, 16, .inl (RE h))), (g1, .inl (k1, 16, .inl (fun k => nI (lwN (RE h) k)))), (g2, .inl (k2, 16, .inl lD)), (g3, .inl (k3, 16, .inl bF)), (g4, .inl (k4, 16, .inl oR)), (g5, .inl (k5, 16, .inl cH))]) (va_runV (As := []) (rest := []) ⟨hx, hb, hml, hown, hB⟩ (k_Gr_readNames l D g g0 g1 g2 g3 g4 g5 k0 k1 k2 k3 k4 k5 gc (RE h) nM lD bF oR cH  _) ⟨callB_of 0 hB (xg0 mc_Gr_readNames) rfl rfl rfl (hB _ mz_Gr) (hB _ ml_Gr_38) (by decide +kernel) ⟨Nat.le_of_ble_eq_true rfl, Nat.le_of_ble_eq_true rfl⟩, hB _ mi_Gr_readNames, hB _ me_Gr_readNames⟩ (xqV (ws := [(g, .inr (2, [.ref g0, .ref g1, .ref g2, .ref g3, .ref g4, .ref g5, .int gc])), (g0, .inl (k0, 16, .inl (RE h))), (g1, .inl (k1, 16, .inl nM)), (g2, .inl (k2, 16, .inl lD)), (g3, .inl (k3, 16, .inl bF)), (g4, .inl (k4, 16, .inl oR)), (g5, .inl (k5, 16, .inl cH))]) (tys := [(k0, .int), (k1, .int), (k2, .int), (k3, .int), (k4, .int), (k5, .int)]) (hP.sub [0, 1, 2, 3, 4, 5, 6] rfl) (hD.sub [0, 1, 2, 3, 4, 5, 6] (by decide) rfl) (hK.sub [0, 1, 2, 3, 4, 5] rfl) hN (va_recv (ci := 2) (q0 := 0) (q := (R_Gr, F_Gr, 7)) hK hP rfl rfl)) rfl rfl hl.1 rfl (lv_room (Nat.le_of_ble_eq_true rfl)) d_Gr_read_6 ⟨Nat.le_of_ble_eq_true rfl, Nat.le_of_ble_eq_true rfl⟩) hP hD hS hA [0, 1, 2, 3, 4, 5, 6] [7, 8] rfl rfl (by decide) (by decide) (fun H locs hP hD hS => ?_)
  have hP : va_P D cls [(w, .inr (1, [.ref hd, .int ct])), (hd, .inl (cA, 16, .inl h)), (g, .inr (2, [.ref g0, .ref g1, .ref g2, .ref g3, .ref g4, .ref g5, .int (nI (cq (fun v9 => decide (lwN (RE h) v9 = v9)) 16))])), (g0, .inl (k0, 16, .inl (RE h))), (g1, .inl (k1, 16, .inl (fun k => nI (lwN (RE h) k)))), (g2, .inl (k2, 16, .inl lD)), (g3, .inl (k3, 16, .inl bF)), (g4, .inl (k4, 16, .inl oR)), (g5, .inl (k5, 16, .inl cH))] H := hP
  have hD : va_D A [(w, .inr (1, [.ref hd, .int ct])), (hd, .inl (cA, 16, .inl h)), (g, .inr (2, [.ref g0, .ref g1, .ref g2, .ref g3, .ref g4, .ref g5, .int (nI (cq (fun v9 => decide (lwN (RE h) v9 = v9)) 16))])), (g0, .inl (k0, 16, .inl (RE h))), (g1, .inl (k1, 16, .inl (fun k => nI (lwN (RE h) k)))), (g2, .inl (k2, 16, .inl lD)), (g3, .inl (k3, 16, .inl bF)), (g4, .inl (k4, 16, .inl oR)), (g5, .inl (k5, 16, .inl cH))] := hD
  refine lv_aload_n hx hb d_Gr_read_9 rfl (lv_at hl 0 rfl) ?_
  refine lv_aload_n hx hb d_Gr_read_10 rfl (lv_at hl 1 rfl) ?_
  refine xw_v (wc := [(g, .inr (2, [.ref g0, .ref g1, .ref g2, .ref g3, .ref g4, .ref g5, .int (nI (cq (fun v9 => decide (lwN (RE h) v9 = v9)) 16))])), (g0, .inl (k0, 16, .inl (RE h))), (g1, .inl (k1, 16, .inl (fun k => nI (lwN (RE h) k)))), (g2, .inl (k2, 16, .inl lD)), (g3, .inl (k3, 16, .inl bF)), (g4, .inl (k4, 16, .inl oR)), (g5, .inl (k5, 16, .inl cH)), (w, .inr (1, [.ref hd, .int ct])), (hd, .inl (cA, 16, .inl h))]) (wr := []) (w1 := [(g, .inr (2, [.ref g0, .ref g1, .ref g2, .ref g3, .ref g4, .ref g5, .int (nI (cq (fun v9 => decide (lwN (RE h) v9 = v9)) 16))])), (g0, .inl (k0, 16, .inl (RE h))), (g1, .inl (k1, 16, .inl (fun k => nI (lwN (RE h) k)))), (g2, .inl (k2, 16, .inl (LTp h (lwN (RE h)) 16 0))), (g3, .inl (k3, 16, .inl (BFp h (lwN (RE h)) 16 0))), (g4, .inl (k4, 16, .inl oR)), (g5, .inl (k5, 16, .inl cH)), (w, .inr (1, [.ref hd, .int ct])), (hd, .inl (cA, 16, .inl h))]) (va_runV (As := [.ref w]) (rest := []) ⟨hx, hb, hml, hown, hB⟩ (k_Gr_readLeads l D g g0 g1 g2 g3 g4 g5 k0 k1 k2 k3 k4 k5 (nI (cq (fun v9 => decide (lwN (RE h) v9 = v9)) 16)) (RE h) (lwN (RE h)) lD bF oR cH w hd cA ct h (fun k hk => Nat.lt_of_le_of_lt (lwN_le _ k) hk) _) ⟨callB_of 1 hB (xg0 mc_Gr_readLeads) rfl rfl rfl (hB _ mz_Gr) (hB _ ml_Gr_41) (by decide +kernel) ⟨Nat.le_of_ble_eq_true rfl, Nat.le_of_ble_eq_true rfl⟩, hB _ mi_Gr_readLeads, hB _ me_Gr_readLeads⟩ (xqV (ws := [(g, .inr (2, [.ref g0, .ref g1, .ref g2, .ref g3, .ref g4, .ref g5, .int (nI (cq (fun v9 => decide (lwN (RE h) v9 = v9)) 16))])), (g0, .inl (k0, 16, .inl (RE h))), (g1, .inl (k1, 16, .inl (fun k => nI (lwN (RE h) k)))), (g2, .inl (k2, 16, .inl lD)), (g3, .inl (k3, 16, .inl bF)), (g4, .inl (k4, 16, .inl oR)), (g5, .inl (k5, 16, .inl cH)), (w, .inr (1, [.ref hd, .int ct])), (hd, .inl (cA, 16, .inl h))]) (tys := [(k0, .int), (k1, .int), (k2, .int), (k3, .int), (k4, .int), (k5, .int), (cA, .int)]) (hP.sub [2, 3, 4, 5, 6, 7, 8, 0, 1] rfl) (hD.sub [2, 3, 4, 5, 6, 7, 8, 0, 1] (by decide) rfl) (hK.sub [0, 1, 2, 3, 4, 5, 6] rfl) hN (va_recv (ci := 2) (q0 := 2) (q := (R_Gr, F_Gr, 7)) hK hP rfl rfl)) rfl rfl hl.1 rfl (lv_room (Nat.le_of_ble_eq_true rfl)) d_Gr_read_11 ⟨Nat.le_of_ble_eq_true rfl, Nat.le_of_ble_eq_true rfl⟩) hP hD hS hA [2, 3, 4, 5, 6, 7, 8, 0, 1] [] rfl rfl (by decide) (by decide) (fun H locs hP hD hS => ?_)
  have hP : va_P D cls [(g, .inr (2, [.ref g0, .ref g1, .ref g2, .ref g3, .ref g4, .ref g5, .int (nI (cq (fun v9 => decide (lwN (RE h) v9 = v9)) 16))])), (g0, .inl (k0, 16, .inl (RE h))), (g1, .inl (k1, 16, .inl (fun k => nI (lwN (RE h) k)))), (g2, .inl (k2, 16, .inl (LTp h (lwN (RE h)) 16 0))), (g3, .inl (k3, 16, .inl (BFp h (lwN (RE h)) 16 0))), (g4, .inl (k4, 16, .inl oR)), (g5, .inl (k5, 16, .inl cH)), (w, .inr (1, [.ref hd, .int ct])), (hd, .inl (cA, 16, .inl h))] H := hP
  have hD : va_D A [(g, .inr (2, [.ref g0, .ref g1, .ref g2, .ref g3, .ref g4, .ref g5, .int (nI (cq (fun v9 => decide (lwN (RE h) v9 = v9)) 16))])), (g0, .inl (k0, 16, .inl (RE h))), (g1, .inl (k1, 16, .inl (fun k => nI (lwN (RE h) k)))), (g2, .inl (k2, 16, .inl (LTp h (lwN (RE h)) 16 0))), (g3, .inl (k3, 16, .inl (BFp h (lwN (RE h)) 16 0))), (g4, .inl (k4, 16, .inl oR)), (g5, .inl (k5, 16, .inl cH)), (w, .inr (1, [.ref hd, .int ct])), (hd, .inl (cA, 16, .inl h))] := hD
  refine lv_aload_n hx hb d_Gr_read_14 rfl (lv_at hl 0 rfl) ?_
  refine xw_v (wc := [(g, .inr (2, [.ref g0, .ref g1, .ref g2, .ref g3, .ref g4, .ref g5, .int (nI (cq (fun v9 => decide (lwN (RE h) v9 = v9)) 16))])), (g0, .inl (k0, 16, .inl (RE h))), (g1, .inl (k1, 16, .inl (fun k => nI (lwN (RE h) k)))), (g2, .inl (k2, 16, .inl (LTp h (lwN (RE h)) 16 0))), (g3, .inl (k3, 16, .inl (BFp h (lwN (RE h)) 16 0))), (g4, .inl (k4, 16, .inl oR)), (g5, .inl (k5, 16, .inl cH))]) (wr := [(w, .inr (1, [.ref hd, .int ct])), (hd, .inl (cA, 16, .inl h))]) (w1 := [(g, .inr (2, [.ref g0, .ref g1, .ref g2, .ref g3, .ref g4, .ref g5, .int (nI (cq (fun v9 => decide (lwN (RE h) v9 = v9)) 16))])), (g0, .inl (k0, 16, .inl (RE h))), (g1, .inl (k1, 16, .inl (fun k => nI (lwN (RE h) k)))), (g2, .inl (k2, 16, .inl (LTp h (lwN (RE h)) 16 0))), (g3, .inl (k3, 16, .inl (BFp h (lwN (RE h)) 16 0))), (g4, .inl (k4, 16, .inl (fun k => if k < (cq (fun v9 => decide (lwN (RE h) v9 = v9)) 16) then nI (nxF (fun k => nI (lwN (RE h) k)) (BFp h (lwN (RE h)) 16 0) (plF (fun k => nI (lwN (RE h) k)) (BFp h (lwN (RE h)) 16 0) k)) else oR k))), (g5, .inl (k5, 16, .inl cH))]) (va_runV (As := []) (rest := []) ⟨hx, hb, hml, hown, hB⟩ (k_Gr_readOrder l D g g0 g1 g2 g3 g4 g5 k0 k1 k2 k3 k4 k5 (cq (fun v9 => decide (lwN (RE h) v9 = v9)) 16) (RE h) (fun k => nI (lwN (RE h) k)) (LTp h (lwN (RE h)) 16 0) (BFp h (lwN (RE h)) 16 0) oR cH (cq_le _ 16) _) ⟨callB_of 0 hB (xg0 mc_Gr_readOrder) rfl rfl rfl (hB _ mz_Gr) (hB _ ml_Gr_44) (by decide +kernel) ⟨Nat.le_of_ble_eq_true rfl, Nat.le_of_ble_eq_true rfl⟩, hB _ mi_Gr_readOrder, hB _ me_Gr_readOrder⟩ (xqV (ws := [(g, .inr (2, [.ref g0, .ref g1, .ref g2, .ref g3, .ref g4, .ref g5, .int (nI (cq (fun v9 => decide (lwN (RE h) v9 = v9)) 16))])), (g0, .inl (k0, 16, .inl (RE h))), (g1, .inl (k1, 16, .inl (fun k => nI (lwN (RE h) k)))), (g2, .inl (k2, 16, .inl (LTp h (lwN (RE h)) 16 0))), (g3, .inl (k3, 16, .inl (BFp h (lwN (RE h)) 16 0))), (g4, .inl (k4, 16, .inl oR)), (g5, .inl (k5, 16, .inl cH))]) (tys := [(k0, .int), (k1, .int), (k2, .int), (k3, .int), (k4, .int), (k5, .int)]) (hP.sub [0, 1, 2, 3, 4, 5, 6] rfl) (hD.sub [0, 1, 2, 3, 4, 5, 6] (by decide) rfl) (hK.sub [0, 1, 2, 3, 4, 5] rfl) hN (va_recv (ci := 2) (q0 := 0) (q := (R_Gr, F_Gr, 7)) hK hP rfl rfl)) rfl rfl hl.1 rfl (lv_room (Nat.le_of_ble_eq_true rfl)) d_Gr_read_15 ⟨Nat.le_of_ble_eq_true rfl, Nat.le_of_ble_eq_true rfl⟩) hP hD hS hA [0, 1, 2, 3, 4, 5, 6] [7, 8] rfl rfl (by decide) (by decide) (fun H locs hP hD hS => ?_)
  have hP : va_P D cls [(w, .inr (1, [.ref hd, .int ct])), (hd, .inl (cA, 16, .inl h)), (g, .inr (2, [.ref g0, .ref g1, .ref g2, .ref g3, .ref g4, .ref g5, .int (nI (cq (fun v9 => decide (lwN (RE h) v9 = v9)) 16))])), (g0, .inl (k0, 16, .inl (RE h))), (g1, .inl (k1, 16, .inl (fun k => nI (lwN (RE h) k)))), (g2, .inl (k2, 16, .inl (LTp h (lwN (RE h)) 16 0))), (g3, .inl (k3, 16, .inl (BFp h (lwN (RE h)) 16 0))), (g4, .inl (k4, 16, .inl (fun k => if k < (cq (fun v9 => decide (lwN (RE h) v9 = v9)) 16) then nI (nxF (fun k => nI (lwN (RE h) k)) (BFp h (lwN (RE h)) 16 0) (plF (fun k => nI (lwN (RE h) k)) (BFp h (lwN (RE h)) 16 0) k)) else oR k))), (g5, .inl (k5, 16, .inl cH))] H := hP
  have hD : va_D A [(w, .inr (1, [.ref hd, .int ct])), (hd, .inl (cA, 16, .inl h)), (g, .inr (2, [.ref g0, .ref g1, .ref g2, .ref g3, .ref g4, .ref g5, .int (nI (cq (fun v9 => decide (lwN (RE h) v9 = v9)) 16))])), (g0, .inl (k0, 16, .inl (RE h))), (g1, .inl (k1, 16, .inl (fun k => nI (lwN (RE h) k)))), (g2, .inl (k2, 16, .inl (LTp h (lwN (RE h)) 16 0))), (g3, .inl (k3, 16, .inl (BFp h (lwN (RE h)) 16 0))), (g4, .inl (k4, 16, .inl (fun k => if k < (cq (fun v9 => decide (lwN (RE h) v9 = v9)) 16) then nI (nxF (fun k => nI (lwN (RE h) k)) (BFp h (lwN (RE h)) 16 0) (plF (fun k => nI (lwN (RE h) k)) (BFp h (lwN (RE h)) 16 0) k)) else oR k))), (g5, .inl (k5, 16, .inl cH))] := hD
  have hP9 := hP.sub (ws' := [(g, .inr (2, [.ref g0, .ref g1, .ref g2, .ref g3, .ref g4, .ref g5, .int (nI (cq (fun v9 => decide (lwN (RE h) v9 = v9)) 16))])), (g0, .inl (k0, 16, .inl (RE h))), (g1, .inl (k1, 16, .inl (fun k => nI (lwN (RE h) k)))), (g2, .inl (k2, 16, .inl (LTp h (lwN (RE h)) 16 0))), (g3, .inl (k3, 16, .inl (BFp h (lwN (RE h)) 16 0))), (g4, .inl (k4, 16, .inl (fun k => if k < (cq (fun v9 => decide (lwN (RE h) v9 = v9)) 16) then nI (nxF (fun k => nI (lwN (RE h) k)) (BFp h (lwN (RE h)) 16 0) (plF (fun k => nI (lwN (RE h) k)) (BFp h (lwN (RE h)) 16 0) k)) else oR k))), (g5, .inl (k5, 16, .inl cH)), (w, .inr (1, [.ref hd, .int ct])), (hd, .inl (cA, 16, .inl h))]) [2, 3, 4, 5, 6, 7, 8, 0, 1] rfl
  have hD9 := hD.sub (ws' := [(g, .inr (2, [.ref g0, .ref g1, .ref g2, .ref g3, .ref g4, .ref g5, .int (nI (cq (fun v9 => decide (lwN (RE h) v9 = v9)) 16))])), (g0, .inl (k0, 16, .inl (RE h))), (g1, .inl (k1, 16, .inl (fun k => nI (lwN (RE h) k)))), (g2, .inl (k2, 16, .inl (LTp h (lwN (RE h)) 16 0))), (g3, .inl (k3, 16, .inl (BFp h (lwN (RE h)) 16 0))), (g4, .inl (k4, 16, .inl (fun k => if k < (cq (fun v9 => decide (lwN (RE h) v9 = v9)) 16) then nI (nxF (fun k => nI (lwN (RE h) k)) (BFp h (lwN (RE h)) 16 0) (plF (fun k => nI (lwN (RE h) k)) (BFp h (lwN (RE h)) 16 0) k)) else oR k))), (g5, .inl (k5, 16, .inl cH)), (w, .inr (1, [.ref hd, .int ct])), (hd, .inl (cA, 16, .inl h))]) [2, 3, 4, 5, 6, 7, 8, 0, 1] (by decide) rfl
  subst hAe
  exact W.vret hx hb hr (fun t ht hW => ⟨⟨(), rfl, trivial, by rw [ht]; exact hP9, va_K.moved hW.alike hK, hD9⟩, hS.F ht⟩) hS.2.2 d_Gr_read_18
set_option maxHeartbeats 4000000 in
set_option maxRecDepth 100000 in
theorem k_Gr_longestChain (l : Launch) (D : va_G) (g g0 g1 g2 g3 g4 g5 : Nat) (k0 k1 k2 k3 k4 k5 : ClassId) (cn9 : Nat) (rE : Nat → Int32) (nM : Nat → Int32) (lD : Nat → Int32) (bF : Nat → Int32) (oR : Nat → Int32) (cH : Nat → Int32) (od : Nat → Nat) (hcn : cn9 ≤ 16) (hod : ∀ k, k < cn9 → oR k = nI (od k) ∧ od k < 16) (sz : Nat) : Met l y_Gr_longestChain (Cond.code y_Gr_longestChain c_Gr_longestChain 4 (some .int) :: BS) { frames := 2, cells := 0, slots := 0, locals := 63 } (va_Pc [.ref g] (xWp D [(g, .inr (2, [.ref g0, .ref g1, .ref g2, .ref g3, .ref g4, .ref g5, .int (nI cn9)])), (g0, .inl (k0, 16, .inl rE)), (g1, .inl (k1, 16, .inl nM)), (g2, .inl (k2, 16, .inl lD)), (g3, .inl (k3, 16, .inl bF)), (g4, .inl (k4, 16, .inl oR)), (g5, .inl (k5, 16, .inl cH))] [(k0, .int), (k1, .int), (k2, .int), (k3, .int), (k4, .int), (k5, .int)] sz)) (xQi D [(g, .inr (2, [.ref g0, .ref g1, .ref g2, .ref g3, .ref g4, .ref g5, .int (nI cn9)])), (g0, .inl (k0, 16, .inl rE)), (g1, .inl (k1, 16, .inl nM)), (g2, .inl (k2, 16, .inl lD)), (g3, .inl (k3, 16, .inl bF)), (g4, .inl (k4, 16, .inl oR)), (g5, .inl (k5, 16, .inl cH))] [(g, .inr (2, [.ref g0, .ref g1, .ref g2, .ref g3, .ref g4, .ref g5, .int (nI cn9)])), (g0, .inl (k0, 16, .inl rE)), (g1, .inl (k1, 16, .inl nM)), (g2, .inl (k2, 16, .inl lD)), (g3, .inl (k3, 16, .inl bF)), (g4, .inl (k4, 16, .inl oR)), (g5, .inl (k5, 16, .inl (chF bF od cH cn9)))] [(k0, .int), (k1, .int), (k2, .int), (k3, .int), (k4, .int), (k5, .int)] sz (lgF bF od cH cn9)) 0 0 (va_A [(g, .inr (2, [.ref g0, .ref g1, .ref g2, .ref g3, .ref g4, .ref g5, .int (nI cn9)])), (g0, .inl (k0, 16, .inl rE)), (g1, .inl (k1, 16, .inl nM)), (g2, .inl (k2, 16, .inl lD)), (g3, .inl (k3, 16, .inl bF)), (g4, .inl (k4, 16, .inl oR)), (g5, .inl (k5, 16, .inl cH))] sz) := by
  refine Met.ofW (cc := c_Gr_longestChain) (maxL := 4) (ret := (some .int)) (by decide) rfl ?_
  intro p e s m args below meth c s₁ B hml hv
  obtain ⟨rfl, hsz, hP, hK, hD0, hN⟩ := hv
  have hx := B.exec
  have hb := B.bytes
  have hr := B.returns
  have hB := xB B.pre
  have hown : s.vm.findClass R_Gr = some m.cls := findClass_of_methodNamed B.named
  have hlocks := B.notSynchronized
  subst hsz
  have hD := hD0.self (sz := s.heap.size)
  obtain ⟨A, hAe⟩ : ∃ A, A = va_A [(g, .inr (2, [.ref g0, .ref g1, .ref g2, .ref g3, .ref g4, .ref g5, .int (nI cn9)])), (g0, .inl (k0, 16, .inl rE)), (g1, .inl (k1, 16, .inl nM)), (g2, .inl (k2, 16, .inl lD)), (g3, .inl (k3, 16, .inl bF)), (g4, .inl (k4, 16, .inl oR)), (g5, .inl (k5, 16, .inl cH))] s.heap.size := ⟨_, rfl⟩
  rw [← hAe] at hD
  have hA : ∀ q : Nat, s.heap.size ≤ q → A q := fun q h => by rw [hAe]; exact Or.inr h
  have hS : va_S A s.heap s.heap [] := va_S.rf
  have hl := lv_entry ([.ref g]) (n := 4) (Nat.le_of_ble_eq_true rfl)
  rw [lg_entry_eq]
  generalize (lg_sl ([.ref g]) ++ List.replicate (4 - (lg_sl ([.ref g])).length) Slot.unset).toArray = ls at hl ⊢
  have hl : lv_has ls 4 [(0, .ref g)] := hl
  refine lv_iconst (v := nI 0) hx hb d_Gr_longestChain_0 (by decide) ?_
  refine lv_istore_n hx hb d_Gr_longestChain_1 rfl hl (by decide) rfl (fun ls hl => ?_)
  have hl : lv_has ls 4 [(1, .int (nI 0)), (0, .ref g)] := hl
  refine lv_iconst (v := nI 0) hx hb d_Gr_longestChain_2 (by decide) ?_
  refine lv_istore_n hx hb d_Gr_longestChain_3 rfl hl (by decide) rfl (fun ls hl => ?_)
  have hl : lv_has ls 4 [(2, .int (nI 0)), (1, .int (nI 0)), (0, .ref g)] := hl
  have hz : cH = (chF bF od cH 0) := rfl
  rw [hz] at hP hD
  refine xl_w (fun (u : Nat) ls H locs => ((u ≤ cn9)) ∧ lv_has ls 4 [(2, .int (nI u)), (1, .int (lgF bF od cH u)), (0, .ref g)] ∧ va_P D cls [(g, .inr (2, [.ref g0, .ref g1, .ref g2, .ref g3, .ref g4, .ref g5, .int (nI cn9)])), (g0, .inl (k0, 16, .inl rE)), (g1, .inl (k1, 16, .inl nM)), (g2, .inl (k2, 16, .inl lD)), (g3, .inl (k3, 16, .inl bF)), (g4, .inl (k4, 16, .inl oR)), (g5, .inl (k5, 16, .inl (chF bF od cH u)))] H ∧ va_D A [(g, .inr (2, [.ref g0, .ref g1, .ref g2, .ref g3, .ref g4, .ref g5, .int (nI cn9)])), (g0, .inl (k0, 16, .inl rE)), (g1, .inl (k1, 16, .inl nM)), (g2, .inl (k2, 16, .inl lD)), (g3, .inl (k3, 16, .inl bF)), (g4, .inl (k4, 16, .inl oR)), (g5, .inl (k5, 16, .inl (chF bF od cH u)))] ∧ va_S A s.heap H locs) (fun u => cn9 - u) (fun u ls H locs hI ih4 => ?_) 0 _ ⟨Nat.zero_le _, hl, hP, hD, hS⟩
  obtain ⟨hI, hl, hP, hD, hS⟩ := hI
  have hu := hI
  refine lv_iload_n hx hb d_Gr_longestChain_4 rfl (lv_at hl 0 rfl) ?_
  refine lv_aload_n hx hb d_Gr_longestChain_5 rfl (lv_at hl 2 rfl) ?_
  refine va_get (D := D) (ci := 2) (v := .int (nI cn9)) (C := R_Gr) (T := F_Gr) (N := 7) hx hb hB in_Gr hown hK hP 0 rfl rfl 6 (by decide) (hB _ mf_Gr_30) (fun _ h9 => h9) rfl d_Gr_longestChain_6 ?_
  refine lv_icmp_ge (tgt := 54) hx hb d_Gr_longestChain_9 rfl (fun hc9 => ?_) (fun hc9 => ?_)
  · have hc9 : cn9 ≤ u := (nI_leI (by omega) (by omega)).mp hc9
    have hz : (chF bF od cH u) = (chF bF od cH cn9) := by rw [show u = cn9 by omega]
    rw [hz] at hP hD
    refine lv_iload_n hx hb d_Gr_longestChain_54 rfl (lv_at hl 1 rfl) ?_
    have hP9 := hP.sub (ws' := [(g, .inr (2, [.ref g0, .ref g1, .ref g2, .ref g3, .ref g4, .ref g5, .int (nI cn9)])), (g0, .inl (k0, 16, .inl rE)), (g1, .inl (k1, 16, .inl nM)), (g2, .inl (k2, 16, .inl lD)), (g3, .inl (k3, 16, .inl bF)), (g4, .inl (k4, 16, .inl oR)), (g5, .inl (k5, 16, .inl (chF bF od cH cn9)))]) [0, 1, 2, 3, 4, 5, 6] rfl
    have hD9 := hD.sub (ws' := [(g, .inr (2, [.ref g0, .ref g1, .ref g2, .ref g3, .ref g4, .ref g5, .int (nI cn9)])), (g0, .inl (k0, 16, .inl rE)), (g1, .inl (k1, 16, .inl nM)), (g2, .inl (k2, 16, .inl lD)), (g3, .inl (k3, 16, .inl bF)), (g4, .inl (k4, 16, .inl oR)), (g5, .inl (k5, 16, .inl (chF bF od cH cn9)))]) [0, 1, 2, 3, 4, 5, 6] (by decide) rfl
    subst hAe
    refine xv_top (x' := lgF bF od cH cn9) (by rw [show u = cn9 by omega]) ?_
    exact W.iret (v := lgF bF od cH cn9) hx hb hr (fun t ht hW => ⟨⟨_, (), rfl, rfl, by rw [ht]; exact hP9, va_K.moved hW.alike hK, hD9⟩, hS.F ht⟩) hS.2.2 d_Gr_longestChain_55
  · have hc9 : ¬ (cn9 ≤ u) := fun q9 => hc9 ((nI_leI (by omega) (by omega)).mpr q9)
    refine lv_aload_n hx hb d_Gr_longestChain_12 rfl (lv_at hl 2 rfl) ?_
    refine va_get (D := D) (ci := 2) (v := .ref g4) (C := R_Gr) (T := F_Gr) (N := 7) hx hb hB in_Gr hown hK hP 0 rfl rfl 4 (by decide) (hB _ mf_Gr_24) (fun _ h9 => h9) rfl d_Gr_longestChain_13 ?_
    refine lv_iload_n hx hb d_Gr_longestChain_16 rfl (lv_at hl 0 rfl) ?_
    refine xa_ld (u := u) hx hb hK hP 5 4 rfl rfl (by omega) (by decide) d_Gr_longestChain_17 ?_
    refine xv_top (x' := nI (od u)) ((hod u (by omega)).1) ?_
    have hod2 := (hod u (by omega)).2
    refine lv_istore_n hx hb d_Gr_longestChain_18 rfl hl (by decide) rfl (fun ls hl => ?_)
    have hl : lv_has ls 4 [(3, .int (nI (od u))), (2, .int (nI u)), (1, .int (lgF bF od cH u)), (0, .ref g)] := hl
    refine lv_aload_n hx hb d_Gr_longestChain_19 rfl (lv_at hl 3 rfl) ?_
    refine va_get (D := D) (ci := 2) (v := .ref g5) (C := R_Gr) (T := F_Gr) (N := 7) hx hb hB in_Gr hown hK hP 0 rfl rfl 5 (by decide) (hB _ mf_Gr_27) (fun _ h9 => h9) rfl d_Gr_longestChain_20 ?_
    refine lv_iload_n hx hb d_Gr_longestChain_23 rfl (lv_at hl 0 rfl) ?_
    refine lv_iconst (v := nI 1) hx hb d_Gr_longestChain_24 (by decide) ?_
    refine lv_aload_n hx hb d_Gr_longestChain_25 rfl (lv_at hl 3 rfl) ?_
    refine lv_aload_n hx hb d_Gr_longestChain_26 rfl (lv_at hl 3 rfl) ?_
    refine va_get (D := D) (ci := 2) (v := .ref g3) (C := R_Gr) (T := F_Gr) (N := 7) hx hb hB in_Gr hown hK hP 0 rfl rfl 3 (by decide) (hB _ mf_Gr_21) (fun _ h9 => h9) rfl d_Gr_longestChain_27 ?_
    refine lv_iload_n hx hb d_Gr_longestChain_30 rfl (lv_at hl 0 rfl) ?_
    refine xa_ld (u := (od u)) hx hb hK hP 4 3 rfl rfl (by omega) (by decide) d_Gr_longestChain_31 ?_
    refine xr_cal (va_runV (As := [.int (bF (od u))]) (rest := [.int (nI 1), .int (nI (od u)), .ref g5]) ⟨hx, hb, hml, hown, hB⟩ (k_Gr_longestOf l D g g0 g1 g2 g3 g4 g5 k0 k1 k2 k3 k4 k5 (nI cn9) rE nM lD bF oR (chF bF od cH u) (bF (od u))) ⟨callB_of 1 hB (xg0 mc_Gr_longestOf) rfl rfl rfl (hB _ mz_Gr) (hB _ ml_Gr_63) (by decide +kernel) ⟨Nat.le_of_ble_eq_true rfl, Nat.le_of_ble_eq_true rfl⟩, hB _ mi_Gr_longestOf, hB _ me_Gr_longestOf⟩ (xpV (ws := [(g, .inr (2, [.ref g0, .ref g1, .ref g2, .ref g3, .ref g4, .ref g5, .int (nI cn9)])), (g0, .inl (k0, 16, .inl rE)), (g1, .inl (k1, 16, .inl nM)), (g2, .inl (k2, 16, .inl lD)), (g3, .inl (k3, 16, .inl bF)), (g4, .inl (k4, 16, .inl oR)), (g5, .inl (k5, 16, .inl (chF bF od cH u)))]) (tys := [(k0, .int), (k1, .int), (k2, .int), (k3, .int), (k4, .int), (k5, .int)]) (hP.sub [0, 1, 2, 3, 4, 5, 6] rfl) (hK.sub [0, 1, 2, 3, 4, 5] rfl) hN (va_recv (ci := 2) (q0 := 0) (q := (R_Gr, F_Gr, 7)) hK hP rfl rfl)) rfl rfl hl.1 rfl (lv_room (Nat.le_of_ble_eq_true rfl)) d_Gr_longestChain_32 ⟨Nat.le_of_ble_eq_true rfl, Nat.le_of_ble_eq_true rfl⟩) ?_
    refine lv_iadd hx hb d_Gr_longestChain_35 ?_
    refine xa_st (u := (od u)) hx hb hK hP hD hS 6 5 rfl rfl (by omega) (by decide) d_Gr_longestChain_36 (fun H locs hP hD hS => ?_)
    have hP : va_P D cls [(g, .inr (2, [.ref g0, .ref g1, .ref g2, .ref g3, .ref g4, .ref g5, .int (nI cn9)])), (g0, .inl (k0, 16, .inl rE)), (g1, .inl (k1, 16, .inl nM)), (g2, .inl (k2, 16, .inl lD)), (g3, .inl (k3, 16, .inl bF)), (g4, .inl (k4, 16, .inl oR)), (g5, .inl (k5, 16, .inl (upd (chF bF od cH u) (od u) ((nI 1) + (mxq (bF (od u)) (chF bF od cH u) 16)))))] H := hP
    have hD : va_D A [(g, .inr (2, [.ref g0, .ref g1, .ref g2, .ref g3, .ref g4, .ref g5, .int (nI cn9)])), (g0, .inl (k0, 16, .inl rE)), (g1, .inl (k1, 16, .inl nM)), (g2, .inl (k2, 16, .inl lD)), (g3, .inl (k3, 16, .inl bF)), (g4, .inl (k4, 16, .inl oR)), (g5, .inl (k5, 16, .inl (upd (chF bF od cH u) (od u) ((nI 1) + (mxq (bF (od u)) (chF bF od cH u) 16)))))] := hD
    have hz : (upd (chF bF od cH u) (od u) ((nI 1) + (mxq (bF (od u)) (chF bF od cH u) 16))) = (chF bF od cH (u + 1)) := rfl
    rw [hz] at hP hD
    refine lv_iload_n hx hb d_Gr_longestChain_37 rfl (lv_at hl 2 rfl) ?_
    refine lv_aload_n hx hb d_Gr_longestChain_38 rfl (lv_at hl 3 rfl) ?_
    refine va_get (D := D) (ci := 2) (v := .ref g5) (C := R_Gr) (T := F_Gr) (N := 7) hx hb hB in_Gr hown hK hP 0 rfl rfl 5 (by decide) (hB _ mf_Gr_27) (fun _ h9 => h9) rfl d_Gr_longestChain_39 ?_
    refine lv_iload_n hx hb d_Gr_longestChain_42 rfl (lv_at hl 0 rfl) ?_
    refine xa_ld (u := (od u)) hx hb hK hP 6 5 rfl rfl (by omega) (by decide) d_Gr_longestChain_43 ?_
    refine va_mmax hx hb (hml.trans hl.1.symm) hown (hB _ ml_Gr_66) (hB _ ms_Ma_max) (hB _ mz_Ma) (hB _ mc_Ma_max) (by decide) (Nat.le_of_ble_eq_true rfl) (by decide) (by decide) d_Gr_longestChain_44 ?_
    refine lv_istore_n hx hb d_Gr_longestChain_47 rfl hl (by decide) rfl (fun ls hl => ?_)
    have hl : lv_has ls 4 [(1, .int (if lgF bF od cH u < (chF bF od cH (u + 1)) (od u) then (chF bF od cH (u + 1)) (od u) else lgF bF od cH u)), (3, .int (nI (od u))), (2, .int (nI u)), (0, .ref g)] := hl
    have hl : lv_has ls 4 [(1, .int (lgF bF od cH (u + 1))), (3, .int (nI (od u))), (2, .int (nI u)), (0, .ref g)] := by
      have hz : (if lgF bF od cH u < (chF bF od cH (u + 1)) (od u) then (chF bF od cH (u + 1)) (od u) else lgF bF od cH u) = lgF bF od cH (u + 1) := rfl
      rw [← hz]; exact hl
    refine lv_iinc hx hb d_Gr_longestChain_48 hl (k := 2) rfl (v := nI (u + 1)) (nI_1 u) (by decide) rfl (fun ls hl => ?_)
    have hl : lv_has ls 4 [(2, .int (nI (u + 1))), (1, .int (lgF bF od cH (u + 1))), (3, .int (nI (od u))), (0, .ref g)] := hl
    refine lv_goto (tgt := 4) hx hb d_Gr_longestChain_51 rfl ?_
    exact ih4 (u + 1) _ H locs ⟨by omega, lv_sub hl [0, 1, 3] rfl, hP, hD, hS⟩ (by omega)
end
section
def plc (h li : Nat → Int32) (u : Nat) : Nat → Int32 := fun k => if k < u then bit (k + 16) else if 16 ≤ k ∧ k < 16 + u then h (k - 16) else li k
theorem plc_0 {h li : Nat → Int32} : li = plc h li 0 := by
  funext k; unfold plc
  rw [if_neg (by omega), if_neg (by omega)]
theorem plc_st {h li : Nat → Int32} {u : Nat} (hu : u < 16) : upd (upd (plc h li u) u (bit (u + 16))) (u + 16) (h u) = plc h li (u + 1) := by
  funext k
  unfold plc
  by_cases h1 : k = u + 16
  · subst h1
    rw [pk_us, if_neg (by omega), if_pos (by omega), Nat.add_sub_cancel]
  · rw [pk_un h1]
    by_cases h2 : k = u
    · subst h2
      rw [pk_us, if_pos (by omega)]
    · rw [pk_un h2]
      by_cases h3 : k < u
      · rw [if_pos h3, if_pos (by omega)]
      · rw [if_neg h3, if_neg (by omega : ¬ k < u + 1)]
        by_cases h4 : 16 ≤ k ∧ k < 16 + u
        · rw [if_pos h4, if_pos (by omega)]
        · rw [if_neg h4, if_neg (by omega)]
def mkF (fx : Int32) (a : Nat) (cf : Nat → Nat) : Nat → Nat := fun k => if bt fx k = true then a else cf k
def mkU (fx : Int32) (a : Nat) (cf : Nat → Nat) (u : Nat) : Nat → Nat := fun k => if k < u ∧ bt fx k = true then a else cf k
theorem mkU_0 {fx : Int32} {a : Nat} {cf : Nat → Nat} : cf = mkU fx a cf 0 := by
  funext k; unfold mkU; rw [if_neg (by omega)]
theorem mkU_t {fx : Int32} {a : Nat} {cf : Nat → Nat} {u : Nat} (hb : bt fx u = true) : upd (fun k => nI (mkU fx a cf u k)) u (nI a) = fun k => nI (mkU fx a cf (u + 1) k) := by
  funext k
  by_cases h : k = u
  · subst h; rw [pk_us]; unfold mkU; rw [if_pos ⟨by omega, hb⟩]
  · rw [pk_un h]; unfold mkU
    by_cases h2 : k < u ∧ bt fx k = true
    · rw [if_pos h2, if_pos ⟨by omega, h2.2⟩]
    · rw [if_neg h2, if_neg (fun q => h2 ⟨by omega, q.2⟩)]
theorem mkU_f {fx : Int32} {a : Nat} {cf : Nat → Nat} {u : Nat} (hb : bt fx u = false) : mkU fx a cf u = mkU fx a cf (u + 1) := by
  funext k; unfold mkU
  by_cases h2 : k < u ∧ bt fx k = true
  · rw [if_pos h2, if_pos ⟨by omega, h2.2⟩]
  · rw [if_neg h2, if_neg (fun q => h2 ⟨by
      rcases Nat.lt_or_ge k u with h3 | h3
      · exact h3
      · have : k = u := by omega
        subst this
        rw [hb] at q; exact absurd q.2 (by decide), q.2⟩)]
theorem mkU_32 {fx : Int32} {a : Nat} {cf : Nat → Nat} : mkU fx a cf 32 = mkF fx a cf := by
  funext k; unfold mkU mkF
  by_cases h : bt fx k = true
  · rw [if_pos h, if_pos ⟨bt_lt h, h⟩]
  · rw [if_neg h, if_neg (fun q => h q.2)]
def psU (us fe : Nat → Int32) (a b : Nat) : Nat → Int32 := if bt (fe a) b = true then upd us b (us b &&& (bit a ^^^ (-1))) else upd us a (us a ||| bit b)
def psF (us fe : Nat → Int32) (a b : Nat) : Nat → Int32 := if bt (fe a) b = true then upd fe a (fe a &&& (bit b ^^^ (-1))) else upd fe b (fe b ||| bit a)
def ps3 (cf : Nat → Nat) (frm : Nat) (us fe : Nat → Int32) (t : Nat) : Nat → Nat × (Nat → Int32) × (Nat → Int32)
  | 0 => (t, us, fe)
  | k + 1 => if (ps3 cf frm us fe t k).1 = frm then ps3 cf frm us fe t k else (cf (ps3 cf frm us fe t k).1, psU (ps3 cf frm us fe t k).2.1 (ps3 cf frm us fe t k).2.2 (cf (ps3 cf frm us fe t k).1) (ps3 cf frm us fe t k).1, psF (ps3 cf frm us fe t k).2.1 (ps3 cf frm us fe t k).2.2 (cf (ps3 cf frm us fe t k).1) (ps3 cf frm us fe t k).1)
theorem ps3_stay {cf : Nat → Nat} {frm : Nat} {us fe : Nat → Int32} {t k : Nat} (h : (ps3 cf frm us fe t k).1 = frm) : ∀ j, ps3 cf frm us fe t (k + j) = ps3 cf frm us fe t k := by
  intro j
  induction j with
  | zero => rfl
  | succ j ih =>
    show (if (ps3 cf frm us fe t (k + j)).1 = frm then ps3 cf frm us fe t (k + j) else _) = _
    rw [ih, if_pos h]
theorem ps3_end {cf : Nat → Nat} {frm : Nat} {us fe : Nat → Int32} {t k : Nat} (hk : k ≤ 32) (h : (ps3 cf frm us fe t k).1 = frm) : ps3 cf frm us fe t 32 = ps3 cf frm us fe t k := by
  have := ps3_stay h (32 - k)
  rw [show k + (32 - k) = 32 by omega] at this
  exact this
theorem ps3_go {cf : Nat → Nat} {frm : Nat} {us fe : Nat → Int32} {t k : Nat} (h : ¬ (ps3 cf frm us fe t k).1 = frm) : ps3 cf frm us fe t (k + 1) = (cf (ps3 cf frm us fe t k).1, psU (ps3 cf frm us fe t k).2.1 (ps3 cf frm us fe t k).2.2 (cf (ps3 cf frm us fe t k).1) (ps3 cf frm us fe t k).1, psF (ps3 cf frm us fe t k).2.1 (ps3 cf frm us fe t k).2.2 (cf (ps3 cf frm us fe t k).1) (ps3 cf frm us fe t k).1) := if_neg h
theorem ps3_lt {cf : Nat → Nat} {frm : Nat} {us fe : Nat → Int32} {t : Nat} (ht : t < 32) (hcf : ∀ k, k < 32 → cf k < 32) : ∀ k, (ps3 cf frm us fe t k).1 < 32 := by
  intro k
  induction k with
  | zero => exact ht
  | succ k ih =>
    by_cases h : (ps3 cf frm us fe t k).1 = frm
    · show (if (ps3 cf frm us fe t k).1 = frm then ps3 cf frm us fe t k else _).1 < 32
      rw [if_pos h]; exact ih
    · rw [ps3_go h]; exact hcf _ ih
def fr9 (li us fe : Nat → Int32) (seen : Int32) (a : Nat) : Int32 := (li a &&& (us a ^^^ (-1)) ||| fe a) &&& (seen ^^^ (-1))
def inS (li us fe : Nat → Int32) (front : Int32) (z : Int32 × Int32 × (Nat → Nat)) : Nat → Int32 × Int32 × (Nat → Nat)
  | 0 => z
  | a + 1 => if bt front a = true then ((inS li us fe front z a).1 ||| fr9 li us fe (inS li us fe front z a).1 a, (inS li us fe front z a).2.1 ||| fr9 li us fe (inS li us fe front z a).1 a, mkF (fr9 li us fe (inS li us fe front z a).1 a) a (inS li us fe front z a).2.2) else inS li us fe front z a
theorem inS_t {li us fe : Nat → Int32} {front : Int32} {z : Int32 × Int32 × (Nat → Nat)} {a : Nat} (h : bt front a = true) : inS li us fe front z (a + 1) = ((inS li us fe front z a).1 ||| fr9 li us fe (inS li us fe front z a).1 a, (inS li us fe front z a).2.1 ||| fr9 li us fe (inS li us fe front z a).1 a, mkF (fr9 li us fe (inS li us fe front z a).1 a) a (inS li us fe front z a).2.2) := if_pos h
theorem inS_f {li us fe : Nat → Int32} {front : Int32} {z : Int32 × Int32 × (Nat → Nat)} {a : Nat} (h : bt front a = false) : inS li us fe front z (a + 1) = inS li us fe front z a := if_neg (by rw [h]; decide)
def ouS (li us fe : Nat → Int32) (frm t : Nat) (cf : Nat → Nat) : Nat → Int32 × Int32 × (Nat → Nat)
  | 0 => (bit frm, bit frm, cf)
  | r + 1 => if (ouS li us fe frm t cf r).2.1 = 0 ∨ bt (ouS li us fe frm t cf r).1 t = true then ouS li us fe frm t cf r else inS li us fe (ouS li us fe frm t cf r).2.1 ((ouS li us fe frm t cf r).1, nI 0, (ouS li us fe frm t cf r).2.2) 32
theorem ouS_end {li us fe : Nat → Int32} {frm t : Nat} {cf : Nat → Nat} {r : Nat} (hr : r ≤ 32) (h : (ouS li us fe frm t cf r).2.1 = 0 ∨ bt (ouS li us fe frm t cf r).1 t = true) : ouS li us fe frm t cf 32 = ouS li us fe frm t cf r := by
  have key : ∀ j, ouS li us fe frm t cf (r + j) = ouS li us fe frm t cf r := by
    intro j
    induction j with
    | zero => rfl
    | succ j ih =>
      show (if (ouS li us fe frm t cf (r + j)).2.1 = 0 ∨ bt (ouS li us fe frm t cf (r + j)).1 t = true then ouS li us fe frm t cf (r + j) else _) = _
      rw [ih, if_pos h]
  have := key (32 - r)
  rw [show r + (32 - r) = 32 by omega] at this
  exact this
theorem ouS_go {li us fe : Nat → Int32} {frm t : Nat} {cf : Nat → Nat} {r : Nat} (h1 : ¬ (ouS li us fe frm t cf r).2.1 = 0) (h2 : bt (ouS li us fe frm t cf r).1 t = false) : ouS li us fe frm t cf (r + 1) = inS li us fe (ouS li us fe frm t cf r).2.1 ((ouS li us fe frm t cf r).1, nI 0, (ouS li us fe frm t cf r).2.2) 32 := if_neg (by rintro (q | q); exact h1 q; rw [h2] at q; cases q)
theorem inS_cf {li us fe : Nat → Int32} {front : Int32} {z : Int32 × Int32 × (Nat → Nat)} (hz : ∀ k, k < 32 → z.2.2 k < 32) : ∀ a, a ≤ 32 → ∀ k, k < 32 → (inS li us fe front z a).2.2 k < 32 := by
  intro a
  induction a with
  | zero => intro _; exact hz
  | succ a ih =>
    intro ha k hk
    by_cases h : bt front a = true
    · rw [inS_t h]
      show mkF _ a _ k < 32
      unfold mkF
      split
      · omega
      · exact ih (by omega) k hk
    · rw [inS_f (by cases hb : bt front a with | false => rfl | true => exact absurd hb h)]
      exact ih (by omega) k hk
theorem ouS_cf {li us fe : Nat → Int32} {frm t : Nat} {cf : Nat → Nat} (hz : ∀ k, k < 32 → cf k < 32) : ∀ r k, k < 32 → (ouS li us fe frm t cf r).2.2 k < 32 := by
  intro r
  induction r with
  | zero => exact hz
  | succ r ih =>
    intro k hk
    show (if (ouS li us fe frm t cf r).2.1 = 0 ∨ bt (ouS li us fe frm t cf r).1 t = true then ouS li us fe frm t cf r else inS li us fe (ouS li us fe frm t cf r).2.1 ((ouS li us fe frm t cf r).1, nI 0, (ouS li us fe frm t cf r).2.2) 32).2.2 k < 32
    split
    · exact ih k hk
    · exact inS_cf (z := ((ouS li us fe frm t cf r).1, nI 0, (ouS li us fe frm t cf r).2.2)) (fun k hk => ih k hk) 32 (Nat.le_refl _) k hk
def moS (li : Nat → Int32) (frm t : Nat) (cf : Nat → Nat) : Nat → (Nat → Int32) × (Nat → Int32) × (Nat → Nat) × Nat × Bool
  | 0 => (fun _ => nI 0, fun _ => nI 0, cf, 0, false)
  | r + 1 =>
    if (moS li frm t cf r).2.2.2.2 = true then moS li frm t cf r
    else if bt (ouS li (moS li frm t cf r).1 (moS li frm t cf r).2.1 frm t (moS li frm t cf r).2.2.1 32).1 t = true then
      ((ps3 (ouS li (moS li frm t cf r).1 (moS li frm t cf r).2.1 frm t (moS li frm t cf r).2.2.1 32).2.2 frm (moS li frm t cf r).1 (moS li frm t cf r).2.1 t 32).2.1,
       (ps3 (ouS li (moS li frm t cf r).1 (moS li frm t cf r).2.1 frm t (moS li frm t cf r).2.2.1 32).2.2 frm (moS li frm t cf r).1 (moS li frm t cf r).2.1 t 32).2.2,
       (ouS li (moS li frm t cf r).1 (moS li frm t cf r).2.1 frm t (moS li frm t cf r).2.2.1 32).2.2, (moS li frm t cf r).2.2.2.1 + 1, false)
    else ((moS li frm t cf r).1, (moS li frm t cf r).2.1, (ouS li (moS li frm t cf r).1 (moS li frm t cf r).2.1 frm t (moS li frm t cf r).2.2.1 32).2.2, (moS li frm t cf r).2.2.2.1, true)
theorem moS_stay {li : Nat → Int32} {frm t : Nat} {cf : Nat → Nat} {r : Nat} (h : (moS li frm t cf r).2.2.2.2 = true) : ∀ j, moS li frm t cf (r + j) = moS li frm t cf r := by
  intro j
  induction j with
  | zero => rfl
  | succ j ih =>
    show (if (moS li frm t cf (r + j)).2.2.2.2 = true then moS li frm t cf (r + j) else _) = _
    rw [ih, if_pos h]
theorem moS_f {li : Nat → Int32} {frm t : Nat} {cf : Nat → Nat} {r : Nat} (hd : (moS li frm t cf r).2.2.2.2 = false) (h : bt (ouS li (moS li frm t cf r).1 (moS li frm t cf r).2.1 frm t (moS li frm t cf r).2.2.1 32).1 t = false) : moS li frm t cf (r + 1) = ((moS li frm t cf r).1, (moS li frm t cf r).2.1, (ouS li (moS li frm t cf r).1 (moS li frm t cf r).2.1 frm t (moS li frm t cf r).2.2.1 32).2.2, (moS li frm t cf r).2.2.2.1, true) := by
  show (if (moS li frm t cf r).2.2.2.2 = true then moS li frm t cf r else _) = _
  rw [if_neg (by rw [hd]; decide), if_neg (by rw [h]; decide)]
theorem moS_t {li : Nat → Int32} {frm t : Nat} {cf : Nat → Nat} {r : Nat} (hd : (moS li frm t cf r).2.2.2.2 = false) (h : bt (ouS li (moS li frm t cf r).1 (moS li frm t cf r).2.1 frm t (moS li frm t cf r).2.2.1 32).1 t = true) : moS li frm t cf (r + 1) = ((ps3 (ouS li (moS li frm t cf r).1 (moS li frm t cf r).2.1 frm t (moS li frm t cf r).2.2.1 32).2.2 frm (moS li frm t cf r).1 (moS li frm t cf r).2.1 t 32).2.1,
       (ps3 (ouS li (moS li frm t cf r).1 (moS li frm t cf r).2.1 frm t (moS li frm t cf r).2.2.1 32).2.2 frm (moS li frm t cf r).1 (moS li frm t cf r).2.1 t 32).2.2,
       (ouS li (moS li frm t cf r).1 (moS li frm t cf r).2.1 frm t (moS li frm t cf r).2.2.1 32).2.2, (moS li frm t cf r).2.2.2.1 + 1, false) := by
  show (if (moS li frm t cf r).2.2.2.2 = true then moS li frm t cf r else _) = _
  rw [if_neg (by rw [hd]; decide), if_pos h]
theorem moS_end {li : Nat → Int32} {frm t : Nat} {cf : Nat → Nat} {r : Nat} (hr : r < 16) (hd : (moS li frm t cf r).2.2.2.2 = false) (h : bt (ouS li (moS li frm t cf r).1 (moS li frm t cf r).2.1 frm t (moS li frm t cf r).2.2.1 32).1 t = false) : moS li frm t cf 16 = ((moS li frm t cf r).1, (moS li frm t cf r).2.1, (ouS li (moS li frm t cf r).1 (moS li frm t cf r).2.1 frm t (moS li frm t cf r).2.2.1 32).2.2, (moS li frm t cf r).2.2.2.1, true) := by
  have h1 := moS_f hd h
  have h2 := moS_stay (r := r + 1) (by rw [h1]) (16 - (r + 1))
  rw [show r + 1 + (16 - (r + 1)) = 16 by omega] at h2
  rw [h2, h1]
theorem moS_cf {li : Nat → Int32} {frm t : Nat} {cf : Nat → Nat} (hz : ∀ k, k < 32 → cf k < 32) : ∀ r k, k < 32 → (moS li frm t cf r).2.2.1 k < 32 := by
  intro r
  induction r with
  | zero => exact hz
  | succ r ih =>
    intro k hk
    cases hd : (moS li frm t cf r).2.2.2.2 with
    | true => rw [moS_stay hd 1]; exact ih k hk
    | false =>
      cases hb : bt (ouS li (moS li frm t cf r).1 (moS li frm t cf r).2.1 frm t (moS li frm t cf r).2.2.1 32).1 t with
      | true => rw [moS_t hd hb]; dsimp only; exact ouS_cf (li := li) (us := (moS li frm t cf r).1) (fe := (moS li frm t cf r).2.1) (frm := frm) (t := t) (cf := (moS li frm t cf r).2.2.1) ih 32 k hk
      | false => rw [moS_f hd hb]; dsimp only; exact ouS_cf (li := li) (us := (moS li frm t cf r).1) (fe := (moS li frm t cf r).2.1) (frm := frm) (t := t) (cf := (moS li frm t cf r).2.2.1) ih 32 k hk
theorem moS_n {li : Nat → Int32} {frm t : Nat} {cf : Nat → Nat} : ∀ r, (moS li frm t cf r).2.2.2.1 ≤ r := by
  intro r
  induction r with
  | zero => exact Nat.le_refl _
  | succ r ih =>
    cases hd : (moS li frm t cf r).2.2.2.2 with
    | true => rw [moS_stay hd 1]; omega
    | false =>
      cases hb : bt (ouS li (moS li frm t cf r).1 (moS li frm t cf r).2.1 frm t (moS li frm t cf r).2.2.1 32).1 t with
      | true => rw [moS_t hd hb]; show (moS li frm t cf r).2.2.2.1 + 1 ≤ r + 1; omega
      | false => rw [moS_f hd hb]; show (moS li frm t cf r).2.2.2.1 ≤ r + 1; omega
end
section
set_option maxHeartbeats 4000000 in
set_option maxRecDepth 100000 in
theorem k_Fl_readArrows (l : Launch) (D : va_G) (f f0 f1 f2 f3 : Nat) (j0 j1 j2 j3 : ClassId) (li : Nat → Int32) (us : Nat → Int32) (fe : Nat → Int32) (cF : Nat → Int32) (w hd : Nat) (cA : ClassId) (ct : Int32) (h : Nat → Int32)  (sz : Nat) : Met l y_Fl_readArrows (Cond.code y_Fl_readArrows c_Fl_readArrows 3 none :: BS) { frames := 1, cells := 0, slots := 0, locals := 21 } (va_Pc [.ref f, .ref w] (xWp D [(f, .inr (4, [.ref f0, .ref f1, .ref f2, .ref f3])), (f0, .inl (j0, 32, .inl li)), (f1, .inl (j1, 32, .inl us)), (f2, .inl (j2, 32, .inl fe)), (f3, .inl (j3, 32, .inl cF)), (w, .inr (1, [.ref hd, .int ct])), (hd, .inl (cA, 16, .inl h))] [(j0, .int), (j1, .int), (j2, .int), (j3, .int), (cA, .int)] sz)) (xQv D [(f, .inr (4, [.ref f0, .ref f1, .ref f2, .ref f3])), (f0, .inl (j0, 32, .inl li)), (f1, .inl (j1, 32, .inl us)), (f2, .inl (j2, 32, .inl fe)), (f3, .inl (j3, 32, .inl cF)), (w, .inr (1, [.ref hd, .int ct])), (hd, .inl (cA, 16, .inl h))] [(f, .inr (4, [.ref f0, .ref f1, .ref f2, .ref f3])), (f0, .inl (j0, 32, .inl (fun k => if k < 16 then h k else li k))), (f1, .inl (j1, 32, .inl us)), (f2, .inl (j2, 32, .inl fe)), (f3, .inl (j3, 32, .inl cF)), (w, .inr (1, [.ref hd, .int ct])), (hd, .inl (cA, 16, .inl h))] [(j0, .int), (j1, .int), (j2, .int), (j3, .int), (cA, .int)] sz) 0 0 (va_A [(f, .inr (4, [.ref f0, .ref f1, .ref f2, .ref f3])), (f0, .inl (j0, 32, .inl li)), (f1, .inl (j1, 32, .inl us)), (f2, .inl (j2, 32, .inl fe)), (f3, .inl (j3, 32, .inl cF)), (w, .inr (1, [.ref hd, .int ct])), (hd, .inl (cA, 16, .inl h))] sz) := by
  refine Met.ofW (cc := c_Fl_readArrows) (maxL := 3) (ret := none) (by decide) rfl ?_
  intro p e s m args below meth c s₁ B hml hv
  obtain ⟨rfl, hsz, hP, hK, hD0, hN⟩ := hv
  have hx := B.exec
  have hb := B.bytes
  have hr := B.returns
  have hB := xB B.pre
  have hown : s.vm.findClass R_Fl = some m.cls := findClass_of_methodNamed B.named
  have hlocks := B.notSynchronized
  subst hsz
  have hD := hD0.self (sz := s.heap.size)
  obtain ⟨A, hAe⟩ : ∃ A, A = va_A [(f, .inr (4, [.ref f0, .ref f1, .ref f2, .ref f3])), (f0, .inl (j0, 32, .inl li)), (f1, .inl (j1, 32, .inl us)), (f2, .inl (j2, 32, .inl fe)), (f3, .inl (j3, 32, .inl cF)), (w, .inr (1, [.ref hd, .int ct])), (hd, .inl (cA, 16, .inl h))] s.heap.size := ⟨_, rfl⟩
  rw [← hAe] at hD
  have hA : ∀ q : Nat, s.heap.size ≤ q → A q := fun q h => by rw [hAe]; exact Or.inr h
  have hS : va_S A s.heap s.heap [] := va_S.rf
  have hl := lv_entry ([.ref f, .ref w]) (n := 3) (Nat.le_of_ble_eq_true rfl)
  rw [lg_entry_eq]
  generalize (lg_sl ([.ref f, .ref w]) ++ List.replicate (3 - (lg_sl ([.ref f, .ref w])).length) Slot.unset).toArray = ls at hl ⊢
  have hl : lv_has ls 3 [(0, .ref f), (1, .ref w)] := hl
  refine lv_iconst (v := nI 0) hx hb d_Fl_readArrows_0 (by decide) ?_
  refine lv_istore_n hx hb d_Fl_readArrows_1 rfl hl (by decide) rfl (fun ls hl => ?_)
  have hl : lv_has ls 3 [(2, .int (nI 0)), (0, .ref f), (1, .ref w)] := hl
  have hP := xP_ext hP 1 (fun k => if k < 0 then h k else li k) rfl (fun j9 hj9 => congrFun lt0_f j9)
  have hD := xD_ext hD 1 (y := .inl (j0, 32, .inl (fun k => if k < 0 then h k else li k))) rfl
  have hP : va_P D cls [(f, .inr (4, [.ref f0, .ref f1, .ref f2, .ref f3])), (f0, .inl (j0, 32, .inl (fun k => if k < 0 then h k else li k))), (f1, .inl (j1, 32, .inl us)), (f2, .inl (j2, 32, .inl fe)), (f3, .inl (j3, 32, .inl cF)), (w, .inr (1, [.ref hd, .int ct])), (hd, .inl (cA, 16, .inl h))] _ := hP
  have hD : va_D A [(f, .inr (4, [.ref f0, .ref f1, .ref f2, .ref f3])), (f0, .inl (j0, 32, .inl (fun k => if k < 0 then h k else li k))), (f1, .inl (j1, 32, .inl us)), (f2, .inl (j2, 32, .inl fe)), (f3, .inl (j3, 32, .inl cF)), (w, .inr (1, [.ref hd, .int ct])), (hd, .inl (cA, 16, .inl h))] := hD
  refine xl_w (fun (u : Nat) ls H locs => ((u ≤ 16)) ∧ lv_has ls 3 [(2, .int (nI u)), (0, .ref f), (1, .ref w)] ∧ va_P D cls [(f, .inr (4, [.ref f0, .ref f1, .ref f2, .ref f3])), (f0, .inl (j0, 32, .inl (fun k => if k < u then h k else li k))), (f1, .inl (j1, 32, .inl us)), (f2, .inl (j2, 32, .inl fe)), (f3, .inl (j3, 32, .inl cF)), (w, .inr (1, [.ref hd, .int ct])), (hd, .inl (cA, 16, .inl h))] H ∧ va_D A [(f, .inr (4, [.ref f0, .ref f1, .ref f2, .ref f3])), (f0, .inl (j0, 32, .inl (fun k => if k < u then h k else li k))), (f1, .inl (j1, 32, .inl us)), (f2, .inl (j2, 32, .inl fe)), (f3, .inl (j3, 32, .inl cF)), (w, .inr (1, [.ref hd, .int ct])), (hd, .inl (cA, 16, .inl h))] ∧ va_S A s.heap H locs) (fun u => 16 - u) (fun u ls H locs hI ih2 => ?_) 0 _ ⟨Nat.zero_le _, hl, hP, hD, hS⟩
  obtain ⟨hI, hl, hP, hD, hS⟩ := hI
  have hu := hI
  refine lv_iload_n hx hb d_Fl_readArrows_2 rfl (lv_at hl 0 rfl) ?_
  refine lv_bipush (v := nI 16) hx hb d_Fl_readArrows_3 (by decide) ?_
  refine lv_icmp_ge (tgt := 25) hx hb d_Fl_readArrows_5 rfl (fun hc5 => ?_) (fun hc5 => ?_)
  · have hc5 : 16 ≤ u := (nI_leI (by omega) (by omega)).mp hc5
    have hz : (fun k => if k < u then h k else li k) = (fun k => if k < 16 then h k else li k) := by rw [show u = 16 by omega]
    rw [hz] at hP hD
    have hP9 := hP.sub (ws' := [(f, .inr (4, [.ref f0, .ref f1, .ref f2, .ref f3])), (f0, .inl (j0, 32, .inl (fun k => if k < 16 then h k else li k))), (f1, .inl (j1, 32, .inl us)), (f2, .inl (j2, 32, .inl fe)), (f3, .inl (j3, 32, .inl cF)), (w, .inr (1, [.ref hd, .int ct])), (hd, .inl (cA, 16, .inl h))]) [0, 1, 2, 3, 4, 5, 6] rfl
    have hD9 := hD.sub (ws' := [(f, .inr (4, [.ref f0, .ref f1, .ref f2, .ref f3])), (f0, .inl (j0, 32, .inl (fun k => if k < 16 then h k else li k))), (f1, .inl (j1, 32, .inl us)), (f2, .inl (j2, 32, .inl fe)), (f3, .inl (j3, 32, .inl cF)), (w, .inr (1, [.ref hd, .int ct])), (hd, .inl (cA, 16, .inl h))]) [0, 1, 2, 3, 4, 5, 6] (by decide) rfl
    subst hAe
    exact W.vret hx hb hr (fun t ht hW => ⟨⟨(), rfl, trivial, by rw [ht]; exact hP9, va_K.moved hW.alike hK, hD9⟩, hS.F ht⟩) hS.2.2 d_Fl_readArrows_25
  · have hc5 : ¬ (16 ≤ u) := fun q9 => hc5 ((nI_leI (by omega) (by omega)).mpr q9)
    refine lv_aload_n hx hb d_Fl_readArrows_8 rfl (lv_at hl 1 rfl) ?_
    refine va_get (D := D) (ci := 4) (v := .ref f0) (C := R_Fl) (T := F_Fl) (N := 4) hx hb hB in_Fl hown hK hP 0 rfl rfl 0 (by decide) (hB _ mf_Fl_11) (fun _ h9 => h9) rfl d_Fl_readArrows_9 ?_
    refine lv_iload_n hx hb d_Fl_readArrows_12 rfl (lv_at hl 0 rfl) ?_
    refine lv_aload_n hx hb d_Fl_readArrows_13 rfl (lv_at hl 2 rfl) ?_
    refine lv_iload_n hx hb d_Fl_readArrows_14 rfl (lv_at hl 0 rfl) ?_
    refine xr_cal (va_runV (As := [.int (nI u)]) (rest := [.int (nI u), .ref f0]) ⟨hx, hb, hml, hown, hB⟩ (k_Web_headsOf l D w hd cA ct h u (by omega)) ⟨callB_of 1 hB (xg0 mc_Web_headsOf) rfl rfl rfl (hB _ mz_Web) (hB _ ml_Fl_24) (by decide +kernel) ⟨Nat.le_of_ble_eq_true rfl, Nat.le_of_ble_eq_true rfl⟩, hB _ mi_Web_headsOf, hB _ me_Web_headsOf⟩ (xpV (ws := [(w, .inr (1, [.ref hd, .int ct])), (hd, .inl (cA, 16, .inl h))]) (tys := [(cA, .int)]) (hP.sub [5, 6] rfl) (hK.sub [4] rfl) hN (va_recv (ci := 1) (q0 := 5) (q := (R_Web, F_Web, 2)) hK hP rfl rfl)) rfl rfl hl.1 rfl (lv_room (Nat.le_of_ble_eq_true rfl)) d_Fl_readArrows_15 ⟨Nat.le_of_ble_eq_true rfl, Nat.le_of_ble_eq_true rfl⟩) ?_
    refine xa_st (u := u) hx hb hK hP hD hS 1 0 rfl rfl (by omega) (by decide) d_Fl_readArrows_18 (fun H locs hP hD hS => ?_)
    have hP : va_P D cls [(f, .inr (4, [.ref f0, .ref f1, .ref f2, .ref f3])), (f0, .inl (j0, 32, .inl (upd (fun k => if k < u then h k else li k) u (h u)))), (f1, .inl (j1, 32, .inl us)), (f2, .inl (j2, 32, .inl fe)), (f3, .inl (j3, 32, .inl cF)), (w, .inr (1, [.ref hd, .int ct])), (hd, .inl (cA, 16, .inl h))] H := hP
    have hD : va_D A [(f, .inr (4, [.ref f0, .ref f1, .ref f2, .ref f3])), (f0, .inl (j0, 32, .inl (upd (fun k => if k < u then h k else li k) u (h u)))), (f1, .inl (j1, 32, .inl us)), (f2, .inl (j2, 32, .inl fe)), (f3, .inl (j3, 32, .inl cF)), (w, .inr (1, [.ref hd, .int ct])), (hd, .inl (cA, 16, .inl h))] := hD
    have hz : (upd (fun k => if k < u then h k else li k) u (h u)) = (fun k => if k < u + 1 then h k else li k) := upd_ltf rfl
    rw [hz] at hP hD
    refine lv_iinc hx hb d_Fl_readArrows_19 hl (k := 0) rfl (v := nI (u + 1)) (nI_1 u) (by decide) rfl (fun ls hl => ?_)
    have hl : lv_has ls 3 [(2, .int (nI (u + 1))), (0, .ref f), (1, .ref w)] := hl
    refine lv_goto (tgt := 2) hx hb d_Fl_readArrows_22 rfl ?_
    exact ih2 (u + 1) _ H locs ⟨by omega, lv_sub hl [0, 1, 2] rfl, hP, hD, hS⟩ (by omega)
set_option maxHeartbeats 4000000 in
set_option maxRecDepth 100000 in
theorem k_Fl_readPlaces (l : Launch) (D : va_G) (f f0 f1 f2 f3 : Nat) (j0 j1 j2 j3 : ClassId) (li : Nat → Int32) (us : Nat → Int32) (fe : Nat → Int32) (cF : Nat → Int32) (w hd : Nat) (cA : ClassId) (ct : Int32) (h : Nat → Int32)  (sz : Nat) : Met l y_Fl_readPlaces (Cond.code y_Fl_readPlaces c_Fl_readPlaces 3 none :: BS) { frames := 1, cells := 0, slots := 0, locals := 21 } (va_Pc [.ref f, .ref w] (xWp D [(f, .inr (4, [.ref f0, .ref f1, .ref f2, .ref f3])), (f0, .inl (j0, 32, .inl li)), (f1, .inl (j1, 32, .inl us)), (f2, .inl (j2, 32, .inl fe)), (f3, .inl (j3, 32, .inl cF)), (w, .inr (1, [.ref hd, .int ct])), (hd, .inl (cA, 16, .inl h))] [(j0, .int), (j1, .int), (j2, .int), (j3, .int), (cA, .int)] sz)) (xQv D [(f, .inr (4, [.ref f0, .ref f1, .ref f2, .ref f3])), (f0, .inl (j0, 32, .inl li)), (f1, .inl (j1, 32, .inl us)), (f2, .inl (j2, 32, .inl fe)), (f3, .inl (j3, 32, .inl cF)), (w, .inr (1, [.ref hd, .int ct])), (hd, .inl (cA, 16, .inl h))] [(f, .inr (4, [.ref f0, .ref f1, .ref f2, .ref f3])), (f0, .inl (j0, 32, .inl (plc h li 16))), (f1, .inl (j1, 32, .inl us)), (f2, .inl (j2, 32, .inl fe)), (f3, .inl (j3, 32, .inl cF)), (w, .inr (1, [.ref hd, .int ct])), (hd, .inl (cA, 16, .inl h))] [(j0, .int), (j1, .int), (j2, .int), (j3, .int), (cA, .int)] sz) 0 0 (va_A [(f, .inr (4, [.ref f0, .ref f1, .ref f2, .ref f3])), (f0, .inl (j0, 32, .inl li)), (f1, .inl (j1, 32, .inl us)), (f2, .inl (j2, 32, .inl fe)), (f3, .inl (j3, 32, .inl cF)), (w, .inr (1, [.ref hd, .int ct])), (hd, .inl (cA, 16, .inl h))] sz) := by
  refine Met.ofW (cc := c_Fl_readPlaces) (maxL := 3) (ret := none) (by decide) rfl ?_
  intro p e s m args below meth c s₁ B hml hv
  obtain ⟨rfl, hsz, hP, hK, hD0, hN⟩ := hv
  have hx := B.exec
  have hb := B.bytes
  have hr := B.returns
  have hB := xB B.pre
  have hown : s.vm.findClass R_Fl = some m.cls := findClass_of_methodNamed B.named
  have hlocks := B.notSynchronized
  subst hsz
  have hD := hD0.self (sz := s.heap.size)
  obtain ⟨A, hAe⟩ : ∃ A, A = va_A [(f, .inr (4, [.ref f0, .ref f1, .ref f2, .ref f3])), (f0, .inl (j0, 32, .inl li)), (f1, .inl (j1, 32, .inl us)), (f2, .inl (j2, 32, .inl fe)), (f3, .inl (j3, 32, .inl cF)), (w, .inr (1, [.ref hd, .int ct])), (hd, .inl (cA, 16, .inl h))] s.heap.size := ⟨_, rfl⟩
  rw [← hAe] at hD
  have hA : ∀ q : Nat, s.heap.size ≤ q → A q := fun q h => by rw [hAe]; exact Or.inr h
  have hS : va_S A s.heap s.heap [] := va_S.rf
  have hl := lv_entry ([.ref f, .ref w]) (n := 3) (Nat.le_of_ble_eq_true rfl)
  rw [lg_entry_eq]
  generalize (lg_sl ([.ref f, .ref w]) ++ List.replicate (3 - (lg_sl ([.ref f, .ref w])).length) Slot.unset).toArray = ls at hl ⊢
  have hl : lv_has ls 3 [(0, .ref f), (1, .ref w)] := hl
  refine lv_iconst (v := nI 0) hx hb d_Fl_readPlaces_0 (by decide) ?_
  refine lv_istore_n hx hb d_Fl_readPlaces_1 rfl hl (by decide) rfl (fun ls hl => ?_)
  have hl : lv_has ls 3 [(2, .int (nI 0)), (0, .ref f), (1, .ref w)] := hl
  have hP := xP_ext hP 1 (plc h li 0) rfl (fun j9 hj9 => congrFun plc_0 j9)
  have hD := xD_ext hD 1 (y := .inl (j0, 32, .inl (plc h li 0))) rfl
  have hP : va_P D cls [(f, .inr (4, [.ref f0, .ref f1, .ref f2, .ref f3])), (f0, .inl (j0, 32, .inl (plc h li 0))), (f1, .inl (j1, 32, .inl us)), (f2, .inl (j2, 32, .inl fe)), (f3, .inl (j3, 32, .inl cF)), (w, .inr (1, [.ref hd, .int ct])), (hd, .inl (cA, 16, .inl h))] _ := hP
  have hD : va_D A [(f, .inr (4, [.ref f0, .ref f1, .ref f2, .ref f3])), (f0, .inl (j0, 32, .inl (plc h li 0))), (f1, .inl (j1, 32, .inl us)), (f2, .inl (j2, 32, .inl fe)), (f3, .inl (j3, 32, .inl cF)), (w, .inr (1, [.ref hd, .int ct])), (hd, .inl (cA, 16, .inl h))] := hD
  refine xl_w (fun (u : Nat) ls H locs => ((u ≤ 16)) ∧ lv_has ls 3 [(2, .int (nI u)), (0, .ref f), (1, .ref w)] ∧ va_P D cls [(f, .inr (4, [.ref f0, .ref f1, .ref f2, .ref f3])), (f0, .inl (j0, 32, .inl (plc h li u))), (f1, .inl (j1, 32, .inl us)), (f2, .inl (j2, 32, .inl fe)), (f3, .inl (j3, 32, .inl cF)), (w, .inr (1, [.ref hd, .int ct])), (hd, .inl (cA, 16, .inl h))] H ∧ va_D A [(f, .inr (4, [.ref f0, .ref f1, .ref f2, .ref f3])), (f0, .inl (j0, 32, .inl (plc h li u))), (f1, .inl (j1, 32, .inl us)), (f2, .inl (j2, 32, .inl fe)), (f3, .inl (j3, 32, .inl cF)), (w, .inr (1, [.ref hd, .int ct])), (hd, .inl (cA, 16, .inl h))] ∧ va_S A s.heap H locs) (fun u => 16 - u) (fun u ls H locs hI ih2 => ?_) 0 _ ⟨Nat.zero_le _, hl, hP, hD, hS⟩
  obtain ⟨hI, hl, hP, hD, hS⟩ := hI
  have hu := hI
  refine lv_iload_n hx hb d_Fl_readPlaces_2 rfl (lv_at hl 0 rfl) ?_
  refine lv_bipush (v := nI 16) hx hb d_Fl_readPlaces_3 (by decide) ?_
  refine lv_icmp_ge (tgt := 41) hx hb d_Fl_readPlaces_5 rfl (fun hc5 => ?_) (fun hc5 => ?_)
  · have hc5 : 16 ≤ u := (nI_leI (by omega) (by omega)).mp hc5
    have hz : (plc h li u) = (plc h li 16) := by rw [show u = 16 by omega]
    rw [hz] at hP hD
    have hP9 := hP.sub (ws' := [(f, .inr (4, [.ref f0, .ref f1, .ref f2, .ref f3])), (f0, .inl (j0, 32, .inl (plc h li 16))), (f1, .inl (j1, 32, .inl us)), (f2, .inl (j2, 32, .inl fe)), (f3, .inl (j3, 32, .inl cF)), (w, .inr (1, [.ref hd, .int ct])), (hd, .inl (cA, 16, .inl h))]) [0, 1, 2, 3, 4, 5, 6] rfl
    have hD9 := hD.sub (ws' := [(f, .inr (4, [.ref f0, .ref f1, .ref f2, .ref f3])), (f0, .inl (j0, 32, .inl (plc h li 16))), (f1, .inl (j1, 32, .inl us)), (f2, .inl (j2, 32, .inl fe)), (f3, .inl (j3, 32, .inl cF)), (w, .inr (1, [.ref hd, .int ct])), (hd, .inl (cA, 16, .inl h))]) [0, 1, 2, 3, 4, 5, 6] (by decide) rfl
    subst hAe
    exact W.vret hx hb hr (fun t ht hW => ⟨⟨(), rfl, trivial, by rw [ht]; exact hP9, va_K.moved hW.alike hK, hD9⟩, hS.F ht⟩) hS.2.2 d_Fl_readPlaces_41
  · have hc5 : ¬ (16 ≤ u) := fun q9 => hc5 ((nI_leI (by omega) (by omega)).mpr q9)
    refine lv_aload_n hx hb d_Fl_readPlaces_8 rfl (lv_at hl 1 rfl) ?_
    refine va_get (D := D) (ci := 4) (v := .ref f0) (C := R_Fl) (T := F_Fl) (N := 4) hx hb hB in_Fl hown hK hP 0 rfl rfl 0 (by decide) (hB _ mf_Fl_11) (fun _ h9 => h9) rfl d_Fl_readPlaces_9 ?_
    refine lv_iload_n hx hb d_Fl_readPlaces_12 rfl (lv_at hl 0 rfl) ?_
    refine lv_iload_n hx hb d_Fl_readPlaces_13 rfl (lv_at hl 0 rfl) ?_
    refine xr_cal (va_runS (As := [.int (nI u)]) (rest := [.int (nI u), .ref f0]) ⟨hx, hb, hml, hown, hB⟩ (k_Fl_exitOf l D u) ⟨callB_of 1 hB (xg0 mc_Fl_exitOf) rfl rfl rfl (hB _ mz_Fl) (hB _ ml_Fl_30) (by decide +kernel) ⟨Nat.le_of_ble_eq_true rfl, Nat.le_of_ble_eq_true rfl⟩, hB _ ms_Fl_exitOf⟩ (xpS (ws := []) (tys := []) (hP.sub [] rfl) (hK.sub [] rfl) hN) rfl rfl hl.1 rfl (lv_room (Nat.le_of_ble_eq_true rfl)) d_Fl_readPlaces_14 ⟨Nat.le_of_ble_eq_true rfl, Nat.le_of_ble_eq_true rfl⟩) ?_
    refine xr_cal (va_runSN (As := [.int (nI (u + 16))]) (rest := [.int (nI u), .ref f0]) ⟨hx, hb, hml, hown, hB⟩ (k_A_only l D (u + 16)) ⟨va_cnB 1 hB (xg0 mc_A_only) rfl rfl rfl (xn_Fl_33 hN) (hB _ mz_A) (by decide +kernel) ⟨Nat.le_of_ble_eq_true rfl, Nat.le_of_ble_eq_true rfl⟩, hB _ ms_A_only, trivial⟩ (xpS (ws := []) (tys := []) (hP.sub [] rfl) (hK.sub [] rfl) hN) rfl rfl hl.1 rfl (lv_room (Nat.le_of_ble_eq_true rfl)) d_Fl_readPlaces_17 ⟨Nat.le_of_ble_eq_true rfl, Nat.le_of_ble_eq_true rfl⟩) ?_
    refine xa_st (u := u) hx hb hK hP hD hS 1 0 rfl rfl (by omega) (by decide) d_Fl_readPlaces_20 (fun H locs hP hD hS => ?_)
    have hP : va_P D cls [(f, .inr (4, [.ref f0, .ref f1, .ref f2, .ref f3])), (f0, .inl (j0, 32, .inl (upd (plc h li u) u (bit (u + 16))))), (f1, .inl (j1, 32, .inl us)), (f2, .inl (j2, 32, .inl fe)), (f3, .inl (j3, 32, .inl cF)), (w, .inr (1, [.ref hd, .int ct])), (hd, .inl (cA, 16, .inl h))] H := hP
    have hD : va_D A [(f, .inr (4, [.ref f0, .ref f1, .ref f2, .ref f3])), (f0, .inl (j0, 32, .inl (upd (plc h li u) u (bit (u + 16))))), (f1, .inl (j1, 32, .inl us)), (f2, .inl (j2, 32, .inl fe)), (f3, .inl (j3, 32, .inl cF)), (w, .inr (1, [.ref hd, .int ct])), (hd, .inl (cA, 16, .inl h))] := hD
    refine lv_aload_n hx hb d_Fl_readPlaces_21 rfl (lv_at hl 1 rfl) ?_
    refine va_get (D := D) (ci := 4) (v := .ref f0) (C := R_Fl) (T := F_Fl) (N := 4) hx hb hB in_Fl hown hK hP 0 rfl rfl 0 (by decide) (hB _ mf_Fl_11) (fun _ h9 => h9) rfl d_Fl_readPlaces_22 ?_
    refine lv_iload_n hx hb d_Fl_readPlaces_25 rfl (lv_at hl 0 rfl) ?_
    refine xr_cal (va_runS (As := [.int (nI u)]) (rest := [.ref f0]) ⟨hx, hb, hml, hown, hB⟩ (k_Fl_exitOf l D u) ⟨callB_of 1 hB (xg0 mc_Fl_exitOf) rfl rfl rfl (hB _ mz_Fl) (hB _ ml_Fl_30) (by decide +kernel) ⟨Nat.le_of_ble_eq_true rfl, Nat.le_of_ble_eq_true rfl⟩, hB _ ms_Fl_exitOf⟩ (xpS (ws := []) (tys := []) (hP.sub [] rfl) (hK.sub [] rfl) hN) rfl rfl hl.1 rfl (lv_room (Nat.le_of_ble_eq_true rfl)) d_Fl_readPlaces_26 ⟨Nat.le_of_ble_eq_true rfl, Nat.le_of_ble_eq_true rfl⟩) ?_
    refine lv_aload_n hx hb d_Fl_readPlaces_29 rfl (lv_at hl 2 rfl) ?_
    refine lv_iload_n hx hb d_Fl_readPlaces_30 rfl (lv_at hl 0 rfl) ?_
    refine xr_cal (va_runV (As := [.int (nI u)]) (rest := [.int (nI (u + 16)), .ref f0]) ⟨hx, hb, hml, hown, hB⟩ (k_Web_headsOf l D w hd cA ct h u (by omega)) ⟨callB_of 1 hB (xg0 mc_Web_headsOf) rfl rfl rfl (hB _ mz_Web) (hB _ ml_Fl_24) (by decide +kernel) ⟨Nat.le_of_ble_eq_true rfl, Nat.le_of_ble_eq_true rfl⟩, hB _ mi_Web_headsOf, hB _ me_Web_headsOf⟩ (xpV (ws := [(w, .inr (1, [.ref hd, .int ct])), (hd, .inl (cA, 16, .inl h))]) (tys := [(cA, .int)]) (hP.sub [5, 6] rfl) (hK.sub [4] rfl) hN (va_recv (ci := 1) (q0 := 5) (q := (R_Web, F_Web, 2)) hK hP rfl rfl)) rfl rfl hl.1 rfl (lv_room (Nat.le_of_ble_eq_true rfl)) d_Fl_readPlaces_31 ⟨Nat.le_of_ble_eq_true rfl, Nat.le_of_ble_eq_true rfl⟩) ?_
    refine xa_st (u := (u + 16)) hx hb hK hP hD hS 1 0 rfl rfl (by omega) (by decide) d_Fl_readPlaces_34 (fun H locs hP hD hS => ?_)
    have hP : va_P D cls [(f, .inr (4, [.ref f0, .ref f1, .ref f2, .ref f3])), (f0, .inl (j0, 32, .inl (upd (upd (plc h li u) u (bit (u + 16))) (u + 16) (h u)))), (f1, .inl (j1, 32, .inl us)), (f2, .inl (j2, 32, .inl fe)), (f3, .inl (j3, 32, .inl cF)), (w, .inr (1, [.ref hd, .int ct])), (hd, .inl (cA, 16, .inl h))] H := hP
    have hD : va_D A [(f, .inr (4, [.ref f0, .ref f1, .ref f2, .ref f3])), (f0, .inl (j0, 32, .inl (upd (upd (plc h li u) u (bit (u + 16))) (u + 16) (h u)))), (f1, .inl (j1, 32, .inl us)), (f2, .inl (j2, 32, .inl fe)), (f3, .inl (j3, 32, .inl cF)), (w, .inr (1, [.ref hd, .int ct])), (hd, .inl (cA, 16, .inl h))] := hD
    have hz : (upd (upd (plc h li u) u (bit (u + 16))) (u + 16) (h u)) = (plc h li (u + 1)) := plc_st (by omega)
    rw [hz] at hP hD
    refine lv_iinc hx hb d_Fl_readPlaces_35 hl (k := 0) rfl (v := nI (u + 1)) (nI_1 u) (by decide) rfl (fun ls hl => ?_)
    have hl : lv_has ls 3 [(2, .int (nI (u + 1))), (0, .ref f), (1, .ref w)] := hl
    refine lv_goto (tgt := 2) hx hb d_Fl_readPlaces_38 rfl ?_
    exact ih2 (u + 1) _ H locs ⟨by omega, lv_sub hl [0, 1, 2] rfl, hP, hD, hS⟩ (by omega)
set_option maxHeartbeats 4000000 in
set_option maxRecDepth 100000 in
theorem k_Fl_markFrom (l : Launch) (D : va_G) (f f0 f1 f2 f3 : Nat) (j0 j1 j2 j3 : ClassId) (li : Nat → Int32) (us : Nat → Int32) (fe : Nat → Int32) (cf : Nat → Nat) (a9 : Nat) (fx : Int32) (sz : Nat) : Met l y_Fl_markFrom (Cond.code y_Fl_markFrom c_Fl_markFrom 4 none :: BS) { frames := 1, cells := 0, slots := 0, locals := 21 } (va_Pc [.ref f, .int (nI a9), .int fx] (xWp D [(f, .inr (4, [.ref f0, .ref f1, .ref f2, .ref f3])), (f0, .inl (j0, 32, .inl li)), (f1, .inl (j1, 32, .inl us)), (f2, .inl (j2, 32, .inl fe)), (f3, .inl (j3, 32, .inl (fun k => nI (cf k))))] [(j0, .int), (j1, .int), (j2, .int), (j3, .int)] sz)) (xQv D [(f, .inr (4, [.ref f0, .ref f1, .ref f2, .ref f3])), (f0, .inl (j0, 32, .inl li)), (f1, .inl (j1, 32, .inl us)), (f2, .inl (j2, 32, .inl fe)), (f3, .inl (j3, 32, .inl (fun k => nI (cf k))))] [(f, .inr (4, [.ref f0, .ref f1, .ref f2, .ref f3])), (f0, .inl (j0, 32, .inl li)), (f1, .inl (j1, 32, .inl us)), (f2, .inl (j2, 32, .inl fe)), (f3, .inl (j3, 32, .inl (fun k => nI (mkF fx a9 cf k))))] [(j0, .int), (j1, .int), (j2, .int), (j3, .int)] sz) 0 0 (va_A [(f, .inr (4, [.ref f0, .ref f1, .ref f2, .ref f3])), (f0, .inl (j0, 32, .inl li)), (f1, .inl (j1, 32, .inl us)), (f2, .inl (j2, 32, .inl fe)), (f3, .inl (j3, 32, .inl (fun k => nI (cf k))))] sz) := by
  refine Met.ofW (cc := c_Fl_markFrom) (maxL := 4) (ret := none) (by decide) rfl ?_
  intro p e s m args below meth c s₁ B hml hv
  obtain ⟨rfl, hsz, hP, hK, hD0, hN⟩ := hv
  have hx := B.exec
  have hb := B.bytes
  have hr := B.returns
  have hB := xB B.pre
  have hown : s.vm.findClass R_Fl = some m.cls := findClass_of_methodNamed B.named
  have hlocks := B.notSynchronized
  subst hsz
  have hD := hD0.self (sz := s.heap.size)
  obtain ⟨A, hAe⟩ : ∃ A, A = va_A [(f, .inr (4, [.ref f0, .ref f1, .ref f2, .ref f3])), (f0, .inl (j0, 32, .inl li)), (f1, .inl (j1, 32, .inl us)), (f2, .inl (j2, 32, .inl fe)), (f3, .inl (j3, 32, .inl (fun k => nI (cf k))))] s.heap.size := ⟨_, rfl⟩
  rw [← hAe] at hD
  have hA : ∀ q : Nat, s.heap.size ≤ q → A q := fun q h => by rw [hAe]; exact Or.inr h
  have hS : va_S A s.heap s.heap [] := va_S.rf
  have hl := lv_entry ([.ref f, .int (nI a9), .int fx]) (n := 4) (Nat.le_of_ble_eq_true rfl)
  rw [lg_entry_eq]
  generalize (lg_sl ([.ref f, .int (nI a9), .int fx]) ++ List.replicate (4 - (lg_sl ([.ref f, .int (nI a9), .int fx])).length) Slot.unset).toArray = ls at hl ⊢
  have hl : lv_has ls 4 [(0, .ref f), (1, .int (nI a9)), (2, .int fx)] := hl
  refine lv_iconst (v := nI 0) hx hb d_Fl_markFrom_0 (by decide) ?_
  refine lv_istore_n hx hb d_Fl_markFrom_1 rfl hl (by decide) rfl (fun ls hl => ?_)
  have hl : lv_has ls 4 [(3, .int (nI 0)), (0, .ref f), (1, .int (nI a9)), (2, .int fx)] := hl
  have hP := xP_ext hP 4 (fun k => nI (mkU fx a9 cf 0 k)) rfl (fun j9 hj9 => by rw [← mkU_0])
  have hD := xD_ext hD 4 (y := .inl (j3, 32, .inl (fun k => nI (mkU fx a9 cf 0 k)))) rfl
  have hP : va_P D cls [(f, .inr (4, [.ref f0, .ref f1, .ref f2, .ref f3])), (f0, .inl (j0, 32, .inl li)), (f1, .inl (j1, 32, .inl us)), (f2, .inl (j2, 32, .inl fe)), (f3, .inl (j3, 32, .inl (fun k => nI (mkU fx a9 cf 0 k))))] _ := hP
  have hD : va_D A [(f, .inr (4, [.ref f0, .ref f1, .ref f2, .ref f3])), (f0, .inl (j0, 32, .inl li)), (f1, .inl (j1, 32, .inl us)), (f2, .inl (j2, 32, .inl fe)), (f3, .inl (j3, 32, .inl (fun k => nI (mkU fx a9 cf 0 k))))] := hD
  refine xl_w (fun (u : Nat) ls H locs => ((u ≤ 32)) ∧ lv_has ls 4 [(3, .int (nI u)), (0, .ref f), (1, .int (nI a9)), (2, .int fx)] ∧ va_P D cls [(f, .inr (4, [.ref f0, .ref f1, .ref f2, .ref f3])), (f0, .inl (j0, 32, .inl li)), (f1, .inl (j1, 32, .inl us)), (f2, .inl (j2, 32, .inl fe)), (f3, .inl (j3, 32, .inl (fun k => nI (mkU fx a9 cf u k))))] H ∧ va_D A [(f, .inr (4, [.ref f0, .ref f1, .ref f2, .ref f3])), (f0, .inl (j0, 32, .inl li)), (f1, .inl (j1, 32, .inl us)), (f2, .inl (j2, 32, .inl fe)), (f3, .inl (j3, 32, .inl (fun k => nI (mkU fx a9 cf u k))))] ∧ va_S A s.heap H locs) (fun u => 32 - u) (fun u ls H locs hI ih2 => ?_) 0 _ ⟨Nat.zero_le _, hl, hP, hD, hS⟩
  obtain ⟨hI, hl, hP, hD, hS⟩ := hI
  have hu := hI
  refine lv_iload_n hx hb d_Fl_markFrom_2 rfl (lv_at hl 0 rfl) ?_
  refine lv_bipush (v := nI 32) hx hb d_Fl_markFrom_3 (by decide) ?_
  refine lv_icmp_ge (tgt := 29) hx hb d_Fl_markFrom_5 rfl (fun hc5 => ?_) (fun hc5 => ?_)
  · have hc5 : 32 ≤ u := (nI_leI (by omega) (by omega)).mp hc5
    have hP := xP_ext hP 4 (fun k => nI (mkF fx a9 cf k)) rfl (fun j9 hj9 => by rw [show u = 32 by omega, mkU_32])
    have hD := xD_ext hD 4 (y := .inl (j3, 32, .inl (fun k => nI (mkF fx a9 cf k)))) rfl
    have hP : va_P D cls [(f, .inr (4, [.ref f0, .ref f1, .ref f2, .ref f3])), (f0, .inl (j0, 32, .inl li)), (f1, .inl (j1, 32, .inl us)), (f2, .inl (j2, 32, .inl fe)), (f3, .inl (j3, 32, .inl (fun k => nI (mkF fx a9 cf k))))] _ := hP
    have hD : va_D A [(f, .inr (4, [.ref f0, .ref f1, .ref f2, .ref f3])), (f0, .inl (j0, 32, .inl li)), (f1, .inl (j1, 32, .inl us)), (f2, .inl (j2, 32, .inl fe)), (f3, .inl (j3, 32, .inl (fun k => nI (mkF fx a9 cf k))))] := hD
    have hP9 := hP.sub (ws' := [(f, .inr (4, [.ref f0, .ref f1, .ref f2, .ref f3])), (f0, .inl (j0, 32, .inl li)), (f1, .inl (j1, 32, .inl us)), (f2, .inl (j2, 32, .inl fe)), (f3, .inl (j3, 32, .inl (fun k => nI (mkF fx a9 cf k))))]) [0, 1, 2, 3, 4] rfl
    have hD9 := hD.sub (ws' := [(f, .inr (4, [.ref f0, .ref f1, .ref f2, .ref f3])), (f0, .inl (j0, 32, .inl li)), (f1, .inl (j1, 32, .inl us)), (f2, .inl (j2, 32, .inl fe)), (f3, .inl (j3, 32, .inl (fun k => nI (mkF fx a9 cf k))))]) [0, 1, 2, 3, 4] (by decide) rfl
    subst hAe
    exact W.vret hx hb hr (fun t ht hW => ⟨⟨(), rfl, trivial, by rw [ht]; exact hP9, va_K.moved hW.alike hK, hD9⟩, hS.F ht⟩) hS.2.2 d_Fl_markFrom_29
  · have hc5 : ¬ (32 ≤ u) := fun q9 => hc5 ((nI_leI (by omega) (by omega)).mpr q9)
    refine lv_iload_n hx hb d_Fl_markFrom_8 rfl (lv_at hl 3 rfl) ?_
    refine lv_iload_n hx hb d_Fl_markFrom_9 rfl (lv_at hl 0 rfl) ?_
    refine xr_cal (va_runSN (As := [.int fx, .int (nI u)]) (rest := []) ⟨hx, hb, hml, hown, hB⟩ (k_A_has l D fx u (by omega)) ⟨va_cnB 2 hB (xg0 mc_A_has) rfl rfl rfl (xn_Fl_50 hN) (hB _ mz_A) (by decide +kernel) ⟨Nat.le_of_ble_eq_true rfl, Nat.le_of_ble_eq_true rfl⟩, hB _ ms_A_has, trivial⟩ (xpS (ws := []) (tys := []) (hP.sub [] rfl) (hK.sub [] rfl) hN) rfl rfl hl.1 rfl (lv_room (Nat.le_of_ble_eq_true rfl)) d_Fl_markFrom_10 ⟨Nat.le_of_ble_eq_true rfl, Nat.le_of_ble_eq_true rfl⟩) ?_
    refine lv_if_eq (tgt := 23) hx hb d_Fl_markFrom_13 rfl (fun hc13 => ?_) (fun hc13 => ?_)
    · have hc13 := b2i_0.mp hc13
      have hP := xP_ext hP 4 (fun k => nI (mkU fx a9 cf (u + 1) k)) rfl (fun j9 hj9 => by rw [mkU_f hc13])
      have hD := xD_ext hD 4 (y := .inl (j3, 32, .inl (fun k => nI (mkU fx a9 cf (u + 1) k)))) rfl
      have hP : va_P D cls [(f, .inr (4, [.ref f0, .ref f1, .ref f2, .ref f3])), (f0, .inl (j0, 32, .inl li)), (f1, .inl (j1, 32, .inl us)), (f2, .inl (j2, 32, .inl fe)), (f3, .inl (j3, 32, .inl (fun k => nI (mkU fx a9 cf (u + 1) k))))] _ := hP
      have hD : va_D A [(f, .inr (4, [.ref f0, .ref f1, .ref f2, .ref f3])), (f0, .inl (j0, 32, .inl li)), (f1, .inl (j1, 32, .inl us)), (f2, .inl (j2, 32, .inl fe)), (f3, .inl (j3, 32, .inl (fun k => nI (mkU fx a9 cf (u + 1) k))))] := hD
      refine lv_iinc hx hb d_Fl_markFrom_23 hl (k := 0) rfl (v := nI (u + 1)) (nI_1 u) (by decide) rfl (fun ls hl => ?_)
      have hl : lv_has ls 4 [(3, .int (nI (u + 1))), (0, .ref f), (1, .int (nI a9)), (2, .int fx)] := hl
      refine lv_goto (tgt := 2) hx hb d_Fl_markFrom_26 rfl ?_
      exact ih2 (u + 1) _ H locs ⟨by omega, lv_sub hl [0, 1, 2, 3] rfl, hP, hD, hS⟩ (by omega)
    · have hc13 := b2i_n.mp hc13
      refine lv_aload_n hx hb d_Fl_markFrom_16 rfl (lv_at hl 1 rfl) ?_
      refine va_get (D := D) (ci := 4) (v := .ref f3) (C := R_Fl) (T := F_Fl) (N := 4) hx hb hB in_Fl hown hK hP 0 rfl rfl 3 (by decide) (hB _ mf_Fl_21) (fun _ h9 => h9) rfl d_Fl_markFrom_17 ?_
      refine lv_iload_n hx hb d_Fl_markFrom_20 rfl (lv_at hl 0 rfl) ?_
      refine lv_iload_n hx hb d_Fl_markFrom_21 rfl (lv_at hl 2 rfl) ?_
      refine xa_st (u := u) hx hb hK hP hD hS 4 3 rfl rfl (by omega) (by decide) d_Fl_markFrom_22 (fun H locs hP hD hS => ?_)
      have hP : va_P D cls [(f, .inr (4, [.ref f0, .ref f1, .ref f2, .ref f3])), (f0, .inl (j0, 32, .inl li)), (f1, .inl (j1, 32, .inl us)), (f2, .inl (j2, 32, .inl fe)), (f3, .inl (j3, 32, .inl (upd (fun k => nI (mkU fx a9 cf u k)) u (nI a9))))] H := hP
      have hD : va_D A [(f, .inr (4, [.ref f0, .ref f1, .ref f2, .ref f3])), (f0, .inl (j0, 32, .inl li)), (f1, .inl (j1, 32, .inl us)), (f2, .inl (j2, 32, .inl fe)), (f3, .inl (j3, 32, .inl (upd (fun k => nI (mkU fx a9 cf u k)) u (nI a9))))] := hD
      have hz : (upd (fun k => nI (mkU fx a9 cf u k)) u (nI a9)) = (fun k => nI (mkU fx a9 cf (u + 1) k)) := mkU_t hc13
      rw [hz] at hP hD
      refine lv_iinc hx hb d_Fl_markFrom_23 hl (k := 0) rfl (v := nI (u + 1)) (nI_1 u) (by decide) rfl (fun ls hl => ?_)
      have hl : lv_has ls 4 [(3, .int (nI (u + 1))), (0, .ref f), (1, .int (nI a9)), (2, .int fx)] := hl
      refine lv_goto (tgt := 2) hx hb d_Fl_markFrom_26 rfl ?_
      exact ih2 (u + 1) _ H locs ⟨by omega, lv_sub hl [0, 1, 2, 3] rfl, hP, hD, hS⟩ (by omega)
set_option maxHeartbeats 4000000 in
set_option maxRecDepth 100000 in
theorem k_Fl_pushOver (l : Launch) (D : va_G) (f f0 f1 f2 f3 : Nat) (j0 j1 j2 j3 : ClassId) (li : Nat → Int32) (us : Nat → Int32) (fe : Nat → Int32) (cF : Nat → Int32) (a9 b9 : Nat) (ha9 : a9 < 32) (hb9 : b9 < 32) (sz : Nat) : Met l y_Fl_pushOver (Cond.code y_Fl_pushOver c_Fl_pushOver 3 none :: BS) { frames := 1, cells := 0, slots := 0, locals := 21 } (va_Pc [.ref f, .int (nI a9), .int (nI b9)] (xWp D [(f, .inr (4, [.ref f0, .ref f1, .ref f2, .ref f3])), (f0, .inl (j0, 32, .inl li)), (f1, .inl (j1, 32, .inl us)), (f2, .inl (j2, 32, .inl fe)), (f3, .inl (j3, 32, .inl cF))] [(j0, .int), (j1, .int), (j2, .int), (j3, .int)] sz)) (xQv D [(f, .inr (4, [.ref f0, .ref f1, .ref f2, .ref f3])), (f0, .inl (j0, 32, .inl li)), (f1, .inl (j1, 32, .inl us)), (f2, .inl (j2, 32, .inl fe)), (f3, .inl (j3, 32, .inl cF))] [(f, .inr (4, [.ref f0, .ref f1, .ref f2, .ref f3])), (f0, .inl (j0, 32, .inl li)), (f1, .inl (j1, 32, .inl (psU us fe a9 b9))), (f2, .inl (j2, 32, .inl (psF us fe a9 b9))), (f3, .inl (j3, 32, .inl cF))] [(j0, .int), (j1, .int), (j2, .int), (j3, .int)] sz) 0 0 (va_A [(f, .inr (4, [.ref f0, .ref f1, .ref f2, .ref f3])), (f0, .inl (j0, 32, .inl li)), (f1, .inl (j1, 32, .inl us)), (f2, .inl (j2, 32, .inl fe)), (f3, .inl (j3, 32, .inl cF))] sz) := by
  refine Met.ofW (cc := c_Fl_pushOver) (maxL := 3) (ret := none) (by decide) rfl ?_
  intro p e s m args below meth c s₁ B hml hv
  obtain ⟨rfl, hsz, hP, hK, hD0, hN⟩ := hv
  have hx := B.exec
  have hb := B.bytes
  have hr := B.returns
  have hB := xB B.pre
  have hown : s.vm.findClass R_Fl = some m.cls := findClass_of_methodNamed B.named
  have hlocks := B.notSynchronized
  subst hsz
  have hD := hD0.self (sz := s.heap.size)
  obtain ⟨A, hAe⟩ : ∃ A, A = va_A [(f, .inr (4, [.ref f0, .ref f1, .ref f2, .ref f3])), (f0, .inl (j0, 32, .inl li)), (f1, .inl (j1, 32, .inl us)), (f2, .inl (j2, 32, .inl fe)), (f3, .inl (j3, 32, .inl cF))] s.heap.size := ⟨_, rfl⟩
  rw [← hAe] at hD
  have hA : ∀ q : Nat, s.heap.size ≤ q → A q := fun q h => by rw [hAe]; exact Or.inr h
  have hS : va_S A s.heap s.heap [] := va_S.rf
  have hl := lv_entry ([.ref f, .int (nI a9), .int (nI b9)]) (n := 3) (Nat.le_of_ble_eq_true rfl)
  rw [lg_entry_eq]
  generalize (lg_sl ([.ref f, .int (nI a9), .int (nI b9)]) ++ List.replicate (3 - (lg_sl ([.ref f, .int (nI a9), .int (nI b9)])).length) Slot.unset).toArray = ls at hl ⊢
  have hl : lv_has ls 3 [(0, .ref f), (1, .int (nI a9)), (2, .int (nI b9))] := hl
  refine lv_aload_n hx hb d_Fl_pushOver_0 rfl (lv_at hl 0 rfl) ?_
  refine va_get (D := D) (ci := 4) (v := .ref f2) (C := R_Fl) (T := F_Fl) (N := 4) hx hb hB in_Fl hown hK hP 0 rfl rfl 2 (by decide) (hB _ mf_Fl_18) (fun _ h9 => h9) rfl d_Fl_pushOver_1 ?_
  refine lv_iload_n hx hb d_Fl_pushOver_4 rfl (lv_at hl 1 rfl) ?_
  refine xa_ld (u := a9) hx hb hK hP 3 2 rfl rfl (by omega) (by decide) d_Fl_pushOver_5 ?_
  refine lv_iload_n hx hb d_Fl_pushOver_6 rfl (lv_at hl 2 rfl) ?_
  refine xr_cal (va_runSN (As := [.int (fe a9), .int (nI b9)]) (rest := []) ⟨hx, hb, hml, hown, hB⟩ (k_A_has l D (fe a9) b9 (by omega)) ⟨va_cnB 2 hB (xg0 mc_A_has) rfl rfl rfl (xn_Fl_50 hN) (hB _ mz_A) (by decide +kernel) ⟨Nat.le_of_ble_eq_true rfl, Nat.le_of_ble_eq_true rfl⟩, hB _ ms_A_has, trivial⟩ (xpS (ws := []) (tys := []) (hP.sub [] rfl) (hK.sub [] rfl) hN) rfl rfl hl.1 rfl (lv_room (Nat.le_of_ble_eq_true rfl)) d_Fl_pushOver_7 ⟨Nat.le_of_ble_eq_true rfl, Nat.le_of_ble_eq_true rfl⟩) ?_
  refine lv_if_eq (tgt := 46) hx hb d_Fl_pushOver_10 rfl (fun hc10 => ?_) (fun hc10 => ?_)
  · have hc10 := b2i_0.mp hc10
    refine lv_aload_n hx hb d_Fl_pushOver_46 rfl (lv_at hl 0 rfl) ?_
    refine va_get (D := D) (ci := 4) (v := .ref f1) (C := R_Fl) (T := F_Fl) (N := 4) hx hb hB in_Fl hown hK hP 0 rfl rfl 1 (by decide) (hB _ mf_Fl_15) (fun _ h9 => h9) rfl d_Fl_pushOver_47 ?_
    refine lv_iload_n hx hb d_Fl_pushOver_50 rfl (lv_at hl 1 rfl) ?_
    refine lv_dup2_11 hx hb d_Fl_pushOver_51 rfl rfl ?_
    refine xa_ld (u := a9) hx hb hK hP 2 1 rfl rfl (by omega) (by decide) d_Fl_pushOver_52 ?_
    refine lv_iload_n hx hb d_Fl_pushOver_53 rfl (lv_at hl 2 rfl) ?_
    refine xr_cal (va_runSN (As := [.int (nI b9)]) (rest := [.int (us a9), .int (nI a9), .ref f1]) ⟨hx, hb, hml, hown, hB⟩ (k_A_only l D b9) ⟨va_cnB 1 hB (xg0 mc_A_only) rfl rfl rfl (xn_Fl_33 hN) (hB _ mz_A) (by decide +kernel) ⟨Nat.le_of_ble_eq_true rfl, Nat.le_of_ble_eq_true rfl⟩, hB _ ms_A_only, trivial⟩ (xpS (ws := []) (tys := []) (hP.sub [] rfl) (hK.sub [] rfl) hN) rfl rfl hl.1 rfl (lv_room (Nat.le_of_ble_eq_true rfl)) d_Fl_pushOver_54 ⟨Nat.le_of_ble_eq_true rfl, Nat.le_of_ble_eq_true rfl⟩) ?_
    refine lv_ior hx hb d_Fl_pushOver_57 ?_
    refine xa_st (u := a9) hx hb hK hP hD hS 2 1 rfl rfl (by omega) (by decide) d_Fl_pushOver_58 (fun H locs hP hD hS => ?_)
    have hP : va_P D cls [(f, .inr (4, [.ref f0, .ref f1, .ref f2, .ref f3])), (f0, .inl (j0, 32, .inl li)), (f1, .inl (j1, 32, .inl (upd us a9 ((us a9) ||| (bit b9))))), (f2, .inl (j2, 32, .inl fe)), (f3, .inl (j3, 32, .inl cF))] H := hP
    have hD : va_D A [(f, .inr (4, [.ref f0, .ref f1, .ref f2, .ref f3])), (f0, .inl (j0, 32, .inl li)), (f1, .inl (j1, 32, .inl (upd us a9 ((us a9) ||| (bit b9))))), (f2, .inl (j2, 32, .inl fe)), (f3, .inl (j3, 32, .inl cF))] := hD
    refine lv_aload_n hx hb d_Fl_pushOver_59 rfl (lv_at hl 0 rfl) ?_
    refine va_get (D := D) (ci := 4) (v := .ref f2) (C := R_Fl) (T := F_Fl) (N := 4) hx hb hB in_Fl hown hK hP 0 rfl rfl 2 (by decide) (hB _ mf_Fl_18) (fun _ h9 => h9) rfl d_Fl_pushOver_60 ?_
    refine lv_iload_n hx hb d_Fl_pushOver_63 rfl (lv_at hl 2 rfl) ?_
    refine lv_dup2_11 hx hb d_Fl_pushOver_64 rfl rfl ?_
    refine xa_ld (u := b9) hx hb hK hP 3 2 rfl rfl (by omega) (by decide) d_Fl_pushOver_65 ?_
    refine lv_iload_n hx hb d_Fl_pushOver_66 rfl (lv_at hl 1 rfl) ?_
    refine xr_cal (va_runSN (As := [.int (nI a9)]) (rest := [.int (fe b9), .int (nI b9), .ref f2]) ⟨hx, hb, hml, hown, hB⟩ (k_A_only l D a9) ⟨va_cnB 1 hB (xg0 mc_A_only) rfl rfl rfl (xn_Fl_33 hN) (hB _ mz_A) (by decide +kernel) ⟨Nat.le_of_ble_eq_true rfl, Nat.le_of_ble_eq_true rfl⟩, hB _ ms_A_only, trivial⟩ (xpS (ws := []) (tys := []) (hP.sub [] rfl) (hK.sub [] rfl) hN) rfl rfl hl.1 rfl (lv_room (Nat.le_of_ble_eq_true rfl)) d_Fl_pushOver_67 ⟨Nat.le_of_ble_eq_true rfl, Nat.le_of_ble_eq_true rfl⟩) ?_
    refine lv_ior hx hb d_Fl_pushOver_70 ?_
    refine xa_st (u := b9) hx hb hK hP hD hS 3 2 rfl rfl (by omega) (by decide) d_Fl_pushOver_71 (fun H locs hP hD hS => ?_)
    have hP : va_P D cls [(f, .inr (4, [.ref f0, .ref f1, .ref f2, .ref f3])), (f0, .inl (j0, 32, .inl li)), (f1, .inl (j1, 32, .inl (upd us a9 ((us a9) ||| (bit b9))))), (f2, .inl (j2, 32, .inl (upd fe b9 ((fe b9) ||| (bit a9))))), (f3, .inl (j3, 32, .inl cF))] H := hP
    have hD : va_D A [(f, .inr (4, [.ref f0, .ref f1, .ref f2, .ref f3])), (f0, .inl (j0, 32, .inl li)), (f1, .inl (j1, 32, .inl (upd us a9 ((us a9) ||| (bit b9))))), (f2, .inl (j2, 32, .inl (upd fe b9 ((fe b9) ||| (bit a9))))), (f3, .inl (j3, 32, .inl cF))] := hD
    have hz : (upd us a9 ((us a9) ||| (bit b9))) = (psU us fe a9 b9) := (if_neg (by rw [hc10]; decide)).symm
    rw [hz] at hP hD
    have hz : (upd fe b9 ((fe b9) ||| (bit a9))) = (psF us fe a9 b9) := (if_neg (by rw [hc10]; decide)).symm
    rw [hz] at hP hD
    have hP9 := hP.sub (ws' := [(f, .inr (4, [.ref f0, .ref f1, .ref f2, .ref f3])), (f0, .inl (j0, 32, .inl li)), (f1, .inl (j1, 32, .inl (psU us fe a9 b9))), (f2, .inl (j2, 32, .inl (psF us fe a9 b9))), (f3, .inl (j3, 32, .inl cF))]) [0, 1, 2, 3, 4] rfl
    have hD9 := hD.sub (ws' := [(f, .inr (4, [.ref f0, .ref f1, .ref f2, .ref f3])), (f0, .inl (j0, 32, .inl li)), (f1, .inl (j1, 32, .inl (psU us fe a9 b9))), (f2, .inl (j2, 32, .inl (psF us fe a9 b9))), (f3, .inl (j3, 32, .inl cF))]) [0, 1, 2, 3, 4] (by decide) rfl
    subst hAe
    exact W.vret hx hb hr (fun t ht hW => ⟨⟨(), rfl, trivial, by rw [ht]; exact hP9, va_K.moved hW.alike hK, hD9⟩, hS.F ht⟩) hS.2.2 d_Fl_pushOver_72
  · have hc10 := b2i_n.mp hc10
    refine lv_aload_n hx hb d_Fl_pushOver_13 rfl (lv_at hl 0 rfl) ?_
    refine va_get (D := D) (ci := 4) (v := .ref f2) (C := R_Fl) (T := F_Fl) (N := 4) hx hb hB in_Fl hown hK hP 0 rfl rfl 2 (by decide) (hB _ mf_Fl_18) (fun _ h9 => h9) rfl d_Fl_pushOver_14 ?_
    refine lv_iload_n hx hb d_Fl_pushOver_17 rfl (lv_at hl 1 rfl) ?_
    refine lv_dup2_11 hx hb d_Fl_pushOver_18 rfl rfl ?_
    refine xa_ld (u := a9) hx hb hK hP 3 2 rfl rfl (by omega) (by decide) d_Fl_pushOver_19 ?_
    refine lv_iload_n hx hb d_Fl_pushOver_20 rfl (lv_at hl 2 rfl) ?_
    refine xr_cal (va_runSN (As := [.int (nI b9)]) (rest := [.int (fe a9), .int (nI a9), .ref f2]) ⟨hx, hb, hml, hown, hB⟩ (k_A_only l D b9) ⟨va_cnB 1 hB (xg0 mc_A_only) rfl rfl rfl (xn_Fl_33 hN) (hB _ mz_A) (by decide +kernel) ⟨Nat.le_of_ble_eq_true rfl, Nat.le_of_ble_eq_true rfl⟩, hB _ ms_A_only, trivial⟩ (xpS (ws := []) (tys := []) (hP.sub [] rfl) (hK.sub [] rfl) hN) rfl rfl hl.1 rfl (lv_room (Nat.le_of_ble_eq_true rfl)) d_Fl_pushOver_21 ⟨Nat.le_of_ble_eq_true rfl, Nat.le_of_ble_eq_true rfl⟩) ?_
    refine lv_iconst (v := -1) hx hb d_Fl_pushOver_24 (by decide) ?_
    refine lv_ixor hx hb d_Fl_pushOver_25 ?_
    refine lv_iand hx hb d_Fl_pushOver_26 ?_
    refine xa_st (u := a9) hx hb hK hP hD hS 3 2 rfl rfl (by omega) (by decide) d_Fl_pushOver_27 (fun H locs hP hD hS => ?_)
    have hP : va_P D cls [(f, .inr (4, [.ref f0, .ref f1, .ref f2, .ref f3])), (f0, .inl (j0, 32, .inl li)), (f1, .inl (j1, 32, .inl us)), (f2, .inl (j2, 32, .inl (upd fe a9 ((fe a9) &&& ((bit b9) ^^^ (-1)))))), (f3, .inl (j3, 32, .inl cF))] H := hP
    have hD : va_D A [(f, .inr (4, [.ref f0, .ref f1, .ref f2, .ref f3])), (f0, .inl (j0, 32, .inl li)), (f1, .inl (j1, 32, .inl us)), (f2, .inl (j2, 32, .inl (upd fe a9 ((fe a9) &&& ((bit b9) ^^^ (-1)))))), (f3, .inl (j3, 32, .inl cF))] := hD
    refine lv_aload_n hx hb d_Fl_pushOver_28 rfl (lv_at hl 0 rfl) ?_
    refine va_get (D := D) (ci := 4) (v := .ref f1) (C := R_Fl) (T := F_Fl) (N := 4) hx hb hB in_Fl hown hK hP 0 rfl rfl 1 (by decide) (hB _ mf_Fl_15) (fun _ h9 => h9) rfl d_Fl_pushOver_29 ?_
    refine lv_iload_n hx hb d_Fl_pushOver_32 rfl (lv_at hl 2 rfl) ?_
    refine lv_dup2_11 hx hb d_Fl_pushOver_33 rfl rfl ?_
    refine xa_ld (u := b9) hx hb hK hP 2 1 rfl rfl (by omega) (by decide) d_Fl_pushOver_34 ?_
    refine lv_iload_n hx hb d_Fl_pushOver_35 rfl (lv_at hl 1 rfl) ?_
    refine xr_cal (va_runSN (As := [.int (nI a9)]) (rest := [.int (us b9), .int (nI b9), .ref f1]) ⟨hx, hb, hml, hown, hB⟩ (k_A_only l D a9) ⟨va_cnB 1 hB (xg0 mc_A_only) rfl rfl rfl (xn_Fl_33 hN) (hB _ mz_A) (by decide +kernel) ⟨Nat.le_of_ble_eq_true rfl, Nat.le_of_ble_eq_true rfl⟩, hB _ ms_A_only, trivial⟩ (xpS (ws := []) (tys := []) (hP.sub [] rfl) (hK.sub [] rfl) hN) rfl rfl hl.1 rfl (lv_room (Nat.le_of_ble_eq_true rfl)) d_Fl_pushOver_36 ⟨Nat.le_of_ble_eq_true rfl, Nat.le_of_ble_eq_true rfl⟩) ?_
    refine lv_iconst (v := -1) hx hb d_Fl_pushOver_39 (by decide) ?_
    refine lv_ixor hx hb d_Fl_pushOver_40 ?_
    refine lv_iand hx hb d_Fl_pushOver_41 ?_
    refine xa_st (u := b9) hx hb hK hP hD hS 2 1 rfl rfl (by omega) (by decide) d_Fl_pushOver_42 (fun H locs hP hD hS => ?_)
    have hP : va_P D cls [(f, .inr (4, [.ref f0, .ref f1, .ref f2, .ref f3])), (f0, .inl (j0, 32, .inl li)), (f1, .inl (j1, 32, .inl (upd us b9 ((us b9) &&& ((bit a9) ^^^ (-1)))))), (f2, .inl (j2, 32, .inl (upd fe a9 ((fe a9) &&& ((bit b9) ^^^ (-1)))))), (f3, .inl (j3, 32, .inl cF))] H := hP
    have hD : va_D A [(f, .inr (4, [.ref f0, .ref f1, .ref f2, .ref f3])), (f0, .inl (j0, 32, .inl li)), (f1, .inl (j1, 32, .inl (upd us b9 ((us b9) &&& ((bit a9) ^^^ (-1)))))), (f2, .inl (j2, 32, .inl (upd fe a9 ((fe a9) &&& ((bit b9) ^^^ (-1)))))), (f3, .inl (j3, 32, .inl cF))] := hD
    refine lv_goto (tgt := 72) hx hb d_Fl_pushOver_43 rfl ?_
    have hz : (upd us b9 ((us b9) &&& ((bit a9) ^^^ (-1)))) = (psU us fe a9 b9) := (if_pos hc10).symm
    rw [hz] at hP hD
    have hz : (upd fe a9 ((fe a9) &&& ((bit b9) ^^^ (-1)))) = (psF us fe a9 b9) := (if_pos hc10).symm
    rw [hz] at hP hD
    have hP9 := hP.sub (ws' := [(f, .inr (4, [.ref f0, .ref f1, .ref f2, .ref f3])), (f0, .inl (j0, 32, .inl li)), (f1, .inl (j1, 32, .inl (psU us fe a9 b9))), (f2, .inl (j2, 32, .inl (psF us fe a9 b9))), (f3, .inl (j3, 32, .inl cF))]) [0, 1, 2, 3, 4] rfl
    have hD9 := hD.sub (ws' := [(f, .inr (4, [.ref f0, .ref f1, .ref f2, .ref f3])), (f0, .inl (j0, 32, .inl li)), (f1, .inl (j1, 32, .inl (psU us fe a9 b9))), (f2, .inl (j2, 32, .inl (psF us fe a9 b9))), (f3, .inl (j3, 32, .inl cF))]) [0, 1, 2, 3, 4] (by decide) rfl
    subst hAe
    exact W.vret hx hb hr (fun t ht hW => ⟨⟨(), rfl, trivial, by rw [ht]; exact hP9, va_K.moved hW.alike hK, hD9⟩, hS.F ht⟩) hS.2.2 d_Fl_pushOver_72
set_option maxHeartbeats 4000000 in
set_option maxRecDepth 100000 in
theorem k_Fl_pushOne (l : Launch) (D : va_G) (f f0 f1 f2 f3 : Nat) (j0 j1 j2 j3 : ClassId) (li : Nat → Int32) (us : Nat → Int32) (fe : Nat → Int32) (cf : Nat → Nat) (hcf : ∀ k, k < 32 → cf k < 32) (frm to9 : Nat) (hfrm : frm < 32) (hto : to9 < 32) (sz : Nat) : Met l y_Fl_pushOne (Cond.code y_Fl_pushOne c_Fl_pushOne 6 none :: BS) { frames := 2, cells := 0, slots := 0, locals := 43 } (va_Pc [.ref f, .int (nI frm), .int (nI to9)] (xWp D [(f, .inr (4, [.ref f0, .ref f1, .ref f2, .ref f3])), (f0, .inl (j0, 32, .inl li)), (f1, .inl (j1, 32, .inl us)), (f2, .inl (j2, 32, .inl fe)), (f3, .inl (j3, 32, .inl (fun k => nI (cf k))))] [(j0, .int), (j1, .int), (j2, .int), (j3, .int)] sz)) (xQv D [(f, .inr (4, [.ref f0, .ref f1, .ref f2, .ref f3])), (f0, .inl (j0, 32, .inl li)), (f1, .inl (j1, 32, .inl us)), (f2, .inl (j2, 32, .inl fe)), (f3, .inl (j3, 32, .inl (fun k => nI (cf k))))] [(f, .inr (4, [.ref f0, .ref f1, .ref f2, .ref f3])), (f0, .inl (j0, 32, .inl li)), (f1, .inl (j1, 32, .inl (ps3 cf frm us fe to9 32).2.1)), (f2, .inl (j2, 32, .inl (ps3 cf frm us fe to9 32).2.2)), (f3, .inl (j3, 32, .inl (fun k => nI (cf k))))] [(j0, .int), (j1, .int), (j2, .int), (j3, .int)] sz) 0 0 (va_A [(f, .inr (4, [.ref f0, .ref f1, .ref f2, .ref f3])), (f0, .inl (j0, 32, .inl li)), (f1, .inl (j1, 32, .inl us)), (f2, .inl (j2, 32, .inl fe)), (f3, .inl (j3, 32, .inl (fun k => nI (cf k))))] sz) := by
  refine Met.ofW (cc := c_Fl_pushOne) (maxL := 6) (ret := none) (by decide) rfl ?_
  intro p e s m args below meth c s₁ B hml hv
  obtain ⟨rfl, hsz, hP, hK, hD0, hN⟩ := hv
  have hx := B.exec
  have hb := B.bytes
  have hr := B.returns
  have hB := xB B.pre
  have hown : s.vm.findClass R_Fl = some m.cls := findClass_of_methodNamed B.named
  have hlocks := B.notSynchronized
  subst hsz
  have hD := hD0.self (sz := s.heap.size)
  obtain ⟨A, hAe⟩ : ∃ A, A = va_A [(f, .inr (4, [.ref f0, .ref f1, .ref f2, .ref f3])), (f0, .inl (j0, 32, .inl li)), (f1, .inl (j1, 32, .inl us)), (f2, .inl (j2, 32, .inl fe)), (f3, .inl (j3, 32, .inl (fun k => nI (cf k))))] s.heap.size := ⟨_, rfl⟩
  rw [← hAe] at hD
  have hA : ∀ q : Nat, s.heap.size ≤ q → A q := fun q h => by rw [hAe]; exact Or.inr h
  have hS : va_S A s.heap s.heap [] := va_S.rf
  have hl := lv_entry ([.ref f, .int (nI frm), .int (nI to9)]) (n := 6) (Nat.le_of_ble_eq_true rfl)
  rw [lg_entry_eq]
  generalize (lg_sl ([.ref f, .int (nI frm), .int (nI to9)]) ++ List.replicate (6 - (lg_sl ([.ref f, .int (nI frm), .int (nI to9)])).length) Slot.unset).toArray = ls at hl ⊢
  have hl : lv_has ls 6 [(0, .ref f), (1, .int (nI frm)), (2, .int (nI to9))] := hl
  refine lv_iload_n hx hb d_Fl_pushOne_0 rfl (lv_at hl 2 rfl) ?_
  refine lv_istore_n hx hb d_Fl_pushOne_1 rfl hl (by decide) rfl (fun ls hl => ?_)
  have hl : lv_has ls 6 [(3, .int (nI to9)), (0, .ref f), (1, .int (nI frm)), (2, .int (nI to9))] := hl
  refine lv_iconst (v := nI 0) hx hb d_Fl_pushOne_2 (by decide) ?_
  refine lv_istore hx hb d_Fl_pushOne_3 hl (by decide) rfl (fun ls hl => ?_)
  have hl : lv_has ls 6 [(4, .int (nI 0)), (3, .int (nI to9)), (0, .ref f), (1, .int (nI frm)), (2, .int (nI to9))] := hl
  refine xl_w (fun (k : Nat) ls H locs => ((k ≤ 32)) ∧ lv_has ls 6 [(4, .int (nI k)), (3, .int (nI (ps3 cf frm us fe to9 k).1)), (0, .ref f), (1, .int (nI frm)), (2, .int (nI to9))] ∧ va_P D cls [(f, .inr (4, [.ref f0, .ref f1, .ref f2, .ref f3])), (f0, .inl (j0, 32, .inl li)), (f1, .inl (j1, 32, .inl (ps3 cf frm us fe to9 k).2.1)), (f2, .inl (j2, 32, .inl (ps3 cf frm us fe to9 k).2.2)), (f3, .inl (j3, 32, .inl (fun k => nI (cf k))))] H ∧ va_D A [(f, .inr (4, [.ref f0, .ref f1, .ref f2, .ref f3])), (f0, .inl (j0, 32, .inl li)), (f1, .inl (j1, 32, .inl (ps3 cf frm us fe to9 k).2.1)), (f2, .inl (j2, 32, .inl (ps3 cf frm us fe to9 k).2.2)), (f3, .inl (j3, 32, .inl (fun k => nI (cf k))))] ∧ va_S A s.heap H locs) (fun k => 32 - k) (fun k ls H locs hI ih5 => ?_) 0 _ ⟨Nat.zero_le _, hl, hP, hD, hS⟩
  obtain ⟨hI, hl, hP, hD, hS⟩ := hI
  have hk := hI
  refine lv_iload hx hb d_Fl_pushOne_5 (lv_at hl 0 rfl) ?_
  refine lv_bipush (v := nI 32) hx hb d_Fl_pushOne_7 (by decide) ?_
  refine lv_icmp_ge (tgt := 41) hx hb d_Fl_pushOne_9 rfl (fun hc9 => ?_) (fun hc9 => ?_)
  · have hc9 : 32 ≤ k := (nI_leI (by omega) (by omega)).mp hc9
    have hz : (ps3 cf frm us fe to9 k).2.1 = (ps3 cf frm us fe to9 32).2.1 := by first | rw [ps3_end (by omega) hc14] | rw [show k = 32 by omega]
    rw [hz] at hP hD
    have hz : (ps3 cf frm us fe to9 k).2.2 = (ps3 cf frm us fe to9 32).2.2 := by first | rw [ps3_end (by omega) hc14] | rw [show k = 32 by omega]
    rw [hz] at hP hD
    have hP9 := hP.sub (ws' := [(f, .inr (4, [.ref f0, .ref f1, .ref f2, .ref f3])), (f0, .inl (j0, 32, .inl li)), (f1, .inl (j1, 32, .inl (ps3 cf frm us fe to9 32).2.1)), (f2, .inl (j2, 32, .inl (ps3 cf frm us fe to9 32).2.2)), (f3, .inl (j3, 32, .inl (fun k => nI (cf k))))]) [0, 1, 2, 3, 4] rfl
    have hD9 := hD.sub (ws' := [(f, .inr (4, [.ref f0, .ref f1, .ref f2, .ref f3])), (f0, .inl (j0, 32, .inl li)), (f1, .inl (j1, 32, .inl (ps3 cf frm us fe to9 32).2.1)), (f2, .inl (j2, 32, .inl (ps3 cf frm us fe to9 32).2.2)), (f3, .inl (j3, 32, .inl (fun k => nI (cf k))))]) [0, 1, 2, 3, 4] (by decide) rfl
    subst hAe
    exact W.vret hx hb hr (fun t ht hW => ⟨⟨(), rfl, trivial, by rw [ht]; exact hP9, va_K.moved hW.alike hK, hD9⟩, hS.F ht⟩) hS.2.2 d_Fl_pushOne_41
  · have hc9 : ¬ (32 ≤ k) := fun q9 => hc9 ((nI_leI (by omega) (by omega)).mpr q9)
    have hp1 := ps3_lt (frm := frm) (us := us) (fe := fe) hto hcf k
    refine lv_iload_n hx hb d_Fl_pushOne_12 rfl (lv_at hl 1 rfl) ?_
    refine lv_iload_n hx hb d_Fl_pushOne_13 rfl (lv_at hl 3 rfl) ?_
    refine lv_icmp_eq (tgt := 41) hx hb d_Fl_pushOne_14 rfl (fun hc14 => ?_) (fun hc14 => ?_)
    · have hc14 : (ps3 cf frm us fe to9 k).1 = frm := (nI_eq (by omega) (by omega)).mp hc14
      have hz : (ps3 cf frm us fe to9 k).2.1 = (ps3 cf frm us fe to9 32).2.1 := by first | rw [ps3_end (by omega) hc14] | rw [show k = 32 by omega]
      rw [hz] at hP hD
      have hz : (ps3 cf frm us fe to9 k).2.2 = (ps3 cf frm us fe to9 32).2.2 := by first | rw [ps3_end (by omega) hc14] | rw [show k = 32 by omega]
      rw [hz] at hP hD
      have hP9 := hP.sub (ws' := [(f, .inr (4, [.ref f0, .ref f1, .ref f2, .ref f3])), (f0, .inl (j0, 32, .inl li)), (f1, .inl (j1, 32, .inl (ps3 cf frm us fe to9 32).2.1)), (f2, .inl (j2, 32, .inl (ps3 cf frm us fe to9 32).2.2)), (f3, .inl (j3, 32, .inl (fun k => nI (cf k))))]) [0, 1, 2, 3, 4] rfl
      have hD9 := hD.sub (ws' := [(f, .inr (4, [.ref f0, .ref f1, .ref f2, .ref f3])), (f0, .inl (j0, 32, .inl li)), (f1, .inl (j1, 32, .inl (ps3 cf frm us fe to9 32).2.1)), (f2, .inl (j2, 32, .inl (ps3 cf frm us fe to9 32).2.2)), (f3, .inl (j3, 32, .inl (fun k => nI (cf k))))]) [0, 1, 2, 3, 4] (by decide) rfl
      subst hAe
      exact W.vret hx hb hr (fun t ht hW => ⟨⟨(), rfl, trivial, by rw [ht]; exact hP9, va_K.moved hW.alike hK, hD9⟩, hS.F ht⟩) hS.2.2 d_Fl_pushOne_41
    · have hc14 : ¬ ((ps3 cf frm us fe to9 k).1 = frm) := fun q9 => hc14 ((nI_eq (by omega) (by omega)).mpr q9)
      refine lv_aload_n hx hb d_Fl_pushOne_17 rfl (lv_at hl 2 rfl) ?_
      refine va_get (D := D) (ci := 4) (v := .ref f3) (C := R_Fl) (T := F_Fl) (N := 4) hx hb hB in_Fl hown hK hP 0 rfl rfl 3 (by decide) (hB _ mf_Fl_21) (fun _ h9 => h9) rfl d_Fl_pushOne_18 ?_
      refine lv_iload_n hx hb d_Fl_pushOne_21 rfl (lv_at hl 1 rfl) ?_
      refine xa_ld (u := (ps3 cf frm us fe to9 k).1) hx hb hK hP 4 3 rfl rfl (by omega) (by decide) d_Fl_pushOne_22 ?_
      refine xv_top (x' := nI (cf (ps3 cf frm us fe to9 k).1)) (rfl) ?_
      have hp2 := hcf _ hp1
      refine lv_istore hx hb d_Fl_pushOne_23 hl (by decide) rfl (fun ls hl => ?_)
      have hl : lv_has ls 6 [(5, .int (nI (cf (ps3 cf frm us fe to9 k).1))), (4, .int (nI k)), (3, .int (nI (ps3 cf frm us fe to9 k).1)), (0, .ref f), (1, .int (nI frm)), (2, .int (nI to9))] := hl
      refine lv_aload_n hx hb d_Fl_pushOne_25 rfl (lv_at hl 3 rfl) ?_
      refine lv_iload hx hb d_Fl_pushOne_26 (lv_at hl 0 rfl) ?_
      refine lv_iload_n hx hb d_Fl_pushOne_28 rfl (lv_at hl 2 rfl) ?_
      refine xw_v (wc := [(f, .inr (4, [.ref f0, .ref f1, .ref f2, .ref f3])), (f0, .inl (j0, 32, .inl li)), (f1, .inl (j1, 32, .inl (ps3 cf frm us fe to9 k).2.1)), (f2, .inl (j2, 32, .inl (ps3 cf frm us fe to9 k).2.2)), (f3, .inl (j3, 32, .inl (fun k => nI (cf k))))]) (wr := []) (w1 := [(f, .inr (4, [.ref f0, .ref f1, .ref f2, .ref f3])), (f0, .inl (j0, 32, .inl li)), (f1, .inl (j1, 32, .inl (psU (ps3 cf frm us fe to9 k).2.1 (ps3 cf frm us fe to9 k).2.2 (cf (ps3 cf frm us fe to9 k).1) (ps3 cf frm us fe to9 k).1))), (f2, .inl (j2, 32, .inl (psF (ps3 cf frm us fe to9 k).2.1 (ps3 cf frm us fe to9 k).2.2 (cf (ps3 cf frm us fe to9 k).1) (ps3 cf frm us fe to9 k).1))), (f3, .inl (j3, 32, .inl (fun k => nI (cf k))))]) (va_runV (As := [.int (nI (cf (ps3 cf frm us fe to9 k).1)), .int (nI (ps3 cf frm us fe to9 k).1)]) (rest := []) ⟨hx, hb, hml, hown, hB⟩ (k_Fl_pushOver l D f f0 f1 f2 f3 j0 j1 j2 j3 li (ps3 cf frm us fe to9 k).2.1 (ps3 cf frm us fe to9 k).2.2 (fun k => nI (cf k)) (cf (ps3 cf frm us fe to9 k).1) (ps3 cf frm us fe to9 k).1 (by omega) (by omega) _) ⟨callB_of 2 hB (xg0 mc_Fl_pushOver) rfl rfl rfl (hB _ mz_Fl) (hB _ ml_Fl_56) (by decide +kernel) ⟨Nat.le_of_ble_eq_true rfl, Nat.le_of_ble_eq_true rfl⟩, hB _ mi_Fl_pushOver, hB _ me_Fl_pushOver⟩ (xqV (ws := [(f, .inr (4, [.ref f0, .ref f1, .ref f2, .ref f3])), (f0, .inl (j0, 32, .inl li)), (f1, .inl (j1, 32, .inl (ps3 cf frm us fe to9 k).2.1)), (f2, .inl (j2, 32, .inl (ps3 cf frm us fe to9 k).2.2)), (f3, .inl (j3, 32, .inl (fun k => nI (cf k))))]) (tys := [(j0, .int), (j1, .int), (j2, .int), (j3, .int)]) (hP.sub [0, 1, 2, 3, 4] rfl) (hD.sub [0, 1, 2, 3, 4] (by decide) rfl) (hK.sub [0, 1, 2, 3] rfl) hN (va_recv (ci := 4) (q0 := 0) (q := (R_Fl, F_Fl, 4)) hK hP rfl rfl)) rfl rfl hl.1 rfl (lv_room (Nat.le_of_ble_eq_true rfl)) d_Fl_pushOne_29 ⟨Nat.le_of_ble_eq_true rfl, Nat.le_of_ble_eq_true rfl⟩) hP hD hS hA [0, 1, 2, 3, 4] [] rfl rfl (by decide) (by decide) (fun H locs hP hD hS => ?_)
      have hP : va_P D cls [(f, .inr (4, [.ref f0, .ref f1, .ref f2, .ref f3])), (f0, .inl (j0, 32, .inl li)), (f1, .inl (j1, 32, .inl (psU (ps3 cf frm us fe to9 k).2.1 (ps3 cf frm us fe to9 k).2.2 (cf (ps3 cf frm us fe to9 k).1) (ps3 cf frm us fe to9 k).1))), (f2, .inl (j2, 32, .inl (psF (ps3 cf frm us fe to9 k).2.1 (ps3 cf frm us fe to9 k).2.2 (cf (ps3 cf frm us fe to9 k).1) (ps3 cf frm us fe to9 k).1))), (f3, .inl (j3, 32, .inl (fun k => nI (cf k))))] H := hP
      have hD : va_D A [(f, .inr (4, [.ref f0, .ref f1, .ref f2, .ref f3])), (f0, .inl (j0, 32, .inl li)), (f1, .inl (j1, 32, .inl (psU (ps3 cf frm us fe to9 k).2.1 (ps3 cf frm us fe to9 k).2.2 (cf (ps3 cf frm us fe to9 k).1) (ps3 cf frm us fe to9 k).1))), (f2, .inl (j2, 32, .inl (psF (ps3 cf frm us fe to9 k).2.1 (ps3 cf frm us fe to9 k).2.2 (cf (ps3 cf frm us fe to9 k).1) (ps3 cf frm us fe to9 k).1))), (f3, .inl (j3, 32, .inl (fun k => nI (cf k))))] := hD
      refine lv_iload hx hb d_Fl_pushOne_32 (lv_at hl 0 rfl) ?_
      refine lv_istore_n hx hb d_Fl_pushOne_34 rfl hl (by decide) rfl (fun ls hl => ?_)
      have hl : lv_has ls 6 [(3, .int (nI (cf (ps3 cf frm us fe to9 k).1))), (5, .int (nI (cf (ps3 cf frm us fe to9 k).1))), (4, .int (nI k)), (0, .ref f), (1, .int (nI frm)), (2, .int (nI to9))] := hl
      refine lv_iinc hx hb d_Fl_pushOne_35 hl (k := 2) rfl (v := nI (k + 1)) (nI_1 k) (by decide) rfl (fun ls hl => ?_)
      have hl : lv_has ls 6 [(4, .int (nI (k + 1))), (3, .int (nI (cf (ps3 cf frm us fe to9 k).1))), (5, .int (nI (cf (ps3 cf frm us fe to9 k).1))), (0, .ref f), (1, .int (nI frm)), (2, .int (nI to9))] := hl
      have hl : lv_has ls 6 [(4, .int (nI (k + 1))), (3, .int (nI (ps3 cf frm us fe to9 (k + 1)).1)), (5, .int (nI (cf (ps3 cf frm us fe to9 k).1))), (0, .ref f), (1, .int (nI frm)), (2, .int (nI to9))] := by
        have hz : (nI (cf (ps3 cf frm us fe to9 k).1)) = nI (ps3 cf frm us fe to9 (k + 1)).1 := by rw [ps3_go hc14]
        rw [← hz]; exact hl
      have hz : (psU (ps3 cf frm us fe to9 k).2.1 (ps3 cf frm us fe to9 k).2.2 (cf (ps3 cf frm us fe to9 k).1) (ps3 cf frm us fe to9 k).1) = (ps3 cf frm us fe to9 (k + 1)).2.1 := by rw [ps3_go hc14]
      rw [hz] at hP hD
      have hz : (psF (ps3 cf frm us fe to9 k).2.1 (ps3 cf frm us fe to9 k).2.2 (cf (ps3 cf frm us fe to9 k).1) (ps3 cf frm us fe to9 k).1) = (ps3 cf frm us fe to9 (k + 1)).2.2 := by rw [ps3_go hc14]
      rw [hz] at hP hD
      refine lv_goto (tgt := 5) hx hb d_Fl_pushOne_38 rfl ?_
      exact ih5 (k + 1) _ H locs ⟨by omega, lv_sub hl [0, 1, 3, 4, 5] rfl, hP, hD, hS⟩ (by omega)
end
