theorem lw_nt {l : Launch} (h : l.flags = flags0) : l.stackTraces = false := by
  unfold Launch.stackTraces
  rw [h]
  decide +kernel
theorem st_cur {args : Array Value} {s : State} (hB : ∀ w ∈ BS, w.before args s = true) : ∃ cur, s.vm.findClass R_A = some cur := by
  obtain ⟨cC, kC, hfc, -⟩ := Cond.instantiable_spec (hB _ mn_A)
  exact ⟨cC, hfc⟩
theorem st_s1 {args : Array Value} {s : State} {k : Nat} {tx : String} {cur : Nat} (hc : s.vm.findClass R_A = some cur) (h : (Cond.stringRef R_A k tx).before args s = true) : ∃ q, vk_R R_A k tx q s := by
  obtain ⟨_, _, _, a, -, -, -, -, -, hev⟩ := Cond.stringRef_spec hc h
  exact ⟨a, vk_R.of h hev⟩
theorem st_w0 : Cond.stringRef R_A 159 "a place is 0 .. 15" ∈ lw_tbl := by decide +kernel
theorem st_w1 : Cond.stringRef R_A 43 "an arrow leads to another place" ∈ lw_tbl := by decide +kernel
theorem st_w2 : Cond.stringRef R_A 58 "there are 80 arrows" ∈ lw_tbl := by decide +kernel
theorem st_w3 : Cond.stringRef R_A 91 "the order has no such group" ∈ lw_tbl := by decide +kernel
theorem st_w4 : Cond.stringRef R_A 116 "there is no way" ∈ lw_tbl := by decide +kernel
theorem st_w5 : Cond.stringRef R_A 119 "the way has no such place" ∈ lw_tbl := by decide +kernel
theorem st_w6 : Cond.stringRef R_A 145 "there is no such figure" ∈ lw_tbl := by decide +kernel
theorem st_sr {args : Array Value} {s : State} (hts : ∀ w ∈ lw_tbl, w.before args s = true) {cur : Nat} (hc : s.vm.findClass R_A = some cur) : xsr s := ⟨st_s1 hc (hts _ st_w0), st_s1 hc (hts _ st_w1), st_s1 hc (hts _ st_w2), st_s1 hc (hts _ st_w3), st_s1 hc (hts _ st_w4), st_s1 hc (hts _ st_w5), st_s1 hc (hts _ st_w6)⟩
theorem st_at {args : Array Value} {s : State} (hts : ∀ w ∈ lw_tbl, w.before args s = true) : xat s := fun w hw => by
  have hk := ATS_ok w hw
  rw [Bool.and_eq_true] at hk
  exact va_Nw.of hk.2 (hts w (ATS_in w hw))
theorem st_an {args : Array Value} {s : State} (hts : ∀ w ∈ lw_tbl, w.before args s = true) : xaN s := fun w hw => by
  have hk := ATN_ok w hw
  rw [Bool.and_eq_true] at hk
  exact va_Nw.of hk.2 (hts w (ATN_in w hw))
theorem st_ac {args : Array Value} {s : State} (hts : ∀ w ∈ lw_tbl, w.before args s = true) : xaC s := fun w hw => by
  have hk := ATC_ok w hw
  rw [Bool.and_eq_true] at hk
  exact va_Nw.of hk.2 (hts w (ATC_in w hw))
theorem st_nc {args : Array Value} {s : State} (hts : ∀ w ∈ lw_tbl, w.before args s = true) (hg : (Jvm.Cond.and given_1 narrow_1).before args s = true) : xNc s :=
  ⟨⟨va_Nc.of (flat_of_before _ hg (Cond.not (.castable eIS eIA)) (by decide +kernel)), va_Nc.of (flat_of_before _ hg (Cond.not (.castable eNS eIA)) (by decide +kernel)), va_Nc.of (flat_of_before _ hg (Cond.not (.castable eIO eIA)) (by decide +kernel)), va_Nc.of (flat_of_before _ hg (Cond.not (.castable eIO eNS)) (by decide +kernel))⟩, st_ac hts⟩
theorem st_y1 : Cond.laysStatic Bundle.tN "UNASSIGNED_STACK" Bundle.steD ∈ lw_tbl := by decide +kernel
theorem st_y2 : Cond.laysStatic Bundle.tN "SUPPRESSED_SENTINEL" Bundle.listD ∈ lw_tbl := by decide +kernel
theorem st_y3 : Cond.initialized Bundle.tN ∈ lw_tbl := by decide +kernel
theorem st_zq {args : Array Value} {s : State} (hts : ∀ w ∈ lw_tbl, w.before args s = true) (hg : (Jvm.Cond.and given_1 narrow_1).before args s = true) : xzq (AL s) s s.heap :=
  ⟨vx_Zqof (hts _ st_y1) (hts _ st_y3) (flat_of_before _ hg (Cond.isRef (.static Bundle.tN "UNASSIGNED_STACK" Bundle.steD)) (by decide +kernel)) (fun a h1 h2 => absurd h1 (Nat.not_lt.mpr h2)), vx_Zqof (hts _ st_y2) (hts _ st_y3) (flat_of_before _ hg (Cond.isRef (.static Bundle.tN "SUPPRESSED_SENTINEL" Bundle.listD)) (by decide +kernel)) (fun a h1 h2 => absurd h1 (Nat.not_lt.mpr h2))⟩
theorem st_K {args : Array Value} {s : State} (hB : ∀ w ∈ BS, w.before args s = true) : ∃ D : va_G, va_K D cls [] s := by
  obtain ⟨c0, i0, h0⟩ := u_known hB in_A (hB _ mn_A)
  obtain ⟨c1, i1, h1⟩ := u_known hB in_Web (hB _ mn_Web)
  obtain ⟨c2, i2, h2⟩ := u_known hB in_Gr (hB _ mn_Gr)
  obtain ⟨c3, i3, h3⟩ := u_known hB in_Wy (hB _ mn_Wy)
  obtain ⟨c4, i4, h4⟩ := u_known hB in_Fl (hB _ mn_Fl)
  obtain ⟨c5, i5, h5⟩ := u_known hB in_M (hB _ mn_M)
  refine ⟨(fun i => ([c0, c1, c2, c3, c4, c5] : List ClassId).getD i c0, fun i => ([i0, i1, i2, i3, i4, i5] : List (Nat → Nat)).getD i i0), fun c q hq => ?_, fun k q hk => nomatch hk⟩
  have hlt : c < 6 := (List.getElem?_eq_some_iff.mp hq).1
  rcases (show c = 0 ∨ c = 1 ∨ c = 2 ∨ c = 3 ∨ c = 4 ∨ c = 5 by omega) with rfl | rfl | rfl | rfl | rfl | rfl <;> cases hq
  · exact h0
  · exact h1
  · exact h2
  · exact h3
  · exact h4
  · exact h5
