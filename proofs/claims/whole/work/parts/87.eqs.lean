theorem eq_group {h : Nat → Int32} (hg : gd h) {v : Nat} (hv : v < 16) : nI (lwN (RE h) v) = nI (NM h v) := by
  sorry
theorem eq_members {h : Nat → Int32} (hg : gd h) {v : Nat} (hv : v < 16) : nI (cq (fun u => decide ((fun k => nI (lwN (RE h) k)) u = (fun k => nI (lwN (RE h) k)) v)) 16) = nI (cn (GR h v) 16) := by
  sorry
theorem eq_cnt {h : Nat → Int32} (hg : gd h) : cq (fun v9 => decide (lwN (RE h) v9 = v9)) 16 = ct h := by
  sorry
theorem eq_rank {h : Nat → Int32} (hg : gd h) {v : Nat} (hv : v < 16) (oR : Nat → Int32) : nI (lastq (fun u => decide ((fun k => if k < (cq (fun v9 => decide (lwN (RE h) v9 = v9)) 16) then nI (nxF (fun k => nI (lwN (RE h) k)) (BFp h (lwN (RE h)) 16 0) (plF (fun k => nI (lwN (RE h) k)) (BFp h (lwN (RE h)) 16 0) k)) else oR k) u = (fun k => nI (lwN (RE h) k)) v)) (cq (fun v9 => decide (lwN (RE h) v9 = v9)) 16)) = nI (rk h v) := by
  sorry
theorem eq_ranked {h : Nat → Int32} (hg : gd h) {k : Nat} (hk : k < ct h) : nI (nxF (fun k => nI (lwN (RE h) k)) (BFp h (lwN (RE h)) 16 0) (plF (fun k => nI (lwN (RE h) k)) (BFp h (lwN (RE h)) 16 0) k)) = nI (nx h (pl h k)) := by
  sorry
theorem eq_way {h : Nat → Int32} (hg : gd h) {u v n i9 : Nat} (hu : u < 16) (hv : v < 16) (hn : n < 16) (hi9 : i9 ≤ n) (hd9 : DS h u v = nI n) : nI (pw h (ly h v) n u i9) = nI (wyP h v u i9) := by
  sorry
theorem eq_gate {h : Nat → Int32} (hg : gd h) {u v : Nat} (hu : u < 16) (hv : v < 16) (huv : ¬ u = v) (hrv : bt (RE h u) v = true) : nI (first (fun d9 => bt (mk (fun d9 => decide (¬ d9 = v) && !(bt (SP h (bit u) (bit d9)) v)) 16) d9 && !(anyq (fun e9 => bt ((mk (fun d9 => decide (¬ d9 = v) && !(bt (SP h (bit u) (bit d9)) v)) 16) &&& (bit d9 ^^^ (-1))) e9 && bt (SP h (bit u) (bit e9)) d9) 16)) u 16) = fdq (gtQ h u v) 16 := by
  sorry
theorem eq_gated {h : Nat → Int32} (hg : gd h) {u v : Nat} (hu : u < 16) (hv : v < 16) : nI (cn ((SP h (bit u) (nI 0)) &&& ((SP h (bit u) (bit v)) ^^^ (-1))) 16) = nI (cq (fun x9 => bt (RE h u) v && bt (RE h u) x9 && dpb h u x9 v) 16) := by
  sorry
theorem eq_places {h : Nat → Int32} (hg : gd h) {li : Nat → Int32} {cf : Nat → Nat} (hcf : ∀ k, k < 32 → cf k < 32) {u v : Nat} (hu : u < 16) (hv : v < 16) (huv : ¬ u = v) (hb9 : bt (h u) v = false) : nI (moS (plc h li 16) (u + 16) v cf 16).2.2.2.1 = nI (apN (mpL h u v) (16 + u) v) := by
  sorry
theorem eq_arrows {h : Nat → Int32} (hg : gd h) {li : Nat → Int32} {cf : Nat → Nat} (hcf : ∀ k, k < 32 → cf k < 32) {u v : Nat} (hu : u < 16) (hv : v < 16) (huv : ¬ u = v) : nI (moS (fun k => if k < 16 then h k else li k) u v cf 16).2.2.2.1 = nI (apN (maL h) u v) := by
  sorry
theorem eq_f2 {h : Nat → Int32} (hg : gd h) : nI (sq (fun g9 => cn ((LTp h (lwN (RE h)) 16 0) g9) 16) 16) = nI (sq (fun i9 => cq (prL h (GR h) (odF h) i9) (ct h)) (ct h)) := by
  sorry
theorem eq_f3 {h : Nat → Int32} (hg : gd h) : nI (sq (fun a9 => cq ((fun u v => bt ((LTp h (lwN (RE h)) 16 0) u) v && !(anyq (fun k => bt ((LTp h (lwN (RE h)) 16 0) u &&& (bit v ^^^ (-1))) k && bt ((RE h) k) v) 16)) a9) 16) 16) = nI (sq (fun i9 => cq (prO h (GR h) (odF h) i9) (ct h)) (ct h)) := by
  sorry
theorem eq_f4 {h : Nat → Int32} (hg : gd h) (cH mR : Nat → Int32) : lgF (BFp h (lwN (RE h)) 16 0) (fun k => nxF (fun k => nI (lwN (RE h) k)) (BFp h (lwN (RE h)) 16 0) (plF (fun k => nI (lwN (RE h) k)) (BFp h (lwN (RE h)) 16 0) k)) cH (cq (fun v9 => decide (lwN (RE h) v9 = v9)) 16) = mlB (fun i9 j9 => ldb h (GR h) (odF h i9) (odF h j9)) mR (ct h) := by
  sorry
theorem eq_f5 {h : Nat → Int32} (hg : gd h) (hs : ∀ u, u < 16 → bt (h u) u = false) : nI (sq (fun a9 => cq ((fun u v => bt (h u) v && !(bt (SP h (h u &&& (bit v ^^^ (-1))) (bit u)) v)) a9) 16) 16) = nI (sq (fun a9 => cq (brP h a9) 16) 16) := by
  sorry
