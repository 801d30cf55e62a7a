def owb (h mG : Nat → Int32) (a b : Nat) : Bool := !(decide (SP (cutG h (mG a) (mG b)) (mG a) 0 &&& mG b = 0))
def prL (h mG : Nat → Int32) (od : Nat → Nat) : Nat → Nat → Bool := fun i j => ldb h mG (od i) (od j)
def prO (h mG : Nat → Int32) (od : Nat → Nat) : Nat → Nat → Bool := fun i j => ldb h mG (od i) (od j) && !(owb h mG (od i) (od j))
theorem prO_t {h mG : Nat → Int32} {od : Nat → Nat} {i j : Nat} (h1 : ldb h mG (od i) (od j) = true) (h2 : (!(decide (SP (cutG h (mG (od i)) (mG (od j))) (mG (od i)) 0 &&& mG (od j) = 0))) = false) : prO h mG od i j = true := by
  unfold prO owb; rw [h1, h2]; rfl
theorem prO_f1 {h mG : Nat → Int32} {od : Nat → Nat} {i j : Nat} (h1 : ldb h mG (od i) (od j) = false) : prO h mG od i j = false := by
  unfold prO; rw [h1]; rfl
theorem prO_f2 {h mG : Nat → Int32} {od : Nat → Nat} {i j : Nat} (h2 : (!(decide (SP (cutG h (mG (od i)) (mG (od j))) (mG (od i)) 0 &&& mG (od j) = 0))) = true) : prO h mG od i j = false := by
  unfold prO owb; rw [h2]; exact Bool.and_false _
def prF (h mR : Nat → Int32) (n : Nat) : Nat → Int32 := fun k => if 0 < n ∧ k < 16 then h k else mR k
theorem prF_0 (h mR : Nat → Int32) (j : Nat) : mR j = prF h mR 0 j := (if_neg (fun q => absurd q.1 (Nat.lt_irrefl 0))).symm
theorem prF_s (h mR : Nat → Int32) (n : Nat) : (fun k => if k < 16 then h k else (prF h mR n) k) = prF h mR (n + 1) := by
  funext k
  unfold prF
  by_cases hk : k < 16
  · rw [if_pos hk, if_pos ⟨Nat.succ_pos n, hk⟩]
  · rw [if_neg hk, if_neg (fun q => hk q.2), if_neg (fun q => hk q.2)]
noncomputable def odF (h : Nat → Int32) : Nat → Nat := fun k => nx h (pl h k)
theorem odF_s (h mO : Nat → Int32) : ∀ k, k < ct h → (fun k => if k < ct h then nI (nx h (pl h k)) else mO k) k = nI (odF h k) ∧ odF h k < 16 := fun k hk => ⟨if_pos hk, nx_lt h (pl h k)⟩
