theorem pl_mem {h : Nat → Int32} {g : Nat} : ∀ k, (∀ j, j < k → nx h (pl h j) < 16) → bt (pl h k) g = true → ∃ j, j < k ∧ nx h (pl h j) = g := by
  intro k
  induction k with
  | zero => intro _ hb; rw [show pl h 0 = 0 from rfl, b_0] at hb; cases hb
  | succ k ih =>
    intro hn hb
    have hb : bt (pl h k ||| bit (nx h (pl h k))) g = true := hb
    rw [b_or, Bool.or_eq_true] at hb
    rcases hb with hb | hb
    · obtain ⟨j, h1, h2⟩ := ih (fun j hj => hn j (by omega)) hb
      exact ⟨j, by omega, h2⟩
    · have := hn k (by omega)
      rw [bt_bit (by omega) (bt_lt hb), decide_eq_true_eq] at hb
      exact ⟨k, by omega, hb.symm⟩
theorem nx_lt (h : Nat → Int32) (p : Int32) : nx h p < 16 := first_lt (by omega)
theorem rk_ex {h : Nat → Int32} (hg : gd h) {v : Nat} (hv : v < 16) : ∃ k, k < ct h ∧ bt (GR h v) (nx h (pl h k)) = true := by
  have h1 : bt (pl h (ct h)) (NM h v) = true := by
    rw [pl_ct hg]
    exact bt_st.mpr ⟨(NM_spec hg hv).1, NM_NM hg hv⟩
  obtain ⟨j, h2, h3⟩ := pl_mem (ct h) (fun j _ => nx_lt h _) h1
  exact ⟨j, h2, (GR_nm hg hv).mpr ⟨nx_lt h _, by rw [h3, NM_NM hg hv]⟩⟩
noncomputable def rk (h : Nat → Int32) (v : Nat) : Nat := first (fun k => bt (GR h v) (nx h (pl h k))) 0 (ct h)
theorem rk_step {h : Nat → Int32} (hg : gd h) {v k : Nat} (hv : v < 16) (hm : ∀ j, j < k → bt (GR h v) (nx h (pl h j)) = false) (hk : k < ct h) (hc : bt (GR h v) (nx h (pl h k)) = false) : k + 1 < ct h := by
  obtain ⟨j, h1, h2⟩ := rk_ex hg hv
  apply Nat.lt_of_not_le
  intro h3
  have : bt (GR h v) (nx h (pl h j)) = false := by
    rcases Nat.lt_or_ge j k with h4 | h4
    · exact hm j h4
    · have : j = k := by omega
      rw [this]; exact hc
  rw [this] at h2; cases h2
def dpb (h : Nat → Int32) (r v d : Nat) : Bool := decide (d = r) || decide (d = v) || !(bt (SP h (bit r) (bit d)) v)
def alq (p : Nat → Bool) : Nat → Bool
  | 0 => true
  | k + 1 => alq p k && p k
theorem alq_f {p : Nat → Bool} {b : Bool} {k : Nat} (h : (b && alq p k) = false) : ∀ j, (b && alq p (k + j)) = false := by
  intro j
  induction j with
  | zero => exact h
  | succ j ih =>
    show (b && (alq p (k + j) && p (k + j))) = false
    rw [← Bool.and_assoc, ih]; rfl
theorem alq_end {p : Nat → Bool} {b : Bool} {k : Nat} (hk : k ≤ 16) (h : (b && alq p k) = false) : (b && alq p 16) = false := by
  have := alq_f h (16 - k)
  rw [show k + (16 - k) = 16 by omega] at this
  exact this
def fdq (q : Nat → Bool) : Nat → Int32
  | 0 => -1
  | d + 1 => if q d = true then nI d else fdq q d
def gtL (h : Nat → Int32) (r v d : Nat) : Bool := !(decide (d = v)) && bt (RE h r) d && dpb h r v d
def gtC (h : Nat → Int32) (r v d e : Nat) : Bool := decide (e = v) || !(bt (RE h r) e) || !(dpb h r v e) || dpb h r d e
def gtQ (h : Nat → Int32) (r v d : Nat) : Bool := gtL h r v d && alq (gtC h r v d) 16
theorem isP2 {u v : Nat} (hu : u < 16) (hv : v < 16) : (isP (nI u) && isP (nI v)) = true := by
  rw [isP_nI hu, isP_nI hv]; rfl
