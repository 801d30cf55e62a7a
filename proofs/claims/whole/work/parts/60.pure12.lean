theorem upd_back {h : Nat → Int32} {u v : Nat} (hv : v < 32) (hb : bt (h u) v = true) : upd (upd h u (h u &&& (bit v ^^^ (-1)))) u ((h u &&& (bit v ^^^ (-1))) ||| bit v) = h := by
  funext k
  by_cases hk : k = u
  · subst hk
    rw [pk_us]
    apply b_ext
    intro i hi
    rw [b_or, b_and, bt_not _ hi, bt_bit hv hi]
    by_cases e : i = v
    · subst e; rw [hb, decide_eq_true rfl]; rfl
    · rw [decide_eq_false e]; simp
  · rw [pk_un hk, pk_un hk]
theorem gd_cut {h : Nat → Int32} (hg : gd h) {u : Nat} {x : Int32} : gd (upd h u (h u &&& x)) := by
  intro k hk
  by_cases e : k = u
  · subst e; rw [pk_us]; exact m16_and (hg k hk)
  · rw [pk_un e]; exact hg k hk
def brP (h : Nat → Int32) (u v : Nat) : Bool := bt (h u) v && !(bt (RE (upd h u (h u &&& (bit v ^^^ (-1)))) u) v)
theorem and_m1 (x : Int32) : x &&& (-1) = x := by
  apply b_ext; intro i hi; rw [b_and, b_m1 i hi, Bool.and_true]
def cutG (h : Nat → Int32) (ga gb : Int32) : Nat → Int32 := fun x => if bt ga x = true then h x &&& (gb ^^^ (-1)) else h x
theorem gd_cutG {h : Nat → Int32} (hg : gd h) {ga gb : Int32} : gd (cutG h ga gb) := by
  intro k hk
  unfold cutG
  split
  · exact m16_and (hg k hk)
  · exact hg k hk
def ldb (h mG : Nat → Int32) (a b : Nat) : Bool := !(decide (a = b)) && !(decide (un h (mG a) 16 &&& mG b = 0))
def mlI (L : Nat → Nat → Bool) (f : Nat → Int32) (j : Nat) : Nat → Int32
  | 0 => nI 1
  | i + 1 => if L i j = true ∧ ¬ f i < mlI L f j i then f i + nI 1 else mlI L f j i
def mlF (L : Nat → Nat → Bool) (mR : Nat → Int32) : Nat → Nat → Int32
  | 0 => mR
  | j + 1 => upd (mlF L mR j) j (mlI L (mlF L mR j) j j)
def mlB (L : Nat → Nat → Bool) (mR : Nat → Int32) : Nat → Int32
  | 0 => nI 0
  | j + 1 => if mlF L mR (j + 1) j ≤ mlB L mR j then mlB L mR j else mlF L mR (j + 1) j
def wyN (h : Nat → Int32) (v at9 : Nat) (j : Nat) : Nat := if first (fun w => decide (j ≤ w) && (bt (h at9) w && decide (DS h w v = DS h at9 v - nI 1))) 16 16 < 16 then first (fun w => decide (j ≤ w) && (bt (h at9) w && decide (DS h w v = DS h at9 v - nI 1))) 16 16 else 15
theorem wyN_16 (h : Nat → Int32) (v at9 : Nat) : nI 15 = nI (wyN h v at9 16) := by
  unfold wyN
  rw [first_none (fun k hk => by rw [decide_eq_false (by omega)]; rfl), if_neg (by omega)]
theorem wyN_t {h : Nat → Int32} {v at9 i : Nat} (hi : i < 16) (h1 : bt (h at9) i = true) (h2 : DS h i v = DS h at9 v - nI 1) : nI i = nI (wyN h v at9 i) := by
  unfold wyN
  rw [first_eq (j := i) (by rw [decide_eq_true (Nat.le_refl i), h1, decide_eq_true h2]; rfl) hi (fun k hk => by rw [decide_eq_false (by omega)]; rfl), if_pos hi]
theorem wyN_f {h : Nat → Int32} {v at9 i : Nat} (hf : (bt (h at9) i && decide (DS h i v = DS h at9 v - nI 1)) = false) : nI (wyN h v at9 (i + 1)) = nI (wyN h v at9 i) := by
  unfold wyN
  rw [first_congr (p := fun w => decide (i + 1 ≤ w) && (bt (h at9) w && decide (DS h w v = DS h at9 v - nI 1))) (q := fun w => decide (i ≤ w) && (bt (h at9) w && decide (DS h w v = DS h at9 v - nI 1))) (fun j hj => by
    by_cases hji : j = i
    · subst hji; rw [hf, Bool.and_false, Bool.and_false]
    · have : decide (i + 1 ≤ j) = decide (i ≤ j) := decide_eq_decide.mpr (by omega)
      rw [this])]
theorem wyN_lt (h : Nat → Int32) (v at9 j : Nat) : wyN h v at9 j < 16 := by
  unfold wyN
  split
  · assumption
  · omega
def wyP (h : Nat → Int32) (v u : Nat) : Nat → Nat
  | 0 => u
  | k + 1 => wyN h v (wyP h v u k) 0
theorem wyP_lt {h : Nat → Int32} {v u : Nat} (hu : u < 16) (k : Nat) : wyP h v u k < 16 := by
  cases k with
  | zero => exact hu
  | succ k => exact wyN_lt h v _ 0
