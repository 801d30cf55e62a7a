def mpl (h : Nat → Int32) (u v : Nat) (mA : Nat → Int32) (w : Nat) : Nat → Int32 := fun k => if k < w then (if k = u ∨ k = v then nI 0 else bit (16 + k)) else if 16 ≤ k ∧ k < 16 + w then h (k - 16) else mA k
def mpL (h : Nat → Int32) (u v : Nat) : Nat → Int32 := fun k => if k < 16 then (if k = u ∨ k = v then nI 0 else bit (16 + k)) else h (k - 16)
theorem mpl_0 {h mA : Nat → Int32} {u v : Nat} : mA = mpl h u v mA 0 := by
  funext k; unfold mpl
  rw [if_neg (by omega), if_neg (by omega)]
theorem mpl_st {h mA : Nat → Int32} {u v w : Nat} (hw : w < 16) {x : Int32} (hx : x = if w = u ∨ w = v then nI 0 else bit (16 + w)) : upd (upd (mpl h u v mA w) w x) (16 + w) (h w) = mpl h u v mA (w + 1) := by
  subst hx
  funext k
  unfold mpl
  by_cases h1 : k = 16 + w
  · subst h1
    rw [pk_us, if_neg (by omega), if_pos (by omega), Nat.add_sub_cancel_left]
  · rw [pk_un h1]
    by_cases h2 : k = w
    · subst h2
      rw [pk_us, if_pos (show k < k + 1 by omega)]
    · rw [pk_un h2]
      by_cases h3 : k < w
      · rw [if_pos h3, if_pos (show k < w + 1 by omega)]
      · rw [if_neg h3, if_neg (by omega : ¬ k < w + 1)]
        by_cases h4 : 16 ≤ k ∧ k < 16 + w
        · rw [if_pos h4, if_pos (by omega)]
        · rw [if_neg h4, if_neg (by omega)]
theorem mpl_16 {h mA : Nat → Int32} {u v k : Nat} (hk : k < 32) : mpl h u v mA 16 k = mpL h u v k := by
  unfold mpl mpL
  by_cases h1 : k < 16
  · rw [if_pos h1, if_pos h1]
  · rw [if_neg h1, if_neg h1, if_pos (by omega)]
def mal (h : Nat → Int32) (mA : Nat → Int32) (w : Nat) : Nat → Int32 := fun k => if k < w then h k else if 16 ≤ k ∧ k < 16 + w then nI 0 else mA k
def maL (h : Nat → Int32) : Nat → Int32 := fun k => if k < 16 then h k else nI 0
theorem mal_0 {h mA : Nat → Int32} : mA = mal h mA 0 := by
  funext k; unfold mal
  rw [if_neg (by omega), if_neg (by omega)]
theorem mal_st {h mA : Nat → Int32} {w : Nat} (hw : w < 16) : upd (upd (mal h mA w) w (h w)) (16 + w) (nI 0) = mal h mA (w + 1) := by
  funext k
  unfold mal
  by_cases h1 : k = 16 + w
  · subst h1
    rw [pk_us, if_neg (by omega), if_pos (by omega)]
  · rw [pk_un h1]
    by_cases h2 : k = w
    · subst h2
      rw [pk_us, if_pos (show k < k + 1 by omega)]
    · rw [pk_un h2]
      by_cases h3 : k < w
      · rw [if_pos h3, if_pos (show k < w + 1 by omega)]
      · rw [if_neg h3, if_neg (by omega : ¬ k < w + 1)]
        by_cases h4 : 16 ≤ k ∧ k < 16 + w
        · rw [if_pos h4, if_pos (by omega)]
        · rw [if_neg h4, if_neg (by omega)]
theorem mal_16 {h mA : Nat → Int32} {k : Nat} (hk : k < 32) : mal h mA 16 k = maL h k := by
  unfold mal maL
  by_cases h1 : k < 16
  · rw [if_pos h1, if_pos h1]
  · rw [if_neg h1, if_neg h1, if_pos (by omega)]
def apF (A : Nat → Int32) (s t : Nat) (mR : Nat → Int32) : Nat → Nat → Int32
  | 0 => mR
  | r + 1 => fun k => oI ((fdS A (apS A s t r) s t 33).1 k)
