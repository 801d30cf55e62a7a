theorem upd_0f {f g : Nat → Int32} {x : Int32} (hx : x = g 0) : upd f 0 x = fun k => if k < 0 + 1 then g k else f k := by
  funext k
  by_cases h : k = 0
  · subst h; rw [pk_us, if_pos (by omega), hx]
  · rw [pk_un h, if_neg (by omega)]
theorem lt0_f {f g : Nat → Int32} : f = fun k => if k < 0 then g k else f k := funext fun k => (if_neg (Nat.not_lt_zero k)).symm
theorem keep_lt {f g : Nat → Int32} {v : Nat} (hx : g v = f v) : (fun k => if k < v then g k else f k) = fun k => if k < v + 1 then g k else f k := by
  funext k
  by_cases h : k = v
  · subst h; rw [if_neg (by omega), if_pos (by omega), hx]
  · by_cases h2 : k < v
    · rw [if_pos h2, if_pos (by omega)]
    · rw [if_neg h2, if_neg (by omega)]
theorem or_self32 (x : Int32) : x ||| x = x := by
  apply b_ext; intro i _; rw [b_or, Bool.or_self]
theorem wph_self {r : Nat → Int32} {m : Nat} : wph r m m = r m := by
  unfold wph; split
  · exact or_self32 _
  · rfl
def lwN (rE : Nat → Int32) (v : Nat) : Nat := first (fun u => bt (rE v) u && bt (rE u) v) v v
theorem lwN_le (rE : Nat → Int32) (v : Nat) : lwN rE v ≤ v := by
  unfold lwN
  by_cases h : ∃ j, j < v ∧ (bt (rE v) j && bt (rE j) v) = true
  · exact Nat.le_of_lt (first_spec (p := fun u => bt (rE v) u && bt (rE u) v) (d := v) (N := v) h).1
  · rw [first_none (fun k hk => by
      cases hb : (bt (rE v) k && bt (rE k) v) with
      | false => rfl
      | true => exact absurd ⟨k, hk, hb⟩ h)]
    exact Nat.le_refl _
