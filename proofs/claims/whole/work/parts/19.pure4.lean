theorem upd_lt {f : Nat → Int32} {x : Int32} {u : Nat} : upd (fun k => if k < u then x else f k) u x = fun k => if k < u + 1 then x else f k := by
  funext k
  by_cases h : k = u
  · subst h; rw [pk_us, if_pos (by omega)]
  · rw [pk_un h]
    by_cases h2 : k < u
    · rw [if_pos h2, if_pos (by omega)]
    · rw [if_neg h2, if_neg (by omega)]
theorem upd_ltf {f g : Nat → Int32} {x : Int32} {u : Nat} (hx : x = g u) : upd (fun k => if k < u then g k else f k) u x = fun k => if k < u + 1 then g k else f k := by
  funext k
  by_cases h : k = u
  · subst h; rw [pk_us, if_pos (by omega), hx]
  · rw [pk_un h]
    by_cases h2 : k < u
    · rw [if_pos h2, if_pos (by omega)]
    · rw [if_neg h2, if_neg (by omega)]
