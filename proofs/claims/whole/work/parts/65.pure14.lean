def oI (n : Nat) : Int32 := if n < 32 then nI n else -1
theorem oI_t {n : Nat} (h : n < 32) : oI n = nI n := if_pos h
theorem oI_f {n : Nat} (h : ¬ n < 32) : oI n = -1 := if_neg h
theorem oI_32 : ∀ n, n < 32 → ¬ nI n < 0 ∧ (0 : Int32) ≤ nI n := by decide +kernel
theorem oI_lt {n : Nat} : oI n < 0 ↔ ¬ n < 32 := by
  by_cases h : n < 32
  · rw [oI_t h]; exact ⟨fun q => absurd q (oI_32 n h).1, fun q => absurd h q⟩
  · rw [oI_f h]; exact ⟨fun _ => h, fun _ => by decide⟩
theorem oI_ge {n : Nat} : 0 ≤ oI n ↔ n < 32 := by
  by_cases h : n < 32
  · rw [oI_t h]; exact ⟨fun _ => h, fun _ => (oI_32 n h).2⟩
  · rw [oI_f h]; exact ⟨fun q => absurd q (by decide), fun q => absurd q h⟩
def opn (A U : Nat → Int32) (x y : Nat) : Bool := (bt (A x) y && !(bt (U x) y)) || bt (U y) x
theorem opn_rs {A U : Nat → Int32} {x y : Nat} : opn A U x y = true ↔ rs A U x y := by
  unfold opn rs
  rw [Bool.or_eq_true, Bool.and_eq_true]
  cases bt (U x) y <;> simp
def upn (g : Nat → Nat) (k v : Nat) : Nat → Nat := fun j => if j = k then v else g j
theorem upn_s (g : Nat → Nat) (k v : Nat) : upn g k v k = v := if_pos rfl
theorem upn_n {g : Nat → Nat} {k v j : Nat} (h : ¬ j = k) : upn g k v j = g j := if_neg h
theorem upn_oI {g : Nat → Nat} {k v : Nat} (hv : v < 32) : upd (fun j => oI (g j)) k (nI v) = fun j => oI (upn g k v j) := by
  funext j
  by_cases h : j = k
  · subst h; rw [pk_us, upn_s, oI_t hv]
  · rw [pk_un h, upn_n h]
def inY (A U : Nat → Int32) (x : Nat) (z : (Nat → Nat) × Bool) : Nat → (Nat → Nat) × Bool
  | 0 => z
  | y + 1 => if opn A U x y = true ∧ ¬ (inY A U x z y).1 y < 32 then (upn (inY A U x z y).1 y x, true) else inY A U x z y
theorem inY_t {A U : Nat → Int32} {x : Nat} {z : (Nat → Nat) × Bool} {y : Nat} (h1 : opn A U x y = true) (h2 : ¬ (inY A U x z y).1 y < 32) : inY A U x z (y + 1) = (upn (inY A U x z y).1 y x, true) := if_pos ⟨h1, h2⟩
theorem inY_f {A U : Nat → Int32} {x : Nat} {z : (Nat → Nat) × Bool} {y : Nat} (h1 : opn A U x y = true → (inY A U x z y).1 y < 32) : inY A U x z (y + 1) = inY A U x z y := if_neg (fun q => q.2 (h1 q.1))
def rwS (A U : Nat → Int32) (z : (Nat → Nat) × Bool) : Nat → (Nat → Nat) × Bool
  | 0 => z
  | x + 1 => if (rwS A U z x).1 x < 32 then inY A U x (rwS A U z x) 32 else rwS A U z x
theorem rwS_t {A U : Nat → Int32} {z : (Nat → Nat) × Bool} {x : Nat} (h : (rwS A U z x).1 x < 32) : rwS A U z (x + 1) = inY A U x (rwS A U z x) 32 := if_pos h
theorem rwS_f {A U : Nat → Int32} {z : (Nat → Nat) × Bool} {x : Nat} (h : ¬ (rwS A U z x).1 x < 32) : rwS A U z (x + 1) = rwS A U z x := if_neg h
def ini (s : Nat) : Nat → Nat := fun k => if k = s then s else 32
def fdS (A U : Nat → Int32) (s t : Nat) : Nat → (Nat → Nat) × Bool
  | 0 => (ini s, true)
  | r + 1 => if (fdS A U s t r).2 = true ∧ ¬ (fdS A U s t r).1 t < 32 then rwS A U ((fdS A U s t r).1, false) 32 else fdS A U s t r
theorem fdS_go {A U : Nat → Int32} {s t r : Nat} (h1 : (fdS A U s t r).2 = true) (h2 : ¬ (fdS A U s t r).1 t < 32) : fdS A U s t (r + 1) = rwS A U ((fdS A U s t r).1, false) 32 := if_pos ⟨h1, h2⟩
theorem fdS_end {A U : Nat → Int32} {s t r : Nat} (hr : r ≤ 33) (h : (fdS A U s t r).2 = false ∨ (fdS A U s t r).1 t < 32) : fdS A U s t 33 = fdS A U s t r := by
  have key : ∀ j, fdS A U s t (r + j) = fdS A U s t r := by
    intro j
    induction j with
    | zero => rfl
    | succ j ih =>
      show (if (fdS A U s t (r + j)).2 = true ∧ ¬ (fdS A U s t (r + j)).1 t < 32 then _ else fdS A U s t (r + j)) = _
      rw [ih, if_neg]
      rintro ⟨q1, q2⟩
      rcases h with h | h
      · rw [h] at q1; cases q1
      · exact q2 h
  have := key (33 - r)
  rw [show r + (33 - r) = 33 by omega] at this
  exact this
theorem inY_mono {A U : Nat → Int32} {x : Nat} {z : (Nat → Nat) × Bool} {k : Nat} (h : z.1 k < 32) : ∀ y, (inY A U x z y).1 k = z.1 k := by
  intro y
  induction y with
  | zero => rfl
  | succ y ih =>
    show (if opn A U x y = true ∧ ¬ (inY A U x z y).1 y < 32 then (upn (inY A U x z y).1 y x, true) else inY A U x z y).1 k = z.1 k
    split
    · rename_i q
      show upn (inY A U x z y).1 y x k = z.1 k
      rw [upn_n (fun e => by subst e; rw [ih] at q; exact q.2 h), ih]
    · exact ih
theorem inY_more {A U : Nat → Int32} {x : Nat} {z : (Nat → Nat) × Bool} (hx : x < 32) : ∀ y, y ≤ 32 → (inY A U x z y).2 = true → z.2 = true ∨ ∃ k, k < 32 ∧ ¬ z.1 k < 32 ∧ (inY A U x z y).1 k < 32 := by
  intro y
  induction y with
  | zero => intro _ h; exact Or.inl h
  | succ y ih =>
    intro hy
    show (if opn A U x y = true ∧ ¬ (inY A U x z y).1 y < 32 then (upn (inY A U x z y).1 y x, true) else inY A U x z y).2 = true → z.2 = true ∨ ∃ k, k < 32 ∧ ¬ z.1 k < 32 ∧ (if opn A U x y = true ∧ ¬ (inY A U x z y).1 y < 32 then (upn (inY A U x z y).1 y x, true) else inY A U x z y).1 k < 32
    split
    · rename_i q
      intro _
      refine Or.inr ⟨y, by omega, fun q2 => q.2 (by rw [inY_mono q2]; exact q2), ?_⟩
      show upn _ y x y < 32
      rw [upn_s]; exact hx
    · exact ih (by omega)
theorem rwS_mono {A U : Nat → Int32} {z : (Nat → Nat) × Bool} {k : Nat} (h : z.1 k < 32) : ∀ x, (rwS A U z x).1 k = z.1 k := by
  intro x
  induction x with
  | zero => rfl
  | succ x ih =>
    show (if (rwS A U z x).1 x < 32 then inY A U x (rwS A U z x) 32 else rwS A U z x).1 k = z.1 k
    split
    · rw [inY_mono (by rw [ih]; exact h), ih]
    · exact ih
theorem rwS_more {A U : Nat → Int32} {z : (Nat → Nat) × Bool} : ∀ x, x ≤ 32 → (rwS A U z x).2 = true → z.2 = true ∨ ∃ k, k < 32 ∧ ¬ z.1 k < 32 ∧ (rwS A U z x).1 k < 32 := by
  intro x
  induction x with
  | zero => intro _ h; exact Or.inl h
  | succ x ih =>
    intro hx
    show (if (rwS A U z x).1 x < 32 then inY A U x (rwS A U z x) 32 else rwS A U z x).2 = true → z.2 = true ∨ ∃ k, k < 32 ∧ ¬ z.1 k < 32 ∧ (if (rwS A U z x).1 x < 32 then inY A U x (rwS A U z x) 32 else rwS A U z x).1 k < 32
    split
    · intro h
      rcases inY_more (by omega) 32 (Nat.le_refl _) h with h1 | ⟨k, h1, h2, h3⟩
      · rcases ih (by omega) h1 with h4 | ⟨k, h4, h5, h6⟩
        · exact Or.inl h4
        · exact Or.inr ⟨k, h4, h5, by rw [inY_mono h6]; exact h6⟩
      · exact Or.inr ⟨k, h1, fun q => h2 (by rw [rwS_mono q]; exact q), h3⟩
    · exact ih (by omega)
def fcn (g : Nat → Nat) : Nat := cq (fun k => decide (g k < 32)) 32
theorem cq_mono {p q : Nat → Bool} : ∀ n, (∀ k, k < n → p k = true → q k = true) → cq p n ≤ cq q n := by
  intro n
  induction n with
  | zero => intro _; exact Nat.le_refl _
  | succ n ih =>
    intro h
    have := ih (fun k hk => h k (by omega))
    cases hp : p n with
    | true => rw [cq_t hp, cq_t (h n (by omega) hp)]; omega
    | false =>
      rw [cq_f hp]
      cases hq : q n with
      | true => rw [cq_t hq]; omega
      | false => rw [cq_f hq]; exact this
theorem cq_strict {p q : Nat → Bool} : ∀ n, (∀ k, k < n → p k = true → q k = true) → (∃ k, k < n ∧ p k = false ∧ q k = true) → cq p n < cq q n := by
  intro n
  induction n with
  | zero => rintro _ ⟨k, hk, _⟩; omega
  | succ n ih =>
    rintro h ⟨k, hk, h1, h2⟩
    by_cases e : k = n
    · subst e
      rw [cq_f h1, cq_t h2]
      have := cq_mono k (fun j hj => h j (by omega))
      omega
    · have := ih (fun k hk => h k (by omega)) ⟨k, by omega, h1, h2⟩
      cases hp : p n with
      | true => rw [cq_t hp, cq_t (h n (by omega) hp)]; omega
      | false =>
        rw [cq_f hp]
        cases hq : q n with
        | true => rw [cq_t hq]; omega
        | false => rw [cq_f hq]; exact this
theorem fcn_le (g : Nat → Nat) : fcn g ≤ 32 := cq_le _ 32
theorem fcn_row {A U : Nat → Int32} {g : Nat → Nat} (h : (rwS A U (g, false) 32).2 = true) : fcn g < fcn (rwS A U (g, false) 32).1 := by
  apply cq_strict
  · intro k _ h1
    have h1 := of_decide_eq_true h1
    exact decide_eq_true (by rw [rwS_mono (z := (g, false)) h1]; exact h1)
  · rcases rwS_more 32 (Nat.le_refl _) h with h1 | ⟨k, h1, h2, h3⟩
    · cases h1
    · exact ⟨k, h1, decide_eq_false h2, decide_eq_true h3⟩
theorem fcn_ini {s : Nat} (hs : s < 32) : 0 < fcn (ini s) := by
  have : cq (fun _ => false) 32 < fcn (ini s) := cq_strict 32 (fun k _ h => by cases h) ⟨s, hs, rfl, decide_eq_true (by unfold ini; rw [if_pos rfl]; exact hs)⟩
  omega
