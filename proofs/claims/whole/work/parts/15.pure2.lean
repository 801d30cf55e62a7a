def lenF (lf : Nat → Int32) (u : Nat) : Int32 := if first (fun n => bt (lf n) u) 16 16 < 16 then nI (first (fun n => bt (lf n) u) 16 16) else -1
def cq (p : Nat → Bool) : Nat → Nat
  | 0 => 0
  | k + 1 => if p k = true then cq p k + 1 else cq p k
theorem cq_t {p : Nat → Bool} {k : Nat} (h : p k = true) : cq p (k + 1) = cq p k + 1 := if_pos h
theorem cq_f {p : Nat → Bool} {k : Nat} (h : p k = false) : cq p (k + 1) = cq p k := if_neg (by rw [h]; decide)
theorem cq_le (p : Nat → Bool) (k : Nat) : cq p k ≤ k := by
  induction k with
  | zero => exact Nat.le_refl _
  | succ k ih => show (if p k = true then cq p k + 1 else cq p k) ≤ k + 1; split <;> omega
def sq (f : Nat → Nat) : Nat → Nat
  | 0 => 0
  | k + 1 => sq f k + f k
def lastq (p : Nat → Bool) : Nat → Nat
  | 0 => 0
  | k + 1 => if p k = true then k else lastq p k
theorem lastq_t {p : Nat → Bool} {k : Nat} (h : p k = true) : lastq p (k + 1) = k := if_pos h
theorem lastq_f {p : Nat → Bool} {k : Nat} (h : p k = false) : lastq p (k + 1) = lastq p k := if_neg (by rw [h]; decide)
def anyq (p : Nat → Bool) : Nat → Bool
  | 0 => false
  | k + 1 => anyq p k || p k
theorem anyq_t {p : Nat → Bool} {i : Nat} (hp : p i = true) : ∀ n, i < n → anyq p n = true := by
  intro n
  induction n with
  | zero => intro h; omega
  | succ n ih =>
    intro h
    show (anyq p n || p n) = true
    rcases Nat.lt_or_ge i n with h1 | h1
    · rw [ih h1]; rfl
    · have : i = n := by omega
      subst this
      rw [hp, Bool.or_true]
theorem anyq_f {p : Nat → Bool} : ∀ n, (∀ k, k < n → p k = false) → anyq p n = false := by
  intro n
  induction n with
  | zero => intro _; rfl
  | succ n ih =>
    intro h
    show (anyq p n || p n) = false
    rw [ih (fun k hk => h k (by omega)), h n (by omega)]; rfl
def mxq (x : Int32) (f : Nat → Int32) : Nat → Int32
  | 0 => 0
  | k + 1 => if bt x k = true then (if mxq x f k < f k then f k else mxq x f k) else mxq x f k
theorem first_lt {p : Nat → Bool} {d N : Nat} (hd : d < N) : first p d N < N := by
  by_cases h : ∃ j, j < N ∧ p j = true
  · exact (first_spec h).1
  · have : first p d N = d := first_none (fun k hk => by
      cases hb : p k with
      | false => rfl
      | true => exact absurd ⟨k, hk, hb⟩ h)
    rw [this]; exact hd
def pw (h lf : Nat → Int32) (L u : Nat) : Nat → Nat
  | 0 => u
  | k + 1 => first (fun w => bt (h (pw h lf L u k) &&& lf (L - (k + 1))) w) 0 16
theorem pw_lt {h lf : Nat → Int32} {L u : Nat} (hu : u < 16) (k : Nat) : pw h lf L u k < 16 := by
  cases k with
  | zero => exact hu
  | succ k => exact first_lt (by omega)
def ac (f : Nat → Int32) (t b : Int32) : Nat → Int32
  | 0 => t
  | k + 1 => ac f t b k ||| (if bt b k = true then f k else 0)
theorem bt_ac {f : Nat → Int32} {t b : Int32} {i : Nat} : ∀ k, bt (ac f t b k) i = true ↔ bt t i = true ∨ ∃ u, u < k ∧ bt b u = true ∧ bt (f u) i = true := by
  intro k
  induction k with
  | zero => exact ⟨Or.inl, fun h => h.elim id (fun ⟨u, hu, _⟩ => by omega)⟩
  | succ k ih =>
    show bt (ac f t b k ||| (if bt b k = true then f k else 0)) i = true ↔ _
    rw [b_or, Bool.or_eq_true, ih]
    constructor
    · rintro ((h1 | ⟨u, h1, h2, h3⟩) | h1)
      · exact Or.inl h1
      · exact Or.inr ⟨u, by omega, h2, h3⟩
      · by_cases hb : bt b k = true
        · rw [if_pos hb] at h1; exact Or.inr ⟨k, by omega, hb, h1⟩
        · rw [if_neg hb, b_0] at h1; cases h1
    · rintro (h1 | ⟨u, h1, h2, h3⟩)
      · exact Or.inl (Or.inl h1)
      · by_cases hu : u = k
        · subst hu; right; rw [if_pos h2]; exact h3
        · exact Or.inl (Or.inr ⟨u, by omega, h2, h3⟩)
theorem ac_stp {h : Nat → Int32} (hg : gd h) {al cx x : Int32} (hx : m16 x) (ha : ∀ i, i < 16 → bt al i = !(bt cx i)) : ac (fun v => h v &&& al) x x 16 = stp h cx x := by
  have hm : m16 (ac (fun v => h v &&& al) x x 16) := by
    intro i hi
    cases hb : bt (ac (fun v => h v &&& al) x x 16) i with
    | false => rfl
    | true =>
      rcases (bt_ac 16).mp hb with h1 | ⟨u, h1, _, h3⟩
      · rw [hx i hi] at h1; cases h1
      · rw [b_and, hg u h1 i hi] at h3; cases h3
  apply m16_ext hm (stp_m16 hg hx)
  intro i hi
  apply bt_iff
  rw [bt_ac]
  unfold stp
  rw [b_or, b_and, Bool.or_eq_true, Bool.and_eq_true, bt_un, bt_not _ (by omega)]
  constructor
  · rintro (h1 | ⟨u, h1, h2, h3⟩)
    · exact Or.inl h1
    · rw [b_and, Bool.and_eq_true, ha i hi] at h3
      exact Or.inr ⟨⟨u, h1, h2, h3.1⟩, h3.2⟩
  · rintro (h1 | ⟨⟨u, h1, h2, h3⟩, h4⟩)
    · exact Or.inl h1
    · exact Or.inr ⟨u, h1, h2, by rw [b_and, Bool.and_eq_true, ha i hi]; exact ⟨h3, h4⟩⟩
theorem al_and {al cx x : Int32} (hx : m16 x) (ha : ∀ i, i < 16 → bt al i = !(bt cx i)) : x &&& al = x &&& (cx ^^^ (-1)) := by
  apply m16_ext (m16_and hx) (m16_and hx)
  intro i hi
  rw [b_and, b_and, ha i hi, bt_not _ (by omega)]
