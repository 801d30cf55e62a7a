theorem and_ne {x e : Int32} : x &&& e ≠ 0 ↔ ∃ i, bt x i = true ∧ bt e i = true := by
  constructor
  · intro h
    apply Classical.byContradiction
    intro hn
    apply h
    apply b_ext
    intro i _
    rw [b_and, b_0]
    cases h1 : bt x i with
    | false => rfl
    | true =>
      cases h2 : bt e i with
      | false => rfl
      | true => exact absurd ⟨i, h1, h2⟩ hn
  · rintro ⟨i, h1, h2⟩ h
    have := b_and x e i
    rw [h, b_0, h1, h2] at this
    cases this
def tl (h : Nat → Int32) (e : Int32) : Nat → Int32
  | 0 => 0
  | k + 1 => if h k &&& e = 0 then tl h e k else tl h e k ||| bit k
theorem bt_tl {h : Nat → Int32} {e : Int32} {u : Nat} : ∀ k, k ≤ 32 → (bt (tl h e k) u = true ↔ u < k ∧ h u &&& e ≠ 0) := by
  intro k
  induction k with
  | zero =>
    intro _
    constructor
    · intro h1; rw [show tl h e 0 = 0 from rfl, b_0] at h1; cases h1
    · intro h1; omega
  | succ k ih =>
    intro hk
    have ih := ih (by omega)
    show bt (if h k &&& e = 0 then tl h e k else tl h e k ||| bit k) u = true ↔ _
    by_cases hc : h k &&& e = 0
    · rw [if_pos hc, ih]
      constructor
      · rintro ⟨h1, h2⟩; exact ⟨by omega, h2⟩
      · rintro ⟨h1, h2⟩
        by_cases hu : u = k
        · subst hu; exact absurd hc h2
        · exact ⟨by omega, h2⟩
    · rw [if_neg hc, b_or, Bool.or_eq_true, ih]
      constructor
      · rintro (h1 | h1)
        · exact ⟨by omega, h1.2⟩
        · rw [bt_bit (by omega) (bt_lt h1), decide_eq_true_eq] at h1
          subst h1; exact ⟨by omega, hc⟩
      · rintro ⟨h1, h2⟩
        by_cases hu : u = k
        · subst hu; right; rw [bt_bit (by omega) (by omega), decide_eq_true rfl]
        · exact Or.inl ⟨by omega, h2⟩
def ly (h : Nat → Int32) (v : Nat) : Nat → Int32
  | 0 => bit v
  | n + 1 => tl h (ly h v n) 16
theorem ly_iff {h : Nat → Int32} {v : Nat} (hv : v < 16) : ∀ n u, (bt (ly h v n) u = true ↔ Wk (Eg h) n u v) := by
  intro n
  induction n with
  | zero =>
    intro u
    show bt (bit v) u = true ↔ u = v
    constructor
    · intro h1; rw [bt_bit (by omega) (bt_lt h1), decide_eq_true_eq] at h1; exact h1
    · intro h1; subst h1; rw [bt_bit (by omega) (by omega), decide_eq_true rfl]
  | succ n ih =>
    intro u
    show bt (tl h (ly h v n) 16) u = true ↔ _
    rw [bt_tl 16 (by omega), and_ne]
    constructor
    · rintro ⟨h1, i, h2, h3⟩
      exact Wk_cons ⟨h1, h2⟩ ((ih i).mp h3)
    · intro hw
      obtain ⟨w, h1, h2⟩ := Wk_head n u v hw
      exact ⟨h1.1, w, h1.2, (ih w).mpr h2⟩
theorem ly_m16 {h : Nat → Int32} {v : Nat} (hv : v < 16) (n : Nat) : m16 (ly h v n) := by
  intro i hi
  cases hb : bt (ly h v n) i with
  | false => rfl
  | true =>
    cases n with
    | zero =>
      have hb : bt (bit v) i = true := hb
      rw [m16_bit hv i hi] at hb; cases hb
    | succ n =>
      have := ((bt_tl 16 (by omega)).mp hb).1
      omega
def ds (h : Nat → Int32) (u v : Nat) : Nat := first (fun n => bt (ly h v n) u) 16 16
def DS (h : Nat → Int32) (u v : Nat) : Int32 := if ds h u v < 16 then nI (ds h u v) else -1
theorem ds_lt {h : Nat → Int32} {u v n : Nat} (hn : n < 16) (hb : bt (ly h v n) u = true) : ds h u v < 16 ∧ ds h u v ≤ n ∧ bt (ly h v (ds h u v)) u = true := by
  have hs := first_spec (p := fun n => bt (ly h v n) u) (d := 16) (N := 16) ⟨n, hn, hb⟩
  refine ⟨hs.1, ?_, hs.2.1⟩
  apply Nat.le_of_not_lt
  intro hlt
  have := hs.2.2 n hlt
  rw [show bt (ly h v n) u = true from hb] at this
  cases this
theorem ds_ge {h : Nat → Int32} {u v : Nat} (hd : ¬ ds h u v < 16) : ∀ n, n < 16 → bt (ly h v n) u = false := by
  intro n hn
  cases hb : bt (ly h v n) u with
  | false => rfl
  | true => exact absurd (ds_lt hn hb).1 hd
theorem ds_step {h : Nat → Int32} {u w v : Nat} (hv : v < 16) (hd : ds h u v < 16) (e : Eg h u w) {k : Nat} (hk : ds h u v = k + 1) : (bt (ly h v k) w = true ↔ ds h w v = k) := by
  constructor
  · intro hb
    obtain ⟨h1, h2, h3⟩ := ds_lt (by omega) hb
    apply Nat.le_antisymm h2
    apply Nat.le_of_not_lt
    intro hlt
    have h4 : bt (ly h v (ds h w v + 1)) u = true := (ly_iff hv _ u).mpr (Wk_cons e ((ly_iff hv _ w).mp h3))
    have := (ds_lt (by omega) h4).2.1
    omega
  · intro he
    have hs := first_spec (p := fun n => bt (ly h v n) w) (d := 16) (N := 16) (by
      apply Classical.byContradiction
      intro hn
      have : ds h w v = 16 := first_none (fun n h1 => by
        cases hb : bt (ly h v n) w with
        | false => rfl
        | true => exact absurd ⟨n, h1, hb⟩ hn)
      omega)
    have h2 : bt (ly h v (ds h w v)) w = true := hs.2.1
    rw [he] at h2
    exact h2
