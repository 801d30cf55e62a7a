def TrI (A U : Nat → Int32) (s : Nat) (g : Nat → Nat) : Prop := g s < 32 ∧ ∃ ρ : Nat → Nat, ∀ k, k < 32 → g k < 32 → ρ k < fcn g ∧ (k ≠ s → g (g k) < 32 ∧ ρ (g k) < ρ k ∧ opn A U (g k) k = true)
theorem TrI_ini {A U : Nat → Int32} {s : Nat} (hs : s < 32) : TrI A U s (ini s) := by
  refine ⟨by unfold ini; rw [if_pos rfl]; exact hs, fun _ => 0, fun k _ h => ⟨fcn_ini hs, fun hn => ?_⟩⟩
  unfold ini at h
  rw [if_neg hn] at h
  omega
theorem TrI_up {A U : Nat → Int32} {s : Nat} {g : Nat → Nat} {x y : Nat} (hT : TrI A U s g) (hx : x < 32) (hy : y < 32) (h1 : g x < 32) (h2 : ¬ g y < 32) (ho : opn A U x y = true) : TrI A U s (upn g y x) := by
  obtain ⟨hs, ρ, hρ⟩ := hT
  have hlt : fcn g < fcn (upn g y x) := cq_strict 32 (fun k _ q => by
      have q := of_decide_eq_true q
      have q7 : ¬ k = y := fun e => h2 (by rw [← e]; exact q)
      exact decide_eq_true (by rw [upn_n q7]; exact q)) ⟨y, hy, decide_eq_false h2, decide_eq_true (by rw [upn_s]; exact hx)⟩
  have q7 : ¬ s = y := fun e => h2 (by rw [← e]; exact hs)
  refine ⟨by rw [upn_n q7]; exact hs, upn ρ y (fcn g), fun k hk q => ?_⟩
  by_cases e : k = y
  · subst e
    rw [upn_s, upn_s]
    refine ⟨hlt, fun _ => ?_⟩
    have hxy : ¬ x = k := fun e => h2 (by rw [← e]; exact h1)
    rw [upn_n hxy, upn_n hxy]
    exact ⟨h1, (hρ x hx h1).1, ho⟩
  · rw [upn_n e] at q ⊢
    rw [upn_n e]
    obtain ⟨r1, r2⟩ := hρ k hk q
    refine ⟨by omega, fun hn => ?_⟩
    obtain ⟨r3, r4, r5⟩ := r2 hn
    have hxy : ¬ g k = y := fun e => h2 (by rw [← e]; exact r3)
    rw [upn_n hxy, upn_n hxy]
    exact ⟨r3, r4, r5⟩
theorem TrI_in {A U : Nat → Int32} {s x : Nat} {z : (Nat → Nat) × Bool} (hT : TrI A U s z.1) (hx : x < 32) (h1 : z.1 x < 32) : ∀ y, y ≤ 32 → TrI A U s (inY A U x z y).1 := by
  intro y
  induction y with
  | zero => intro _; exact hT
  | succ y ih =>
    intro hy
    show TrI A U s (if opn A U x y = true ∧ ¬ (inY A U x z y).1 y < 32 then (upn (inY A U x z y).1 y x, true) else inY A U x z y).1
    split
    · rename_i q
      exact TrI_up (ih (by omega)) hx (by omega) (by rw [inY_mono h1]; exact h1) q.2 q.1
    · exact ih (by omega)
theorem TrI_rw {A U : Nat → Int32} {s : Nat} {z : (Nat → Nat) × Bool} (hT : TrI A U s z.1) : ∀ x, x ≤ 32 → TrI A U s (rwS A U z x).1 := by
  intro x
  induction x with
  | zero => intro _; exact hT
  | succ x ih =>
    intro hx
    show TrI A U s (if (rwS A U z x).1 x < 32 then inY A U x (rwS A U z x) 32 else rwS A U z x).1
    split
    · rename_i q
      exact TrI_in (ih (by omega)) (by omega) q 32 (Nat.le_refl _)
    · exact ih (by omega)
theorem TrI_fd {A U : Nat → Int32} {s t : Nat} (hs : s < 32) : ∀ r, TrI A U s (fdS A U s t r).1 := by
  intro r
  induction r with
  | zero => exact TrI_ini hs
  | succ r ih =>
    show TrI A U s (if (fdS A U s t r).2 = true ∧ ¬ (fdS A U s t r).1 t < 32 then rwS A U ((fdS A U s t r).1, false) 32 else fdS A U s t r).1
    split
    · exact TrI_rw (z := ((fdS A U s t r).1, false)) ih 32 (Nat.le_refl _)
    · exact ih
def ph3 (g : Nat → Nat) (s : Nat) (U : Nat → Int32) (t : Nat) : Nat → Nat × (Nat → Int32)
  | 0 => (t, U)
  | k + 1 => if (ph3 g s U t k).1 = s then ph3 g s U t k else (g (ph3 g s U t k).1, psh (ph3 g s U t k).2 (g (ph3 g s U t k).1) (ph3 g s U t k).1)
theorem ph3_go {g : Nat → Nat} {s : Nat} {U : Nat → Int32} {t k : Nat} (h : ¬ (ph3 g s U t k).1 = s) : ph3 g s U t (k + 1) = (g (ph3 g s U t k).1, psh (ph3 g s U t k).2 (g (ph3 g s U t k).1) (ph3 g s U t k).1) := if_neg h
theorem ph3_end {g : Nat → Nat} {s : Nat} {U : Nat → Int32} {t k : Nat} (hk : k ≤ 32) (h : (ph3 g s U t k).1 = s) : ph3 g s U t 32 = ph3 g s U t k := by
  have key : ∀ j, ph3 g s U t (k + j) = ph3 g s U t k := by
    intro j
    induction j with
    | zero => rfl
    | succ j ih =>
      show (if (ph3 g s U t (k + j)).1 = s then ph3 g s U t (k + j) else _) = _
      rw [ih, if_pos h]
  have := key (32 - k)
  rw [show k + (32 - k) = 32 by omega] at this
  exact this
def trk (A U : Nat → Int32) (s : Nat) (g ρ : Nat → Nat) : Prop := ∀ k, k < 32 → g k < 32 → k ≠ s → g (g k) < 32 ∧ ρ (g k) < ρ k ∧ opn A U (g k) k = true
def phI (A U : Nat → Int32) (s t : Nat) (g ρ : Nat → Nat) (k : Nat) : Prop :=
  (ph3 g s U t k).1 < 32 ∧ g (ph3 g s U t k).1 < 32 ∧ ((ph3 g s U t k).1 = s ∨ k + ρ (ph3 g s U t k).1 ≤ ρ t) ∧ wthn (ph3 g s U t k).2 A ∧
  (∀ x, x < 32 → nf (ph3 g s U t k).2 x = nf U x + ((if x = (ph3 g s U t k).1 then 1 else 0) - (if x = t then 1 else 0))) ∧
  (∀ p q, p < 32 → q < 32 → ρ p ≤ ρ (ph3 g s U t k).1 → ρ q ≤ ρ (ph3 g s U t k).1 → bt ((ph3 g s U t k).2 p) q = bt (U p) q)
theorem ph3_inv {A U : Nat → Int32} {s t : Nat} {g ρ : Nat → Nat} (hw : wthn U A) (hT : trk A U s g ρ) (ht : t < 32) (hgt : g t < 32) : ∀ k, phI A U s t g ρ k := by
  intro k
  induction k with
  | zero =>
    refine ⟨ht, hgt, Or.inr (by show 0 + ρ t ≤ ρ t; omega), hw, fun x _ => ?_, fun _ _ _ _ _ _ => rfl⟩
    show nf U x = nf U x + ((if x = t then 1 else 0) - (if x = t then 1 else 0))
    omega
  | succ k ih =>
    by_cases hs : (ph3 g s U t k).1 = s
    · have e : ph3 g s U t (k + 1) = ph3 g s U t k := if_pos hs
      refine ⟨by rw [e]; exact ih.1, by rw [e]; exact ih.2.1, by rw [e]; exact Or.inl hs, by rw [e]; exact ih.2.2.2.1, by rw [e]; exact ih.2.2.2.2.1, by rw [e]; exact ih.2.2.2.2.2⟩
    · have e := ph3_go hs
      have i1 := ih.1
      have i2 := ih.2.1
      have i3 := ih.2.2.1
      have i4 := ih.2.2.2.1
      have i5 := ih.2.2.2.2.1
      have i6 := ih.2.2.2.2.2
      generalize (ph3 g s U t k).1 = y at *
      generalize (ph3 g s U t k).2 = V at *
      obtain ⟨t1, t2, t3⟩ := hT y i1 i2 hs
      have hay : g y ≠ y := fun q => by rw [q] at t2; omega
      have ho : opn A V (g y) y = true := by
        unfold opn at t3 ⊢
        rw [i6 (g y) y i2 i1 (by omega) (by omega), i6 y (g y) i1 i2 (by omega) (by omega)]
        exact t3
      have hr := opn_rs.mp ho
      refine ⟨by rw [e]; exact i2, by rw [e]; exact t1, ?_, by rw [e]; exact psh_in i2 i1 i4 hr, ?_, ?_⟩
      · rw [e]
        right
        show k + 1 + ρ (g y) ≤ ρ t
        rcases i3 with q | q
        · exact absurd q hs
        · omega
      · rw [e]
        intro x hx
        show nf (psh V (g y) y) x = nf U x + ((if x = g y then 1 else 0) - (if x = t then 1 else 0))
        rw [psh_nf i2 i1 hay hr hx, i5 x hx]
        generalize (if x = y then (1 : Int) else 0) = q1
        generalize (if x = g y then (1 : Int) else 0) = q2
        generalize (if x = t then (1 : Int) else 0) = q3
        omega
      · rw [e]
        intro p q hp hq h1 h2
        have h1 : ρ p ≤ ρ (g y) := h1
        have h2 : ρ q ≤ ρ (g y) := h2
        show bt (psh V (g y) y p) q = bt (U p) q
        have n1 : ¬ (p = y ∧ q = g y) := fun z => by rw [z.1] at h1; omega
        have n2 : ¬ (p = g y ∧ q = y) := fun z => by rw [z.2] at h2; omega
        rw [psh_bt i2 i1 hq, decide_eq_false n1, decide_eq_false n2, Bool.not_false, Bool.and_true, Bool.or_false, i6 p q hp hq (by omega) (by omega)]
        split <;> rfl
theorem ph3_s {A U : Nat → Int32} {s t : Nat} {g ρ : Nat → Nat} (hw : wthn U A) (hT : trk A U s g ρ) (ht : t < 32) (hgt : g t < 32) (hr : ρ t < 32) : (ph3 g s U t 32).1 = s := by
  rcases (ph3_inv hw hT ht hgt 32).2.2.1 with q | q
  · exact q
  · omega
def FlI (A U : Nat → Int32) (s t n : Nat) : Prop := wthn U A ∧ nf U s = n ∧ ∀ a, a < 32 → a ≠ s → a ≠ t → nf U a = 0
theorem FlI_0 {A : Nat → Int32} {s t : Nat} : FlI A (fun _ => nI 0) s t 0 := by
  have hz : ∀ a, nf (fun _ => nI 0) a = 0 := fun a => sm_0 32 (fun b _ => by
    show i01 (bt (nI 0) b) - i01 (bt (nI 0) a) = 0
    rw [show nI 0 = 0 from rfl, b_0, b_0]; rfl)
  refine ⟨fun a b _ _ h => ?_, hz s, fun a _ _ _ => hz a⟩
  have h : bt (nI 0) b = true := h
  rw [show nI 0 = 0 from rfl, b_0] at h
  cases h
theorem FlI_s {A U : Nat → Int32} {s t n : Nat} {g ρ : Nat → Nat} (hI : FlI A U s t n) (hs : s < 32) (hst : s ≠ t) (hT : trk A U s g ρ) (ht : t < 32) (hgt : g t < 32) (hr : ρ t < 32) : FlI A (ph3 g s U t 32).2 s t (n + 1) := by
  have h1 := ph3_inv hI.1 hT ht hgt 32
  have h2 := ph3_s hI.1 hT ht hgt hr
  refine ⟨h1.2.2.2.1, ?_, fun a ha n1 n2 => ?_⟩
  · rw [h1.2.2.2.2.1 s hs, h2, if_pos rfl, if_neg hst, hI.2.1]; omega
  · rw [h1.2.2.2.2.1 a ha, h2, if_neg n1, if_neg n2, hI.2.2 a ha n1 n2]; rfl
theorem cap_one {A : Nat → Int32} {s : Nat} (hs : s < 32) : cap A (fun a => decide (a = s)) ≤ 32 := by
  unfold cap
  rw [sm_one (j := s) 32 hs]
  · have : sm (fun _ => (1 : Int)) 32 = 32 := by decide
    rw [← this]
    apply sm_le
    intro b _
    unfold sc
    have := i01_le (bt (A s) b)
    split
    · split <;> omega
    · omega
  · intro i _ hn
    apply sm_0
    intro b _
    unfold sc
    exact if_neg (fun q => hn (of_decide_eq_true q))
theorem FlI_le {A U : Nat → Int32} {s t n : Nat} (hI : FlI A U s t n) (hs : s < 32) : n ≤ 32 := by
  have h1 := flow_le (S := fun a => decide (a = s)) hI.1 hs (decide_eq_true rfl) (fun a _ h hn => absurd (of_decide_eq_true h) hn)
  rw [hI.2.1] at h1
  have := cap_one (A := A) hs
  omega
def apS (A : Nat → Int32) (s t : Nat) : Nat → Nat → Int32
  | 0 => fun _ => nI 0
  | r + 1 => (ph3 (fdS A (apS A s t r) s t 33).1 s (apS A s t r) t 32).2
def fnd (A : Nat → Int32) (s t r : Nat) : Bool := decide ((fdS A (apS A s t r) s t 33).1 t < 32)
theorem fd_trk {A U : Nat → Int32} {s t : Nat} (hs : s < 32) (ht : t < 32) (hf : (fdS A U s t 33).1 t < 32) : ∃ ρ, trk A U s (fdS A U s t 33).1 ρ ∧ ρ t < 32 := by
  obtain ⟨_, ρ, hρ⟩ := TrI_fd (A := A) (U := U) (t := t) hs 33
  refine ⟨ρ, fun k hk h hn => (hρ k hk h).2 hn, ?_⟩
  have := (hρ t ht hf).1
  have := fcn_le (fdS A U s t 33).1
  omega
theorem apS_inv {A : Nat → Int32} {s t : Nat} (hs : s < 32) (ht : t < 32) (hst : s ≠ t) : ∀ r, (∀ j, j < r → fnd A s t j = true) → FlI A (apS A s t r) s t r := by
  intro r
  induction r with
  | zero => intro _; exact FlI_0
  | succ r ih =>
    intro h
    have h1 := ih (fun j hj => h j (by omega))
    have h2 := of_decide_eq_true (h r (by omega))
    obtain ⟨ρ, h3, h4⟩ := fd_trk hs ht h2
    exact FlI_s h1 hs hst h3 ht h2 h4
theorem ap_le {A : Nat → Int32} {s t : Nat} (hs : s < 32) (ht : t < 32) (hst : s ≠ t) {r : Nat} (h : ∀ j, j < r → fnd A s t j = true) : r ≤ 32 := FlI_le (apS_inv hs ht hst r h) hs
def apN (A : Nat → Int32) (s t : Nat) : Nat := first (fun r => !(fnd A s t r)) 33 33
theorem apN_eq {A : Nat → Int32} {s t r : Nat} (hr : r ≤ 32) (h : ∀ j, j < r → fnd A s t j = true) (hf : fnd A s t r = false) : apN A s t = r := first_eq (j := r) (by rw [hf]; rfl) (by omega) (fun k hk => by rw [h k hk]; rfl)
