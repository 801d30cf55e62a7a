def fs (p : Nat → Bool) (d : Nat) : Nat → Nat → Nat
  | 0, _ => d
  | n + 1, i => if p i = true then i else fs p d n (i + 1)
def first (p : Nat → Bool) (d N : Nat) : Nat := fs p d N 0
theorem fs_eq {p : Nat → Bool} {d j : Nat} (hp : p j = true) : ∀ (n i : Nat), i ≤ j → j < i + n → (∀ k, i ≤ k → k < j → p k = false) → fs p d n i = j := by
  intro n
  induction n with
  | zero => intro i h1 h2; omega
  | succ n ih =>
    intro i h1 h2 hm
    show (if p i = true then i else fs p d n (i + 1)) = j
    by_cases h : i = j
    · subst h; rw [if_pos hp]
    · rw [if_neg (by rw [hm i (Nat.le_refl _) (by omega)]; decide)]
      exact ih (i + 1) (by omega) (by omega) (fun k h3 h4 => hm k (by omega) h4)
theorem fs_none {p : Nat → Bool} {d : Nat} : ∀ (n i : Nat), (∀ k, i ≤ k → k < i + n → p k = false) → fs p d n i = d := by
  intro n
  induction n with
  | zero => intro i _; rfl
  | succ n ih =>
    intro i hm
    show (if p i = true then i else fs p d n (i + 1)) = d
    rw [if_neg (by rw [hm i (Nat.le_refl _) (by omega)]; decide)]
    exact ih (i + 1) (fun k h3 h4 => hm k (by omega) (by omega))
theorem first_eq {p : Nat → Bool} {d N j : Nat} (hp : p j = true) (hj : j < N) (hm : ∀ k, k < j → p k = false) : first p d N = j := fs_eq hp N 0 (Nat.zero_le _) (by omega) (fun k _ h => hm k h)
theorem first_none {p : Nat → Bool} {d N : Nat} (hm : ∀ k, k < N → p k = false) : first p d N = d := fs_none N 0 (fun k _ h => hm k (by omega))
theorem least_ex {p : Nat → Bool} {N : Nat} (h : ∃ j, j < N ∧ p j = true) : ∃ j, j < N ∧ p j = true ∧ ∀ k, k < j → p k = false := by
  obtain ⟨j, hj, hm⟩ := pk_least (fun j => j < N ∧ p j = true) h
  refine ⟨j, hj.1, hj.2, fun k hk => ?_⟩
  cases hb : p k with
  | false => rfl
  | true => exact absurd ⟨by omega, hb⟩ (hm k hk)
theorem first_spec {p : Nat → Bool} {d N : Nat} (h : ∃ j, j < N ∧ p j = true) : first p d N < N ∧ p (first p d N) = true ∧ ∀ k, k < first p d N → p k = false := by
  obtain ⟨j, h1, h2, h3⟩ := least_ex h
  rw [first_eq h2 h1 h3]
  exact ⟨h1, h2, h3⟩
theorem first_congr {p q : Nat → Bool} {d N : Nat} (h : ∀ j, j < N → p j = q j) : first p d N = first q d N := by
  by_cases he : ∃ j, j < N ∧ p j = true
  · obtain ⟨j, h1, h2, h3⟩ := least_ex he
    rw [first_eq h2 h1 h3, first_eq (by rw [← h j h1]; exact h2) h1 (fun k hk => by rw [← h k (by omega)]; exact h3 k hk)]
  · have hn : ∀ k, k < N → p k = false := fun k hk => by
      cases hb : p k with
      | false => rfl
      | true => exact absurd ⟨k, hk, hb⟩ he
    rw [first_none hn, first_none (fun k hk => by rw [← h k hk]; exact hn k hk)]
def ws0 (h : Nat → Int32) : Nat → Int32 := fun u => bit u ||| h u
def wph (r : Nat → Int32) (m : Nat) : Nat → Int32 := fun x => if bt (r x) m = true then r x ||| r m else r x
def wsh (h : Nat → Int32) : Nat → Nat → Int32
  | 0 => ws0 h
  | k + 1 => wph (wsh h k) k
theorem wph_iff {r : Nat → Int32} {m u v : Nat} : bt (wph r m u) v = true ↔ bt (r u) v = true ∨ (bt (r u) m = true ∧ bt (r m) v = true) := by
  unfold wph
  by_cases h : bt (r u) m = true
  · rw [if_pos h, b_or, Bool.or_eq_true]
    exact ⟨fun h1 => h1.imp id (fun h2 => ⟨h, h2⟩), fun h1 => h1.imp id (fun h2 => h2.2)⟩
  · rw [if_neg h]
    exact ⟨Or.inl, fun h1 => h1.elim id (fun h2 => absurd h2.1 h)⟩
theorem wsh_m16 {h : Nat → Int32} (hg : gd h) : ∀ k u, k ≤ 16 → u < 16 → m16 (wsh h k u) := by
  intro k
  induction k with
  | zero => intro u _ hu; exact m16_or (m16_bit hu) (hg u hu)
  | succ k ih =>
    intro u hk hu
    show m16 (wph (wsh h k) k u)
    unfold wph
    split
    · exact m16_or (ih u (by omega) hu) (ih k (by omega) (by omega))
    · exact ih u (by omega) hu
theorem wsh_sound {h : Nat → Int32} : ∀ k u v, k ≤ 16 → u < 16 → bt (wsh h k u) v = true → Rc (Eg h) u v := by
  intro k
  induction k with
  | zero =>
    intro u v _ hu hb
    have hb : bt (bit u ||| h u) v = true := hb
    rw [b_or, Bool.or_eq_true] at hb
    rcases hb with hb | hb
    · rw [bt_bit (by omega) (bt_lt hb), decide_eq_true_eq] at hb
      subst hb; exact Rc_rf _
    · exact Rc_one ⟨hu, hb⟩
  | succ k ih =>
    intro u v hk hu hb
    rcases wph_iff.mp hb with h1 | ⟨h1, h2⟩
    · exact ih u v (by omega) hu h1
    · exact Rc_tr (ih u k (by omega) hu h1) (ih k v (by omega) (by omega) h2)
theorem wsh_base {h : Nat → Int32} : ∀ k u v, bt (ws0 h u) v = true → bt (wsh h k u) v = true := by
  intro k
  induction k with
  | zero => intro u v hb; exact hb
  | succ k ih => intro u v hb; exact wph_iff.mpr (Or.inl (ih u v hb))
theorem wsh_trans {h : Nat → Int32} : ∀ k m u v, m < k → bt (wsh h k u) m = true → bt (wsh h k m) v = true → bt (wsh h k u) v = true := by
  intro k
  induction k with
  | zero => intro m u v hm; omega
  | succ k ih =>
    intro m u v hm h1 h2
    have h1 := wph_iff.mp h1
    have h2 := wph_iff.mp h2
    show bt (wph (wsh h k) k u) v = true
    rw [wph_iff]
    by_cases hk : m = k
    · subst hk
      have a1 : bt (wsh h m u) m = true := h1.elim id (fun q => q.1)
      have a2 : bt (wsh h m m) v = true := h2.elim id (fun q => q.2)
      exact Or.inr ⟨a1, a2⟩
    · have hlt : m < k := by omega
      rcases h1 with h1 | ⟨h1, h1'⟩
      · rcases h2 with h2 | ⟨h2, h2'⟩
        · exact Or.inl (ih m u v hlt h1 h2)
        · exact Or.inr ⟨ih m u k hlt h1 h2, h2'⟩
      · rcases h2 with h2 | ⟨h2, h2'⟩
        · exact Or.inr ⟨h1, ih m k v hlt h1' h2⟩
        · exact Or.inr ⟨h1, h2'⟩
theorem wsh_RE {h : Nat → Int32} (hg : gd h) {u : Nat} (hu : u < 16) : wsh h 16 u = RE h u := by
  apply m16_ext (wsh_m16 hg 16 u (Nat.le_refl _) hu) (SP_m16 hg (m16_bit hu))
  intro v hv
  have : bt (wsh h 16 u) v = true ↔ bt (RE h u) v = true := by
    rw [RE_iff hg hu]
    constructor
    · exact wsh_sound 16 u v (Nat.le_refl _) hu
    · intro hr
      refine Rc_ind (P := fun x => bt (wsh h 16 u) x = true) ?_ ?_ hr
      · apply wsh_base
        unfold ws0
        rw [b_or, bt_bit (by omega) (by omega), decide_eq_true rfl]; rfl
      · intro w x hw e
        refine wsh_trans 16 w u x e.1 hw ?_
        apply wsh_base
        unfold ws0
        rw [b_or, e.2, Bool.or_true]
  cases h1 : bt (wsh h 16 u) v with
  | true => exact (this.mp h1).symm
  | false =>
    cases h2 : bt (RE h u) v with
    | false => exact h2.symm
    | true => rw [this.mpr h2] at h1; cases h1
def gr (h : Nat → Int32) (v : Nat) : Nat → Int32
  | 0 => bit v
  | w + 1 => if bt (RE h v) w = true ∧ bt (RE h w) v = true then gr h v w ||| bit w else gr h v w
def GR (h : Nat → Int32) (v : Nat) : Int32 := gr h v 16
theorem gr_iff {h : Nat → Int32} {v w : Nat} (hv : v < 16) : ∀ k, k ≤ 16 → (bt (gr h v k) w = true ↔ w = v ∨ (w < k ∧ bt (RE h v) w = true ∧ bt (RE h w) v = true)) := by
  intro k
  induction k with
  | zero =>
    intro _
    show bt (bit v) w = true ↔ _
    constructor
    · intro hb
      rw [bt_bit (by omega) (bt_lt hb), decide_eq_true_eq] at hb
      exact Or.inl hb
    · rintro (h1 | h1)
      · subst h1; rw [bt_bit (by omega) (by omega), decide_eq_true rfl]
      · omega
  | succ k ih =>
    intro hk
    show bt (if bt (RE h v) k = true ∧ bt (RE h k) v = true then gr h v k ||| bit k else gr h v k) w = true ↔ _
    have ih := ih (by omega)
    by_cases hc : bt (RE h v) k = true ∧ bt (RE h k) v = true
    · rw [if_pos hc, b_or, Bool.or_eq_true, ih]
      constructor
      · rintro ((h1 | h1) | h1)
        · exact Or.inl h1
        · exact Or.inr ⟨by omega, h1.2⟩
        · rw [bt_bit (by omega) (bt_lt h1), decide_eq_true_eq] at h1
          subst h1
          exact Or.inr ⟨by omega, hc⟩
      · rintro (h1 | ⟨h1, h2⟩)
        · exact Or.inl (Or.inl h1)
        · by_cases hw : w = k
          · subst hw; right; rw [bt_bit (by omega) (by omega), decide_eq_true rfl]
          · exact Or.inl (Or.inr ⟨by omega, h2⟩)
    · rw [if_neg hc, ih]
      constructor
      · rintro (h1 | h1)
        · exact Or.inl h1
        · exact Or.inr ⟨by omega, h1.2⟩
      · rintro (h1 | ⟨h1, h2⟩)
        · exact Or.inl h1
        · by_cases hw : w = k
          · subst hw; exact absurd h2 hc
          · exact Or.inr ⟨by omega, h2⟩
theorem GR_iff {h : Nat → Int32} (hg : gd h) {v w : Nat} (hv : v < 16) : bt (GR h v) w = true ↔ w < 16 ∧ Rc (Eg h) v w ∧ Rc (Eg h) w v := by
  unfold GR
  rw [gr_iff hv 16 (Nat.le_refl _)]
  constructor
  · rintro (h1 | ⟨h1, h2, h3⟩)
    · subst h1; exact ⟨hv, Rc_rf _, Rc_rf _⟩
    · exact ⟨h1, (RE_iff hg hv).mp h2, (RE_iff hg h1).mp h3⟩
  · rintro ⟨h1, h2, h3⟩
    exact Or.inr ⟨h1, (RE_iff hg hv).mpr h2, (RE_iff hg h1).mpr h3⟩
theorem GR_m16 {h : Nat → Int32} (hg : gd h) {v : Nat} (hv : v < 16) : m16 (GR h v) := fun i hi => by
  cases hb : bt (GR h v) i with
  | false => rfl
  | true => have := ((GR_iff hg hv).mp hb).1; omega
def NM (h : Nat → Int32) (v : Nat) : Nat := first (fun w => bt (GR h v) w) 0 16
theorem NM_spec {h : Nat → Int32} (hg : gd h) {v : Nat} (hv : v < 16) : NM h v < 16 ∧ Rc (Eg h) v (NM h v) ∧ Rc (Eg h) (NM h v) v ∧ ∀ k, k < NM h v → bt (GR h v) k = false := by
  have hs := first_spec (p := fun w => bt (GR h v) w) (d := 0) (N := 16) ⟨v, hv, (GR_iff hg hv).mpr ⟨hv, Rc_rf _, Rc_rf _⟩⟩
  have h2 := (GR_iff hg hv).mp hs.2.1
  exact ⟨hs.1, h2.2.1, h2.2.2, hs.2.2⟩
theorem NM_eq {h : Nat → Int32} (hg : gd h) {u v : Nat} (hu : u < 16) (hv : v < 16) (h1 : Rc (Eg h) u v) (h2 : Rc (Eg h) v u) : NM h u = NM h v := by
  apply first_congr
  intro j _
  have : bt (GR h u) j = true ↔ bt (GR h v) j = true := by
    rw [GR_iff hg hu, GR_iff hg hv]
    exact ⟨fun q => ⟨q.1, Rc_tr h2 q.2.1, Rc_tr q.2.2 h1⟩, fun q => ⟨q.1, Rc_tr h1 q.2.1, Rc_tr q.2.2 h2⟩⟩
  cases h3 : bt (GR h u) j with
  | true => exact (this.mp h3).symm
  | false =>
    cases h4 : bt (GR h v) j with
    | false => rfl
    | true => rw [this.mpr h4] at h3; cases h3
theorem NM_inj {h : Nat → Int32} (hg : gd h) {u v : Nat} (hu : u < 16) (hv : v < 16) (e : NM h u = NM h v) : Rc (Eg h) u v ∧ Rc (Eg h) v u := by
  have a := NM_spec hg hu
  have b := NM_spec hg hv
  rw [e] at a
  exact ⟨Rc_tr a.2.1 b.2.2.1, Rc_tr b.2.1 a.2.2.1⟩
theorem NM_NM {h : Nat → Int32} (hg : gd h) {v : Nat} (hv : v < 16) : NM h (NM h v) = NM h v := by
  have a := NM_spec hg hv
  exact (NM_eq hg hv a.1 a.2.1 a.2.2.1).symm
theorem NM_le {h : Nat → Int32} (hg : gd h) {v : Nat} (hv : v < 16) : NM h v ≤ v := by
  have a := NM_spec hg hv
  apply Nat.le_of_not_lt
  intro hlt
  have := a.2.2.2 v hlt
  rw [(GR_iff hg hv).mpr ⟨hv, Rc_rf _, Rc_rf _⟩] at this
  cases this
