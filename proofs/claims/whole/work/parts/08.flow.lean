def sm (f : Nat → Int) : Nat → Int
  | 0 => 0
  | k + 1 => sm f k + f k
theorem sm_congr {f g : Nat → Int} : ∀ k, (∀ i, i < k → f i = g i) → sm f k = sm g k := by
  intro k
  induction k with
  | zero => intro _; rfl
  | succ k ih =>
    intro h
    show sm f k + f k = sm g k + g k
    rw [ih (fun i hi => h i (by omega)), h k (by omega)]
theorem sm_add (f g : Nat → Int) (k : Nat) : sm (fun i => f i + g i) k = sm f k + sm g k := by
  induction k with
  | zero => rfl
  | succ k ih =>
    show sm (fun i => f i + g i) k + (f k + g k) = sm f k + f k + (sm g k + g k)
    rw [ih]; omega
theorem sm_neg (f : Nat → Int) (k : Nat) : sm (fun i => - f i) k = - sm f k := by
  induction k with
  | zero => rfl
  | succ k ih =>
    show sm (fun i => - f i) k + - f k = - (sm f k + f k)
    rw [ih]; omega
theorem sm_le {f g : Nat → Int} : ∀ k, (∀ i, i < k → f i ≤ g i) → sm f k ≤ sm g k := by
  intro k
  induction k with
  | zero => intro _; exact Int.le_refl _
  | succ k ih =>
    intro h
    show sm f k + f k ≤ sm g k + g k
    have h1 := ih (fun i hi => h i (by omega))
    have h2 := h k (by omega)
    omega
theorem sm_0 {f : Nat → Int} : ∀ k, (∀ i, i < k → f i = 0) → sm f k = 0 := by
  intro k
  induction k with
  | zero => intro _; rfl
  | succ k ih =>
    intro h
    show sm f k + f k = 0
    rw [ih (fun i hi => h i (by omega)), h k (by omega)]; rfl
theorem sm_one {f : Nat → Int} {j : Nat} : ∀ k, j < k → (∀ i, i < k → i ≠ j → f i = 0) → sm f k = f j := by
  intro k
  induction k with
  | zero => intro h; omega
  | succ k ih =>
    intro h1 h
    show sm f k + f k = f j
    rcases Nat.lt_or_ge j k with h2 | h2
    · rw [ih h2 (fun i hi hn => h i (by omega) hn), h k (by omega) (by omega)]; omega
    · have e : j = k := by omega
      subst e
      rw [sm_0 j (fun i hi => h i (by omega) (by omega))]; omega
theorem sm_swap (f : Nat → Nat → Int) (n k : Nat) : sm (fun i => sm (fun j => f i j) k) n = sm (fun j => sm (fun i => f i j) n) k := by
  induction n with
  | zero =>
    show (0 : Int) = sm (fun j => 0) k
    rw [sm_0 k (fun _ _ => rfl)]
  | succ n ih =>
    show sm (fun i => sm (fun j => f i j) k) n + sm (fun j => f n j) k = sm (fun j => sm (fun i => f i j) n + f n j) k
    rw [ih, sm_add]
def i01 (b : Bool) : Int := if b = true then 1 else 0
theorem i01_t : i01 true = 1 := rfl
theorem i01_f : i01 false = 0 := rfl
theorem i01_ge (b : Bool) : 0 ≤ i01 b := by cases b <;> decide
theorem i01_le (b : Bool) : i01 b ≤ 1 := by cases b <;> decide
def FF (u : Nat → Int32) (a b : Nat) : Int := i01 (bt (u a) b) - i01 (bt (u b) a)
def nf (u : Nat → Int32) (a : Nat) : Int := sm (fun b => FF u a b) 32
def sc (S : Nat → Bool) (a : Nat) (x : Int) : Int := if S a = true then x else 0
def nS (S : Nat → Bool) : Nat → Bool := fun a => !(S a)
theorem FF_anti (u : Nat → Int32) (a b : Nat) : FF u a b = - FF u b a := by unfold FF; omega
theorem sc_split (S : Nat → Bool) (a : Nat) (x : Int) : x = sc S a x + sc (nS S) a x := by
  unfold sc nS
  cases S a <;> simp
theorem sm_sc {S : Nat → Bool} {a : Nat} (f : Nat → Int) (k : Nat) : sm (fun b => sc S a (f b)) k = sc S a (sm f k) := by
  unfold sc
  cases S a with
  | true => simp
  | false => simp only [Bool.false_eq_true, if_false]; exact sm_0 k (fun _ _ => rfl)
theorem cut_in {u : Nat → Int32} {S : Nat → Bool} : sm (fun a => sm (fun b => sc S a (sc S b (FF u a b))) 32) 32 = 0 := by
  have h1 := sm_swap (fun a b => sc S a (sc S b (FF u a b))) 32 32
  have h2 : sm (fun b => sm (fun a => sc S a (sc S b (FF u a b))) 32) 32 = - sm (fun a => sm (fun b => sc S a (sc S b (FF u a b))) 32) 32 := by
    rw [← sm_neg]
    apply sm_congr
    intro b _
    rw [← sm_neg]
    apply sm_congr
    intro a _
    rw [FF_anti u a b]
    unfold sc
    cases S a <;> cases S b <;> simp
  rw [h2] at h1
  omega
theorem cut_val {u : Nat → Int32} {S : Nat → Bool} {s : Nat} (hs : s < 32) (hS : S s = true) (hc : ∀ a, a < 32 → S a = true → a ≠ s → nf u a = 0) :
    nf u s = sm (fun a => sm (fun b => sc S a (sc (nS S) b (FF u a b))) 32) 32 := by
  have h1 : sm (fun a => sc S a (nf u a)) 32 = nf u s := by
    rw [sm_one (j := s) 32 hs]
    · unfold sc; rw [if_pos hS]
    · intro i hi hn
      unfold sc
      by_cases h : S i = true
      · rw [if_pos h, hc i hi h hn]
      · rw [if_neg h]
  have h2 : sm (fun a => sc S a (nf u a)) 32 = sm (fun a => sm (fun b => sc S a (sc S b (FF u a b))) 32) 32 + sm (fun a => sm (fun b => sc S a (sc (nS S) b (FF u a b))) 32) 32 := by
    rw [← sm_add]
    apply sm_congr
    intro a _
    rw [← sm_add]
    unfold nf
    rw [← sm_sc]
    apply sm_congr
    intro b _
    have := sc_split S b (FF u a b)
    unfold sc at this ⊢
    cases h : S a with
    | true => simpa using this
    | false => simp
  rw [← h1, h2, cut_in]; omega
def cap (L : Nat → Int32) (S : Nat → Bool) : Int := sm (fun a => sm (fun b => sc S a (sc (nS S) b (i01 (bt (L a) b)))) 32) 32
def wthn (u L : Nat → Int32) : Prop := ∀ a b, a < 32 → b < 32 → bt (u a) b = true → bt (L a) b = true
theorem flow_le {u L : Nat → Int32} {S : Nat → Bool} {s : Nat} (hw : wthn u L) (hs : s < 32) (hS : S s = true) (hc : ∀ a, a < 32 → S a = true → a ≠ s → nf u a = 0) : nf u s ≤ cap L S := by
  rw [cut_val hs hS hc]
  unfold cap
  apply sm_le
  intro a ha
  apply sm_le
  intro b hb
  unfold sc
  split
  · split
    · unfold FF
      have h1 := i01_ge (bt (u b) a)
      cases h2 : bt (u a) b with
      | false => have := i01_ge (bt (L a) b); rw [i01_f]; omega
      | true => rw [hw a b ha hb h2, i01_t]; omega
    · exact Int.le_refl _
  · exact Int.le_refl _
def rs (L u : Nat → Int32) (a b : Nat) : Prop := (bt (L a) b = true ∧ bt (u a) b = false) ∨ bt (u b) a = true
theorem flow_eq {u L : Nat → Int32} {S : Nat → Bool} {s : Nat} (hw : wthn u L) (hs : s < 32) (hS : S s = true) (hc : ∀ a, a < 32 → S a = true → a ≠ s → nf u a = 0)
    (hcl : ∀ a b, a < 32 → b < 32 → S a = true → rs L u a b → S b = true) : nf u s = cap L S := by
  rw [cut_val hs hS hc]
  unfold cap
  apply sm_congr
  intro a ha
  apply sm_congr
  intro b hb
  unfold sc
  by_cases h1 : S a = true
  · rw [if_pos h1, if_pos h1]
    by_cases h2 : nS S b = true
    · rw [if_pos h2, if_pos h2]
      have h3 : ¬ rs L u a b := fun h4 => by
        have := hcl a b ha hb h1 h4
        unfold nS at h2
        rw [this] at h2; cases h2
      unfold FF
      have h4 : bt (u b) a = false := by
        cases h5 : bt (u b) a with
        | false => rfl
        | true => exact absurd (Or.inr h5) h3
      rw [h4, i01_f]
      cases h6 : bt (u a) b with
      | true => rw [hw a b ha hb h6]; omega
      | false =>
        cases h7 : bt (L a) b with
        | false => omega
        | true => exact absurd (Or.inl ⟨h7, h6⟩) h3
    · rw [if_neg h2, if_neg h2]
  · rw [if_neg h1, if_neg h1]
def psh (u : Nat → Int32) (a b : Nat) : Nat → Int32 := if bt (u b) a = true then upd u b (u b &&& (bit a ^^^ (-1))) else upd u a (u a ||| bit b)
theorem psh_bt {u : Nat → Int32} {a b : Nat} (ha : a < 32) (hb : b < 32) {x y : Nat} (hy : y < 32) :
    bt (psh u a b x) y = if bt (u b) a = true then (bt (u x) y && !(decide (x = b ∧ y = a))) else (bt (u x) y || decide (x = a ∧ y = b)) := by
  unfold psh
  split
  · by_cases hx : x = b
    · subst hx
      rw [pk_us, b_and, bt_not _ hy, bt_bit ha hy]
      simp
    · rw [pk_un hx]
      simp [hx]
  · by_cases hx : x = a
    · subst hx
      rw [pk_us, b_or, bt_bit hb hy]
      simp
    · rw [pk_un hx]
      simp [hx]
theorem psh_FF {L u : Nat → Int32} {a b : Nat} (ha : a < 32) (hb : b < 32) (hab : a ≠ b) (hr : rs L u a b) {x y : Nat} (hx : x < 32) (hy : y < 32) :
    FF (psh u a b) x y = FF u x y + ((if x = a ∧ y = b then 1 else 0) - (if x = b ∧ y = a then 1 else 0)) := by
  unfold FF
  rw [psh_bt ha hb hy, psh_bt ha hb hx]
  by_cases h : bt (u b) a = true
  · rw [if_pos h, if_pos h]
    by_cases h1 : x = b ∧ y = a
    · obtain ⟨rfl, rfl⟩ := h1
      have h2 : ¬ (y = x ∧ x = y) := fun q => hab q.1
      have h3 : ¬ (x = y ∧ y = x) := fun q => hab q.2
      rw [h]
      simp only [h2, h3, decide_false, decide_true, and_self, Bool.not_true, Bool.not_false, Bool.and_true, Bool.and_false, if_true, if_false, i01_f, i01_t]
      omega
    · by_cases h2 : x = a ∧ y = b
      · obtain ⟨rfl, rfl⟩ := h2
        have h3 : ¬ (x = y ∧ y = x) := fun q => hab q.1
        rw [h]
        simp only [h3, decide_false, decide_true, and_self, Bool.not_true, Bool.not_false, Bool.and_true, Bool.and_false, if_true, if_false, i01_f, i01_t]
        omega
      · have h3 : ¬ (y = b ∧ x = a) := fun q => h2 ⟨q.2, q.1⟩
        simp only [h1, h2, h3, decide_false, Bool.not_false, Bool.and_true, if_false]
        omega
  · rw [if_neg h, if_neg h]
    have hu : bt (u a) b = false := by
      rcases hr with h1 | h1
      · exact h1.2
      · exact absurd h1 h
    by_cases h1 : x = a ∧ y = b
    · obtain ⟨rfl, rfl⟩ := h1
      have h2 : ¬ (y = x ∧ x = y) := fun q => hab q.2
      have h3 : ¬ (x = y ∧ y = x) := fun q => hab q.1
      rw [hu]
      simp only [h2, h3, decide_false, decide_true, and_self, Bool.or_true, Bool.or_false, if_true, if_false, i01_f, i01_t]
      omega
    · by_cases h2 : x = b ∧ y = a
      · obtain ⟨rfl, rfl⟩ := h2
        have h3 : ¬ (x = y ∧ y = x) := fun q => hab q.2
        rw [hu]
        simp only [h3, decide_false, decide_true, and_self, Bool.or_true, Bool.or_false, if_true, if_false, i01_f, i01_t]
        omega
      · have h3 : ¬ (y = a ∧ x = b) := fun q => h2 ⟨q.2, q.1⟩
        simp only [h1, h2, h3, decide_false, Bool.or_false, if_false]
        omega
theorem psh_nf {L u : Nat → Int32} {a b : Nat} (ha : a < 32) (hb : b < 32) (hab : a ≠ b) (hr : rs L u a b) {x : Nat} (hx : x < 32) :
    nf (psh u a b) x = nf u x + ((if x = a then 1 else 0) - (if x = b then 1 else 0)) := by
  unfold nf
  rw [sm_congr (g := fun y => FF u x y + ((if x = a ∧ y = b then 1 else 0) - (if x = b ∧ y = a then 1 else 0))) 32 (fun y hy => psh_FF ha hb hab hr hx hy), sm_add]
  have e : sm (fun y => ((if x = a ∧ y = b then 1 else 0) - (if x = b ∧ y = a then 1 else 0) : Int)) 32 = (if x = a then 1 else 0) - (if x = b then 1 else 0) := by
    by_cases h1 : x = a
    · have h2 : ¬ x = b := fun q => hab (h1.symm.trans q)
      rw [sm_one (j := b) 32 hb]
      · simp [h1, h2, hab]
      · intro i hi hn
        simp [h2, hn]
    · by_cases h2 : x = b
      · have h3 : ¬ b = a := fun q => hab q.symm
        rw [sm_one (j := a) 32 ha]
        · simp [h1, h2, h3]
        · intro i hi hn
          simp [h1, hn]
      · rw [sm_0 32 (fun i hi => by simp [h1, h2])]
        simp [h1, h2]
  rw [e]
theorem psh_in {L u : Nat → Int32} {a b : Nat} (ha : a < 32) (hb : b < 32) (hw : wthn u L) (hr : rs L u a b) : wthn (psh u a b) L := by
  intro x y hx hy h
  rw [psh_bt ha hb hy] at h
  by_cases h1 : bt (u b) a = true
  · rw [if_pos h1, Bool.and_eq_true] at h
    exact hw x y hx hy h.1
  · rw [if_neg h1, Bool.or_eq_true, decide_eq_true_eq] at h
    rcases h with h | ⟨rfl, rfl⟩
    · exact hw x y hx hy h
    · rcases hr with h2 | h2
      · exact h2.1
      · exact absurd h2 h1
