theorem ne0_bt {x : Int32} (h : ¬ x = 0) : ∃ i, i < 32 ∧ bt x i = true := by
  apply Classical.byContradiction
  intro hn
  refine h (b_ext (fun i hi => ?_))
  rw [b_0]
  cases hq : bt x i with
  | false => rfl
  | true => exact absurd ⟨i, hi, hq⟩ hn
def OI (li us fe : Nat → Int32) (s t r : Nat) (z : Int32 × Int32 × (Nat → Nat)) : Prop :=
  bt z.1 s = true ∧ (∀ k, k < 32 → bt z.2.1 k = true → bt z.1 k = true) ∧
  (∀ a, a < 32 → bt z.1 a = true → bt z.2.1 a = false → ∀ b, b < 32 → res9 li us fe a b → bt z.1 b = true) ∧
  (∃ (ρ : Nat → Nat) (m : Nat), m + 1 ≤ cn z.1 32 ∧ (∀ k, k < 32 → bt z.1 k = true → ρ k ≤ m) ∧ ∀ k, k < 32 → bt z.1 k = true → k ≠ s → bt z.1 (z.2.2 k) = true ∧ z.2.2 k < 32 ∧ ρ (z.2.2 k) < ρ k ∧ res9 li us fe (z.2.2 k) k) ∧
  (¬ z.2.1 = 0 → bt z.1 t = false → r + 1 ≤ cn z.1 32)
theorem ou_sp {li us fe : Nat → Int32} {s t : Nat} {cf : Nat → Nat} (hs : s < 32) : ∀ r, OI li us fe s t r (ouS li us fe s t cf r) := by
  intro r
  induction r with
  | zero =>
    have hb : bt (bit s) s = true := by rw [bt_bit hs hs, decide_eq_true rfl]
    have hc : 0 + 1 ≤ cn (bit s) 32 := cn_pos hs hb
    refine ⟨hb, fun k _ q => q, fun a _ q1 q2 => ?_, ⟨fun _ => 0, 0, hc, fun k _ _ => Nat.le_refl _, fun k hk q hn => ?_⟩, fun _ _ => hc⟩
    · have q1 : bt (bit s) a = true := q1
      have q2 : bt (bit s) a = false := q2
      rw [q1] at q2; cases q2
    · have q : bt (bit s) k = true := q
      rw [bt_bit hs hk, decide_eq_true_eq] at q
      exact absurd q hn
  | succ r ih =>
    by_cases hst : (ouS li us fe s t cf r).2.1 = 0 ∨ bt (ouS li us fe s t cf r).1 t = true
    · have e : ouS li us fe s t cf (r + 1) = ouS li us fe s t cf r := if_pos hst
      rw [e]
      refine ⟨ih.1, ih.2.1, ih.2.2.1, ih.2.2.2.1, fun q1 q2 => ?_⟩
      rcases hst with q | q
      · exact absurd q q1
      · rw [q] at q2; cases q2
    · have hn0 : ¬ (ouS li us fe s t cf r).2.1 = 0 := fun q => hst (Or.inl q)
      have hnt : bt (ouS li us fe s t cf r).1 t = false := by
        cases hq : bt (ouS li us fe s t cf r).1 t with
        | false => rfl
        | true => exact absurd (Or.inr hq) hst
      rw [ouS_go hn0 hnt]
      generalize ouS li us fe s t cf r = Z at ih hn0 hnt
      obtain ⟨sn, fr, cf0⟩ := Z
      obtain ⟨i1, i2, i3, ⟨ρ, mm, i4, i5, i6⟩, i7⟩ := ih
      dsimp only at i1 i2 i3 i4 i5 i6 i7 hn0 hnt ⊢
      obtain ⟨h1, h2, h3, h4⟩ := inS_sp (li := li) (us := us) (fe := fe) (front := fr) (seen0 := sn) (cf0 := cf0) 32 (Nat.le_refl _)
      generalize inS li us fe fr (sn, nI 0, cf0) 32 = Z at h1 h2 h3 h4
      obtain ⟨sn', nw, cf'⟩ := Z
      dsimp only at h1 h2 h3 h4
      have hsub : ∀ i, bt sn i = true → bt sn' i = true := fun i q => (h1 i (bt_lt q)).mpr (Or.inl q)
      have hold : ∀ k, k < 32 → bt sn' k = true → bt nw k = false → bt sn k = true := by
        intro k hk q1 q2
        cases hq : bt sn k with
        | true => rfl
        | false => rw [(h2 k hk).mpr ⟨q1, hq⟩] at q2; cases q2
      have hgrow : (∃ k, k < 32 ∧ bt nw k = true) → cn sn 32 + 1 ≤ cn sn' 32 := by
        rintro ⟨k, hk, q⟩
        have q2 := (h2 k hk).mp q
        exact cn_lt hsub hk q2.2 q2.1
      refine ⟨hsub s i1, fun k hk q => ((h2 k hk).mp q).1, fun a ha q1 q2 b hb hr => ?_, ?_, fun q _ => ?_⟩
      · have q3 := hold a ha q1 q2
        cases hq : bt fr a with
        | true => exact (h1 b hb).mpr (Or.inr ⟨a, ha, hq, hr⟩)
        | false => exact hsub b (i3 a ha q3 hq b hb hr)
      · have tree : ∀ k, k < 32 → bt sn' k = true → k ≠ s → bt sn' (cf' k) = true ∧ cf' k < 32 ∧ (if bt sn (cf' k) = true then ρ (cf' k) else mm + 1) < (if bt sn k = true then ρ k else mm + 1) ∧ res9 li us fe (cf' k) k := by
          intro k hk q hn
          by_cases hq : bt sn k = true
          · obtain ⟨r1, r2, r3, r4⟩ := i6 k hk hq hn
            show bt sn' (cf' k) = true ∧ cf' k < 32 ∧ _ ∧ res9 li us fe (cf' k) k
            rw [h3 k hk hq]
            refine ⟨hsub _ r1, r2, ?_, r4⟩
            rw [if_pos r1, if_pos hq]
            exact r3
          · have hq : bt sn k = false := by
              cases hq2 : bt sn k with
              | false => rfl
              | true => exact absurd hq2 hq
            obtain ⟨r1, r2, r3⟩ := h4 k hk ((h2 k hk).mpr ⟨q, hq⟩)
            have r4 := i2 _ r2 r1
            refine ⟨hsub _ r4, r2, ?_, r3⟩
            rw [if_pos r4, hq, if_neg (by decide)]
            have := i5 _ r2 r4
            omega
        by_cases hnew : ∃ k, k < 32 ∧ bt nw k = true
        · refine ⟨fun k => if bt sn k = true then ρ k else mm + 1, mm + 1, ?_, fun k hk q => ?_, tree⟩
          · have := hgrow hnew
            show mm + 1 + 1 ≤ cn sn' 32
            omega
          · show (if bt sn k = true then ρ k else mm + 1) ≤ mm + 1
            by_cases hq : bt sn k = true
            · rw [if_pos hq]
              have := i5 k hk hq
              omega
            · rw [if_neg hq]; exact Nat.le_refl _
        · have hall : ∀ k, k < 32 → bt sn' k = true → bt sn k = true := fun k hk q => hold k hk q (by
            cases hq : bt nw k with
            | false => rfl
            | true => exact absurd ⟨k, hk, hq⟩ hnew)
          refine ⟨fun k => if bt sn k = true then ρ k else mm + 1, mm, ?_, fun k hk q => ?_, tree⟩
          · have := cn_mono hsub 32
            show mm + 1 ≤ cn sn' 32
            omega
          · show (if bt sn k = true then ρ k else mm + 1) ≤ mm
            rw [if_pos (hall k hk q)]
            exact i5 k hk (hall k hk q)
      · have q1 := hgrow (ne0_bt q)
        have q2 := i7 hn0 hnt
        show r + 1 + 1 ≤ cn sn' 32
        omega
theorem ps_tr {us fe : Nat → Int32} (htr : ∀ a b, a < 32 → b < 32 → bt (fe b) a = bt (us a) b) {a b : Nat} (ha : a < 32) (hb : b < 32) : ∀ x y, x < 32 → y < 32 → bt (psF us fe a b y) x = bt (psU us fe a b x) y := by
  intro x y hx hy
  unfold psF psU
  by_cases hq : bt (fe a) b = true
  · rw [if_pos hq, if_pos hq]
    by_cases h1 : y = a
    · subst h1
      rw [upd_eq, b_and, bt_not _ hx, bt_bit hb hx]
      by_cases h2 : x = b
      · subst h2
        rw [upd_eq, b_and, bt_not _ hy, bt_bit hy hy, decide_eq_true rfl, decide_eq_true rfl]
        simp
      · rw [upd_ne h2, decide_eq_false h2, htr x y hx hy]
        simp
    · rw [upd_ne h1]
      by_cases h2 : x = b
      · subst h2
        rw [upd_eq, b_and, bt_not _ hy, bt_bit ha hy, decide_eq_false h1, htr x y hx hy]
        simp
      · rw [upd_ne h2, htr x y hx hy]
  · rw [if_neg hq, if_neg hq]
    by_cases h1 : y = b
    · subst h1
      rw [upd_eq, b_or, bt_bit ha hx]
      by_cases h2 : x = a
      · subst h2
        rw [upd_eq, b_or, bt_bit hy hy, decide_eq_true rfl, decide_eq_true rfl]
        simp
      · rw [upd_ne h2, decide_eq_false h2, htr x y hx hy]
        simp
    · rw [upd_ne h1]
      by_cases h2 : x = a
      · subst h2
        rw [upd_eq, b_or, bt_bit hb hy, decide_eq_false h1, htr x y hx hy]
        simp
      · rw [upd_ne h2, htr x y hx hy]
theorem psU_psh {us fe : Nat → Int32} (htr : ∀ a b, a < 32 → b < 32 → bt (fe b) a = bt (us a) b) {a b : Nat} (ha : a < 32) (hb : b < 32) : psU us fe a b = psh us a b := by
  unfold psU psh
  rw [htr b a hb ha]
theorem ps3_ph3 {li us fe : Nat → Int32} {cf g ρ : Nat → Nat} {s t : Nat} (hw : wthn us li) (hT : trk li us s g ρ) (ht : t < 32) (hgt : g t < 32) (htr : ∀ a b, a < 32 → b < 32 → bt (fe b) a = bt (us a) b) (hgc : ∀ k, k < 32 → g k < 32 → k ≠ s → cf k = g k) : ∀ k, (ps3 cf s us fe t k).1 = (ph3 g s us t k).1 ∧ (ps3 cf s us fe t k).2.1 = (ph3 g s us t k).2 ∧ ∀ a b, a < 32 → b < 32 → bt ((ps3 cf s us fe t k).2.2 b) a = bt ((ps3 cf s us fe t k).2.1 a) b := by
  intro k
  induction k with
  | zero => exact ⟨rfl, rfl, htr⟩
  | succ k ih =>
    obtain ⟨h1, h2, h3⟩ := ih
    have hi := ph3_inv hw hT ht hgt k
    by_cases hq : (ph3 g s us t k).1 = s
    · have e1 : ph3 g s us t (k + 1) = ph3 g s us t k := if_pos hq
      have e2 : ps3 cf s us fe t (k + 1) = ps3 cf s us fe t k := if_pos (by rw [h1]; exact hq)
      rw [e1, e2]
      exact ⟨h1, h2, h3⟩
    · have hc := hgc _ hi.1 hi.2.1 hq
      rw [ph3_go hq, ps3_go (by rw [h1]; exact hq)]
      rw [h1, hc]
      refine ⟨rfl, ?_, ps_tr h3 hi.2.1 hi.1⟩
      show psU (ps3 cf s us fe t k).2.1 (ps3 cf s us fe t k).2.2 _ _ = _
      rw [psU_psh h3 hi.2.1 hi.1, h2]
def MI9 (li : Nat → Int32) (s t r : Nat) (z : (Nat → Int32) × (Nat → Int32) × (Nat → Nat) × Nat × Bool) : Prop :=
  FlI li z.1 s t z.2.2.2.1 ∧ (∀ a b, a < 32 → b < 32 → bt (z.2.1 b) a = bt (z.1 a) b) ∧ (z.2.2.2.2 = false → z.2.2.2.1 = r) ∧ (z.2.2.2.2 = true → ∃ S : Nat → Bool, S s = true ∧ S t = false ∧ ((z.2.2.2.1 : Nat) : Int) = cap li S)
theorem MI9_mk {li us fe : Nat → Int32} {cf : Nat → Nat} {s t r n : Nat} {dn : Bool} (h1 : FlI li us s t n) (h2 : ∀ a b, a < 32 → b < 32 → bt (fe b) a = bt (us a) b) (h3 : dn = false → n = r) (h4 : dn = true → ∃ S : Nat → Bool, S s = true ∧ S t = false ∧ ((n : Nat) : Int) = cap li S) : MI9 li s t r (us, fe, cf, n, dn) := ⟨h1, h2, h3, h4⟩
theorem res_rs {li us fe : Nat → Int32} (htr : ∀ a b, a < 32 → b < 32 → bt (fe b) a = bt (us a) b) {a b : Nat} (ha : a < 32) (hb : b < 32) : res9 li us fe a b ↔ rs li us a b := by
  unfold res9 rs
  rw [htr b a hb ha]
theorem mo_f {li us fe : Nat → Int32} {s t n : Nat} {sn nw : Int32} {c9 : Nat → Nat} (hs : s < 32) (hI : FlI li us s t n) (htr : ∀ a b, a < 32 → b < 32 → bt (fe b) a = bt (us a) b) (ho : OI li us fe s t 32 (sn, nw, c9)) (hf : bt sn t = false) : ∃ S : Nat → Bool, S s = true ∧ S t = false ∧ ((n : Nat) : Int) = cap li S := by
  obtain ⟨o1, -, o3, -, o5⟩ := ho
  dsimp only at o1 o3 o5
  have hn0 : nw = 0 := by
    apply Classical.byContradiction
    intro q
    have q1 := o5 q hf
    have q2 := cn_le sn 32
    omega
  refine ⟨fun a => bt sn a, o1, hf, ?_⟩
  rw [← hI.2.1]
  refine flow_eq hI.1 hs o1 (fun a ha hS hne => hI.2.2 a ha hne (fun q => ?_)) (fun a b ha hb hS hr => ?_)
  · rw [q] at hS
    have hS : bt sn t = true := hS
    rw [hf] at hS; cases hS
  · exact o3 a ha hS (by rw [hn0]; exact b_0 a) b hb ((res_rs htr ha hb).mpr hr)
theorem mo_t {li us fe : Nat → Int32} {s t n : Nat} {sn nw : Int32} {c9 : Nat → Nat} (hs : s < 32) (ht : t < 32) (hst : s ≠ t) (hI : FlI li us s t n) (htr : ∀ a b, a < 32 → b < 32 → bt (fe b) a = bt (us a) b) (ho : OI li us fe s t 32 (sn, nw, c9)) (hf : bt sn t = true) : FlI li (ps3 c9 s us fe t 32).2.1 s t (n + 1) ∧ ∀ a b, a < 32 → b < 32 → bt ((ps3 c9 s us fe t 32).2.2 b) a = bt ((ps3 c9 s us fe t 32).2.1 a) b := by
  obtain ⟨o1, -, -, ⟨ρ, mm, o4, o5, o6⟩, -⟩ := ho
  dsimp only at o1 o4 o5 o6
  have hts : t ≠ s := fun q => hst q.symm
  obtain ⟨g, hgd⟩ : ∃ g : Nat → Nat, g = fun k => if k = s then s else if bt sn k = true then c9 k else 32 := ⟨_, rfl⟩
  have g_s : g s = s := by rw [hgd]; exact if_pos rfl
  have g_in : ∀ k, k ≠ s → bt sn k = true → g k = c9 k := fun k h1 h2 => by
    rw [hgd]
    show (if k = s then s else if bt sn k = true then c9 k else 32) = c9 k
    rw [if_neg h1, if_pos h2]
  have g_sn : ∀ k, k ≠ s → g k < 32 → bt sn k = true := fun k h1 h2 => by
    rw [hgd] at h2
    have h2 : (if k = s then s else if bt sn k = true then c9 k else 32) < 32 := h2
    rw [if_neg h1] at h2
    by_cases hq : bt sn k = true
    · exact hq
    · rw [if_neg hq] at h2; omega
  have hT : trk li us s g ρ := by
    intro k hk hgk hn
    have hb := g_sn k hn hgk
    obtain ⟨r1, r2, r3, r4⟩ := o6 k hk hb hn
    rw [g_in k hn hb]
    refine ⟨?_, r3, opn_rs.mpr ((res_rs htr r2 hk).mp r4)⟩
    by_cases hq : c9 k = s
    · rw [hq, g_s]; exact hs
    · rw [g_in _ hq r1]
      exact (o6 _ r2 r1 hq).2.1
  have hgt : g t < 32 := by
    rw [g_in t hts hf]
    exact (o6 t ht hf hts).2.1
  have hr : ρ t < 32 := by
    have q1 := o5 t ht hf
    have q2 := cn_le sn 32
    omega
  have hp := ps3_ph3 (cf := c9) hI.1 hT ht hgt htr (fun k hk h1 h2 => (g_in k h2 (g_sn k h2 h1)).symm) 32
  have hF := FlI_s hI hs hst hT ht hgt hr
  generalize ps3 c9 s us fe t 32 = P at hp ⊢
  generalize ph3 g s us t 32 = P2 at hp hF
  exact ⟨by rw [hp.2.1]; exact hF, hp.2.2⟩
theorem mo_inv {li : Nat → Int32} {s t : Nat} {cf : Nat → Nat} (hs : s < 32) (ht : t < 32) (hst : s ≠ t) : ∀ r, MI9 li s t r (moS li s t cf r) := by
  intro r
  induction r with
  | zero => exact MI9_mk FlI_0 (fun a b _ _ => by
      show bt (nI 0) a = bt (nI 0) b
      rw [show nI 0 = 0 from rfl, b_0, b_0]) (fun _ => rfl) (fun q => by cases q)
  | succ r ih =>
    cases hd : (moS li s t cf r).2.2.2.2 with
    | true =>
      have e := moS_stay hd 1
      rw [e]
      refine ⟨ih.1, ih.2.1, fun q => ?_, ih.2.2.2⟩
      rw [hd] at q; cases q
    | false =>
      have ho := ou_sp (li := li) (us := (moS li s t cf r).1) (fe := (moS li s t cf r).2.1) (t := t) (cf := (moS li s t cf r).2.2.1) hs 32
      have hn := ih.2.2.1 hd
      have hI := ih.1
      have htr := ih.2.1
      cases hf : bt (ouS li (moS li s t cf r).1 (moS li s t cf r).2.1 s t (moS li s t cf r).2.2.1 32).1 t with
      | true =>
        rw [moS_t hd hf]
        generalize moS li s t cf r = Z at ho hn hf hI htr
        obtain ⟨us, fe, cfr, n, dn⟩ := Z
        dsimp only at ho hn hf hI htr ⊢
        generalize ouS li us fe s t cfr 32 = z at ho hf
        obtain ⟨sn, nw, c9⟩ := z
        dsimp only at hf ⊢
        have hq := mo_t hs ht hst hI htr ho hf
        generalize ps3 c9 s us fe t 32 = P at hq
        exact MI9_mk hq.1 hq.2 (fun _ => by omega) (fun q => by cases q)
      | false =>
        rw [moS_f hd hf]
        generalize moS li s t cf r = Z at ho hn hf hI htr
        obtain ⟨us, fe, cfr, n, dn⟩ := Z
        dsimp only at ho hn hf hI htr ⊢
        generalize ouS li us fe s t cfr 32 = z at ho hf
        obtain ⟨sn, nw, c9⟩ := z
        dsimp only at hf ⊢
        exact MI9_mk hI htr (fun q => by cases q) (fun _ => mo_f hs hI htr ho hf)
theorem mo_ap {li A : Nat → Int32} {s t : Nat} {cf : Nat → Nat} (hs : s < 32) (ht : t < 32) (hst : s ≠ t) (hsub : wthn A li) (hcut : ∀ S : Nat → Bool, S s = true → S t = false → ∃ S' : Nat → Bool, S' s = true ∧ S' t = false ∧ cap li S' ≤ cap A S) (h16 : cap li (fun a => decide (a = s)) ≤ 16) : (moS li s t cf 16).2.2.2.1 = apN A s t := by
  obtain ⟨hI, -, h3, h4⟩ := mo_inv (li := li) (cf := cf) hs ht hst 16
  obtain ⟨U, SA, hU, s1, s2, s3⟩ := ap_spec (A := A) hs ht hst
  generalize (moS li s t cf 16).2.2.2.1 = n at hI h3 h4
  generalize apN A s t = k at hU s3
  have hc : ∀ {L u : Nat → Int32} {n : Nat} {S : Nat → Bool}, FlI L u s t n → S t = false → ∀ a, a < 32 → S a = true → a ≠ s → nf u a = 0 := by
    intro L u n S hI hS a ha h1 h2
    refine hI.2.2 a ha h2 (fun q => ?_)
    rw [q, hS] at h1; cases h1
  apply Nat.le_antisymm
  · obtain ⟨S', q1, q2, q3⟩ := hcut SA s1 s2
    have h5 := flow_le hI.1 hs q1 (hc hI q2)
    rw [hI.2.1] at h5
    omega
  · have hUl : wthn U li := fun a b ha hb q => hsub a b ha hb (hU.1 a b ha hb q)
    cases hd : (moS li s t cf 16).2.2.2.2 with
    | true =>
      obtain ⟨S, q1, q2, q3⟩ := h4 hd
      have h5 := flow_le hUl hs q1 (hc hU q2)
      rw [hU.2.1] at h5
      omega
    | false =>
      have h6 := h3 hd
      have h5 := flow_le (S := fun a => decide (a = s)) hUl hs (decide_eq_true rfl) (fun a _ h hn => absurd (of_decide_eq_true h) hn)
      rw [hU.2.1] at h5
      omega
theorem cap_16 {li : Nat → Int32} {s : Nat} (hs : s < 32) (hm : m16 (li s)) : cap li (fun a => decide (a = s)) ≤ 16 := by
  unfold cap
  rw [sm_one (j := s) 32 hs]
  · have e : sm (fun b => if b < 16 then (1 : Int) else 0) 32 = 16 := by decide
    rw [← e]
    apply sm_le
    intro b _
    unfold sc
    have h1 := i01_le (bt (li s) b)
    by_cases hb : b < 16
    · rw [if_pos hb]
      split
      · split <;> omega
      · omega
    · rw [if_neg hb, hm b (by omega), i01_f]
      split
      · split <;> omega
      · omega
  · intro i _ hn
    apply sm_0
    intro b _
    unfold sc
    exact if_neg (fun q => hn (of_decide_eq_true q))
theorem cap_le {li A : Nat → Int32} {S S' : Nat → Bool} (h : ∀ a b, a < 32 → b < 32 → S' a = true → S' b = false → bt (li a) b = true → S a = true ∧ S b = false ∧ bt (A a) b = true) : cap li S' ≤ cap A S := by
  unfold cap
  apply sm_le
  intro a ha
  apply sm_le
  intro b hb
  have hz : 0 ≤ sc S a (sc (nS S) b (i01 (bt (A a) b))) := by
    unfold sc
    have := i01_ge (bt (A a) b)
    split
    · split <;> omega
    · omega
  unfold sc at hz ⊢
  by_cases h1 : S' a = true
  · rw [if_pos h1]
    by_cases h2 : nS S' b = true
    · rw [if_pos h2]
      cases h3 : bt (li a) b with
      | false => rw [i01_f]; exact hz
      | true =>
        have h2' : S' b = false := by
          unfold nS at h2
          cases hq : S' b with
          | false => rfl
          | true => rw [hq] at h2; cases h2
        obtain ⟨q1, q2, q3⟩ := h a b ha hb h1 h2' h3
        rw [if_pos q1, if_pos (show nS S b = true by unfold nS; rw [q2]; rfl), q3]
        exact Int.le_refl _
    · rw [if_neg h2]; exact hz
  · rw [if_neg h1]; exact hz
theorem eq_arrows {h : Nat → Int32} (hg : gd h) {li : Nat → Int32} {cf : Nat → Nat} (hcf : ∀ k, k < 32 → cf k < 32) {u v : Nat} (hu : u < 16) (hv : v < 16) (huv : ¬ u = v) : nI (moS (fun k => if k < 16 then h k else li k) u v cf 16).2.2.2.1 = nI (apN (maL h) u v) := by
  refine congrArg nI (mo_ap (by omega) (by omega) huv (fun a b ha hb q => ?_) (fun S s1 s2 => ?_) (cap_16 (by omega) ?_))
  · show bt (if a < 16 then h a else li a) b = true
    have q : bt (if a < 16 then h a else nI 0) b = true := q
    by_cases h1 : a < 16
    · rw [if_pos h1] at q ⊢; exact q
    · rw [if_neg h1, show nI 0 = 0 from rfl, b_0] at q; cases q
  · refine ⟨fun a => decide (a < 16) && S a, ?_, ?_, cap_le (fun a b ha hb q1 q2 q3 => ?_)⟩
    · show (decide (u < 16) && S u) = true
      rw [decide_eq_true hu, s1]; rfl
    · show (decide (v < 16) && S v) = false
      rw [s2, Bool.and_false]
    · have q1 : (decide (a < 16) && S a) = true := q1
      rw [Bool.and_eq_true, decide_eq_true_eq] at q1
      have q3 : bt (if a < 16 then h a else li a) b = true := q3
      rw [if_pos q1.1] at q3
      have hb16 := m16_lt (hg a q1.1) q3
      have q2 : (decide (b < 16) && S b) = false := q2
      rw [decide_eq_true hb16, Bool.true_and] at q2
      refine ⟨q1.2, q2, ?_⟩
      show bt (if a < 16 then h a else nI 0) b = true
      rw [if_pos q1.1]; exact q3
  · show m16 (if u < 16 then h u else li u)
    rw [if_pos hu]
    exact hg u hu
theorem eq_places {h : Nat → Int32} (hg : gd h) {li : Nat → Int32} {cf : Nat → Nat} (hcf : ∀ k, k < 32 → cf k < 32) {u v : Nat} (hu : u < 16) (hv : v < 16) (huv : ¬ u = v) (hb9 : bt (h u) v = false) : nI (moS (plc h li 16) (u + 16) v cf 16).2.2.2.1 = nI (apN (mpL h u v) (16 + u) v) := by
  rw [Nat.add_comm 16 u]
  have hp1 : ∀ a, a < 16 → plc h li 16 a = bit (a + 16) := fun a ha => if_pos ha
  have hp2 : ∀ a, 16 ≤ a → a < 32 → plc h li 16 a = h (a - 16) := fun a h1 h2 => by
    unfold plc
    rw [if_neg (by omega), if_pos ⟨h1, h2⟩]
  have hm1 : ∀ a, a < 16 → ¬ (a = u ∨ a = v) → mpL h u v a = bit (a + 16) := fun a ha hn => by
    unfold mpL
    rw [if_pos ha, if_neg hn, Nat.add_comm]
  have hm0 : ∀ a, a < 16 → (a = u ∨ a = v) → mpL h u v a = 0 := fun a ha hn => by
    unfold mpL
    rw [if_pos ha, if_pos hn]
    rfl
  have hm2 : ∀ a, 16 ≤ a → mpL h u v a = h (a - 16) := fun a ha => by
    unfold mpL
    rw [if_neg (by omega)]
  refine congrArg nI (mo_ap (by omega) (by omega) (by omega) (fun a b ha hb q => ?_) (fun S s1 s2 => ⟨S, s1, s2, cap_le (fun a b ha hb q1 q2 q3 => ⟨q1, q2, ?_⟩)⟩) (cap_16 (by omega) ?_))
  · by_cases h1 : a < 16
    · by_cases h2 : a = u ∨ a = v
      · rw [hm0 a h1 h2, b_0] at q; cases q
      · rw [hm1 a h1 h2] at q
        rw [hp1 a h1]; exact q
    · rw [hm2 a (by omega)] at q
      rw [hp2 a (by omega) ha]; exact q
  · by_cases h1 : a < 16
    · rw [hp1 a h1, bt_bit (by omega) hb, decide_eq_true_eq] at q3
      by_cases h2 : a = u ∨ a = v
      · rcases h2 with h2 | h2
        · rw [q3, h2, s1] at q2; cases q2
        · rw [h2, s2] at q1; cases q1
      · rw [hm1 a h1 h2, bt_bit (by omega) hb, decide_eq_true q3]
    · rw [hp2 a (by omega) ha] at q3
      rw [hm2 a (by omega)]; exact q3
  · rw [hp2 (u + 16) (by omega) (by omega), Nat.add_sub_cancel]
    exact hg u hu
