theorem upd_uu {f : Nat → Int32} {k : Nat} {x y z : Int32} (h : y = z) : upd (upd f k x) k y = upd f k z := by
  funext j
  by_cases hj : j = k
  · subst hj; rw [pk_us, pk_us, h]
  · rw [pk_un hj, pk_un hj, pk_un hj]
theorem isP_nI {u : Nat} (hu : u < 16) : isP (nI u) = true := by
  unfold isP
  rw [decide_eq_true (nI_pos (by omega)), decide_eq_true (nI_nlt (by omega) (by omega))]; rfl
noncomputable def sN (h : Nat → Int32) (v n w : Nat) : Int32 := st (fun x => ds h x v ≤ n ∨ (x < w ∧ ds h x v = n + 1))
def fN (h : Nat → Int32) (v n w : Nat) : Nat → Int32 := fun k => if ds h k v ≤ n ∨ (k < w ∧ ds h k v = n + 1) then nI (ds h k v) else -1
theorem ds_zero {h : Nat → Int32} {k v : Nat} (hv : v < 16) : ds h k v ≤ 0 ↔ k = v := by
  constructor
  · intro h0
    have hd : ds h k v < 16 := by omega
    have h1 : bt (ly h v (ds h k v)) k = true := by
      have hs := first_spec (p := fun n => bt (ly h v n) k) (d := 16) (N := 16) (by
        apply Classical.byContradiction
        intro hn
        have : ds h k v = 16 := first_none (fun n h1 => by
          cases hb : bt (ly h v n) k with
          | false => rfl
          | true => exact absurd ⟨n, h1, hb⟩ hn)
        omega)
      exact hs.2.1
    rw [show ds h k v = 0 by omega] at h1
    exact (ly_iff hv 0 k).mp h1
  · intro e
    subst e
    exact (ds_lt (by omega) ((ly_iff (h := h) hv 0 k).mpr rfl)).2.1
theorem ds_bt {h : Nat → Int32} {k v : Nat} (hd : ds h k v < 16) : bt (ly h v (ds h k v)) k = true := by
  have hs := first_spec (p := fun n => bt (ly h v n) k) (d := 16) (N := 16) (by
    apply Classical.byContradiction
    intro hn
    have : ds h k v = 16 := first_none (fun n h1 => by
      cases hb : bt (ly h v n) k with
      | false => rfl
      | true => exact absurd ⟨n, h1, hb⟩ hn)
    omega)
  exact hs.2.1
theorem sN_00 {h : Nat → Int32} {v : Nat} (hv : v < 16) : bit v = sN h v 0 0 := by
  apply st_eq (m16_bit hv)
  intro i hi
  rw [bt_bit (by omega) (by omega), decide_eq_true_eq, ds_zero hv]
  exact ⟨Or.inl, fun q => q.elim id (fun q => by omega)⟩
theorem fN_00 {h : Nat → Int32} {v k : Nat} (hv : v < 16) : (if k = v then nI 0 else -1) = fN h v 0 0 k := by
  unfold fN
  by_cases e : k = v
  · rw [if_pos e, if_pos (Or.inl ((ds_zero hv).mpr e)), show ds h k v = 0 from Nat.le_zero.mp ((ds_zero hv).mpr e)]
  · rw [if_neg e, if_neg]
    rintro (q | q)
    · exact e ((ds_zero hv).mp q)
    · omega
theorem ds_next {h : Nat → Int32} (hg : gd h) {v n w : Nat} (hv : v < 16) (hn : n + 1 < 16) (hw : w < 16) : (bt (sN h v n 0) w = false ∧ ¬ h w &&& sN h v n 0 = 0) ↔ ds h w v = n + 1 := by
  have hs : bt (sN h v n 0) w = false ↔ ¬ ds h w v ≤ n := by
    constructor
    · intro h1 h2
      rw [show bt (sN h v n 0) w = true from bt_st.mpr ⟨hw, Or.inl h2⟩] at h1; cases h1
    · intro h1
      cases hb : bt (sN h v n 0) w with
      | false => rfl
      | true =>
        rcases (bt_st.mp hb).2 with h2 | h2
        · exact absurd h2 h1
        · omega
  constructor
  · rintro ⟨h1, h2⟩
    have h1 := hs.mp h1
    obtain ⟨i, h3, h4⟩ := and_ne.mp h2
    have h5 : ds h i v ≤ n := by
      rcases (bt_st.mp h4).2 with q | q
      · exact q
      · omega
    have h6 : bt (ly h v (ds h i v + 1)) w = true := (ly_iff hv _ w).mpr (Wk_cons ⟨hw, h3⟩ ((ly_iff hv _ i).mp (ds_bt (by omega))))
    have := (ds_lt (by omega) h6).2.1
    omega
  · intro h1
    refine ⟨hs.mpr (by omega), ?_⟩
    have h2 := ds_bt (h := h) (k := w) (v := v) (by omega)
    rw [h1] at h2
    obtain ⟨x, h3, h4⟩ := Wk_head n w v ((ly_iff hv _ w).mp h2)
    have hx := m16_lt (hg w hw) h3.2
    have h5 := (ds_lt (by omega) ((ly_iff hv n x).mpr h4)).2.1
    exact and_ne.mpr ⟨x, h3.2, bt_st.mpr ⟨hx, Or.inl h5⟩⟩
theorem sN_t {h : Nat → Int32} {v n w : Nat} (hw : w < 16) (e : ds h w v = n + 1) : sN h v n w ||| bit w = sN h v n (w + 1) := by
  apply st_eq (m16_or (m16_st _) (m16_bit hw))
  intro i hi
  rw [b_or, Bool.or_eq_true, bt_bit (by omega) (by omega), decide_eq_true_eq]
  show bt (st _) i = true ∨ _ ↔ _
  rw [bt_st]
  constructor
  · rintro (h1 | h1)
    · rcases h1.2 with q | q
      · exact Or.inl q
      · exact Or.inr ⟨by omega, q.2⟩
    · subst h1; exact Or.inr ⟨by omega, e⟩
  · rintro (q | q)
    · exact Or.inl ⟨hi, Or.inl q⟩
    · by_cases hx : i = w
      · exact Or.inr hx
      · exact Or.inl ⟨hi, Or.inr ⟨by omega, q.2⟩⟩
theorem sN_f {h : Nat → Int32} {v n w : Nat} (e : ¬ ds h w v = n + 1) : sN h v n w = sN h v n (w + 1) := by
  apply st_congr
  intro i _
  constructor
  · rintro (q | q)
    · exact Or.inl q
    · exact Or.inr ⟨by omega, q.2⟩
  · rintro (q | q)
    · exact Or.inl q
    · by_cases hx : i = w
      · subst hx; exact absurd q.2 e
      · exact Or.inr ⟨by omega, q.2⟩
theorem fN_t {h : Nat → Int32} {v n w : Nat} (e : ds h w v = n + 1) : upd (fN h v n w) w (nI (n + 1)) = fN h v n (w + 1) := by
  funext k
  by_cases hk : k = w
  · subst hk; rw [pk_us]; unfold fN; rw [if_pos (Or.inr ⟨by omega, e⟩), e]
  · rw [pk_un hk]; unfold fN
    by_cases q : ds h k v ≤ n ∨ (k < w ∧ ds h k v = n + 1)
    · rw [if_pos q, if_pos (q.imp id (fun q => ⟨by omega, q.2⟩))]
    · rw [if_neg q, if_neg (fun q2 => q (q2.imp id (fun q2 => ⟨by omega, q2.2⟩)))]
theorem fN_f {h : Nat → Int32} {v n w : Nat} (e : ¬ ds h w v = n + 1) : fN h v n w = fN h v n (w + 1) := by
  funext k
  unfold fN
  by_cases q : ds h k v ≤ n ∨ (k < w ∧ ds h k v = n + 1)
  · rw [if_pos q, if_pos (q.imp id (fun q => ⟨by omega, q.2⟩))]
  · rw [if_neg q, if_neg (fun q2 => q (q2.imp id (fun q2 => ⟨by
      by_cases hk : k = w
      · subst hk; exact absurd q2.2 e
      · omega, q2.2⟩)))]
theorem sN_row {h : Nat → Int32} {v n : Nat} : sN h v n 16 = sN h v (n + 1) 0 := by
  apply st_congr
  intro i hi
  constructor
  · rintro (q | q)
    · exact Or.inl (by omega)
    · exact Or.inl (by omega)
  · rintro (q | q)
    · by_cases e : ds h i v = n + 1
      · exact Or.inr ⟨hi, e⟩
      · exact Or.inl (by omega)
    · omega
theorem fN_row {h : Nat → Int32} {v n k : Nat} (hk : k < 16) : fN h v n 16 k = fN h v (n + 1) 0 k := by
  unfold fN
  by_cases q : ds h k v ≤ n ∨ (k < 16 ∧ ds h k v = n + 1)
  · rw [if_pos q, if_pos (Or.inl (by omega))]
  · rw [if_neg q, if_neg]
    rintro (q2 | q2)
    · apply q
      by_cases e : ds h k v = n + 1
      · exact Or.inr ⟨hk, e⟩
      · exact Or.inl (by omega)
    · omega
theorem fN_end {h : Nat → Int32} {v k : Nat} : fN h v 15 0 k = DS h k v := by
  unfold fN DS
  by_cases q : ds h k v < 16
  · rw [if_pos (Or.inl (by omega)), if_pos q]
  · rw [if_neg q, if_neg]
    rintro (q2 | q2) <;> omega
