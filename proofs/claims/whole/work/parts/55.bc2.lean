theorem nb_and (a b : Nat) : nI a &&& nI b = nI (a &&& b) := by
  apply Int32.toBitVec_inj.1
  show BitVec.ofNat 32 a &&& BitVec.ofNat 32 b = BitVec.ofNat 32 (a &&& b)
  apply BitVec.eq_of_getLsbD_eq
  intro i hi
  simp [hi]
theorem nb_shr {n : Nat} (hn : n < 2 ^ 32) {j : Nat} (hj : j < 32) : ((nI n).toUInt32 >>> ((nI j).toUInt32 &&& Int32.toUInt32 31)).toInt32 = nI (n >>> j) := by
  rw [pk_ushrN hn (nI j) j (s_u j hj), Nat.shiftRight_eq_div_pow]
theorem m16_nI {x : Int32} (hx : m16 x) : ∃ n, n < 65536 ∧ x = nI n := by
  refine ⟨x.toBitVec.toNat % 2 ^ 16, Nat.mod_lt _ (by decide), ?_⟩
  rw [← pk_and x (m := 65535) 16 (by decide)]
  apply b_ext
  intro i _
  rw [b_and, b_65535]
  by_cases h : i < 16
  · rw [decide_eq_true h, Bool.and_true]
  · rw [hx i (by omega)]; rfl
theorem bt_nI {n i : Nat} (hi : i < 32) : (if bt (nI n) i = true then 1 else 0) = (n >>> i) % 2 := by
  have h : bt (nI n) i = n.testBit i := by
    unfold bt
    show (BitVec.ofNat 32 n).getLsbD i = _
    rw [BitVec.getLsbD_ofNat, decide_eq_true hi, Bool.true_and]
  rw [h, Nat.testBit_eq_decide_div_mod_eq, Nat.shiftRight_eq_div_pow]
  by_cases hq : n / 2 ^ i % 2 = 1
  · rw [if_pos (decide_eq_true hq), hq]
  · rw [if_neg (by rw [decide_eq_false hq]; decide)]; omega
theorem cn_pop (n : Nat) : cn (nI n) 16 = popN n := by
  unfold popN
  simp only [cn, bt_nI (n := n) (i := 0) (by omega), bt_nI (n := n) (i := 1) (by omega), bt_nI (n := n) (i := 2) (by omega), bt_nI (n := n) (i := 3) (by omega), bt_nI (n := n) (i := 4) (by omega), bt_nI (n := n) (i := 5) (by omega), bt_nI (n := n) (i := 6) (by omega), bt_nI (n := n) (i := 7) (by omega), bt_nI (n := n) (i := 8) (by omega), bt_nI (n := n) (i := 9) (by omega), bt_nI (n := n) (i := 10) (by omega), bt_nI (n := n) (i := 11) (by omega), bt_nI (n := n) (i := 12) (by omega), bt_nI (n := n) (i := 13) (by omega), bt_nI (n := n) (i := 14) (by omega), bt_nI (n := n) (i := 15) (by omega), Nat.shiftRight_zero, Nat.zero_add]
theorem bcJ_eq {n : Nat} (hn : n < 65536) : bcJ4 (bcJ3 (bcJ2 (bcJ1 (bcJ0 (nI n))))) &&& nI 63 = nI (popN n) := by
  have h := bc_all hn
  unfold bcOk at h
  simp only [Bool.and_eq_true] at h
  obtain ⟨⟨⟨⟨⟨⟨h1, h2⟩, h3⟩, h4⟩, h5⟩, h6⟩, h7⟩ := h
  have h1 := Nat.eq_of_beq_eq_true h1
  have h2 := Nat.le_of_ble_eq_true h2
  have h3 := Nat.le_of_ble_eq_true h3
  have h4 := Nat.le_of_ble_eq_true h4
  have h5 := Nat.le_of_ble_eq_true h5
  have h6 := Nat.le_of_ble_eq_true h6
  have e0 : bcJ0 (nI n) = nI (bcN0 n) := by
    unfold bcJ0 bcN0
    rw [nb_shr (by omega) (by omega), show (1431655765 : Int32) = nI 1431655765 from rfl, nb_and, pk_sub h2]
  have e1 : bcJ1 (nI (bcN0 n)) = nI (bcN1 (bcN0 n)) := by
    unfold bcJ1
    rw [nb_shr (by omega) (by omega), show (858993459 : Int32) = nI 858993459 from rfl, nb_and, nb_and, nI_add]; rfl
  have e2 : bcJ2 (nI (bcN1 (bcN0 n))) = nI (bcN2 (bcN1 (bcN0 n))) := by
    unfold bcJ2
    rw [nb_shr (by omega) (by omega), nI_add, show (252645135 : Int32) = nI 252645135 from rfl, nb_and]; rfl
  have e3 : bcJ3 (nI (bcN2 (bcN1 (bcN0 n)))) = nI (bcN3 (bcN2 (bcN1 (bcN0 n)))) := by
    unfold bcJ3
    rw [nb_shr (by omega) (by omega), nI_add]; rfl
  have e4 : bcJ4 (nI (bcN3 (bcN2 (bcN1 (bcN0 n))))) = nI (bcN4 (bcN3 (bcN2 (bcN1 (bcN0 n))))) := by
    unfold bcJ4
    rw [nb_shr (by omega) (by omega), nI_add]; rfl
  rw [e0, e1, e2, e3, e4, nb_and, ← h1]; rfl
theorem bcJ_cn {x : Int32} (hx : m16 x) : bcJ4 (bcJ3 (bcJ2 (bcJ1 (bcJ0 x)))) &&& nI 63 = nI (cn x 16) := by
  obtain ⟨n, hn, rfl⟩ := m16_nI hx
  rw [bcJ_eq hn, cn_pop]
