def bcJ0 (x : Int32) : Int32 := x - ((x.toUInt32 >>> ((nI 1).toUInt32 &&& Int32.toUInt32 31)).toInt32 &&& 1431655765)
def bcJ1 (x : Int32) : Int32 := (x &&& 858993459) + ((x.toUInt32 >>> ((nI 2).toUInt32 &&& Int32.toUInt32 31)).toInt32 &&& 858993459)
def bcJ2 (x : Int32) : Int32 := (x + (x.toUInt32 >>> ((nI 4).toUInt32 &&& Int32.toUInt32 31)).toInt32) &&& 252645135
def bcJ3 (x : Int32) : Int32 := x + (x.toUInt32 >>> ((nI 8).toUInt32 &&& Int32.toUInt32 31)).toInt32
def bcJ4 (x : Int32) : Int32 := x + (x.toUInt32 >>> ((nI 16).toUInt32 &&& Int32.toUInt32 31)).toInt32
def bcN0 (n : Nat) : Nat := n - ((n >>> 1) &&& 1431655765)
def bcN1 (n : Nat) : Nat := (n &&& 858993459) + ((n >>> 2) &&& 858993459)
def bcN2 (n : Nat) : Nat := (n + (n >>> 4)) &&& 252645135
def bcN3 (n : Nat) : Nat := n + (n >>> 8)
def bcN4 (n : Nat) : Nat := n + (n >>> 16)
def bcN (n : Nat) : Nat := bcN4 (bcN3 (bcN2 (bcN1 (bcN0 n)))) &&& 63
def popN (n : Nat) : Nat := n % 2 + (n >>> 1) % 2 + (n >>> 2) % 2 + (n >>> 3) % 2 + (n >>> 4) % 2 + (n >>> 5) % 2 + (n >>> 6) % 2 + (n >>> 7) % 2 + (n >>> 8) % 2 + (n >>> 9) % 2 + (n >>> 10) % 2 + (n >>> 11) % 2 + (n >>> 12) % 2 + (n >>> 13) % 2 + (n >>> 14) % 2 + (n >>> 15) % 2
def bcOk (n : Nat) : Bool := Nat.beq (bcN n) (popN n) && Nat.ble ((n >>> 1) &&& 1431655765) n && Nat.ble (bcN0 n) 65535 && Nat.ble (bcN1 (bcN0 n)) 65535 && Nat.ble (bcN2 (bcN1 (bcN0 n))) 65535 && Nat.ble (bcN3 (bcN2 (bcN1 (bcN0 n)))) 65535 && Nat.ble (bcN1 (bcN0 n) + (bcN1 (bcN0 n) >>> 4)) 131071
def bcR (a : Nat) : Nat → Bool
  | 0 => true
  | k + 1 => bcOk (a * 256 + k) && bcR a k
def bcA : Nat → Bool
  | 0 => true
  | k + 1 => bcR k 256 && bcA k
set_option maxRecDepth 100000 in
theorem bcA_ok : bcA 256 = true := by decide +kernel
theorem bcR_at {a : Nat} : ∀ k, bcR a k = true → ∀ b, b < k → bcOk (a * 256 + b) = true := by
  intro k
  induction k with
  | zero => intro _ b hb; omega
  | succ k ih =>
    intro h b hb
    have h : (bcOk (a * 256 + k) && bcR a k) = true := h
    rw [Bool.and_eq_true] at h
    by_cases e : b = k
    · subst e; exact h.1
    · exact ih h.2 b (by omega)
theorem bcA_at : ∀ k, bcA k = true → ∀ a, a < k → bcR a 256 = true := by
  intro k
  induction k with
  | zero => intro _ b hb; omega
  | succ k ih =>
    intro h b hb
    have h : (bcR k 256 && bcA k) = true := h
    rw [Bool.and_eq_true] at h
    by_cases e : b = k
    · subst e; exact h.1
    · exact ih h.2 b (by omega)
theorem bc_all {n : Nat} (hn : n < 65536) : bcOk n = true := by
  have := bcR_at 256 (bcA_at 256 bcA_ok (n / 256) (by omega)) (n % 256) (by omega)
  rw [show n / 256 * 256 + n % 256 = n by omega] at this
  exact this
