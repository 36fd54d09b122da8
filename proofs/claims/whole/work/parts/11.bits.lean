/-! the machine's bits on numbers that are not negative -/
theorem nb_tb (a : Nat) : (Int32.ofInt (a : Int)).toBitVec = BitVec.ofNat 32 a := by
  rw [Int32.ofInt_eq_ofNat]
  rfl
theorem nb_toInt {x : Int32} (h : x.toBitVec.toNat < 2 ^ 31) : x.toInt = (x.toBitVec.toNat : Int) := by
  show x.toBitVec.toInt = _
  rw [BitVec.toInt_eq_toNat_cond, if_pos (by omega)]
theorem nb_and {a b : Nat} (ha : a < 2 ^ 31) (hb : b < 2 ^ 31) : nw_and (a : Int) (b : Int) = ((a &&& b : Nat) : Int) := by
  unfold nw_and
  have e : (Int32.ofInt (a : Int) &&& Int32.ofInt (b : Int)).toBitVec.toNat = a &&& b := by
    rw [Int32.toBitVec_and, nb_tb, nb_tb, BitVec.toNat_and, BitVec.toNat_ofNat, BitVec.toNat_ofNat, Nat.mod_eq_of_lt (by omega), Nat.mod_eq_of_lt (by omega)]
  rw [nb_toInt (by rw [e]; exact Nat.lt_of_le_of_lt Nat.and_le_left ha), e]
theorem nb_or {a b : Nat} (ha : a < 2 ^ 31) (hb : b < 2 ^ 31) : nw_or (a : Int) (b : Int) = ((a ||| b : Nat) : Int) := by
  unfold nw_or
  have e : (Int32.ofInt (a : Int) ||| Int32.ofInt (b : Int)).toBitVec.toNat = a ||| b := by
    rw [Int32.toBitVec_or, nb_tb, nb_tb, BitVec.toNat_or, BitVec.toNat_ofNat, BitVec.toNat_ofNat, Nat.mod_eq_of_lt (by omega), Nat.mod_eq_of_lt (by omega)]
  rw [nb_toInt (by rw [e]; exact Nat.or_lt_two_pow ha hb), e]
theorem nb_xor {a b : Nat} (ha : a < 2 ^ 31) (hb : b < 2 ^ 31) : nw_xor (a : Int) (b : Int) = ((a ^^^ b : Nat) : Int) := by
  unfold nw_xor
  have e : (Int32.ofInt (a : Int) ^^^ Int32.ofInt (b : Int)).toBitVec.toNat = a ^^^ b := by
    rw [Int32.toBitVec_xor, nb_tb, nb_tb, BitVec.toNat_xor, BitVec.toNat_ofNat, BitVec.toNat_ofNat, Nat.mod_eq_of_lt (by omega), Nat.mod_eq_of_lt (by omega)]
  rw [nb_toInt (by rw [e]; exact Nat.xor_lt_two_pow ha hb), e]
/-- a and not b -/
theorem nb_dif {a b : Nat} (ha : a < 4096) (hb : b < 4096) : nw_and (a : Int) (nw_xor (b : Int) (-1)) = ((a &&& (4095 ^^^ b) : Nat) : Int) := by
  have hx : Int32.ofInt (nw_xor (b : Int) (-1)) = Int32.ofInt (b : Int) ^^^ (-1) := by
    unfold nw_xor
    rw [Int32.ofInt_toInt]
    rfl
  unfold nw_and
  rw [hx]
  have e : (Int32.ofInt (a : Int) &&& (Int32.ofInt (b : Int) ^^^ (-1))).toBitVec.toNat = a &&& (4095 ^^^ b) := by
    rw [Int32.toBitVec_and, Int32.toBitVec_xor, nb_tb, nb_tb]
    have e1 : (-1 : Int32).toBitVec = BitVec.allOnes 32 := by decide
    rw [e1, BitVec.toNat_and, BitVec.toNat_xor, BitVec.toNat_allOnes, BitVec.toNat_ofNat, BitVec.toNat_ofNat, Nat.mod_eq_of_lt (by omega), Nat.mod_eq_of_lt (by omega)]
    apply Nat.eq_of_testBit_eq
    intro i
    rw [Nat.testBit_and, Nat.testBit_and, Nat.testBit_xor, Nat.testBit_xor]
    by_cases hi : i < 12
    · rw [Nat.testBit_two_pow_sub_one, show (4095 : Nat) = 2 ^ 12 - 1 from rfl, Nat.testBit_two_pow_sub_one]
      simp [hi, show i < 32 from by omega, Bool.xor_comm]
    · have : a.testBit i = false := Nat.testBit_lt_two_pow (Nat.lt_of_lt_of_le ha (Nat.pow_le_pow_right (show 0 < 2 by decide) (show 12 ≤ i by omega)))
      simp [this]
  rw [nb_toInt (by rw [e]; exact Nat.lt_of_le_of_lt Nat.and_le_left (by omega)), e]
theorem nb_sh31 {r : Nat} (h : r < 32) : (Int32.ofInt (r : Int) &&& 31) = Int32.ofInt (r : Int) := by
  have h0 : ∀ q : Nat, q < 32 → (Int32.ofInt (q : Int) &&& 31) = Int32.ofInt (q : Int) := by decide +kernel
  exact h0 r h
theorem nb_smod {r : Nat} (h : r < 32) : ((Int32.ofInt (r : Int)).toBitVec.smod 32).toNat = r := by
  have h0 : ∀ q : Nat, q < 32 → ((Int32.ofInt (q : Int)).toBitVec.smod 32).toNat = q := by decide +kernel
  exact h0 r h
theorem nb_shl {r : Nat} (h : r < 31) : nw_shl 1 (r : Int) = ((2 ^ r : Nat) : Int) := by
  have h0 : ∀ q : Nat, q < 31 → nw_shl 1 (q : Int) = ((2 ^ q : Nat) : Int) := by decide +kernel
  exact h0 r h
theorem nb_shr {a r : Nat} (ha : a < 2 ^ 31) (h : r < 32) : nw_shr (a : Int) (r : Int) = ((a / 2 ^ r : Nat) : Int) := by
  unfold nw_shr
  rw [nb_sh31 h]
  have := pk_shr (Int32.ofInt (a : Int)) (Int32.ofInt (r : Int)) r (nb_smod h)
  rw [this, nw_toInt ⟨by omega, by omega⟩]
  rw [Int.shiftRight_eq_div_pow]
  norm_cast
theorem nb_bit {a r : Nat} (ha : a < 2 ^ 31) (h : r < 32) : nw_and (nw_shr (a : Int) (r : Int)) 1 = if a.testBit r then 1 else 0 := by
  rw [nb_shr ha h]
  have h1 : a / 2 ^ r < 2 ^ 31 := Nat.lt_of_le_of_lt (Nat.div_le_self _ _) ha
  have := nb_and (a := a / 2 ^ r) (b := 1) h1 (by decide)
  rw [show ((1 : Nat) : Int) = 1 from rfl] at this
  rw [this, Nat.and_one_is_mod, Nat.testBit_eq_decide_div_mod_eq]
  rcases Nat.mod_two_eq_zero_or_one (a / 2 ^ r) with q | q <;> simp [q]
