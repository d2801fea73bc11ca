/-! Numbers: Int32 as naturals, bits. -/
theorem zn_bv (a : Nat) : (nI a).toBitVec = BitVec.ofNat 32 a := rfl
theorem zn_inj {x y : Int32} (h : x.toBitVec = y.toBitVec) : x = y := Int32.toBitVec_inj.mp h
theorem zn_0 : (0 : Int32) = nI 0 := rfl
theorem zn_m1 : (-1 : Int32) = nI 4294967295 := by decide
theorem zn_and (a b : Nat) : nI a &&& nI b = nI (a &&& b) := by
  apply zn_inj
  rw [Int32.toBitVec_and, zn_bv, zn_bv, zn_bv, BitVec.ofNat_and]
theorem zn_or (a b : Nat) : nI a ||| nI b = nI (a ||| b) := by
  apply zn_inj
  rw [Int32.toBitVec_or, zn_bv, zn_bv, zn_bv, BitVec.ofNat_or]
theorem zn_xor (a b : Nat) : nI a ^^^ nI b = nI (a ^^^ b) := by
  apply zn_inj
  rw [Int32.toBitVec_xor, zn_bv, zn_bv, zn_bv, BitVec.ofNat_xor]
theorem zn_sm : ∀ b, b < 32 → ((nI b &&& 31).toBitVec.smod 32).toNat = b := by decide +kernel
theorem zn_um : ∀ b, b < 32 → (((nI b).toUInt32 &&& Int32.toUInt32 31).toBitVec % 32).toNat = b := by decide +kernel
theorem zn_shl {b : Nat} (hb : b < 32) (a : Nat) : nI a <<< (nI b &&& 31) = nI (a * 2 ^ b) := by
  apply zn_inj
  apply BitVec.eq_of_toNat_eq
  rw [pk_shl (nI a) (nI b &&& 31) b (zn_sm b hb)]
  show (a % 2 ^ 32) * 2 ^ b % 2 ^ 32 = (a * 2 ^ b) % 2 ^ 32
  rw [Nat.mod_mul_mod]
theorem zn_shr {a b : Nat} (ha : a < 2 ^ 31) (hb : b < 32) : nI a >>> (nI b &&& 31) = nI (a / 2 ^ b) := pk_shrN ha _ b (zn_sm b hb)
theorem zn_ushr {a b : Nat} (ha : a < 2 ^ 32) (hb : b < 32) : za_ushr (nI a) (nI b) = nI (a / 2 ^ b) := pk_ushrN ha _ b (zn_um b hb)
theorem zn_tb (a b : Nat) : a / 2 ^ b % 2 = (a.testBit b).toNat := by
  rw [Nat.toNat_testBit]
theorem zn_bit {a b : Nat} (ha : a < 2 ^ 31) (hb : b < 32) : (nI a >>> (nI b &&& 31)) &&& nI 1 = nI (a.testBit b).toNat := by
  rw [zn_shr ha hb, zn_and, Nat.and_one_is_mod, zn_tb]
theorem zn_ubit {a b : Nat} (ha : a < 2 ^ 32) (hb : b < 32) : za_ushr (nI a) (nI b) &&& nI 1 = nI (a.testBit b).toNat := by
  rw [zn_ushr ha hb, zn_and, Nat.and_one_is_mod, zn_tb]
theorem zn_b1 (p : Bool) : nI p.toNat = nI 1 ↔ p = true := by cases p <;> decide
theorem zn_b0 (p : Bool) : nI p.toNat = 0 ↔ p = false := by cases p <;> decide
theorem zn_b01 (p : Bool) : nI p.toNat = 0 ∨ nI p.toNat = 1 := by cases p <;> decide
theorem zn_eq0 {a : Nat} (h : a < 2 ^ 31) : nI a = 0 ↔ a = 0 := nI_eq h (by decide)
theorem zn_le0 {a : Nat} (h : a < 2 ^ 31) : nI a ≤ 0 ↔ a = 0 := by
  rw [zn_0, nI_leI h (by decide)]; omega
theorem zn_0lt {a : Nat} (h : a < 2 ^ 31) : 0 < nI a ↔ 0 < a := by
  rw [zn_0, nI_ltI (by decide) h]
theorem zn_lt0 {a : Nat} (h : a < 2 ^ 31) : ¬ nI a < 0 := nI_pos h
theorem zn_0le {a : Nat} (h : a < 2 ^ 31) : 0 ≤ nI a := nI_pos' h
theorem zn_nar1 : vp_nar .boolean (nI 1) = nI 1 := by decide +kernel
theorem zn_nar0 : vp_nar .boolean (nI 0) = nI 0 := by decide +kernel
theorem zn_in {a n : Nat} (h : a < n) (hn : n < 2 ^ 31) : ¬ (nI a < 0 ∨ n ≤ (nI a).toNatClampNeg) := nI_in h hn
theorem zn_of {x : Int32} {n : Nat} (hn : n < 2 ^ 31) (h0 : nI 0 ≤ x) (h1 : x ≤ nI n) : ∃ j, j ≤ n ∧ x = nI j := by
  have e0 : ¬ x < 0 := by
    intro h
    have := Int32.lt_iff_toInt_lt.mp h
    have h2 := Int32.le_iff_toInt_le.mp h0
    have h3 : (nI 0).toInt = (0 : Int32).toInt := by decide
    omega
  exact nI_of2 (nI_toInt hn) e0 h1
/-- a register file -/
def u2 (S : Nat → Nat → Nat) (k i v : Nat) : Nat → Nat → Nat := fun a b => if a = k ∧ b = i then v else S a b
theorem u2_s {S : Nat → Nat → Nat} {k i v : Nat} : u2 S k i v k i = v := by simp [u2]
theorem u2_k {S : Nat → Nat → Nat} {k i v a b : Nat} (h : a ≠ k) : u2 S k i v a b = S a b := by simp [u2, h]
theorem u2_i {S : Nat → Nat → Nat} {k i v a b : Nat} (h : b ≠ i) : u2 S k i v a b = S a b := by simp [u2, h]
theorem u2_row {S : Nat → Nat → Nat} {k i v a : Nat} (h : a ≠ k) : u2 S k i v a = S a := by funext b; simp [u2, h]
