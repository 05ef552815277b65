-- ===== bits of small numbers =====
theorem tb_of (a : Nat) : (Int32.ofInt (a : Int)).toBitVec = BitVec.ofNat 32 a := by
  rw [Int32.toBitVec_ofInt, BitVec.ofInt_natCast]
theorem ti_nat {x : Int32} {a : Nat} (h : x.toBitVec = BitVec.ofNat 32 a) (ha : a < 2147483648) : x.toInt = (a : Int) := by
  have e : (BitVec.ofNat 32 a).toNat = a := by rw [BitVec.toNat_ofNat]; exact Nat.mod_eq_of_lt (by omega)
  rw [← Int32.toInt_toBitVec, h, BitVec.toInt_eq_toNat_of_lt (by rw [e]; omega), e]
theorem iand_nat {a b : Nat} (ha : a < 2147483648) : iand (a : Int) (b : Int) = ((a &&& b : Nat) : Int) := by
  unfold iand
  refine ti_nat ?_ (Nat.lt_of_le_of_lt Nat.and_le_left ha)
  rw [Int32.toBitVec_and, tb_of, tb_of]
  apply BitVec.eq_of_getLsbD_eq
  intro i hi
  rw [BitVec.getLsbD_and, BitVec.getLsbD_ofNat, BitVec.getLsbD_ofNat, BitVec.getLsbD_ofNat, Nat.testBit_and]
  simp only [hi, decide_true, Bool.true_and]
theorem ior_nat {a b : Nat} (ha : a < 2147483648) (hb : b < 2147483648) : ior (a : Int) (b : Int) = ((a ||| b : Nat) : Int) := by
  unfold ior
  refine ti_nat ?_ (Nat.or_lt_two_pow (n := 31) ha hb)
  rw [Int32.toBitVec_or, tb_of, tb_of]
  apply BitVec.eq_of_getLsbD_eq
  intro i hi
  rw [BitVec.getLsbD_or, BitVec.getLsbD_ofNat, BitVec.getLsbD_ofNat, BitVec.getLsbD_ofNat, Nat.testBit_or]
  simp only [hi, decide_true, Bool.true_and]
/-- a without b -/
def ndf (a b : Nat) : Nat := a &&& (a ^^^ b)
theorem ndf_bit (a b k : Nat) : (ndf a b).testBit k = (a.testBit k && !b.testBit k) := by
  unfold ndf
  rw [Nat.testBit_and, Nat.testBit_xor]
  cases a.testBit k <;> cases b.testBit k <;> rfl
theorem ndf_le (a b : Nat) : ndf a b ≤ a := Nat.and_le_left
theorem iand_not {a b : Nat} (ha : a < 2147483648) : iand (a : Int) (ixor (b : Int) (-1)) = ((ndf a b : Nat) : Int) := by
  have e1 : ∀ x : Int32, Int32.ofInt x.toInt = x := fun x => Int32.ofInt_toInt x
  unfold iand ixor
  rw [e1]
  refine ti_nat ?_ (Nat.lt_of_le_of_lt (ndf_le a b) ha)
  have e2 : (Int32.ofInt (-1)).toBitVec = BitVec.allOnes 32 := by decide
  rw [Int32.toBitVec_and, Int32.toBitVec_xor, tb_of, tb_of, e2]
  apply BitVec.eq_of_getLsbD_eq
  intro i hi
  rw [BitVec.getLsbD_and, BitVec.getLsbD_xor, BitVec.getLsbD_ofNat, BitVec.getLsbD_ofNat, BitVec.getLsbD_ofNat, BitVec.getLsbD_allOnes, ndf_bit]
  simp only [hi, decide_true, Bool.true_and, Bool.xor_true]
theorem ishl_nat : ∀ k : Nat, k < 31 → ishl 1 (k : Int) = ((2 ^ k : Nat) : Int) := by decide +kernel
theorem ishr_256 : ∀ k : Nat, k < 16 → ∀ a : Nat, a < 256 → iand (ishr (a : Int) (k : Int)) 1 = if a.testBit k then 1 else 0 := by decide +kernel
theorem pow_bit (k i : Nat) : (2 ^ k).testBit i = decide (k = i) := Nat.testBit_two_pow
/-- the numbers below n that are so, as bits -/
def bset : Nat → (Nat → Bool) → Nat
  | 0, _ => 0
  | n + 1, f => bset n f ||| (if f n then 2 ^ n else 0)
theorem bset_bit (n : Nat) (f : Nat → Bool) (k : Nat) : (bset n f).testBit k = (decide (k < n) && f k) := by
  induction n with
  | zero => simp [bset]
  | succ n ih =>
    unfold bset
    rw [Nat.testBit_or, ih]
    by_cases hk : k = n
    · subst hk
      cases hf : f k <;> simp [Nat.testBit_two_pow]
    · have h2 : (if f n = true then 2 ^ n else 0).testBit k = false := by
        split
        · rw [Nat.testBit_two_pow]; exact decide_eq_false (fun h => hk h.symm)
        · exact Nat.zero_testBit k
      rw [h2, Bool.or_false]
      congr 1
      exact decide_eq_decide.mpr (by omega)
theorem bset_lt (n : Nat) (f : Nat → Bool) : bset n f < 2 ^ n := by
  apply Nat.lt_pow_two_of_testBit
  intro i hi
  rw [bset_bit, decide_eq_false (by omega), Bool.false_and]
theorem bset_lt8 {n : Nat} (hn : n ≤ 8) (f : Nat → Bool) : bset n f < 256 := Nat.lt_of_lt_of_le (bset_lt n f) (Nat.pow_le_pow_right (by decide) hn : 2 ^ n ≤ 2 ^ 8)
theorem bset_ext {n : Nat} {f g : Nat → Bool} (h : ∀ k, k < n → f k = g k) : bset n f = bset n g := by
  apply Nat.eq_of_testBit_eq
  intro k
  rw [bset_bit, bset_bit]
  by_cases hk : k < n
  · rw [h k hk]
  · rw [decide_eq_false hk]; rfl
/-- what is in it, one by one -/
theorem bset_self {n a : Nat} (ha : a < 2 ^ n) : bset n (fun k => a.testBit k) = a := by
  apply Nat.eq_of_testBit_eq
  intro k
  rw [bset_bit]
  by_cases hk : k < n
  · simp [hk]
  · rw [decide_eq_false hk, Bool.false_and]
    exact (Nat.testBit_lt_two_pow (Nat.lt_of_lt_of_le ha (Nat.pow_le_pow_right (by decide) (by omega)))).symm
theorem bset_eq {n a : Nat} {f : Nat → Bool} (ha : a < 2 ^ n) (h : ∀ k, k < n → a.testBit k = f k) : a = bset n f := by
  rw [← bset_self ha]
  exact bset_ext h
theorem bset_zero {n : Nat} {f : Nat → Bool} : bset n f = 0 ↔ ∀ k, k < n → f k = false := by
  constructor
  · intro h k hk
    have := bset_bit n f k
    rw [h, Nat.zero_testBit, decide_eq_true hk, Bool.true_and] at this
    exact this.symm
  · intro h
    apply Nat.eq_of_testBit_eq
    intro k
    rw [bset_bit, Nat.zero_testBit]
    by_cases hk : k < n
    · rw [h k hk, Bool.and_false]
    · rw [decide_eq_false hk, Bool.false_and]
theorem or_lt8 {a b : Nat} (ha : a < 256) (hb : b < 256) : a ||| b < 256 := Nat.or_lt_two_pow (n := 8) ha hb
theorem ior0 {a : Nat} (ha : a < 256) : ior (a : Int) 0 = (a : Int) := by
  have := ior_nat (a := a) (b := 0) (by omega) (by omega)
  rw [Nat.or_zero] at this
  exact this
theorem ior1 {a k : Nat} (ha : a < 256) (hk : k < 8) : ior (a : Int) (ishl 1 (k : Int)) = ((a ||| 2 ^ k : Nat) : Int) := by
  rw [ishl_nat k (by omega)]
  exact ior_nat (by omega) (Nat.lt_of_lt_of_le (Nat.pow_lt_pow_right (by decide) hk) (by decide : 2 ^ 8 ≤ 2147483648))
theorem pow8 {k : Nat} (hk : k < 8) : 2 ^ k < 256 := Nat.pow_lt_pow_right (a := 2) (by decide) hk
/-- one step of a loop that gathers bits -/
theorem bset_step {n : Nat} {f : Nat → Bool} (hn : n < 8) {c : Prop} [Decidable c] (hc : f n = decide c) : (if c then ior ((bset n f : Nat) : Int) (ishl 1 (n : Int)) else ((bset n f : Nat) : Int)) = ((bset (n + 1) f : Nat) : Int) := by
  have h8 := bset_lt8 (n := n) (by omega) f
  show _ = ((bset n f ||| (if f n then 2 ^ n else 0) : Nat) : Int)
  rw [hc]
  by_cases h : c
  · rw [if_pos h, ior1 h8 hn]; simp [h]
  · rw [if_neg h]; simp [h]
/-- how many -/
def pcn : Nat → Nat → Nat
  | 0, _ => 0
  | n + 1, a => pcn n a + (if a.testBit n then 1 else 0)
theorem pcn_le (n a : Nat) : pcn n a ≤ n := by
  induction n with
  | zero => exact Nat.le_refl _
  | succ n ih => unfold pcn; split <;> omega
