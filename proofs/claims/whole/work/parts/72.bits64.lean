-- ===== how many bits of a long =====
theorem land_nat {a b : Nat} : Int64.ofNat a &&& Int64.ofNat b = Int64.ofNat (a &&& b) := by
  apply Int64.toBitVec_inj.mp
  rw [Int64.toBitVec_and]
  show BitVec.ofNat 64 a &&& BitVec.ofNat 64 b = BitVec.ofNat 64 (a &&& b)
  apply BitVec.eq_of_getLsbD_eq
  intro i hi
  rw [BitVec.getLsbD_and, BitVec.getLsbD_ofNat, BitVec.getLsbD_ofNat, BitVec.getLsbD_ofNat, Nat.testBit_and]
  simp only [hi, decide_true, Bool.true_and]
theorem ladd_nat {a b : Nat} : Int64.ofNat a + Int64.ofNat b = Int64.ofNat (a + b) := by
  apply Int64.toBitVec_inj.mp
  rw [Int64.toBitVec_add]
  show BitVec.ofNat 64 a + BitVec.ofNat 64 b = BitVec.ofNat 64 (a + b)
  exact (BitVec.ofNat_add a b).symm
theorem lsub_nat {a b : Nat} (h : b ≤ a) : Int64.ofNat a - Int64.ofNat b = Int64.ofNat (a - b) := by
  have h2 : Int64.ofNat a = Int64.ofNat (a - b) + Int64.ofNat b := by rw [ladd_nat, Nat.sub_add_cancel h]
  rw [h2]
  apply Int64.toBitVec_inj.mp
  rw [Int64.toBitVec_sub, Int64.toBitVec_add]
  exact BitVec.add_sub_cancel _ _
theorem lushr_of {n : Nat} {y : Int} {k : Nat} (hk : k < 64) (hy : ((Int32.ofInt y).toInt64.toUInt64 &&& Int64.toUInt64 63) = UInt64.ofNat k) (hn : n < 2 ^ 64) : lushr (Int64.ofNat n) y = Int64.ofNat (n / 2 ^ k) := by
  unfold lushr
  rw [hy]
  apply Int64.toBitVec_inj.mp
  show ((Int64.ofNat n).toUInt64 >>> UInt64.ofNat k).toBitVec = BitVec.ofNat 64 (n / 2 ^ k)
  rw [UInt64.toBitVec_shiftRight]
  show BitVec.ofNat 64 n >>> (BitVec.ofNat 64 k % 64) = BitVec.ofNat 64 (n / 2 ^ k)
  apply BitVec.eq_of_toNat_eq
  have h1 : (BitVec.ofNat 64 k % 64 : BitVec 64).toNat = k := by
    rw [BitVec.toNat_umod, BitVec.toNat_ofNat]
    show k % 2 ^ 64 % 64 = k
    omega
  rw [BitVec.ushiftRight_eq', BitVec.toNat_ushiftRight, h1, BitVec.toNat_ofNat, BitVec.toNat_ofNat, Nat.mod_eq_of_lt hn, Nat.shiftRight_eq_div_pow]
  exact (Nat.mod_eq_of_lt (Nat.lt_of_le_of_lt (Nat.div_le_self _ _) hn)).symm
theorem and_cat {m M b c : Nat} (hb : b < 256) (hc : c < 256) : (256 * m + b) &&& (256 * M + c) = 256 * (m &&& M) + (b &&& c) := by
  refine nat_ext (fun i => ?_)
  have hbc : b &&& c < 2 ^ 8 := Nat.lt_of_le_of_lt Nat.and_le_left hb
  rw [Nat.testBit_and, show 256 = 2 ^ 8 from rfl, Nat.testBit_two_pow_mul_add m (show b < 2 ^ 8 from hb), Nat.testBit_two_pow_mul_add M (show c < 2 ^ 8 from hc), Nat.testBit_two_pow_mul_add _ hbc]
  by_cases hi : i < 8
  · rw [if_pos hi, if_pos hi, if_pos hi, Nat.testBit_and]
  · rw [if_neg hi, if_neg hi, if_neg hi, Nat.testBit_and]
def mkB (c : Nat) : Nat → Nat
  | 0 => 0
  | k + 1 => 256 * mkB c k + c
def g1 (k n : Nat) : Nat := n - (n / 2 &&& mkB 85 k)
def g2 (k x : Nat) : Nat := (x &&& mkB 51 k) + (x / 4 &&& mkB 51 k)
def g3 (k x : Nat) : Nat := x + x / 16 &&& mkB 15 k
def by1 (b : Nat) : Nat := b - (b / 2 &&& 85)
def by2 (b : Nat) : Nat := (b &&& 51) + (b / 4 &&& 51)
def by3 (b : Nat) : Nat := b + b / 16 &&& 15
theorem by1_d : ∀ e : Nat, e < 2 → ∀ b : Nat, b < 256 → (128 * e + b / 2) &&& 85 = b / 2 &&& 85 := by decide +kernel
theorem by2_d : ∀ e : Nat, e < 4 → ∀ b : Nat, b < 256 → (64 * e + b / 4) &&& 51 = b / 4 &&& 51 := by decide +kernel
theorem by3_d : ∀ e : Nat, e < 5 → ∀ b : Nat, b < 72 → 16 * e + (b + b / 16) &&& 15 = b + b / 16 &&& 15 := by decide +kernel
theorem by_all : ∀ b : Nat, b < 256 → by1 b < 256 ∧ by2 (by1 b) < 72 ∧ by2 (by1 b) % 16 < 5 ∧ by3 (by2 (by1 b)) = pcn 8 b := by decide +kernel
theorem g1_s {k m b : Nat} (hb : b < 256) : g1 (k + 1) (256 * m + b) = 256 * g1 k m + by1 b := by
  unfold g1 by1
  have e1 : (256 * m + b) / 2 = 256 * (m / 2) + (128 * (m % 2) + b / 2) := by omega
  show 256 * m + b - ((256 * m + b) / 2 &&& (256 * mkB 85 k + 85)) = _
  rw [e1, and_cat (by omega) (by omega), by1_d (m % 2) (by omega) b hb]
  have h1 : m / 2 &&& mkB 85 k ≤ m / 2 := Nat.and_le_left
  have h2 : b / 2 &&& 85 ≤ b / 2 := Nat.and_le_left
  omega
theorem g2_s {k m b : Nat} (hb : b < 256) : g2 (k + 1) (256 * m + b) = 256 * g2 k m + by2 b := by
  unfold g2 by2
  have e1 : (256 * m + b) / 4 = 256 * (m / 4) + (64 * (m % 4) + b / 4) := by omega
  show (256 * m + b &&& (256 * mkB 51 k + 51)) + ((256 * m + b) / 4 &&& (256 * mkB 51 k + 51)) = _
  rw [e1, and_cat hb (by omega), and_cat (by omega) (by omega), by2_d (m % 4) (by omega) b hb]
  omega
theorem g3_s {k m b : Nat} (hb : b < 72) (hm : m % 16 < 5) : g3 (k + 1) (256 * m + b) = 256 * g3 k m + by3 b := by
  unfold g3 by3
  have e1 : 256 * m + b + (256 * m + b) / 16 = 256 * (m + m / 16) + (16 * (m % 16) + (b + b / 16)) := by omega
  show (256 * m + b + (256 * m + b) / 16 &&& (256 * mkB 15 k + 15)) = _
  rw [e1, and_cat (by omega) (by omega), by3_d (m % 16) hm b hb]
/-- a number of k bytes, through the three steps -/
def pcB : Nat → Nat → Nat
  | 0, _ => 0
  | k + 1, n => 256 * pcB k (n / 256) + pcn 8 (n % 256)
theorem g_all : ∀ k n : Nat, n < 256 ^ k → g3 k (g2 k (g1 k n)) = pcB k n ∧ g2 k (g1 k n) % 16 < 5 := by
  intro k
  induction k with
  | zero =>
    intro n hn
    have : n = 0 := by rw [Nat.pow_zero] at hn; omega
    subst this
    exact ⟨rfl, by decide⟩
  | succ k ih =>
    intro n hn
    have hd : n / 256 < 256 ^ k := by rw [Nat.pow_succ] at hn; omega
    obtain ⟨i1, i2⟩ := ih (n / 256) hd
    have hb : n % 256 < 256 := Nat.mod_lt _ (by decide)
    obtain ⟨b1, b2, b3, b4⟩ := by_all (n % 256) hb
    have hn2 : n = 256 * (n / 256) + n % 256 := (Nat.div_add_mod n 256).symm
    have e1 : g2 (k + 1) (g1 (k + 1) n) = 256 * g2 k (g1 k (n / 256)) + by2 (by1 (n % 256)) := by
      rw [hn2]
      rw [g1_s hb, g2_s b1]
      rw [← hn2]
    rw [e1, g3_s b2 i2, i1, b4]
    exact ⟨rfl, by omega⟩
theorem pcn_cat : ∀ (k m b : Nat), b < 256 → pcn (k + 8) (256 * m + b) = pcn k m + pcn 8 b := by
  intro k
  induction k with
  | zero =>
    intro m b hb
    show pcn 8 (256 * m + b) = 0 + pcn 8 b
    rw [Nat.zero_add]
    have ht : ∀ i, i < 8 → (256 * m + b).testBit i = b.testBit i := fun i hi => by
      rw [show 256 = 2 ^ 8 from rfl, Nat.testBit_two_pow_mul_add m (show b < 2 ^ 8 from hb), if_pos hi]
    have key : ∀ j, j ≤ 8 → pcn j (256 * m + b) = pcn j b := by
      intro j
      induction j with
      | zero => intro _; rfl
      | succ j ih => intro hj; show pcn j (256 * m + b) + (if (256 * m + b).testBit j then 1 else 0) = pcn j b + (if b.testBit j then 1 else 0); rw [ih (by omega), ht j (by omega)]
    exact key 8 (Nat.le_refl _)
  | succ k ih =>
    intro m b hb
    show pcn (k + 8) (256 * m + b) + (if (256 * m + b).testBit (k + 8) then 1 else 0) = pcn k m + (if m.testBit k then 1 else 0) + pcn 8 b
    rw [ih m b hb, show 256 = 2 ^ 8 from rfl, Nat.testBit_two_pow_mul_add m (show b < 2 ^ 8 from hb), if_neg (show ¬ k + 8 < 8 by omega), show k + 8 - 8 = k by omega]
    omega
def smB : Nat → Nat → Nat
  | 0, _ => 0
  | k + 1, n => smB k (n / 256) + pcn 8 (n % 256)
theorem smB_pcn : ∀ k n : Nat, smB k n = pcn (8 * k) n := by
  intro k
  induction k with
  | zero => intro n; rfl
  | succ k ih =>
    intro n
    show smB k (n / 256) + pcn 8 (n % 256) = pcn (8 * k + 8) n
    rw [ih, ← pcn_cat (8 * k) (n / 256) (n % 256) (Nat.mod_lt _ (by decide)), Nat.div_add_mod]
theorem pcn_hi : ∀ (d k n : Nat), n < 2 ^ k → pcn (k + d) n = pcn k n := by
  intro d
  induction d with
  | zero => intro k n _; rfl
  | succ d ih =>
    intro k n hn
    show pcn (k + d) n + (if n.testBit (k + d) then 1 else 0) = _
    rw [ih k n hn, Nat.testBit_lt_two_pow (Nat.lt_of_lt_of_le hn (Nat.pow_le_pow_right (by decide) (by omega)))]
    rfl
theorem sum_5 {p0 p1 p2 p3 p4 x y z : Nat} (h0 : p0 ≤ 8) (h1 : p1 ≤ 8) (h2 : p2 ≤ 8) (h3 : p3 ≤ 8) (h4 : p4 ≤ 8) (hx : x = 256 * (256 * (256 * (256 * (256 * (256 * (256 * (256 * 0 + 0) + 0) + 0) + p4) + p3) + p2) + p1) + p0) (hy : y = x + x / 256) (hz : z = y + y / 65536) : (z + z / 4294967296) % 128 = p0 + p1 + p2 + p3 + p4 ∧ x < 2 ^ 40 ∧ y < 2 ^ 41 ∧ z < 2 ^ 42 := by
  have e1 : x / 256 = p1 + 256 * p2 + 65536 * p3 + 16777216 * p4 := by omega
  have e2 : y = (p0 + p1) + 256 * (p1 + p2) + 65536 * (p2 + p3) + 16777216 * (p3 + p4) + 4294967296 * p4 := by omega
  have e3 : y / 65536 = (p2 + p3) + 256 * (p3 + p4) + 65536 * p4 := by omega
  have e4 : z = (p0 + p1 + p2 + p3) + 256 * (p1 + p2 + p3 + p4) + 65536 * (p2 + p3 + p4) + 16777216 * (p3 + p4) + 4294967296 * p4 := by omega
  have e5 : z / 4294967296 = p4 := by omega
  omega
theorem iand_127 {z : Nat} (hz : z < 2 ^ 63) : iand ((Int64.ofNat z).toInt32.toInt) 127 = ((z % 128 : Nat) : Int) := by
  have h1 : (Int64.ofNat z).toInt32 = Int32.ofInt ((z % 2 ^ 32 : Nat) : Int) := by
    apply Int32.toBitVec_inj.mp
    rw [tb_of]
    show (BitVec.ofNat 64 z).signExtend 32 = _
    rw [BitVec.signExtend_eq_setWidth_of_le _ (by decide)]
    apply BitVec.eq_of_toNat_eq
    simp
  have h2 : (Int32.ofInt ((z % 2 ^ 32 : Nat) : Int)) = Int32.ofInt (Int32.ofInt ((z % 2 ^ 32 : Nat) : Int)).toInt := by rw [Int32.ofInt_toInt]
  unfold iand
  rw [h1, ← h2]
  have h3 : ((Int32.ofInt ((z % 2 ^ 32 : Nat) : Int)) &&& Int32.ofInt 127).toBitVec = BitVec.ofNat 32 (z % 128) := by
    rw [Int32.toBitVec_and, tb_of]
    show BitVec.ofNat 32 (z % 2 ^ 32) &&& BitVec.ofNat 32 127 = _
    apply BitVec.eq_of_toNat_eq
    rw [BitVec.toNat_and, BitVec.toNat_ofNat, BitVec.toNat_ofNat, BitVec.toNat_ofNat]
    have : z % 2 ^ 32 % 2 ^ 32 &&& 127 % 2 ^ 32 = z % 2 ^ 32 % 2 ^ 32 % 2 ^ 7 := Nat.and_two_pow_sub_one_eq_mod _ 7
    rw [this]
    omega
  exact ti_nat h3 (by omega)
