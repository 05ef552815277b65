-- ===== how many bits of a long: the class's count =====
theorem bc_1 {n : Nat} (hn : n < 2 ^ 64) : Int64.ofNat n - (lushr (Int64.ofNat n) 1 &&& Int64.ofInt 6148914691236517205) = Int64.ofNat (g1 8 n) := by
  have hm1 : Int64.ofInt 6148914691236517205 = Int64.ofNat (mkB 85 8) := by decide +kernel
  rw [hm1, lushr_of (k := 1) (by decide) (by decide) hn, land_nat, lsub_nat (Nat.le_trans Nat.and_le_left (Nat.div_le_self _ _)), Nat.pow_one, g1]
theorem bc_2 {n : Nat} (hn : n < 2 ^ 64) : (Int64.ofNat n &&& Int64.ofInt 3689348814741910323) + (lushr (Int64.ofNat n) 2 &&& Int64.ofInt 3689348814741910323) = Int64.ofNat (g2 8 n) := by
  have hm2 : Int64.ofInt 3689348814741910323 = Int64.ofNat (mkB 51 8) := by decide +kernel
  have h4 : (2 : Nat) ^ 2 = 4 := by decide
  rw [hm2, lushr_of (k := 2) (by decide) (by decide) hn, land_nat, land_nat, ladd_nat, h4, g2]
theorem bc_3 {n : Nat} (hn : n < 2 ^ 64) : Int64.ofNat n + lushr (Int64.ofNat n) 4 &&& Int64.ofInt 1085102592571150095 = Int64.ofNat (g3 8 n) := by
  have hm3 : Int64.ofInt 1085102592571150095 = Int64.ofNat (mkB 15 8) := by decide +kernel
  have h16 : (2 : Nat) ^ 4 = 16 := by decide
  rw [hm3, lushr_of (k := 4) (by decide) (by decide) hn, ladd_nat, land_nat, h16, g3]
theorem bc_4 {n : Nat} (hn : n < 2 ^ 64) : Int64.ofNat n + lushr (Int64.ofNat n) 8 = Int64.ofNat (n + n / 256) := by
  have h : (2 : Nat) ^ 8 = 256 := by decide
  rw [lushr_of (k := 8) (by decide) (by decide) hn, ladd_nat, h]
theorem bc_5 {n : Nat} (hn : n < 2 ^ 64) : Int64.ofNat n + lushr (Int64.ofNat n) 16 = Int64.ofNat (n + n / 65536) := by
  have h : (2 : Nat) ^ 16 = 65536 := by decide
  rw [lushr_of (k := 16) (by decide) (by decide) hn, ladd_nat, h]
theorem bc_6 {n : Nat} (hn : n < 2 ^ 64) : Int64.ofNat n + lushr (Int64.ofNat n) 32 = Int64.ofNat (n + n / 4294967296) := by
  have h : (2 : Nat) ^ 32 = 4294967296 := by decide
  rw [lushr_of (k := 32) (by decide) (by decide) hn, ladd_nat, h]
theorem pcB_s (k n : Nat) : pcB (k + 1) n = 256 * pcB k (n / 256) + pcn 8 (n % 256) := rfl
theorem smB_s (k n : Nat) : smB (k + 1) n = smB k (n / 256) + pcn 8 (n % 256) := rfl
theorem pcB_0 : pcB 3 0 = 0 := by decide
theorem pcB_5 {n : Nat} (hn : n < 2 ^ 40) : pcB 8 n = 256 * (256 * (256 * (256 * (256 * 0 + pcn 8 (n / 256 / 256 / 256 / 256 % 256)) + pcn 8 (n / 256 / 256 / 256 % 256)) + pcn 8 (n / 256 / 256 % 256)) + pcn 8 (n / 256 % 256)) + pcn 8 (n % 256) := by
  have z5 : n / 256 / 256 / 256 / 256 / 256 = 0 := by omega
  rw [pcB_s 7, pcB_s 6, pcB_s 5, pcB_s 4, pcB_s 3, z5, pcB_0]
theorem pcn_5 {n : Nat} (hn : n < 2 ^ 36) : pcn 36 n = pcn 8 (n % 256) + pcn 8 (n / 256 % 256) + pcn 8 (n / 256 / 256 % 256) + pcn 8 (n / 256 / 256 / 256 % 256) + pcn 8 (n / 256 / 256 / 256 / 256 % 256) := by
  have h1 : pcn 40 n = pcn 36 n := pcn_hi 4 36 n hn
  have h2 : smB 5 n = pcn 40 n := smB_pcn 5 n
  rw [← h1, ← h2, smB_s 4, smB_s 3, smB_s 2, smB_s 1, smB_s 0]
  show 0 + _ + _ + _ + _ + _ = _
  generalize pcn 8 (n % 256) = p0
  generalize pcn 8 (n / 256 % 256) = p1
  generalize pcn 8 (n / 256 / 256 % 256) = p2
  generalize pcn 8 (n / 256 / 256 / 256 % 256) = p3
  generalize pcn 8 (n / 256 / 256 / 256 / 256 % 256) = p4
  omega
theorem sum_5b {p0 p1 p2 p3 p4 x : Nat} (h0 : p0 ≤ 8) (h1 : p1 ≤ 8) (h2 : p2 ≤ 8) (h3 : p3 ≤ 8) (h4 : p4 ≤ 8) (hx : x = 256 * (256 * (256 * (256 * (256 * 0 + p4) + p3) + p2) + p1) + p0) : ((x + x / 256 + (x + x / 256) / 65536) + (x + x / 256 + (x + x / 256) / 65536) / 4294967296) % 128 = p0 + p1 + p2 + p3 + p4 ∧ x < 2 ^ 40 ∧ x + x / 256 < 2 ^ 41 ∧ x + x / 256 + (x + x / 256) / 65536 < 2 ^ 42 := sum_5 h0 h1 h2 h3 h4 (by rw [hx]) rfl rfl
section XB6
variable {L : Nat} {R : Nat → Int → Option Nat} {I : Nat → Int → Int} {J : Nat → Int → Int64} {Q : Option MV → MM → Prop}
theorem x_bitCountL {n : Nat} (hn : n < 2 ^ 36) (hQ : Q (some (vI (pcn 36 n : Int))) (S0 L, R, I, J)) : wpC 222 [vL (Int64.ofNat n)] (S0 L, R, I, J) Q := by
  refine c_Long_bitCount.mpr ?_
  have hn8 : n < 256 ^ 8 := Nat.lt_of_lt_of_le hn (by decide)
  obtain ⟨ga, _⟩ := g_all 8 n hn8
  have l1 : g1 8 n ≤ n := Nat.sub_le _ _
  have l2 : g2 8 (g1 8 n) ≤ 2 * n := by
    have a1 : g1 8 n &&& mkB 51 8 ≤ g1 8 n := Nat.and_le_left
    have a2 : g1 8 n / 4 &&& mkB 51 8 ≤ g1 8 n / 4 := Nat.and_le_left
    have a3 : g1 8 n / 4 ≤ g1 8 n := Nat.div_le_self _ _
    have a4 : g2 8 (g1 8 n) = (g1 8 n &&& mkB 51 8) + (g1 8 n / 4 &&& mkB 51 8) := by rw [g2]
    rw [a4]
    exact Nat.le_trans (Nat.add_le_add (Nat.le_trans a1 l1) (Nat.le_trans a2 (Nat.le_trans a3 l1))) (by omega)
  obtain ⟨q1, q2, q3, q4⟩ := sum_5b (pcn_le 8 _) (pcn_le 8 _) (pcn_le 8 _) (pcn_le 8 _) (pcn_le 8 _) (pcB_5 (n := n) (by omega))
  rw [← pcn_5 hn] at q1
  have k1 : g1 8 n < 2 ^ 64 := by omega
  have k2 : g2 8 (g1 8 n) < 2 ^ 64 := by omega
  rw [bc_1 (n := n) (by omega), bc_2 k1, bc_3 k2, ga]
  generalize pcB 8 n = x at *
  rw [bc_4 (n := x) (by omega)]
  generalize x + x / 256 = y at *
  rw [bc_5 (n := y) (by omega)]
  generalize y + y / 65536 = z at *
  rw [bc_6 (n := z) (by omega), iand_127 (by omega), q1]
  exact hQ
end XB6
