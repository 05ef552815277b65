-- ===== types by a seed: a pure picture; the reference draws them =====
def nxt (x : Int64) : Int64 := ((Int64.ofInt 1103515245) * x + (Int64.ofInt 12345)) &&& (Int64.ofInt 2147483647)
def pkI (x : Int64) (d : Int) : Int := (x / (Int64.ofInt 65536) - x / (Int64.ofInt 65536) / (Int64.ofInt d) * (Int64.ofInt d)).toInt32.toInt
def pk (x : Int64) (d : Nat) : Nat := (pkI x (d : Int)).toNat
theorem bm64 {z : Int} (h1 : 0 ≤ z) (h2 : z < 2147483648) : Int.bmod z (2 ^ 64) = z := Int.bmod_eq_of_le_mul_two (by omega) (by omega)
theorem bm32 {z : Int} (h1 : 0 ≤ z) (h2 : z < 1000000) : Int.bmod z (2 ^ 32) = z := Int.bmod_eq_of_le_mul_two (by omega) (by omega)
theorem nxt_r (x : Int64) : 0 ≤ (nxt x).toInt ∧ (nxt x).toInt < 2147483648 := by
  unfold nxt
  generalize (Int64.ofInt 1103515245) * x + (Int64.ofInt 12345) = y
  have e : (y &&& (Int64.ofInt 2147483647)).toBitVec = y.toBitVec &&& 2147483647#64 := by
    rw [Int64.toBitVec_and]
    have : (Int64.ofInt 2147483647).toBitVec = 2147483647#64 := by decide
    rw [this]
  have hn : (y &&& (Int64.ofInt 2147483647)).toBitVec.toNat ≤ 2147483647 := by
    rw [e, BitVec.toNat_and]
    exact Nat.and_le_right
  have e2 : (y &&& (Int64.ofInt 2147483647)).toInt = ((y &&& (Int64.ofInt 2147483647)).toBitVec.toNat : Int) := by
    rw [← Int64.toInt_toBitVec]
    exact BitVec.toInt_eq_toNat_of_lt (by omega)
  rw [e2]
  omega
theorem pkq_ex (x : Int64) {d : Nat} (h1 : 1 ≤ d) (h2 : d ≤ 4) : ∃ r : Nat, r < d ∧ pkI (nxt x) (d : Int) = (r : Int) := by
  obtain ⟨r1, r2⟩ := nxt_r x
  unfold pkI
  generalize nxt x = y at *
  obtain ⟨n, hn⟩ : ∃ n : Nat, y.toInt = (n : Int) := ⟨y.toInt.toNat, by omega⟩
  have c1 : (Int64.ofInt 65536).toInt = 65536 := by decide
  have cd1 : (Int64.ofInt (d : Int)).toInt = (d : Int) := Int64.toInt_ofInt_of_le (by omega) (by omega)
  have a1 : (y / Int64.ofInt 65536).toInt = ((n / 65536 : Nat) : Int) := by
    rw [Int64.toInt_div, hn, c1]
    have : (n : Int).tdiv 65536 = ((n / 65536 : Nat) : Int) := rfl
    rw [this, bm64 (by omega) (by omega)]
  have hq : n / 65536 < 32768 := by omega
  generalize y / Int64.ofInt 65536 = z at *
  generalize n / 65536 = m at *
  have a2 : (z / Int64.ofInt (d : Int)).toInt = ((m / d : Nat) : Int) := by
    rw [Int64.toInt_div, a1, cd1]
    have : (m : Int).tdiv (d : Int) = ((m / d : Nat) : Int) := rfl
    have hle := Nat.div_le_self m d
    rw [this, bm64 (Int.natCast_nonneg _) (by omega)]
  have hmul : m / d * d ≤ m := Nat.div_mul_le_self m d
  have a3 : (z / Int64.ofInt (d : Int) * Int64.ofInt (d : Int)).toInt = ((m / d * d : Nat) : Int) := by
    rw [Int64.toInt_mul, a2, cd1]
    have : ((m / d : Nat) : Int) * (d : Int) = ((m / d * d : Nat) : Int) := by rw [Int.natCast_mul]
    rw [this, bm64 (by omega) (by omega)]
  have a4 : (z - z / Int64.ofInt (d : Int) * Int64.ofInt (d : Int)).toInt = ((m % d : Nat) : Int) := by
    rw [Int64.toInt_sub, a1, a3]
    have e := Nat.div_add_mod m d
    rw [Nat.mul_comm] at e
    have : ((m : Nat) : Int) - ((m / d * d : Nat) : Int) = ((m % d : Nat) : Int) := by omega
    have hmod := Nat.mod_le m d
    rw [this, bm64 (by omega) (by omega)]
  have hmod := Nat.mod_le m d
  refine ⟨m % d, Nat.mod_lt _ (by omega), ?_⟩
  rw [Int64.toInt_toInt32, a4, bm32 (by omega) (by omega)]
theorem pkq_lt (x : Int64) {d : Nat} (h1 : 1 ≤ d) (h2 : d ≤ 4) : pk (nxt x) d < d ∧ pkI (nxt x) (d : Int) = (pk (nxt x) d : Int) := by
  obtain ⟨r, h3, h4⟩ := pkq_ex x h1 h2
  unfold pk
  rw [h4, Int.toNat_natCast]
  exact ⟨h3, rfl⟩
/-- n letters of the last row; n parts; a type -/
def drI : Nat → Int64 → List Nat × Int64
  | 0, x => ([], x)
  | n + 1, x => (pk (nxt x) 2 :: (drI n (nxt x)).1, (drI n (nxt x)).2)
def drP : Nat → Int64 → List Nat × Int64
  | 0, x => ([], x)
  | n + 1, x => (pk (nxt x) 4 :: ((drI (pts (pk (nxt x) 4)) (nxt x)).1 ++ (drP n (drI (pts (pk (nxt x) 4)) (nxt x)).2).1), (drP n (drI (pts (pk (nxt x) 4)) (nxt x)).2).2)
def drT (x : Int64) : List Nat × Int64 := (pk (nxt x) 4 :: (drP (pts (pk (nxt x) 4)) (nxt x)).1, (drP (pts (pk (nxt x) 4)) (nxt x)).2)
theorem drI_wf : ∀ (n : Nat) (x : Int64) (k : Nat) (t : List Nat), wfN t k = true → wfN ((drI n x).1 ++ t) (n + k) = true ∧ (drI n x).1.length = n := by
  intro n
  induction n with
  | zero => intro x k t h; exact ⟨by rw [Nat.zero_add]; exact h, rfl⟩
  | succ n ih =>
    intro x k t h
    obtain ⟨h1, h2⟩ := ih (nxt x) k t h
    have hp := (pkq_lt x (d := 2) (by decide) (by decide)).1
    refine ⟨?_, by show (_ :: (drI n (nxt x)).1).length = _; rw [List.length_cons, h2]⟩
    show wfN (pk (nxt x) 2 :: ((drI n (nxt x)).1 ++ t)) (n + 1 + k) = true
    rw [show n + 1 + k = (n + k) + 1 by omega]
    refine wf_cons.mpr ⟨by omega, ?_⟩
    have hp0 : pts (pk (nxt x) 2) = 0 := by unfold pts; rw [if_neg (by omega), if_neg (by omega)]
    rw [hp0]; exact h1
theorem drP_wf : ∀ (n : Nat) (x : Int64), wfN (drP n x).1 n = true ∧ (drP n x).1.length ≤ 3 * n := by
  intro n
  induction n with
  | zero => intro x; exact ⟨rfl, Nat.le_refl _⟩
  | succ n ih =>
    intro x
    obtain ⟨h1, h2⟩ := ih (drI (pts (pk (nxt x) 4)) (nxt x)).2
    obtain ⟨h3, h4⟩ := drI_wf (pts (pk (nxt x) 4)) (nxt x) n _ h1
    have hp := (pkq_lt x (d := 4) (by decide) (by decide)).1
    have hpt := pts_le (pk (nxt x) 4)
    refine ⟨?_, ?_⟩
    · refine wf_cons.mpr ⟨by omega, ?_⟩
      rw [Nat.add_comm]; exact h3
    · show (_ :: (_ ++ _)).length ≤ _
      rw [List.length_cons, List.length_append, h4]; omega
theorem drT_wf (x : Int64) : wfN (drT x).1 1 = true ∧ (drT x).1.length ≤ 9 := by
  obtain ⟨h1, h2⟩ := drP_wf (pts (pk (nxt x) 4)) (nxt x)
  have hp := (pkq_lt x (d := 4) (by decide) (by decide)).1
  have hpt := pts_le (pk (nxt x) 4)
  refine ⟨wf_cons.mpr ⟨by omega, by rw [Nat.zero_add]; exact h1⟩, ?_⟩
  show (_ :: _).length ≤ 9
  rw [List.length_cons]; omega
/-- seed, how many found, how many letters: behind n draws -/
def drL (E : EN) (nC : Nat) (x0 : Int64) : Nat → Int64 × Nat × Nat
  | 0 => (x0, 0, 0)
  | n + 1 => ((drT (nxt (drL E nC x0 n).1)).2, (drL E nC x0 n).2.1 + (if (G E (pk (nxt (drL E nC x0 n).1) nC) (drT (nxt (drL E nC x0 n).1)).1).1 = 1 then 1 else 0), (drL E nC x0 n).2.2 + (drT (nxt (drL E nC x0 n).1)).1.length)
def q_drawn (s : ST) (t x w : Int) : Int × ST := (if ¬ (1 ≤ t ∧ t ≤ 30) then -102 else if x < 0 then -102 else if ¬ (0 ≤ w ∧ w ≤ 2) then -102 else if sB s = 0 then -103 else if w = 0 then ((drL (sE s) (sC s) (Int64.ofInt x) t.toNat).2.1 : Int) else if w = 1 then ((drL (sE s) (sC s) (Int64.ofInt x) t.toNat).2.2 : Int) else (drL (sE s) (sC s) (Int64.ofInt x) t.toNat).1.toInt32.toInt, s)
section MDr
variable {L : Nat} {R : Nat → Int → Option Nat} {I : Nat → Int → Int} {J : Nat → Int → Int64} {Q : Option MV → MM → Prop} {s : ST}
/-- only the seed has changed -/
def frJ (J J' : Nat → Int → Int64) : Prop := ∀ a, a ≠ 243 → J' a = J a
theorem k_draw {d : Nat} (h1 : 1 ≤ d) (h2 : d ≤ 4) (hQ : Q (some (vI (pk (nxt (J 243 52)) d : Int))) (S0 L, R, I, upM J 243 52 (nxt (J 243 52)))) : wpC 121 [vR (some 243), vI (d : Int)] (S0 L, R, I, J) Q := by
  refine c_M_draw.mpr ⟨by decide, ?_, ?_⟩
  · have hd : d = 1 ∨ d = 2 ∨ d = 3 ∨ d = 4 := by omega
    rcases hd with rfl | rfl | rfl | rfl <;> decide
  · rw [upM_same]
    have := (pkq_lt (J 243 52) h1 h2).2
    show Q (some (vI (pkI (nxt (J 243 52)) (d : Int)))) (S0 L, R, I, upM J 243 52 (nxt (J 243 52)))
    rw [this]
    exact hQ
theorem k_letterBy {v : Nat} (hv : v < 4) : wpC 122 [vI (v : Int)] (S0 L, R, I, J) Q ↔ Q (some (vI (cd v))) (S0 L, R, I, J) := by
  rw [c_M_letterBy]
  have : v = 0 ∨ v = 1 ∨ v = 2 ∨ v = 3 := by omega
  rcases this with rfl | rfl | rfl | rfl <;> exact Iff.rfl
theorem k_addLetter {w : List Nat} {v : Nat} (hn : NowW I w) (hl : w.length < 9) (hQ : ∀ I', (∀ a, a ≠ 243 → a ≠ 267 → I' a = I a) → (∀ j : Int, j ≠ 34 → I' 243 j = I 243 j) → NowW I' (w ++ [v]) → Q none (S0 L, R, I', J)) : wpC 123 [vR (some 243), vI (cd v)] (S0 L, R, I, J) Q := by
  refine c_M_addLetter.mpr ?_
  rw [upM_ne (a := 267) (b := 243) (by decide), hn.1, w32_s (by omega)]
  refine ⟨⟨by omega, by omega⟩, hQ _ (fun a p1 p2 => by rw [upM_ne p1, upM_ne p2]) (fun j hj => by rw [upM_i hj, upM_ne (by decide)]) ⟨by rw [upM_same, List.length_append, List.length_singleton], fun p hp => ?_⟩⟩
  rw [List.length_append, List.length_singleton] at hp
  rw [upM_ne (by decide), getD_app]
  by_cases hpw : p < w.length
  · rw [if_pos hpw, upM_i (by omega)]; exact hn.2 p hpw
  · rw [if_neg hpw, if_pos (by omega), show p = w.length by omega, upM_same]
/-- what drawing changes -/
def frD (I I' : Nat → Int → Int) : Prop := (∀ a, a ≠ 243 → a ≠ 267 → I' a = I a) ∧ ∀ j : Int, j ≠ 34 → I' 243 j = I 243 j
theorem frD.tr {I I' I2 : Nat → Int → Int} (h : frD I I') (h2 : frD I' I2) : frD I I2 := ⟨fun a p1 p2 => by rw [h2.1 a p1 p2, h.1 a p1 p2], fun j hj => by rw [h2.2 j hj, h.2 j hj]⟩
theorem dT_in {f k c : Nat} (hc : c < 4) : ∀ (n e : Nat) {I : Nat → Int → Int} {J : Nat → Int → Int64} (w : List Nat), n + e = pts c → w.length + n ≤ 9 → NowW I w → (∀ I' J', frD I I' → frJ J J' → J' 243 52 = (drI n (J 243 52)).2 → NowW I' (w ++ (drI n (J 243 52)).1) → wpc 124 22 [vR (some 243), vI (f : Int), vI (w32 ((k : Int) + 1)), vU, vU] [] (0, 0) (S0 L, R, I', J') Q) → wpc 124 40 [vR (some 243), vI (f : Int), vI (k : Int), vI (cd c), vI (e : Int)] [] (0, 0) (S0 L, R, I, J) Q := by
  have hpt := pts_le c
  intro n
  induction n with
  | zero =>
    intro e I J w hn hl hw hQ
    refine b_M_drawType_40.mpr ?_
    rw [k_wants, wnt_cd (by omega)]
    refine b_M_drawType_44.mpr ?_
    rw [if_neg (by omega)]
    exact hQ I J ⟨fun _ _ _ => rfl, fun _ _ => rfl⟩ (fun _ _ => rfl) rfl (by show NowW I (w ++ []); rw [List.append_nil]; exact hw)
  | succ n ih =>
    intro e I J w hn hl hw hQ
    refine b_M_drawType_40.mpr ?_
    rw [k_wants, wnt_cd (by omega)]
    refine b_M_drawType_44.mpr ?_
    rw [if_pos (by omega)]
    refine k_draw (d := 2) (by decide) (by decide) ?_
    have hp := (pkq_lt (J 243 52) (d := 2) (by decide) (by decide)).1
    refine b_M_drawType_51.mpr ?_
    rw [k_letterBy (by omega)]
    refine b_M_drawType_53.mpr ?_
    refine k_addLetter hw (by omega) (fun I1 f1 f1' n1 => ?_)
    refine b_M_drawType_55.mpr ?_
    rw [w32_s (by omega)]
    refine ih (e + 1) (w ++ [pk (nxt (J 243 52)) 2]) (by omega) (by rw [List.length_append, List.length_singleton]; omega) n1 (fun I2 J2 f2 j2 h2 n2 => ?_)
    rw [upM_same] at h2 n2
    rw [List.append_assoc] at n2
    exact hQ I2 J2 (frD.tr (I' := I1) ⟨f1, f1'⟩ f2) (fun a ha => by rw [j2 a ha, upM_ne ha]) h2 n2
theorem dT_out {f : Nat} (hf : f ≤ 2) : ∀ (n k : Nat) {I : Nat → Int → Int} {J : Nat → Int → Int64} (w : List Nat), n + k = f → w.length + 3 * n ≤ 9 → NowW I w → (∀ I' J', frD I I' → frJ J J' → J' 243 52 = (drP n (J 243 52)).2 → NowW I' (w ++ (drP n (J 243 52)).1) → wpC 64 [vR (some 243)] (S0 L, R, I', J') (fun v M2 => wpc 124 64 [vU, vU, vU, vU, vU] (v.toList ++ []) (0, 0) M2 Q)) → wpc 124 22 [vR (some 243), vI (f : Int), vI (k : Int), vU, vU] [] (0, 0) (S0 L, R, I, J) Q := by
  intro n
  induction n with
  | zero =>
    intro k I J w hn hl hw hQ
    refine b_M_drawType_22.mpr ?_
    rw [if_neg (by omega)]
    exact hQ I J ⟨fun _ _ _ => rfl, fun _ _ => rfl⟩ (fun _ _ => rfl) rfl (by show NowW I (w ++ []); rw [List.append_nil]; exact hw)
  | succ n ih =>
    intro k I J w hn hl hw hQ
    refine b_M_drawType_22.mpr ?_
    rw [if_pos (by omega)]
    refine k_draw (d := 4) (by decide) (by decide) ?_
    have hp := (pkq_lt (J 243 52) (d := 4) (by decide) (by decide)).1
    have hpt := pts_le (pk (nxt (J 243 52)) 4)
    refine b_M_drawType_30.mpr ?_
    rw [k_letterBy (by omega)]
    refine b_M_drawType_32.mpr ?_
    refine k_addLetter hw (by omega) (fun I1 f1 f1' n1 => ?_)
    refine b_M_drawType_37.mpr ?_
    refine dT_in hp (pts (pk (nxt (J 243 52)) 4)) 0 (w ++ [pk (nxt (J 243 52)) 4]) (by omega) (by rw [List.length_append, List.length_singleton]; omega) n1 (fun I2 J2 f2 j2 h2 n2 => ?_)
    rw [upM_same] at h2 n2
    rw [w32_s (by omega)]
    have hlen := (drI_wf (pts (pk (nxt (J 243 52)) 4)) (nxt (J 243 52)) 0 [] rfl).2
    refine ih (k + 1) _ (by omega) (by rw [List.length_append, List.length_append, List.length_singleton, hlen]; omega) n2 (fun I3 J3 f3 j3 h3 n3 => ?_)
    rw [h2] at h3 n3
    rw [List.append_assoc, List.append_assoc] at n3
    exact hQ I3 J3 ((frD.tr (I' := I1) ⟨f1, f1'⟩ f2).tr f3) (fun a ha => by rw [j3 a ha, j2 a ha, upM_ne ha]) h3 n3
theorem k_drawType (hQ : ∀ I' J', frW I I' → frJ J J' → J' 243 52 = (drT (J 243 52)).2 → NowW I' (drT (J 243 52)).1 → SzW I' (drT (J 243 52)).1 → Q none (S0 L, R, I', J')) : wpC 124 [vR (some 243)] (S0 L, R, I, J) Q := by
  obtain ⟨t1, t2⟩ := drT_wf (J 243 52)
  refine c_M_drawType.mpr ?_
  refine k_draw (d := 4) (by decide) (by decide) ?_
  have hp := (pkq_lt (J 243 52) (d := 4) (by decide) (by decide)).1
  have hpt := pts_le (pk (nxt (J 243 52)) 4)
  refine b_M_drawType_8.mpr ?_
  rw [k_letterBy (by omega)]
  refine b_M_drawType_10.mpr ?_
  refine k_addLetter (w := []) ⟨upM_same, fun p hp => absurd hp (by simp)⟩ (by simp) (fun I1 f1 f1' n1 => ?_)
  refine b_M_drawType_12.mpr ?_
  have h0 := n1.2 0 (by simp)
  have h0' : I1 267 0 = cd (pk (nxt (J 243 52)) 4) := h0
  rw [h0', k_wants, wnt_cd (by omega)]
  refine b_M_drawType_18.mpr ?_
  refine dT_out hpt (pts (pk (nxt (J 243 52)) 4)) 0 _ (by omega) (by simp; omega) n1 (fun I2 J2 f2 j2 h2 n2 => ?_)
  rw [upM_same] at h2 n2
  have n2' : NowW I2 (drT (J 243 52)).1 := n2
  refine k_laySizes t1 t2 n2' (fun I3 f3 s3 => ?_)
  refine b_M_drawType_64.mpr ?_
  refine hQ I3 J2 ⟨fun a p1 p2 p3 => ?_, fun j hj => ?_⟩ (fun a ha => by rw [j2 a ha, upM_ne ha]) h2 (n2'.fr (by rw [f3 243 (by decide)]) (f3 267 (by decide))) s3
  · rw [f3 a p3, f2.1 a p1 p2, f1 a p1 p2, upM_ne p1]
  · rw [f3 243 (by decide), f2.2 j hj, f1' j hj, upM_i hj]
theorem drL_le (E : EN) (nC : Nat) (x0 : Int64) : ∀ n, (drL E nC x0 n).2.1 ≤ n ∧ (drL E nC x0 n).2.2 ≤ 9 * n := by
  intro n
  induction n with
  | zero => exact ⟨Nat.le_refl _, Nat.le_refl _⟩
  | succ n ih =>
    have h9 := (drT_wf (nxt (drL E nC x0 n).1)).2
    refine ⟨?_, ?_⟩
    · show (drL E nC x0 n).2.1 + (if _ then 1 else 0) ≤ n + 1
      split <;> omega
    · show (drL E nC x0 n).2.2 + _ ≤ _
      omega
theorem dN_loop (hw : wfS s) (hb : ¬ sB s = 0) {x0 : Int64} {t : Nat} {w : Int} (ht : t ≤ 30) : ∀ (d n : Nat) {I : Nat → Int → Int} {J : Nat → Int → Int64}, d + n = t → MSt I s → J 243 52 = (drL (sE s) (sC s) x0 n).1 → (∀ I' J', frM I I' → frJ J J' → (if w = 0 then Q (some (vI ((drL (sE s) (sC s) x0 t).2.1 : Int))) (S0 L, R, I', J') else if w = 1 then Q (some (vI ((drL (sE s) (sC s) x0 t).2.2 : Int))) (S0 L, R, I', J') else Q (some (vI (drL (sE s) (sC s) x0 t).1.toInt32.toInt)) (S0 L, R, I', J'))) → wpc 125 11 [vR (some 243), vI (t : Int), vU, vI w, vI ((drL (sE s) (sC s) x0 n).2.1 : Int), vI ((drL (sE s) (sC s) x0 n).2.2 : Int), vI (n : Int), vU] [] (0, 0) (S0 L, R, I, J) Q := by
  have hC4 := hw.2.2.1.1
  have hC1 := hw.2.2.2.2.2.2.1 hb
  intro d
  induction d with
  | zero =>
    intro n I J hd hM hJ hQ
    refine b_M_drawnNow_11.mpr ?_
    rw [if_neg (by omega), hJ]
    have : n = t := by omega
    subst this
    exact hQ I J frM.rf (fun _ _ => rfl)
  | succ d ih =>
    intro n I J hd hM hJ hQ
    obtain ⟨l1, l2⟩ := drL_le (sE s) (sC s) x0 n
    refine b_M_drawnNow_11.mpr ?_
    rw [if_pos (by omega), hM.2.2.1.1]
    refine k_draw hC1 hC4 ?_
    refine b_M_drawnNow_20.mpr ?_
    obtain ⟨hp, _⟩ := pkq_lt (J 243 52) hC1 hC4
    refine k_drawType (fun I1 J1 f1 j1 h1 n1 s1 => ?_)
    rw [upM_same] at h1 n1 s1
    obtain ⟨t1, t2⟩ := drT_wf (nxt (J 243 52))
    have hpos : 0 < (drT (nxt (J 243 52))).1.length := List.length_pos_iff.mpr (ne_wf1 t1)
    refine b_M_drawnNow_24.mpr ?_
    refine k_layGoals hw.2.2.2.1 hC4 t1 t2 (by rw [f1.2 1 (by decide)]; exact hM.2.2.1.1) (f1.en hM.2.2.2.1) (hM.2.2.2.2.1.fr (f1.1 253 (by decide) (by decide) (by decide))) n1 s1 (fun I2 f2 hT => ?_)
    have f := (frWT f1 f2).m
    refine b_M_drawnNow_27.mpr ?_
    have e9 : w32 (9 * (pk (nxt (J 243 52)) (sC s) : Int)) = ((9 * pk (nxt (J 243 52)) (sC s) : Nat) : Int) := by rw [w32_eq (by omega) (by omega)]; omega
    have hG := (hT 0 (pk (nxt (J 243 52)) (sC s)) hpos hp).root t1
    rw [e9, hG.1]
    refine ⟨⟨by omega, by omega⟩, ?_⟩
    have h34 : I2 243 34 = ((drT (nxt (J 243 52))).1.length : Int) := by rw [f2 243 (by omega)]; exact n1.1
    have hgo : ∀ z : Nat, z = (if (G (sE s) (pk (nxt (J 243 52)) (sC s)) (drT (nxt (J 243 52))).1).1 = 1 then 1 else 0) → z ≤ 1 → wpc 125 42 [vR (some 243), vI (t : Int), vU, vI w, vU, vI ((drL (sE s) (sC s) x0 n).2.2 : Int), vI (n : Int), vU] [vI (z : Int), vI ((drL (sE s) (sC s) x0 n).2.1 : Int)] (0, 0) (S0 L, R, I2, J1) Q := by
      intro z hz hz1
      refine b_M_drawnNow_42.mpr ?_
      rw [h34, w32_s (p := n) (by omega), w32_eq (z := ((drL (sE s) (sC s) x0 n).2.1 : Int) + (z : Int)) (by omega) (by omega), w32_eq (by omega) (by omega)]
      have e1 : ((drL (sE s) (sC s) x0 n).2.1 : Int) + (z : Int) = ((drL (sE s) (sC s) x0 (n + 1)).2.1 : Int) := by
        show _ = (((drL (sE s) (sC s) x0 n).2.1 + (if (G (sE s) (pk (nxt (drL (sE s) (sC s) x0 n).1) (sC s)) (drT (nxt (drL (sE s) (sC s) x0 n).1)).1).1 = 1 then 1 else 0) : Nat) : Int)
        rw [← hJ, ← hz]; omega
      have e2 : ((drL (sE s) (sC s) x0 n).2.2 : Int) + ((drT (nxt (J 243 52))).1.length : Int) = ((drL (sE s) (sC s) x0 (n + 1)).2.2 : Int) := by
        show _ = (((drL (sE s) (sC s) x0 n).2.2 + (drT (nxt (drL (sE s) (sC s) x0 n).1)).1.length : Nat) : Int)
        rw [← hJ]; omega
      rw [e1, e2]
      refine ih (n + 1) (by omega) (hM.fr f) ?_ (fun I3 J3 f3 j3 => hQ I3 J3 (f.tr f3) (fun a ha => by rw [j3 a ha, j1 a ha, upM_ne ha]))
      rw [h1, hJ]; rfl
    by_cases hg : (G (sE s) (pk (nxt (J 243 52)) (sC s)) (drT (nxt (J 243 52))).1).1 = 1
    · rw [if_pos hg]
      exact hgo 1 (by rw [if_pos hg]) (by decide)
    · rw [if_neg hg]
      exact hgo 0 (by rw [if_neg hg]) (by decide)
theorem m_drawn (hw : wfS s) (hM : MSt I s) {t x w : Int} (hQ : mpost L R I J (vI (q_drawn s t x w).1) (q_drawn s t x w).2 Q) : wpC 126 [vR (some 243), vI t, vI x, vI w] (S0 L, R, I, J) Q := by
  unfold q_drawn at hQ
  refine c_M_drawn.mpr ?_
  rw [k_within]
  refine b_M_drawn_5.mpr ?_
  by_cases ht : 1 ≤ t ∧ t ≤ 30
  · rw [if_neg (not_not_intro ht)] at hQ
    rw [if_neg (fun q => bi_0.mp q ht)]
    by_cases hx : x < 0
    · rw [if_pos hx] at hQ ⊢; exact hQ.t hM frM.rf
    · rw [if_neg hx] at hQ ⊢
      rw [k_within]
      refine b_M_drawn_15.mpr ?_
      by_cases h2 : 0 ≤ w ∧ w ≤ 2
      · rw [if_neg (not_not_intro h2)] at hQ
        rw [if_neg (fun q => bi_0.mp q h2), hM.2.1]
        by_cases hb : sB s = 0
        · rw [if_pos hb] at hQ
          rw [if_pos (by omega)]
          exact b_M_drawn_33.mpr (hQ.t hM frM.rf)
        · rw [if_neg hb] at hQ
          rw [if_neg (by omega)]
          obtain ⟨t', rfl⟩ := nat_of (show 0 ≤ t by omega)
          rw [Int.toNat_natCast] at hQ
          refine c_M_drawnNow.mpr ?_
          refine dN_loop hw hb (x0 := Int64.ofInt x) (t := t') (by omega) t' 0 (by omega) hM upM_same (fun I' J' f j => ?_)
          have hq := hQ I' J' (hM.fr f) (fun a ha => f.1 a (by omega)) (fun a ha => by rw [j a (by omega), upM_ne (by omega)])
          by_cases w0 : w = 0
          · rw [if_pos w0] at hq ⊢; exact b_M_drawn_33.mpr hq
          · rw [if_neg w0] at hq ⊢
            by_cases w1 : w = 1
            · rw [if_pos w1] at hq ⊢; exact b_M_drawn_33.mpr hq
            · rw [if_neg w1] at hq ⊢; exact b_M_drawn_33.mpr hq
      · rw [if_pos h2] at hQ
        rw [if_pos (bi_0.mpr h2)]; exact hQ.t hM frM.rf
  · rw [if_pos ht] at hQ
    rw [if_pos (bi_0.mpr ht)]; exact hQ.t hM frM.rf
end MDr
