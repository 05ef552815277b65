-- ===== the class's counts =====
theorem cnt_not (f : Nat → Bool) : ∀ n, cnt n f + cnt n (fun k => !f k) = n := by
  intro n
  induction n with
  | zero => rfl
  | succ n ih =>
    show cnt n f + (if f n then 1 else 0) + (cnt n (fun k => !f k) + (if (!f n) then 1 else 0)) = n + 1
    cases f n
    · show cnt n f + 0 + (cnt n (fun k => !f k) + 1) = n + 1; omega
    · show cnt n f + 1 + (cnt n (fun k => !f k) + 0) = n + 1; omega
def cgt (g : Nat → Nat → Bool) (i n : Nat) : Nat := cnt n (fun e => decide (i < e) && g i e)
def cgo (g : Nat → Nat → Bool) (n : Nat) : Nat → Nat
  | 0 => 0
  | i + 1 => cgo g n i + cgt g i n
theorem cgt_0 (g : Nat → Nat → Bool) (i : Nat) : ∀ n, n ≤ i + 1 → cgt g i n = 0 := by
  intro n
  induction n with
  | zero => intro _; rfl
  | succ n ih =>
    intro h
    show cgt g i n + (if (decide (i < n) && g i n) then 1 else 0) = 0
    rw [ih (by omega), decide_eq_false (by omega)]; rfl
theorem cgt_s (g : Nat → Nat → Bool) {i n : Nat} (h : i < n) : cgt g i (n + 1) = cgt g i n + (if g i n = true then 1 else 0) := by
  show cgt g i n + (if (decide (i < n) && g i n) then 1 else 0) = _
  rw [decide_eq_true h]; rfl
theorem cgo_s (g : Nat → Nat → Bool) (n : Nat) : ∀ i, i ≤ n → cgo g (n + 1) i = cgo g n i + cnt i (fun j => g j n) := by
  intro i
  induction i with
  | zero => intro _; rfl
  | succ i ih =>
    intro h
    show cgo g (n + 1) i + cgt g i (n + 1) = cgo g n i + cgt g i n + (cnt i (fun j => g j n) + (if g i n then 1 else 0))
    rw [ih (by omega), cgt_s g (by omega)]
    omega
theorem cgo_cn2 (g : Nat → Nat → Bool) : ∀ n, (∀ i e, i < n → e < n → g i e = g e i) → cgo g n n = cn2 g n := by
  intro n
  induction n with
  | zero => intro _; rfl
  | succ n ih =>
    intro hs
    show cgo g (n + 1) n + cgt g n (n + 1) = cn2 g n + cnt n (g n)
    rw [cgo_s g n n (Nat.le_refl _), cgt_0 g n (n + 1) (Nat.le_refl _), ih (fun i e hi he => hs i e (by omega) (by omega)), cnt_ext (f := fun j => g j n) (g := g n) (fun j hj => hs j n (by omega) (by omega))]
    omega
theorem cgt_le (g : Nat → Nat → Bool) (i n : Nat) : cgt g i n ≤ n := cnt_le n _
theorem cgo_le (g : Nat → Nat → Bool) {n : Nat} (hn : n ≤ 6) : ∀ i, cgo g n i ≤ 6 * i := by
  intro i
  induction i with
  | zero => exact Nat.le_refl _
  | succ i ih =>
    have := cgt_le g i n
    show cgo g n i + cgt g i n ≤ 6 * (i + 1)
    omega
section XCn
variable {L : Nat} {R : Nat → Int → Option Nat} {I : Nat → Int → Int} {J : Nat → Int → Int64} {Q : Option MV → MM → Prop} {s : ST} {b d : Nat}
theorem cp_in {g : Nat → Nat → Bool} {x : Int} {i : Nat} (hx : (x = 0 ∧ g = ovl (sE s)) ∨ (x = 1 ∧ g = clh (sE s))) (hb : bd b d) (hw : wfS s) (hC : CSb R I b d s) (hi : i < eN (sE s)) (hQ : wpc 40 5 [vR (some 3), vI x, vI (cgo g (eN (sE s)) (i + 1) : Int), vI ((i + 1 : Nat) : Int), vU] [] (0, 0) (S0 L, R, I, J) Q) : ∀ m e : Nat, m + e = eN (sE s) → i < e → wpc 40 16 [vR (some 3), vI x, vI ((cgo g (eN (sE s)) i + cgt g i e : Nat) : Int), vI (i : Int), vI (e : Int)] [] (0, 0) (S0 L, R, I, J) Q := by
  have h6 := hw.2.2.2.1.1
  intro m
  induction m with
  | zero =>
    intro e he hie
    refine (b_D_countPairs_16 hC.1 hb.b).mpr ?_
    rw [hC.2.2.1.2.2.1, if_neg (by omega), w32_s (by omega), show e = eN (sE s) by omega]
    exact hQ
  | succ m ih =>
    intro e he hie
    have heN : e < eN (sE s) := by omega
    have h1 := cgo_le g h6 i
    have h2 := cgt_le g i e
    have hn := ih (e + 1) (by omega) (by omega)
    rw [cgt_s g hie] at hn
    have h38 : wpc 40 38 [vR (some 3), vI x, vU, vI (i : Int), vI (e : Int)] [vI (bi (g i e = true)), vI ((cgo g (eN (sE s)) i + cgt g i e : Nat) : Int)] (0, 0) (S0 L, R, I, J) Q := by
      refine b_D_countPairs_38.mpr ?_
      refine (x_asNumber _).mpr ?_
      refine b_D_countPairs_40.mpr ?_
      rw [w32_s (p := e) (by omega)]
      by_cases hg : g i e = true
      · rw [bi_t hg, w32_s (by omega)]
        rw [if_pos hg] at hn
        exact hn
      · rw [bi_f hg, w32_eq (by omega) (by omega), Int.add_zero]
        rw [if_neg hg] at hn
        exact hn
    refine (b_D_countPairs_16 hC.1 hb.b).mpr ?_
    rw [hC.2.2.1.2.2.1, if_pos (by omega)]
    rcases hx with ⟨rfl, rfl⟩ | ⟨rfl, rfl⟩
    · rw [if_pos rfl]
      exact x_overlap hb hw hC hi heN h38
    · rw [if_neg (by decide)]
      refine x_clash hb hw hC hi heN ?_
      exact b_D_countPairs_31.mpr h38
theorem x_countPairs {g : Nat → Nat → Bool} {x : Int} (hx : (x = 0 ∧ g = ovl (sE s)) ∨ (x = 1 ∧ g = clh (sE s))) (hb : bd b d) (hw : wfS s) (hC : CSb R I b d s) (hQ : Q (some (vI (cn2 g (eN (sE s)) : Int))) (S0 L, R, I, J)) : wpC 40 [vR (some 3), vI x] (S0 L, R, I, J) Q := by
  have hE := hw.2.2.2.1
  have h6 := hE.1
  have hsym : ∀ i e, i < eN (sE s) → e < eN (sE s) → g i e = g e i := by
    intro i e hi he
    rcases hx with ⟨_, rfl⟩ | ⟨_, rfl⟩
    · exact ovl_sym hE hi he
    · exact clh_sym hE hi he
  rw [← cgo_cn2 g _ hsym] at hQ
  refine c_D_countPairs.mpr ?_
  have key : ∀ m i : Nat, m + i = eN (sE s) → wpc 40 5 [vR (some 3), vI x, vI (cgo g (eN (sE s)) i : Int), vI (i : Int), vU] [] (0, 0) (S0 L, R, I, J) Q := by
    intro m
    induction m with
    | zero =>
      intro i hi
      refine (b_D_countPairs_5 hC.1 hb.b).mpr ?_
      rw [hC.2.2.1.2.2.1, if_neg (by omega), show i = eN (sE s) by omega]
      exact hQ
    | succ m ih =>
      intro i hi
      refine (b_D_countPairs_5 hC.1 hb.b).mpr ?_
      rw [hC.2.2.1.2.2.1, if_pos (by omega), w32_s (by omega)]
      have := cp_in hx hb hw hC (i := i) (by omega) (ih (i + 1) (by omega)) m (i + 1) (by omega) (by omega)
      rw [cgt_0 g i (i + 1) (Nat.le_refl _), Nat.add_zero] at this
      exact this
  exact key (eN (sE s)) 0 (by omega)
theorem x_countLacked (hb : bd b d) (hw : wfS s) (hC : CSb R I b d s) (hQ : ∀ R' I' J', frF R R' I I' J J' → CSb R' I' b d s → Q (some (vI (lcs s (eN (sE s)) : Int))) (S0 L, R', I', J')) : wpC 41 [vR (some 3)] (S0 L, R, I, J) Q := by
  obtain ⟨r1, r2, r3, r4, r5⟩ := hb.r
  have hE := hw.2.2.2.1
  have h6 := hE.1
  refine c_D_countLacked.mpr ?_
  have key : ∀ (m i : Nat) {R1 : Nat → Int → Option Nat} {I1 : Nat → Int → Int} {J1 : Nat → Int → Int64}, m + i = eN (sE s) → frF R R1 I I1 J J1 → CSb R1 I1 b d s → wpc 41 5 [vR (some 3), vI (lcs s i : Int), vI (i : Int)] [] (0, 0) (S0 L, R1, I1, J1) Q := by
    intro m
    induction m with
    | zero =>
      intro i R1 I1 J1 hi f1 c1
      refine (b_D_countLacked_5 c1.1 hb.b).mpr ?_
      rw [c1.2.2.1.2.2.1, if_neg (by omega), show i = eN (sE s) by omega]
      exact hQ R1 I1 J1 f1 c1
    | succ m ih =>
      intro i R1 I1 J1 hi f1 c1
      have hin : i < eN (sE s) := by omega
      obtain ⟨e1, e2, e3, e4, e5, e6⟩ := hE.2 i hin
      have hr : isRu (b + 8 + 7 * i) := ie_Bk5 hb.b (i := (i : Int)) ⟨by omega, by omega⟩
      refine (b_D_countLacked_5 c1.1 hb.b).mpr ?_
      rw [c1.2.2.1.2.2.1, if_pos (by omega)]
      refine ⟨⟨by omega, by omega⟩, ?_⟩
      refine d_work (a3 := b + 8 + 7 * i + 1) (w := eH (sE s) i) hb hw c1 (is_Ru2 hr) (by omega) e3 (by omega) (c1.2.2.1.2.2.2.2 i hin).1.2.1 (fun R2 I2 J2 f2 c2 l2 => ?_)
      refine (b_D_countLacked_26 c2.1 hb.b).mpr ⟨⟨by omega, by omega⟩, ?_⟩
      refine x_lacked hb hw c2 hin l2 ?_
      refine b_D_countLacked_35.mpr ?_
      have hlk := lck_lt (s := s) hw.2.2.1.1 i
      refine (x_bitCount hlk).mpr ?_
      refine b_D_countLacked_37.mpr ?_
      have hl := lcs_le hw i (by omega)
      have hp := pcn_le 16 (lck (sE s) (sC s) (sR s) (sA s) i)
      rw [w32_s (p := i) (by omega), w32_eq (by omega) (by omega)]
      have e : (lcs s i : Int) + (pcn 16 (lck (sE s) (sC s) (sR s) (sA s) i) : Int) = (lcs s (i + 1) : Int) := by
        show _ = ((lcs s i + pcn 16 (lck (sE s) (sC s) (sR s) (sA s) i) : Nat) : Int)
        omega
      rw [e]
      exact ih (i + 1) (by omega) (f1.tr f2) c2
  exact key (eN (sE s)) 0 (by omega) frF.rf hC
theorem d_count (hw : wfS s) (hC : CSt R I s) {w : Int} (hQ : xpost L R I J (vI (q_count s w).1) (q_count s w).2 Q) : wpC 37 [vR (some 3), vI w] (S0 L, R, I, J) Q := by
  obtain ⟨b, d, hb, hC⟩ := hC
  have h6 := hw.2.2.2.1.1
  unfold q_count at hQ
  have hi := hQ.i hb hC
  have hDk := hC.2.2.2.2.2.1
  refine (c_D_count hC.1 hb.b).mpr ?_
  by_cases hwr : 0 ≤ w ∧ w ≤ 10
  · rw [if_neg (not_not_intro hwr)] at hi hQ
    obtain ⟨w', rfl⟩ := nat_of hwr.1
    rw [Int.toNat_natCast] at hi hQ
    unfold hmN at hi hQ
    by_cases h0 : w' = 0
    · rw [if_pos h0] at hi
      rw [if_pos (by omega), hC.2.2.1.1]; exact hi
    rw [if_neg h0] at hi hQ
    rw [if_neg (by omega)]
    by_cases h1 : w' = 1
    · rw [if_pos h1] at hi
      rw [if_pos (by omega), hC.2.2.1.2.2.1]; exact hi
    rw [if_neg h1] at hi hQ
    rw [if_neg (by omega)]
    by_cases h2 : w' = 2
    · rw [if_pos h2] at hi
      rw [if_pos (by omega), hC.2.2.1.2.2.2.1, hC.2.2.1.2.2.1]
      refine (x_bitCount (bset_lt8 (by omega) _)).mpr ?_
      rw [pcn_bset (by omega)]
      refine b_D_count_21.mpr ?_
      have hn := cnt_not (sndB (sE s)) (eN (sE s))
      rw [w32_eq (by omega) (by omega)]
      have e : (eN (sE s) : Int) - (cnt (eN (sE s)) (sndB (sE s)) : Int) = (cnt (eN (sE s)) (fun i => !sndB (sE s) i) : Int) := by omega
      rw [e]; exact hi
    rw [if_neg h2] at hi hQ
    rw [if_neg (by omega)]
    by_cases h3 : w' = 3
    · rw [if_pos h3] at hi
      rw [if_pos (by omega)]
      refine x_countPairs (Or.inl ⟨rfl, rfl⟩) hb hw hC ?_
      exact b_D_count_28.mpr hi
    rw [if_neg h3] at hi hQ
    rw [if_neg (by omega)]
    by_cases h4 : w' = 4
    · rw [if_pos h4] at hi
      rw [if_pos (by omega)]
      refine x_countPairs (Or.inr ⟨rfl, rfl⟩) hb hw hC ?_
      exact b_D_count_34.mpr hi
    rw [if_neg h4] at hi hQ
    rw [if_neg (by omega)]
    by_cases h5 : w' = 5
    · rw [if_pos h5] at hQ
      rw [if_pos (by omega)]
      refine x_countLacked hb hw hC (fun R1 I1 J1 f1 c1 => ?_)
      exact b_D_count_39.mpr (hQ R1 I1 J1 f1.q ⟨b, d, hb, c1⟩)
    rw [if_neg h5] at hi
    rw [if_neg (by omega)]
    by_cases h66 : w' = 6
    · rw [if_pos h66] at hi
      rw [if_pos (by omega)]
      refine x_filledSlots is_114 hDk.2.1 ?_
      exact b_D_count_45.mpr hi
    rw [if_neg h66] at hi
    rw [if_neg (by omega)]
    by_cases h7 : w' = 7
    · rw [if_pos h7] at hi
      rw [if_pos (by omega)]
      refine x_differentTypes is_114 (ok9s hw.2.2.2.2.1) hDk.2.1 ?_
      exact b_D_count_51.mpr hi
    rw [if_neg h7] at hi
    rw [if_neg (by omega)]
    by_cases h8 : w' = 8
    · rw [if_pos h8] at hi
      rw [if_pos (by omega), hDk.2.2.1]; exact hi
    rw [if_neg h8] at hi
    rw [if_neg (by omega)]
    by_cases h9 : w' = 9
    · rw [if_pos h9] at hi
      rw [if_pos (by omega), hC.2.2.2.1.1]; exact hi
    rw [if_neg h9] at hi
    rw [if_neg (by omega), if_pos (by omega), hC.2.2.2.2.1]
    exact hi
  · rw [if_pos hwr] at hi
    rw [if_neg (by omega), if_neg (by omega), if_neg (by omega), if_neg (by omega), if_neg (by omega), if_neg (by omega), if_neg (by omega), if_neg (by omega), if_neg (by omega), if_neg (by omega), if_neg (by omega)]
    exact hi
end XCn
