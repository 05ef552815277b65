-- ===== the class: goals are joined, found =====
section XJo
variable {L : Nat} {R : Nat → Int → Option Nat} {I : Nat → Int → Int} {J : Nat → Int → Int64} {Q : Option MV → MM → Prop} {E : EN} {nC : Nat}
theorem tm_eq {a : Int} (h : 0 ≤ a) : a.tmod 1009 = a % 1009 := Int.tmod_eq_emod_of_nonneg h
theorem x_join {g h n : Nat} {A B : GV} {w : List Nat} {D1 D2 : List (Nat × List Nat)} (hg : isGo g) (hh : isGo h) (hne : h ≠ g) (hn : n < 2) (hA : GbX I J w g A D1 n) (hA1 : A.1 = 1) (hB : GvX I J w h B D2) (hB1 : B.1 = 1) (oA : A.2.1.length ≤ 2000 ∧ 1 ≤ A.2.1.length ∧ 0 ≤ A.2.2.1 ∧ A.2.2.1 ≤ 4000 ∧ 0 ≤ A.2.2.2.1 ∧ A.2.2.2.1 ≤ 100 ∧ A.2.2.2.2 < 256) (oB : okV 9 B) (hQ : ∀ R' I' J', frO g R R' I I' J J' → (∀ k : Int, k ≠ (n : Int) → R' (g + 1) k = R (g + 1) k) → R' (g + 1) (n : Int) = some h → GbX I' J' w g (jn A ((n : Int) + 2) B) (D1 ++ D2) (n + 1) → Q none (S0 L, R', I', J')) : wpC 175 [vR (some g), vR (some h)] (S0 L, R, I, J) Q := by
  obtain ⟨a0, a1, a2, a3, a4, a6, a7, a5⟩ := hA
  obtain ⟨b0, b4, bb⟩ := hB
  obtain ⟨b1, b2, b3, b6, b5⟩ := bb hB1
  rw [if_pos hB1] at b4
  obtain ⟨o1, o2, o3, o4, o5, o6, o7, o8⟩ := oB
  have o2' : (B.2.1.length : Int) + 1 ≤ 512 := o2
  obtain ⟨p1, p2, p3, p4, p5, p6, p7⟩ := oA
  rw [tm_eq p3] at a2
  refine (c_Goal_join hg hh).mpr ?_
  simp only [upM_same, upM_ne hne, upM_i (i' := 1) (i := 7) (by decide), upM_i (i' := 2) (i := 1) (by decide), upM_i (i' := 2) (i := 7) (by decide), upM_i (i' := 7) (i := 1) (by decide), upM_i (i' := 3) (i := 2) (by decide), upM_i (i' := 3) (i := 1) (by decide), upM_i (i' := 3) (i := 7) (by decide)]
  rw [a7, a1, b1, a2, b2, a3, b3, if_pos (by omega), w32_s (by omega)]
  have e1 : w32 ((A.2.1.length : Int) + (B.2.1.length : Int)) = ((A.2.1 ++ B.2.1).length : Int) := by rw [List.length_append, w32_eq (by omega) (by omega)]; omega
  have e2 : (w32 (A.2.2.1 % 1009 + w32 (w32 (((n + 1 : Nat) : Int) + 1) * B.2.2.1))).tmod 1009 = (A.2.2.1 + ((n : Int) + 2) * B.2.2.1).tmod 1009 := by
    have hnn : n = 0 ∨ n = 1 := by omega
    rcases hnn with rfl | rfl
    · have q : w32 (((0 + 1 : Nat) : Int) + 1) = 2 := by decide
      rw [q, w32_eq (z := 2 * B.2.2.1) (by omega) (by omega), w32_eq (by omega) (by omega), tm_eq (by omega)]
      have : A.2.2.1 + (((0 : Nat) : Int) + 2) * B.2.2.1 = A.2.2.1 + 2 * B.2.2.1 := by omega
      rw [this, tm_eq (by omega)]; omega
    · have q : w32 (((1 + 1 : Nat) : Int) + 1) = 3 := by decide
      rw [q, w32_eq (z := 3 * B.2.2.1) (by omega) (by omega), w32_eq (by omega) (by omega), tm_eq (by omega)]
      have : A.2.2.1 + (((1 : Nat) : Int) + 2) * B.2.2.1 = A.2.2.1 + 3 * B.2.2.1 := by omega
      rw [this, tm_eq (by omega)]; omega
  rw [e1, e2]
  refine ⟨⟨by omega, by omega⟩, ?_⟩
  have key : ∀ d : Int, d = mxd A.2.2.2.1 B.2.2.2.1 → wpc 175 56 [vR (some g), vR (some h)] [vI d, vR (some g)] (0, 0) (S0 L, upM R (g + 1) (n : Int) (some h), upM (upM (upM I g 7 ((n + 1 : Nat) : Int)) g 1 ((A.2.1 ++ B.2.1).length : Int)) g 2 ((A.2.2.1 + ((n : Int) + 2) * B.2.2.1).tmod 1009), J) Q := by
    intro d hd
    refine (b_Goal_join_56 hg hh hg).mpr ?_
    have r4 : upM (upM (upM (upM I g 7 ((n + 1 : Nat) : Int)) g 1 ((A.2.1 ++ B.2.1).length : Int)) g 2 ((A.2.2.1 + ((n : Int) + 2) * B.2.2.1).tmod 1009)) g 3 d g 4 = (A.2.2.2.2 : Int) := by rw [upM_i (by decide), upM_i (by decide), upM_i (by decide), upM_i (by decide)]; exact a4
    have r5 : upM (upM (upM (upM I g 7 ((n + 1 : Nat) : Int)) g 1 ((A.2.1 ++ B.2.1).length : Int)) g 2 ((A.2.2.1 + ((n : Int) + 2) * B.2.2.1).tmod 1009)) g 3 d h 4 = (B.2.2.2.2 : Int) := by rw [upM_ne hne, upM_ne hne, upM_ne hne, upM_ne hne]; exact b4
    rw [r4, r5, ior_nat (by omega) (by omega), a5, b5, lor_nat]
    refine hQ _ _ _ ⟨fun a ha => upM_ne ha, fun a ha => by rw [upM_ne ha, upM_ne ha, upM_ne ha, upM_ne ha, upM_ne ha], fun a ha => upM_ne ha⟩ (fun k hk => upM_i hk) upM_same ?_
    unfold jn
    rw [if_pos hA1, if_pos hB1]
    refine ⟨?_, ?_, ?_, ?_, ?_, ?_, ?_, ?_⟩
    · rw [upM_i (by decide), upM_i (by decide), upM_i (by decide), upM_i (by decide), upM_i (by decide)]; exact a0
    · rw [upM_i (by decide), upM_i (by decide), upM_i (by decide), upM_same]
    · rw [upM_i (by decide), upM_i (by decide), upM_same]
    · rw [upM_i (by decide), upM_same]; exact hd
    · rw [upM_same]
    · rw [upM_i (by decide), upM_i (by decide), upM_i (by decide), upM_i (by decide), upM_i (by decide), a6]
      show _ = (A.2.1 ++ B.2.1).getD 0 0
      rw [List.getD_eq_getElem?_getD, List.getD_eq_getElem?_getD, List.getElem?_append_left (by omega)]
    · rw [upM_i (by decide), upM_i (by decide), upM_i (by decide), upM_i (by decide), upM_same]
    · rw [upM_same, wnb_or (D := D1 ++ D2) (D1 := D1) (D2 := D2) (fun k => List.mem_append)]
  have e3 : w32 (B.2.2.2.1 + 1) = B.2.2.2.1 + 1 := w32_eq (by omega) (by omega)
  rw [e3]
  by_cases hd : A.2.2.2.1 ≤ B.2.2.2.1
  · rw [if_pos hd]
    exact key _ (by unfold mxd; rw [if_neg (by omega)])
  · rw [if_neg hd]
    exact key _ (by unfold mxd; rw [if_pos (by omega)])
theorem x_goalAt {c p : Nat} (hc : c < 4) (hp : p < 9) : wpC 165 [vR (some 156), vI (c : Int), vI (p : Int)] (S0 L, R, I, J) Q ↔ Q (some (vR (some (goA c p)))) (S0 L, R, I, J) := by
  have e : w32 (w32 ((c : Int) * 9) + (p : Int)) = ((9 * c + p : Nat) : Int) := by
    rw [w32_eq (z := (c : Int) * 9) (by omega) (by omega), w32_eq (by omega) (by omega)]; omega
  rw [c_Finder_goalAt, if_neg (by omega), if_pos (by omega), if_neg (by omega), if_pos (by omega), if_neg (by decide), e, Int.toNat_natCast]
  exact ⟨fun h => h.2, fun h => ⟨⟨by omega, by omega⟩, h⟩⟩
theorem x_rootOf {c : Nat} (hc : c < 4) : wpC 164 [vR (some 156), vI (c : Int)] (S0 L, R, I, J) Q ↔ Q (some (vR (some (goA c 0)))) (S0 L, R, I, J) := by
  have h0 : ((0 : Nat) : Int) = 0 := rfl
  rw [c_Finder_rootOf, ← h0, x_goalAt hc (by decide)]
  exact b_Finder_rootOf_5 (isGo_goA hc (by decide))
/-- what the kinds say -/
def KnX (I : Nat → Int → Int) (E : EN) : Prop := ∀ k : Nat, k < 5 → I 158 (k : Int) = ((bset (eN E) (fun i => decide (eK E i = k)) : Nat) : Int)
theorem kb_in {E : EN} {a1 b k : Nat} (h6 : eN E ≤ 6) (ha : isP6 L a1) (h158 : a1 ≠ 158) (hb : isBk b) (hbb : b ≠ 158) (hk : k < 5) (rb : R 156 3 = some b) : ∀ (d i : Nat) {I : Nat → Int → Int}, d + i = eN E → I b 4 = (eN E : Int) → (∀ j : Nat, j < eN E → I a1 (j : Int) = (eK E j : Int)) → I 158 (k : Int) = ((bset i (fun i => decide (eK E i = k)) : Nat) : Int) → (∀ I', (∀ a, a ≠ 158 → I' a = I a) → (∀ j : Int, j ≠ (k : Int) → I' 158 j = I 158 j) → I' 158 (k : Int) = ((bset (eN E) (fun i => decide (eK E i = k)) : Nat) : Int) → wpc 166 3 [vR (some 156), vR (some a1), vI ((k + 1 : Nat) : Int), vU] [] (0, 0) (S0 L, R, I', J) Q) → wpc 166 15 [vR (some 156), vR (some a1), vI (k : Int), vI (i : Int)] [] (0, 0) (S0 L, R, I, J) Q := by
  intro d
  induction d with
  | zero =>
    intro i I hi h4 hkd hz hQ
    refine (b_Finder_sortByKind_15 ha rb hb).mpr ?_
    rw [h4, if_neg (by omega), w32_s (by omega)]
    exact hQ I (fun _ _ => rfl) (fun _ _ => rfl) (by rw [hz, show i = eN E by omega])
  | succ d ih =>
    intro i I hi h4 hkd hz hQ
    have h8 := bset_lt8 (n := i) (by omega) (fun i => decide (eK E i = k))
    refine (b_Finder_sortByKind_15 ha rb hb).mpr ?_
    rw [h4, if_pos (by omega), hkd i (by omega), hz, w32_s (p := i) (by omega)]
    refine ⟨⟨by omega, by omega⟩, ?_⟩
    by_cases he : eK E i = k
    · rw [if_pos (by omega), ior1 h8 (by omega), ← bset_t (f := fun i => decide (eK E i = k)) (decide_eq_true he)]
      refine ⟨⟨by omega, by omega⟩, ⟨by omega, by omega⟩, ih (i + 1) (by omega) (by rw [upM_ne hbb]; exact h4) (fun j hj => by rw [upM_ne h158]; exact hkd j hj) upM_same (fun I' f1 f2 f3 => hQ I' (fun a ha => by rw [f1 a ha, upM_ne ha]) (fun j hj => by rw [f2 j hj, upM_i hj]) f3)⟩
    · rw [if_neg (by omega)]
      exact ih (i + 1) (by omega) h4 hkd (by rw [hz, bset_f (f := fun i => decide (eK E i = k)) (decide_eq_false he)]) hQ
theorem x_sortByKind {E : EN} {a1 b : Nat} (h6 : eN E ≤ 6) (ha : isP6 L a1) (h158 : a1 ≠ 158) (hb : isBk b) (hbb : b ≠ 158) (rb : R 156 3 = some b) (h4 : I b 4 = (eN E : Int)) (hkd : ∀ j : Nat, j < eN E → I a1 (j : Int) = (eK E j : Int)) (hQ : ∀ I', (∀ a, a ≠ 158 → I' a = I a) → KnX I' E → Q none (S0 L, R, I', J)) : wpC 166 [vR (some 156), vR (some a1)] (S0 L, R, I, J) Q := by
  refine (c_Finder_sortByKind ha).mpr ?_
  have key : ∀ (d k : Nat) {I1 : Nat → Int → Int}, d + k = 5 → (∀ a, a ≠ 158 → I1 a = I a) → (∀ j : Nat, j < k → I1 158 (j : Int) = ((bset (eN E) (fun i => decide (eK E i = j)) : Nat) : Int)) → wpc 166 3 [vR (some 156), vR (some a1), vI (k : Int), vU] [] (0, 0) (S0 L, R, I1, J) Q := by
    intro d
    induction d with
    | zero =>
      intro k I1 hk f1 hq
      refine (b_Finder_sortByKind_3 ha).mpr ?_
      rw [if_neg (by omega)]
      exact hQ I1 f1 (fun j hj => hq j (by omega))
    | succ d ih =>
      intro k I1 hk f1 hq
      refine (b_Finder_sortByKind_3 ha).mpr ?_
      rw [if_pos (by omega)]
      refine ⟨⟨by omega, by omega⟩, ?_⟩
      refine kb_in h6 ha h158 hb hbb (by omega) rb (eN E) 0 (by omega) (by rw [upM_ne hbb, f1 b hbb]; exact h4) (fun j hj => by rw [upM_ne h158, f1 a1 h158]; exact hkd j hj) upM_same (fun I2 f2 g2 h2 => ?_)
      refine ih (k + 1) (by omega) (fun a ha => by rw [f2 a ha, upM_ne ha, f1 a ha]) (fun j hj => ?_)
      by_cases hjk : j = k
      · rw [hjk]; exact h2
      · rw [g2 _ (by omega), upM_i (by omega)]; exact hq j (by omega)
  exact key 5 0 rfl (fun _ _ => rfl) (fun j hj => by omega)
/-- what is taken, as the class says it -/
def tkX (E : EN) (m : Nat) : Int := if tks E m < 0 then -1 else tks E m
theorem sole_iff {E : EN} {m : Nat} : ∀ n : Nat, soleB E m n = true ↔ ∃ i, i < n ∧ m.testBit i = true ∧ eK E i = 4 := by
  intro n
  induction n with
  | zero => exact ⟨fun h => absurd h (by unfold soleB; decide), fun ⟨i, hi, _⟩ => by omega⟩
  | succ n ih =>
    show (soleB E m n || (m.testBit n && decide (eK E n = 4))) = true ↔ _
    rw [Bool.or_eq_true, ih, Bool.and_eq_true, decide_eq_true_eq]
    constructor
    · rintro (⟨i, h1, h2⟩ | h)
      · exact ⟨i, by omega, h2⟩
      · exact ⟨n, by omega, h⟩
    · rintro ⟨i, h1, h2⟩
      by_cases hin : i = n
      · exact Or.inr (by rw [← hin]; exact h2)
      · exact Or.inl ⟨i, by omega, h2⟩
theorem x_takenOf {b m : Nat} {rt ab : Nat → Nat} (h6 : eN E ≤ 6) (hb : isBk b) (rb : R 156 3 = some b) (hB : BkX I b nC rt ab E) (hK : KnX I E) (hm : m < 2 ^ eN E) (hQ : Q (some (vI (tkX E m))) (S0 L, R, I, J)) : wpC 169 [vR (some 156), vI (m : Int)] (S0 L, R, I, J) Q := by
  have hm8 : m < 256 := Nat.lt_of_lt_of_le hm (Nat.pow_le_pow_right (by decide) (by omega) : 2 ^ eN E ≤ 2 ^ 8)
  have hbit : ∀ e, ¬ e < eN E → m.testBit e = false := fun e he => Nat.testBit_lt_two_pow (Nat.lt_of_lt_of_le hm (Nat.pow_le_pow_right (by decide) (by omega)))
  have k4 : I 158 4 = ((bset (eN E) (fun i => decide (eK E i = 4)) : Nat) : Int) := hK 4 (by decide)
  have k3 : I 158 3 = ((bset (eN E) (fun i => decide (eK E i = 3)) : Nat) : Int) := hK 3 (by decide)
  have k1 : I 158 1 = ((bset (eN E) (fun i => decide (eK E i = 1)) : Nat) : Int) := hK 1 (by decide)
  have l3 := bset_lt8 (n := eN E) (by omega) (fun i => decide (eK E i = 3))
  have l4 := bset_lt8 (n := eN E) (by omega) (fun i => decide (eK E i = 4))
  -- the groups
  have g0 : m &&& (bset (eN E) (fun i => decide (eK E i = 3)) ||| bset (eN E) (fun i => decide (eK E i = 4))) = ofR E m 0 := by
    apply nat_ext
    intro k
    unfold ofR
    rw [Nat.testBit_and, Nat.testBit_or, bset_bit, bset_bit, bset_bit]
    unfold rkF rnk
    by_cases hk : k < eN E
    · rw [decide_eq_true hk]
      by_cases h3 : eK E k = 3
      · rw [if_pos (Or.inl h3), decide_eq_true h3]; simp
      · by_cases h4 : eK E k = 4
        · rw [if_pos (Or.inr h4), decide_eq_true h4]; simp
        · rw [if_neg (by omega), decide_eq_false h3, decide_eq_false h4]
          split <;> simp
    · rw [hbit k hk, decide_eq_false hk]; rfl
  have g1 : ofR E m 0 = 0 → ndf m (bset (eN E) (fun i => decide (eK E i = 1))) = ofR E m 1 := by
    intro h0
    apply nat_ext
    intro k
    have hz := zero_iff.mp h0 k
    unfold ofR at hz ⊢
    rw [ndf_bit, bset_bit, bset_bit]
    rw [bset_bit] at hz
    unfold rkF rnk at hz ⊢
    by_cases hk : k < eN E
    · rw [decide_eq_true hk] at hz ⊢
      by_cases h34 : eK E k = 3 ∨ eK E k = 4
      · rw [if_pos h34] at hz ⊢
        have : m.testBit k = false := by simpa using hz
        rw [this]; rfl
      · rw [if_neg h34]
        by_cases h1 : eK E k = 1
        · rw [if_pos h1, decide_eq_true h1]; simp
        · rw [if_neg h1, decide_eq_false h1]; simp
    · rw [hbit k hk, decide_eq_false hk]; rfl
  have g2 : ofR E m 0 = 0 → ofR E m 1 = 0 → m = ofR E m 2 := by
    intro h0 h1
    apply nat_ext
    intro k
    have hz := zero_iff.mp h0 k
    have hz1 := zero_iff.mp h1 k
    unfold ofR at hz hz1 ⊢
    rw [bset_bit] at hz hz1 ⊢
    unfold rkF at hz hz1 ⊢
    by_cases hk : k < eN E
    · rw [decide_eq_true hk] at hz hz1 ⊢
      have hr : rnk E k = 0 ∨ rnk E k = 1 ∨ rnk E k = 2 := by
        unfold rnk
        split
        · exact Or.inl rfl
        · split
          · exact Or.inr (Or.inr rfl)
          · exact Or.inr (Or.inl rfl)
      rcases hr with hr | hr | hr
      · rw [hr] at hz ⊢
        have : m.testBit k = false := by simpa using hz
        rw [this]; rfl
      · rw [hr] at hz1 ⊢
        have : m.testBit k = false := by simpa using hz1
        rw [this]; rfl
      · rw [hr]; simp
    · rw [hbit k hk, decide_eq_false hk]; rfl
  have hgl : grp E m < 2 ^ eN E := by
    unfold grp
    split
    · split
      · exact bset_lt _ _
      · exact bset_lt _ _
    · exact bset_lt _ _
  have hfin : ∀ z : Nat, z = grp E m → Q (some (vI (bst E (grp E m) (eN E)))) (S0 L, R, I, J) → wpc 169 52 [vU, vU, vU] [vI (z : Int), vR (some b)] (0, 0) (S0 L, R, I, J) Q := by
    intro z hz hq
    refine (b_Finder_takenOf_52 hb).mpr ?_
    rw [hz]
    refine x_mostSpecial hb h6 hB hgl ?_
    exact b_Finder_takenOf_54.mpr hq
  have h17 : Q (some (vI (bst E (grp E m) (eN E)))) (S0 L, R, I, J) → wpc 169 17 [vR (some 156), vI (m : Int), vU] [] (0, 0) (S0 L, R, I, J) Q := by
    intro hq
    refine (b_Finder_takenOf_17 rb hb).mpr ?_
    rw [k3, k4, k1, ior_nat (by omega) (by omega), iand_nat (by omega), iand_not (by omega), g0]
    by_cases h0 : ofR E m 0 = 0
    · rw [if_pos (by omega), g1 h0]
      by_cases h1 : ofR E m 1 = 0
      · rw [if_pos (by omega)]
        exact hfin m (by unfold grp; rw [if_pos h0, if_pos h1]; exact g2 h0 h1) hq
      · rw [if_neg (by omega)]
        exact hfin _ (by unfold grp; rw [if_pos h0, if_neg h1]) hq
    · rw [if_neg (by omega), if_neg (by omega)]
      exact hfin _ (by unfold grp; rw [if_neg h0]) hq
  refine c_Finder_takenOf.mpr ?_
  rw [x_bitCount hm8]
  refine b_Finder_takenOf_3.mpr ?_
  unfold tkX tks at hQ
  by_cases hm0 : m = 0
  · subst hm0
    rw [if_pos (by decide)]
    rw [if_pos rfl, if_pos (by decide)] at hQ
    refine h17 ?_
    have hg0 : grp E 0 = 0 := by
      have : ∀ r, ofR E 0 r = 0 := fun r => bset_zero.mpr (fun k _ => by unfold rkF; rw [Nat.zero_testBit]; rfl)
      unfold grp
      rw [this 0, this 1, this 2, if_pos rfl, if_pos rfl]
    rw [hg0, bst_no (eN E) (fun i _ => Bool.eq_false_iff.mpr (fun h => by have := bstI_in h; rw [Nat.zero_testBit] at this; exact absurd this (by decide)))]
    exact hQ
  · rw [if_neg hm0] at hQ
    have hbr := bst_r E (grp E m) (eN E)
    have hbq : ¬ (1 < pcn 16 m ∧ soleB E m (eN E) = true) → Q (some (vI (bst E (grp E m) (eN E)))) (S0 L, R, I, J) := by
      intro hno
      rw [if_neg hno] at hQ
      by_cases hb1 : bst E (grp E m) (eN E) = -1
      · rw [if_pos hb1, if_pos (by decide)] at hQ
        rw [hb1]; exact hQ
      · rw [if_neg hb1] at hQ
        rcases hbr with h | ⟨i, _, h2, _⟩
        · exact absurd h hb1
        · rw [if_neg (by omega)] at hQ
          exact hQ
    have hsol : m &&& bset (eN E) (fun i => decide (eK E i = 4)) = 0 ↔ ¬ soleB E m (eN E) = true := by
      rw [zero_iff, sole_iff]
      constructor
      · rintro h ⟨i, h1, h2, h3⟩
        have := h i
        rw [Nat.testBit_and, bset_bit, h2, decide_eq_true h1, decide_eq_true h3] at this
        exact absurd this (by decide)
      · intro h k
        rw [Nat.testBit_and, bset_bit]
        cases hk : m.testBit k with
        | false => rfl
        | true =>
          by_cases hk2 : k < eN E
          · by_cases h4 : eK E k = 4
            · exact absurd ⟨k, hk2, hk, h4⟩ h
            · rw [decide_eq_false h4]; simp
          · rw [decide_eq_false hk2]; rfl
    by_cases h1 : 1 < pcn 16 m
    · rw [if_neg (by omega), k4, iand_nat (by omega)]
      by_cases hso : soleB E m (eN E) = true
      · rw [if_neg (fun q => hsol.mp (by omega) hso)]
        have hc : 1 < pcn 16 m ∧ soleB E m (eN E) = true := ⟨h1, hso⟩
        rw [if_pos hc, if_pos (by decide)] at hQ
        exact hQ
      · rw [if_pos (by rw [hsol.mpr hso]; rfl)]
        exact h17 (hbq (fun q => hso q.2))
    · rw [if_pos (by omega)]
      exact h17 (hbq (fun q => h1 q.1))
end XJo
