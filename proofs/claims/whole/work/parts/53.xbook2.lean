-- ===== the class: what a settled book holds; its answers =====
def RuX (I : Nat → Int → Int) (r : Nat) (E : EN) (ab : Nat → Nat) (i : Nat) : Prop := I r 1 = (eO E i : Int) ∧ ShS I (r + 1) (eH E i) ∧ I r 3 = ((eC E i).length : Int) ∧ (∀ k : Nat, k < (eC E i).length → I (r + 5) (k : Int) = (((eC E i).getD k (0, 0)).1 : Int) ∧ I (r + 6) (k : Int) = (((eC E i).getD k (0, 0)).2 : Int)) ∧ I r 6 = ((bset 8 (fun nd => gvn E ab i nd (eC E i).length) : Nat) : Int)
def metB (E : EN) (i e : Nat) : Bool := decide (uni (eH E i) (eH E e) = some true)
def BkX (I : Nat → Int → Int) (b nC : Nat) (rt ab : Nat → Nat) (E : EN) : Prop := I b 0 = (nC : Int) ∧ (∀ c : Nat, c < nC → I (b + 1) (c : Int) = (rt c : Int) ∧ I (b + 2) (c : Int) = (ab c : Int) ∧ I (b + 3) (c : Int) = ((bset (eN E) (fun i => decide (eO E i = c)) : Nat) : Int)) ∧ I b 4 = (eN E : Int) ∧ I b 6 = ((bset (eN E) (sndB E) : Nat) : Int) ∧ ∀ i : Nat, i < eN E → RuX I (b + 8 + 7 * i) E ab i ∧ I (b + 5) (i : Int) = ((bset (eN E) (spc E i) : Nat) : Int) ∧ I (b + 6) (i : Int) = ((bset (eN E) (metB E i) : Nat) : Int)
theorem BkX.fr {I I' : Nat → Int → Int} {b nC : Nat} {rt ab : Nat → Nat} {E : EN} (h : BkX I b nC rt ab E) (h6 : eN E ≤ 6) (f : ∀ a, b ≤ a → a < b + 50 → I' a = I a) : BkX I' b nC rt ab E := by
  obtain ⟨h1, h2, h3, h4, h5⟩ := h
  refine ⟨by rw [f b (by omega) (by omega)]; exact h1, fun c hc => by rw [f (b + 1) (by omega) (by omega), f (b + 2) (by omega) (by omega), f (b + 3) (by omega) (by omega)]; exact h2 c hc, by rw [f b (by omega) (by omega)]; exact h3, by rw [f b (by omega) (by omega)]; exact h4, fun i hi => ?_⟩
  obtain ⟨⟨r1, r2, r3, r4, r5⟩, g2, g3⟩ := h5 i hi
  refine ⟨⟨?_, ?_, ?_, fun k hk => ?_, ?_⟩, ?_, ?_⟩
  · rw [f _ (by omega) (by omega)]; exact r1
  · exact r2.fr (by rw [f _ (by omega) (by omega)]) (f _ (by omega) (by omega)) (f _ (by omega) (by omega)) (f _ (by omega) (by omega))
  · rw [f _ (by omega) (by omega)]; exact r3
  · rw [f _ (by omega) (by omega), f _ (by omega) (by omega)]; exact r4 k hk
  · rw [f _ (by omega) (by omega)]; exact r5
  · rw [f _ (by omega) (by omega)]; exact g2
  · rw [f _ (by omega) (by omega)]; exact g3
theorem bstI_iff {E : EN} {m i : Nat} : ∀ n : Nat, bstI E m i n = true ↔ m.testBit i = true ∧ ∀ e, e < n → e = i ∨ m.testBit e = false ∨ spc E i e = true := by
  intro n
  induction n with
  | zero => exact ⟨fun h => ⟨h, fun e he => by omega⟩, fun h => h.1⟩
  | succ n ih =>
    show (bstI E m i n && (decide (n = i) || !m.testBit n || spc E i n)) = true ↔ _
    rw [Bool.and_eq_true, ih, Bool.or_eq_true, Bool.or_eq_true, decide_eq_true_eq]
    constructor
    · rintro ⟨⟨h1, h2⟩, h3⟩
      refine ⟨h1, fun e he => ?_⟩
      by_cases hen : e = n
      · subst hen
        rcases h3 with (h3 | h3) | h3
        · exact Or.inl h3
        · exact Or.inr (Or.inl (by simpa using h3))
        · exact Or.inr (Or.inr h3)
      · exact h2 e (by omega)
    · rintro ⟨h1, h2⟩
      refine ⟨⟨h1, fun e he => h2 e (by omega)⟩, ?_⟩
      rcases h2 n (by omega) with h | h | h
      · exact Or.inl (Or.inl h)
      · exact Or.inl (Or.inr (by rw [h]; rfl))
      · exact Or.inr h
theorem bst_uq {E : EN} {m i j : Nat} (hi : i < eN E) (hj : j < eN E) (h1 : bstI E m i (eN E) = true) (h2 : bstI E m j (eN E) = true) : i = j := by
  obtain ⟨a1, a2⟩ := (bstI_iff _).mp h1
  obtain ⟨b1, b2⟩ := (bstI_iff _).mp h2
  rcases a2 j hj with h | h | h
  · exact h.symm
  · rw [h] at b1; exact absurd b1 (by decide)
  · rcases b2 i hi with g | g | g
    · exact g
    · rw [g] at a1; exact absurd a1 (by decide)
    · unfold spc at h g
      rw [Bool.and_eq_true] at h g
      rw [g.1] at h
      exact absurd h.2 (by decide)
theorem bst_no {E : EN} {m : Nat} : ∀ n : Nat, (∀ i, i < n → bstI E m i (eN E) = false) → bst E m n = -1 := by
  intro n
  induction n with
  | zero => intro _; rfl
  | succ n ih =>
    intro h
    unfold bst
    rw [if_neg (by rw [h n (by omega)]; decide)]
    exact ih (fun i hi => h i (by omega))
theorem bst_is {E : EN} {m i : Nat} (hi : i < eN E) (h : bstI E m i (eN E) = true) : bst E m (eN E) = (i : Int) := by
  have key : ∀ n, i < n → n ≤ eN E → bst E m n = (i : Int) := by
    intro n
    induction n with
    | zero => intro h1; omega
    | succ n ih =>
      intro h1 h2
      unfold bst
      by_cases hn : bstI E m n (eN E) = true
      · rw [if_pos hn, bst_uq hi (by omega) h hn]
      · rw [if_neg hn]
        have hne : i ≠ n := fun q => hn (by rw [← q]; exact h)
        exact ih (by omega) (by omega)
  exact key (eN E) hi (Nat.le_refl _)
theorem nat_ext {a b : Nat} (h : ∀ k, a.testBit k = b.testBit k) : a = b := Nat.eq_of_testBit_eq h
theorem ndf_self {g i : Nat} : ndf g (2 ^ i) = g ↔ g.testBit i = false := by
  constructor
  · intro h
    have := ndf_bit g (2 ^ i) i
    rw [h, Nat.testBit_two_pow_self] at this
    rw [this]; simp
  · intro h
    apply nat_ext
    intro k
    rw [ndf_bit, Nat.testBit_two_pow]
    by_cases hk : i = k
    · subst hk; rw [h]; rfl
    · rw [decide_eq_false hk]; simp
theorem zero_iff {a : Nat} : a = 0 ↔ ∀ k, a.testBit k = false := by
  constructor
  · intro h k; rw [h]; exact Nat.zero_testBit k
  · intro h
    apply nat_ext
    intro k
    rw [h k, Nat.zero_testBit]
theorem and_pow {a e : Nat} : a &&& 2 ^ e = 0 ↔ a.testBit e = false := by
  rw [zero_iff]
  constructor
  · intro h
    have := h e
    rw [Nat.testBit_and, Nat.testBit_two_pow_self, Bool.and_true] at this
    exact this
  · intro h k
    rw [Nat.testBit_and, Nat.testBit_two_pow]
    by_cases hk : e = k
    · subst hk; rw [h]; rfl
    · rw [decide_eq_false hk, Bool.and_false]
section XBq
variable {L : Nat} {R : Nat → Int → Option Nat} {I : Nat → Int → Int} {J : Nat → Int → Int64} {Q : Option MV → MM → Prop} {E : EN} {nC b : Nat} {rt ab : Nat → Nat}
theorem x_needBit {c v : Nat} (hc : c < 4) (hv : v < 2) : wpC 29 [vI (c : Int), vI (v : Int)] (S0 L, R, I, J) Q ↔ Q (some (vI ((2 ^ (2 * c + v) : Nat) : Int))) (S0 L, R, I, J) := by
  rw [c_D_needBit]
  have e : w32 (w32 (2 * (c : Int)) + (v : Int)) = ((2 * c + v : Nat) : Int) := by
    rw [w32_eq (z := 2 * (c : Int)) (by omega) (by omega), w32_eq (by omega) (by omega)]; omega
  rw [e, ishl_nat _ (by omega)]
theorem x_isFiner (hb : isBk b) (h6 : eN E ≤ 6) (hB : BkX I b nC rt ab E) {i e : Nat} (hi : i < eN E) (he : e < eN E) : wpC 149 [vR (some b), vI (i : Int), vI (e : Int)] (S0 L, R, I, J) Q ↔ Q (some (vI (bi (spc E i e = true)))) (S0 L, R, I, J) := by
  rw [c_Book_isFiner hb, (hB.2.2.2.2 i hi).2.1, ishr_256 e (by omega) _ (bset_lt8 (by omega) _), bset_bit, decide_eq_true he, Bool.true_and]
  cases h : spc E i e
  · rw [if_neg (by decide), bi_f (by decide)]
    exact ⟨fun q => q.2, fun q => ⟨⟨by omega, by omega⟩, q⟩⟩
  · rw [if_pos (by decide), bi_t rfl]
    exact ⟨fun q => q.2, fun q => ⟨⟨by omega, by omega⟩, q⟩⟩
theorem x_canMeet (hb : isBk b) (h6 : eN E ≤ 6) (hB : BkX I b nC rt ab E) {i e : Nat} (hi : i < eN E) (he : e < eN E) : wpC 150 [vR (some b), vI (i : Int), vI (e : Int)] (S0 L, R, I, J) Q ↔ Q (some (vI (bi (metB E i e = true)))) (S0 L, R, I, J) := by
  rw [c_Book_canMeet hb, (hB.2.2.2.2 i hi).2.2, ishr_256 e (by omega) _ (bset_lt8 (by omega) _), bset_bit, decide_eq_true he, Bool.true_and]
  cases h : metB E i e
  · rw [if_neg (by decide), bi_f (by decide)]
    exact ⟨fun q => q.2, fun q => ⟨⟨by omega, by omega⟩, q⟩⟩
  · rw [if_pos (by decide), bi_t rfl]
    exact ⟨fun q => q.2, fun q => ⟨⟨by omega, by omega⟩, q⟩⟩
theorem x_mostSpecial (hb : isBk b) (h6 : eN E ≤ 6) (hB : BkX I b nC rt ab E) {g : Nat} (hg : g < 2 ^ eN E) (hQ : Q (some (vI (bst E g (eN E)))) (S0 L, R, I, J)) : wpC 151 [vR (some b), vI (g : Int)] (S0 L, R, I, J) Q := by
  have hg8 : g < 256 := Nat.lt_of_lt_of_le hg (Nat.pow_le_pow_right (by decide) (by omega) : 2 ^ eN E ≤ 2 ^ 8)
  have hbits : ∀ e, g.testBit e = true → e < eN E := by
    intro e he
    refine Nat.lt_of_not_le (fun h => ?_)
    rw [Nat.testBit_lt_two_pow (Nat.lt_of_lt_of_le hg (Nat.pow_le_pow_right (by decide) h))] at he
    exact absurd he (by decide)
  refine (c_Book_mostSpecial hb).mpr ?_
  have key : ∀ d i : Nat, d + i = eN E → (∀ j, j < i → bstI E g j (eN E) = false) → wpc 151 3 [vR (some b), vI (g : Int), vI (i : Int), vU] [] (0, 0) (S0 L, R, I, J) Q := by
    intro d
    induction d with
    | zero =>
      intro i hi hn
      refine (b_Book_mostSpecial_3 hb).mpr ?_
      rw [hB.2.2.1, if_neg (by omega)]
      rw [bst_no (eN E) (fun j hj => hn j (by omega))] at hQ
      exact hQ
    | succ d ih =>
      intro i hi hn
      have hi2 : i < eN E := by omega
      refine (b_Book_mostSpecial_3 hb).mpr ?_
      rw [hB.2.2.1, if_pos (by omega), ishl_nat i (by omega), iand_not (by omega), w32_s (by omega), (hB.2.2.2.2 i hi2).2.1, iand_not (Nat.lt_of_le_of_lt (ndf_le _ _) (by omega))]
      have hnx : bstI E g i (eN E) = false → wpc 151 3 [vR (some b), vI (g : Int), vI ((i + 1 : Nat) : Int), vU] [] (0, 0) (S0 L, R, I, J) Q := by
        intro h
        refine ih (i + 1) (by omega) (fun j hj => ?_)
        by_cases hji : j = i
        · rw [hji]; exact h
        · exact hn j (by omega)
      by_cases hb : g.testBit i = true
      · rw [if_neg (fun q => by
          have := ndf_self.mp (Int.ofNat.inj q)
          rw [this] at hb
          exact absurd hb (by decide))]
        refine ⟨⟨by omega, by omega⟩, ?_⟩
        by_cases hz : ndf (ndf g (2 ^ i)) (bset (eN E) (spc E i)) = 0
        · rw [if_pos (by rw [hz]; rfl)]
          have hin : bstI E g i (eN E) = true := by
            refine (bstI_iff _).mpr ⟨hb, fun e he => ?_⟩
            have h0 := zero_iff.mp hz e
            rw [ndf_bit, ndf_bit, bset_bit, decide_eq_true he, Bool.true_and, Nat.testBit_two_pow] at h0
            by_cases hei : e = i
            · exact Or.inl hei
            · rw [decide_eq_false (fun q => hei q.symm)] at h0
              cases hge : g.testBit e with
              | false => exact Or.inr (Or.inl rfl)
              | true =>
                rw [hge] at h0
                refine Or.inr (Or.inr ?_)
                cases hsp : spc E i e with
                | true => rfl
                | false => rw [hsp] at h0; exact absurd h0 (by decide)
          rw [bst_is hi2 hin] at hQ
          exact hQ
        · rw [if_neg (by omega)]
          refine hnx (Bool.eq_false_iff.mpr (fun h => hz (zero_iff.mpr (fun e => ?_))))
          obtain ⟨_, h2⟩ := (bstI_iff _).mp h
          rw [ndf_bit, ndf_bit, bset_bit, Nat.testBit_two_pow]
          cases hge : g.testBit e with
          | false => rfl
          | true =>
            have he := hbits e hge
            rw [decide_eq_true he, Bool.true_and]
            rcases h2 e he with q | q | q
            · rw [decide_eq_true q.symm]; rfl
            · rw [q] at hge; exact absurd hge (by decide)
            · rw [q]; simp
      · rw [if_pos (by rw [ndf_self.mpr (Bool.eq_false_iff.mpr hb)])]
        exact hnx (Bool.eq_false_iff.mpr (fun h => hb (bstI_in h)))
  exact key (eN E) 0 (by omega) (fun j hj => by omega)
/-- the needs above a class, at a variable -/
def nab (ab : Nat → Nat) (c v n : Nat) : Nat := bset 8 (fun k => decide (k % 2 = v) && (decide (k / 2 < n) && (ab c).testBit (k / 2)))
theorem nab_step {c v n : Nat} (hv : v < 2) (hn : n < 4) : nab ab c v (n + 1) = nab ab c v n ||| (if (ab c).testBit n = true then 2 ^ (2 * n + v) else 0) := by
  apply nat_ext
  intro k
  unfold nab
  rw [Nat.testBit_or, bset_bit, bset_bit]
  by_cases hk : k = 2 * n + v
  · subst hk
    have e1 : (2 * n + v) % 2 = v := by omega
    have e2 : (2 * n + v) / 2 = n := by omega
    rw [e1, e2, decide_eq_true (show 2 * n + v < 8 by omega), decide_eq_true (show n < n + 1 by omega), decide_eq_false (show ¬ n < n by omega), decide_eq_true rfl]
    cases h : (ab c).testBit n
    · simp
    · simp
  · have hz : (if (ab c).testBit n = true then 2 ^ (2 * n + v) else 0).testBit k = false := by
      split
      · rw [Nat.testBit_two_pow]; exact decide_eq_false (fun q => hk q.symm)
      · exact Nat.zero_testBit _
    rw [hz, Bool.or_false]
    by_cases hkv : k % 2 = v
    · have : (k / 2 < n + 1) ↔ (k / 2 < n) := by omega
      rw [decide_eq_decide.mpr this]
    · rw [decide_eq_false hkv]; rfl
theorem nab_lt (c v n : Nat) : nab ab c v n < 256 := bset_lt8 (by decide) _
theorem x_needsAbove (hC : wfC nC rt ab) (hb : isBk b) (hB : ∀ c : Nat, c < nC → I (b + 2) (c : Int) = (ab c : Int)) {c v : Nat} (hc : c < nC) (hv : v < 2) (hQ : Q (some (vI ((nab ab c v c : Nat) : Int))) (S0 L, R, I, J)) : wpC 153 [vR (some b), vI (c : Int), vI (v : Int)] (S0 L, R, I, J) Q := by
  have hC4 := hC.1
  refine (c_Book_needsAbove hb).mpr ?_
  have e0 : ((nab ab c v 0 : Nat) : Int) = 0 := by
    have : nab ab c v 0 = 0 := bset_zero.mpr (fun k _ => by rw [decide_eq_false (show ¬ k / 2 < 0 by omega)]; simp)
    rw [this]; rfl
  have key : ∀ d n : Nat, d + n = c → wpc 153 5 [vR (some b), vI (c : Int), vI (v : Int), vI ((nab ab c v n : Nat) : Int), vI (n : Int)] [] (0, 0) (S0 L, R, I, J) Q := by
    intro d
    induction d with
    | zero =>
      intro n hn
      refine (b_Book_needsAbove_5 hb).mpr ?_
      rw [if_neg (by omega), show n = c by omega]
      exact hQ
    | succ d ih =>
      intro n hn
      have h2 := ih (n + 1) (by omega)
      rw [nab_step hv (by omega)] at h2
      refine (b_Book_needsAbove_5 hb).mpr ?_
      rw [if_pos (by omega), hB c hc, ishr_256 n (by omega) _ (pow16 (by omega) (hC.2 c hc).2), w32_s (by omega)]
      refine ⟨⟨by omega, by omega⟩, ?_⟩
      by_cases ht : (ab c).testBit n = true
      · rw [if_pos ht, if_pos rfl, x_needBit (by omega) hv]
        rw [if_pos ht] at h2
        refine (b_Book_needsAbove_25 hb).mpr ?_
        have hl := nab_lt (ab := ab) c v n
        have hp : 2 ^ (2 * n + v) < 256 := pow8 (by omega)
        rw [ior_nat (by omega) (by omega), w32_s (by omega)]
        exact h2
      · rw [if_neg ht, if_neg (by decide)]
        rw [if_neg ht, Nat.or_zero] at h2
        exact h2
  have := key c 0 (by omega)
  rw [e0] at this
  exact this
def covF (ab : Nat → Nat) (a k : Nat) : Nat → Bool
  | 0 => false
  | e + 1 => covF ab a k e || (a.testBit e && decide (e % 2 = k % 2) && (ab (e / 2)).testBit (k / 2))
theorem pln_cov (a k : Nat) : ∀ n : Nat, plnF ab a k n = (a.testBit k && !covF ab a k n) := by
  intro n
  induction n with
  | zero => show a.testBit k = _; unfold covF; simp
  | succ n ih =>
    show (plnF ab a k n && !(a.testBit n && decide (n % 2 = k % 2) && (ab (n / 2)).testBit (k / 2))) = (a.testBit k && !(covF ab a k n || (a.testBit n && decide (n % 2 = k % 2) && (ab (n / 2)).testBit (k / 2))))
    rw [ih]
    cases a.testBit k <;> cases covF ab a k n <;> simp
theorem x_plainOf (hC : wfC nC rt ab) (hb : isBk b) (h0 : I b 0 = (nC : Int)) (hB : ∀ c : Nat, c < nC → I (b + 2) (c : Int) = (ab c : Int)) {a : Nat} (ha : a < 2 ^ (2 * nC)) (hQ : Q (some (vI (pln ab a : Int))) (S0 L, R, I, J)) : wpC 152 [vR (some b), vI (a : Int)] (S0 L, R, I, J) Q := by
  have hC4 := hC.1
  have ha8 := nd_lt ha hC4
  have hcl : ∀ n, bset 8 (fun k => covF ab a k n) < 256 := fun n => bset_lt8 (by decide) _
  refine (c_Book_plainOf hb).mpr ?_
  have hfin : pln ab a = ndf a (bset 8 (fun k => covF ab a k (2 * nC))) := by
    apply nat_ext
    intro k
    unfold pln
    rw [bset_bit, ndf_bit, bset_bit]
    by_cases hk : k < 8
    · rw [decide_eq_true hk, Bool.true_and, Bool.true_and, pln_cov]
      have hcut : ∀ n, 2 * nC ≤ n → covF ab a k n = covF ab a k (2 * nC) := by
        intro n hn
        induction hn with
        | refl => rfl
        | step hm ih =>
          rename_i m
          show (covF ab a k m || (a.testBit m && _ && _)) = _
          have hz : a.testBit m = false := Nat.testBit_lt_two_pow (Nat.lt_of_lt_of_le ha (Nat.pow_le_pow_right (by decide) hm))
          rw [ih, hz]; simp
      rw [hcut 8 (by omega)]
    · have hz : a.testBit k = false := Nat.testBit_lt_two_pow (Nat.lt_of_lt_of_le ha8 (Nat.pow_le_pow_right (by decide) (by omega) : 2 ^ 8 ≤ 2 ^ k))
      rw [hz, decide_eq_false hk]; rfl
  have hstep : ∀ c v : Nat, c < nC → v < 2 → bset 8 (fun k => covF ab a k (2 * c + v + 1)) = (if a.testBit (2 * c + v) = true then bset 8 (fun k => covF ab a k (2 * c + v)) ||| nab ab c v c else bset 8 (fun k => covF ab a k (2 * c + v))) := by
    intro c v hc hv
    have e1 : (2 * c + v) % 2 = v := by omega
    have e2 : (2 * c + v) / 2 = c := by omega
    apply nat_ext
    intro k
    have hd : ∀ k, covF ab a k (2 * c + v + 1) = (covF ab a k (2 * c + v) || (a.testBit (2 * c + v) && decide (v = k % 2) && (ab c).testBit (k / 2))) := fun k => by
      show (covF ab a k (2 * c + v) || (a.testBit (2 * c + v) && decide ((2 * c + v) % 2 = k % 2) && (ab ((2 * c + v) / 2)).testBit (k / 2))) = _
      rw [e1, e2]
    rw [bset_bit, hd]
    by_cases ht : a.testBit (2 * c + v) = true
    · rw [if_pos ht, Nat.testBit_or, bset_bit, ht]
      unfold nab
      rw [bset_bit]
      by_cases hk : k < 8
      · rw [decide_eq_true hk, Bool.true_and, Bool.true_and, Bool.true_and, Bool.true_and]
        congr 1
        rw [decide_eq_decide.mpr (show (v = k % 2) ↔ (k % 2 = v) by omega)]
        congr 1
        by_cases hkc : k / 2 < c
        · rw [decide_eq_true hkc, Bool.true_and]
        · rw [decide_eq_false hkc, Bool.false_and]
          exact Nat.testBit_lt_two_pow (Nat.lt_of_lt_of_le (hC.2 c hc).2 (Nat.pow_le_pow_right (by decide) (by omega)))
      · rw [decide_eq_false hk]; rfl
    · rw [if_neg ht, bset_bit, Bool.eq_false_iff.mpr ht]; simp
  have key : ∀ d c : Nat, d + c = nC → wpc 152 5 [vR (some b), vI (a : Int), vI ((bset 8 (fun k => covF ab a k (2 * c)) : Nat) : Int), vI (c : Int), vU] [] (0, 0) (S0 L, R, I, J) Q := by
    intro d
    induction d with
    | zero =>
      intro c hc
      refine (b_Book_plainOf_5 hb).mpr ?_
      rw [h0, if_neg (by omega), iand_not (by omega), show c = nC by omega, ← hfin]
      exact hQ
    | succ d ih =>
      intro c hc
      have hcn : c < nC := by omega
      refine (b_Book_plainOf_5 hb).mpr ?_
      rw [h0, if_pos (by omega)]
      have kin : ∀ d2 v : Nat, d2 + v = 2 → wpc 152 13 [vR (some b), vI (a : Int), vI ((bset 8 (fun k => covF ab a k (2 * c + v)) : Nat) : Int), vI (c : Int), vI (v : Int)] [] (0, 0) (S0 L, R, I, J) Q := by
        intro d2
        induction d2 with
        | zero =>
          intro v hv
          refine (b_Book_plainOf_13 hb).mpr ?_
          rw [if_neg (by omega), w32_s (by omega)]
          have := ih (c + 1) (by omega)
          rw [show 2 * c + v = 2 * (c + 1) by omega]
          exact this
        | succ d2 ih2 =>
          intro v hv
          have h2 := ih2 (v + 1) (by omega)
          rw [show 2 * c + (v + 1) = 2 * c + v + 1 by omega, hstep c v hcn (by omega)] at h2
          refine (b_Book_plainOf_13 hb).mpr ?_
          rw [if_pos (by omega), x_needBit (by omega) (by omega)]
          refine (b_Book_plainOf_22 hb).mpr ?_
          rw [iand_nat (by omega), w32_s (by omega)]
          by_cases ht : a.testBit (2 * c + v) = true
          · rw [if_neg (fun q => by
              have := and_pow.mp (Int.ofNat.inj q)
              rw [this] at ht
              exact absurd ht (by decide))]
            rw [if_pos ht] at h2
            refine x_needsAbove hC hb hB hcn (by omega) ?_
            refine (b_Book_plainOf_31 hb).mpr ?_
            have := hcl (2 * c + v)
            have := nab_lt (ab := ab) c v c
            rw [ior_nat (by omega) (by omega), w32_s (by omega)]
            exact h2
          · rw [if_pos (by rw [and_pow.mpr (Bool.eq_false_iff.mpr ht)]; rfl)]
            rw [if_neg ht] at h2
            exact h2
      exact kin 2 0 rfl
  have e0 : ((bset 8 (fun k => covF ab a k (2 * 0)) : Nat) : Int) = 0 := by
    have : bset 8 (fun k => covF ab a k (2 * 0)) = 0 := bset_zero.mpr (fun k _ => rfl)
    rw [this]; rfl
  have := key nC 0 (by omega)
  rw [e0] at this
  exact this
end XBq
