-- ===== the class settles a book: classes, instances =====
def RuW (I : Nat → Int → Int) (r : Nat) (E : EN) (i : Nat) : Prop := I r 0 = (eK E i : Int) ∧ I r 1 = (eO E i : Int) ∧ ShW I (r + 1) (eH E i) ∧ I r 3 = ((eC E i).length : Int) ∧ ∀ k : Nat, k < (eC E i).length → I (r + 5) (k : Int) = (((eC E i).getD k (0, 0)).1 : Int) ∧ I (r + 6) (k : Int) = (((eC E i).getD k (0, 0)).2 : Int)
theorem RuW.fr {I I' : Nat → Int → Int} {r i : Nat} {E : EN} (h : RuW I r E i) (f0 : ∀ j : Int, j ≠ 6 → I' r j = I r j) (f1 : I' (r + 1) = I (r + 1)) (f2 : I' (r + 2) = I (r + 2)) (f5 : I' (r + 5) = I (r + 5)) (f6 : I' (r + 6) = I (r + 6)) : RuW I' r E i := by
  obtain ⟨h1, h2, h3, h4, h5⟩ := h
  exact ⟨by rw [f0 0 (by decide)]; exact h1, by rw [f0 1 (by decide)]; exact h2, h3.fr (by rw [f1]) f2, by rw [f0 3 (by decide)]; exact h4, fun k hk => by rw [f5, f6]; exact h5 k hk⟩
theorem RuX.fr {I I' : Nat → Int → Int} {r i : Nat} {E : EN} {ab : Nat → Nat} (h : RuX I r E ab i) (f : ∀ a, r ≤ a → a < r + 7 → I' a = I a) : RuX I' r E ab i := by
  obtain ⟨h1, h2, h3, h4, h5⟩ := h
  refine ⟨by rw [f r (by omega) (by omega)]; exact h1, h2.fr (by rw [f (r + 1) (by omega) (by omega)]) (f _ (by omega) (by omega)) (f _ (by omega) (by omega)) (f _ (by omega) (by omega)), by rw [f r (by omega) (by omega)]; exact h3, fun k hk => by rw [f (r + 5) (by omega) (by omega), f (r + 6) (by omega) (by omega)]; exact h4 k hk, by rw [f r (by omega) (by omega)]; exact h5⟩
theorem absL_last (rt : Nat → Nat) (c : Nat) : (absL rt (c + 1)).getD c 0 = abr (rt c) (absL rt c) c := by
  show (absL rt c ++ [_]).getD c 0 = _
  rw [getD_app, absL_len, if_neg (by omega), if_pos rfl]
section XSe
variable {L : Nat} {R : Nat → Int → Option Nat} {I : Nat → Int → Int} {J : Nat → Int → Int64} {Q : Option MV → MM → Prop} {E : EN} {nC b : Nat} {rt ab : Nat → Nat}
theorem sc_loop {c : Nat} (hb : isBk b) (hc : c < 4) (hlt : ∀ c', c' ≤ c → rt c' < 2 ^ c') : ∀ (d e : Nat) {I : Nat → Int → Int}, d + e = c → I (b + 1) (c : Int) = (rt c : Int) → (∀ e' : Nat, e' < c → I (b + 2) (e' : Int) = ((absL rt c).getD e' 0 : Int)) → I (b + 2) (c : Int) = (abr (rt c) (absL rt c) e : Int) → (∀ I', (∀ a, a ≠ b + 2 → I' a = I a) → (∀ j : Int, j ≠ (c : Int) → I' (b + 2) j = I (b + 2) j) → I' (b + 2) (c : Int) = (abr (rt c) (absL rt c) c : Int) → Q none (S0 L, R, I', J)) → wpc 146 16 [vR (some b), vI (c : Int), vI (e : Int)] [] (0, 0) (S0 L, R, I, J) Q := by
  have hal := absL_lt (rs := rt) (n := c) (fun c' h => hlt c' (by omega))
  have hrl : ∀ e, e ≤ c → abr (rt c) (absL rt c) e < 256 := fun e he => pow16 (by omega) (abr_lt (hlt c (Nat.le_refl _)) hal e he)
  intro d
  induction d with
  | zero =>
    intro e I hd h1 h2 hce hQ
    refine (b_Book_settleClass_16 hb).mpr ?_
    rw [if_neg (by omega)]
    have : e = c := by omega
    subst this
    exact hQ I (fun _ _ => rfl) (fun _ _ => rfl) hce
  | succ d ih =>
    intro e I hd h1 h2 hce hQ
    refine (b_Book_settleClass_16 hb).mpr ?_
    rw [if_pos (by omega), h1, ishr_256 e (by omega) _ (pow16 (by omega) (hlt c (Nat.le_refl _))), w32_s (by omega)]
    refine ⟨⟨by omega, by omega⟩, ?_⟩
    have he0 : abr (rt c) (absL rt c) (e + 1) = abr (rt c) (absL rt c) e ||| (if (rt c).testBit e then (absL rt c).getD e 0 else 0) := rfl
    have hr1 := hrl e (by omega)
    by_cases ht : (rt c).testBit e = true
    · rw [if_pos ht, if_pos rfl, hce, h2 e (by omega), ior_nat (by omega) (by have := pow16 (c := e) (by omega) (hal e (by omega)); omega)]
      refine ⟨⟨by omega, by omega⟩, ⟨by omega, by omega⟩, ⟨by omega, by omega⟩, ih (e + 1) (by omega) (by rw [upM_ne (by omega)]; exact h1) (fun e' he' => by rw [upM_i (by omega)]; exact h2 e' he') (by rw [upM_same, he0, if_pos ht]) (fun I' f1 f2 f3 => hQ I' (fun a ha => by rw [f1 a ha, upM_ne ha]) (fun j hj => by rw [f2 j hj, upM_i hj]) f3)⟩
    · rw [if_neg ht, if_neg (by decide)]
      exact ih (e + 1) (by omega) h1 h2 (by rw [hce, he0, if_neg ht, Nat.or_zero]) hQ
theorem x_settleClass {c : Nat} (hb : isBk b) (hc : c < 4) (hlt : ∀ c', c' ≤ c → rt c' < 2 ^ c') (h1 : I (b + 1) (c : Int) = (rt c : Int)) (h2 : ∀ e' : Nat, e' < c → I (b + 2) (e' : Int) = ((absL rt c).getD e' 0 : Int)) (hQ : ∀ I', (∀ a, a ≠ b + 2 → a ≠ b + 3 → I' a = I a) → (∀ j : Int, j ≠ (c : Int) → I' (b + 2) j = I (b + 2) j ∧ I' (b + 3) j = I (b + 3) j) → I' (b + 2) (c : Int) = ((absL rt (c + 1)).getD c 0 : Int) → I' (b + 3) (c : Int) = 0 → Q none (S0 L, R, I', J)) : wpC 146 [vR (some b), vI (c : Int)] (S0 L, R, I, J) Q := by
  refine (c_Book_settleClass hb).mpr ⟨⟨by omega, by omega⟩, ⟨by omega, by omega⟩, ⟨by omega, by omega⟩, ?_⟩
  refine sc_loop hb hc hlt c 0 (by omega) (by rw [upM_ne (by omega), upM_ne (by omega)]; exact h1) (fun e' he' => by rw [upM_i (by omega), upM_ne (by omega)]; exact h2 e' he') (by rw [upM_same, upM_ne (by omega)]; exact h1) (fun I' f1 f2 f3 => ?_)
  refine hQ I' (fun a p1 p2 => by rw [f1 a p1, upM_ne p1, upM_ne p2]) (fun j hj => ⟨by rw [f2 j hj, upM_i hj, upM_ne (by omega)], by rw [f1 (b + 3) (by omega), upM_ne (by omega), upM_i hj]⟩) (by rw [f3, absL_last]) (by rw [f1 (b + 3) (by omega), upM_ne (by omega), upM_same])
theorem x_isSound {r i : Nat} (hr : isRu r) (hW : RuW I r E i) (hh : wfN (eH E i) 1 = true) (hl : (eH E i).length ≤ 5) (hQ : Q (some (vI (bi (sndB E i = true)))) (S0 L, R, I, J)) : wpC 203 [vR (some r)] (S0 L, R, I, J) Q := by
  refine (c_Rule_isSound hr).mpr ?_
  rw [hW.2.2.2.1]
  by_cases h0 : eC E i = []
  · rw [if_pos (by rw [h0]; rfl)]
    have hs : sndB E i = true := by unfold sndB; rw [h0]; rfl
    rw [bi_t hs] at hQ
    exact hQ
  · have hn : ¬ (eC E i).length = 0 := fun h => h0 (List.length_eq_zero_iff.mp h)
    rw [if_neg (by omega)]
    have h6 := ok6 (Or.inr ⟨hh, by omega⟩ : eH E i = [] ∨ _)
    have hp : 0 < (eH E i).length := List.length_pos_iff.mpr (ne_wf1 hh)
    refine (x_variableAt (is_Ru2 hr) h6 (by omega) hW.2.2.1 (p := 0) hp).mpr ?_
    refine b_Rule_isSound_9.mpr ?_
    have hs : sndB E i = decide ((eH E i).getD 0 0 < 4) := by
      unfold sndB
      rw [show (eC E i).isEmpty = false from by
        cases hc : eC E i with
        | nil => exact absurd hc h0
        | cons a l => rfl]
      rfl
    rw [hs] at hQ
    have hv := vr_var (h6 0 hp)
    by_cases h4 : (eH E i).getD 0 0 < 4
    · rw [if_pos (hv.mpr (by omega))]
      rw [bi_t (decide_eq_true h4)] at hQ
      exact hQ
    · rw [if_neg (fun q => hv.mp q (by omega))]
      rw [bi_f (by rw [decide_eq_false h4]; decide)] at hQ
      exact hQ
theorem gv_step {i k c v : Nat} (hc : c < 4) (hv : v < 2) (hab : ab c < 2 ^ c) (he : (eC E i).getD k (0, 0) = (c, v)) : bset 8 (fun nd => gvn E ab i nd (k + 1)) = bset 8 (fun nd => gvn E ab i nd k) ||| 2 ^ (2 * c + v) ||| nab ab c v c := by
  refine nat_ext (fun nd => ?_)
  unfold nab
  rw [Nat.testBit_or, Nat.testBit_or, bset_bit, bset_bit, bset_bit, Nat.testBit_two_pow]
  have hg : gvn E ab i nd (k + 1) = (gvn E ab i nd k || (decide (v = nd % 2) && (decide (c = nd / 2) || (ab c).testBit (nd / 2)))) := by
    show (gvn E ab i nd k || _) = _
    rw [he]
  rw [hg]
  by_cases h8 : nd < 8
  · rw [decide_eq_true h8, Bool.true_and, Bool.true_and, Bool.true_and]
    have ht : (ab c).testBit (nd / 2) = true → nd / 2 < c := fun h => Nat.lt_of_not_le (fun hle => by
      rw [Nat.testBit_lt_two_pow (Nat.lt_of_lt_of_le hab (Nat.pow_le_pow_right (by decide) hle))] at h
      exact absurd h (by decide))
    cases ha : (ab c).testBit (nd / 2) with
    | false =>
      rw [Bool.or_false, Bool.and_false, Bool.and_false, Bool.or_false]
      have : decide (2 * c + v = nd) = (decide (v = nd % 2) && decide (c = nd / 2)) := by
        by_cases h : 2 * c + v = nd
        · rw [decide_eq_true h, decide_eq_true (show v = nd % 2 by omega), decide_eq_true (show c = nd / 2 by omega)]; rfl
        · rw [decide_eq_false h]
          by_cases h1 : v = nd % 2
          · rw [decide_eq_true h1, decide_eq_false (show ¬ c = nd / 2 by omega)]; rfl
          · rw [decide_eq_false h1]; rfl
      rw [this]
    | true =>
      have h2 := ht ha
      rw [decide_eq_true h2, decide_eq_false (show ¬ 2 * c + v = nd by omega), Bool.or_true, Bool.and_true, Bool.and_true, Bool.and_true, Bool.or_false, decide_eq_decide.mpr (eq_comm : v = nd % 2 ↔ nd % 2 = v)]
  · rw [decide_eq_false h8, decide_eq_false (show ¬ 2 * c + v = nd by omega)]
    rfl
theorem si_loop {r i : Nat} (hb : isBk b) (hb2 : 2 < b) (hr : isRu r) (hbr : b + 7 < r) (hC : wfC nC rt ab) (hE : wfE E nC) (hi : i < eN E) : ∀ (d k : Nat) {I : Nat → Int → Int}, d + k = (eC E i).length → RuW I r E i → (∀ c : Nat, c < nC → I (b + 2) (c : Int) = (ab c : Int)) → I r 6 = ((bset 8 (fun nd => gvn E ab i nd k) : Nat) : Int) → (∀ I', (∀ a, a ≠ r → I' a = I a) → (∀ j : Int, j ≠ 6 → I' r j = I r j) → I' r 6 = ((bset 8 (fun nd => gvn E ab i nd (eC E i).length) : Nat) : Int) → Q none (S0 L, R, I', J)) → wpc 147 40 [vR (some b), vU, vR (some r), vI (k : Int)] [] (0, 0) (S0 L, R, I, J) Q := by
  obtain ⟨e1, e2, e3, e4, e5, e6⟩ := hE.2 i hi
  intro d
  induction d with
  | zero =>
    intro k I hd hW ha h6 hQ
    refine (b_Book_settleInstance_40 hb hr).mpr ?_
    rw [hW.2.2.2.1, if_neg (by omega)]
    refine hQ I (fun _ _ => rfl) (fun _ _ => rfl) ?_
    rw [h6, show k = (eC E i).length by omega]
  | succ d ih =>
    intro k I hd hW ha h6 hQ
    have hk : k < (eC E i).length := by omega
    obtain ⟨w1, w2⟩ := hW.2.2.2.2 k hk
    obtain ⟨o1, o2, _⟩ := e6 k hk
    have hC4 := hC.1
    refine (b_Book_settleInstance_40 hb hr).mpr ?_
    rw [hW.2.2.2.1, if_pos (by omega), w1, w2, h6]
    refine ⟨⟨by omega, by omega⟩, ⟨by omega, by omega⟩, ?_⟩
    refine (x_needBit (by omega) o2).mpr ?_
    refine (b_Book_settleInstance_58 hb hr hr).mpr ?_
    have hg := bset_lt8 (n := 8) (by omega) (fun nd => gvn E ab i nd k)
    have hp : 2 ^ (2 * ((eC E i).getD k (0, 0)).1 + ((eC E i).getD k (0, 0)).2) < 256 := pow8 (by omega)
    rw [ior_nat (by omega) (by omega), upM_ne (a := r) (b := r + 5) (by omega), upM_ne (a := r) (b := r + 6) (by omega), w1, w2, upM_same]
    refine ⟨⟨by omega, by omega⟩, ⟨by omega, by omega⟩, ?_⟩
    refine x_needsAbove hC hb (fun c hc => by rw [upM_ne (by omega)]; exact ha c hc) o1 o2 ?_
    refine (b_Book_settleInstance_74 hb hr hr).mpr ?_
    have hg2 := or_lt8 hg hp
    have hn := nab_lt (ab := ab) ((eC E i).getD k (0, 0)).1 ((eC E i).getD k (0, 0)).2 ((eC E i).getD k (0, 0)).1
    rw [ior_nat (by omega) (by omega), w32_s (by omega), ← gv_step (E := E) (i := i) (k := k) (by omega) o2 (hC.2 _ o1).2 rfl]
    refine ih (k + 1) (by omega) (hW.fr (fun j hj => by rw [upM_i hj, upM_i hj]) (by rw [upM_ne (by omega), upM_ne (by omega)]) (by rw [upM_ne (by omega), upM_ne (by omega)]) (by rw [upM_ne (by omega), upM_ne (by omega)]) (by rw [upM_ne (by omega), upM_ne (by omega)])) (fun c hc => by rw [upM_ne (by omega), upM_ne (by omega)]; exact ha c hc) upM_same (fun I' f1 f2 f3 => hQ I' (fun a p => by rw [f1 a p, upM_ne p, upM_ne p]) (fun j hj => by rw [f2 j hj, upM_i hj, upM_i hj]) f3)
theorem x_settleInstance {i : Nat} (hb : isBk b) (hb2 : 2 < b) (hC : wfC nC rt ab) (hE : wfE E nC) (hi : i < eN E) (hT : StI I) (hW : RuW I (b + 8 + 7 * i) E i) (ha : ∀ c : Nat, c < nC → I (b + 2) (c : Int) = (ab c : Int)) (ho : ∀ c : Nat, c < nC → I (b + 3) (c : Int) = ((bset i (fun i => decide (eO E i = c)) : Nat) : Int)) (hs : I b 6 = ((bset i (sndB E) : Nat) : Int)) (hQ : ∀ I', (∀ a, a ≠ b → a ≠ b + 3 → (a < b + 8 + 7 * i ∨ b + 8 + 7 * i + 6 < a) → I' a = I a) → (∀ j : Int, j ≠ 6 → I' b j = I b j) → RuX I' (b + 8 + 7 * i) E ab i → I' (b + 8 + 7 * i) 0 = (eK E i : Int) → (∀ c : Nat, c < nC → I' (b + 3) (c : Int) = ((bset (i + 1) (fun i => decide (eO E i = c)) : Nat) : Int)) → I' b 6 = ((bset (i + 1) (sndB E) : Nat) : Int) → Q none (S0 L, R, I', J)) : wpC 147 [vR (some b), vI (i : Int)] (S0 L, R, I, J) Q := by
  obtain ⟨e1, e2, e3, e4, e5, e6⟩ := hE.2 i hi
  have h6 := hE.1
  have hC4 := hC.1
  have hr : isRu (b + 8 + 7 * i) := ie_Bk5 hb (i := (i : Int)) ⟨by omega, by omega⟩
  generalize hrr : b + 8 + 7 * i = r at *
  refine (c_Book_settleInstance hb).mpr ⟨⟨by omega, by omega⟩, ?_⟩
  have hgo : wpC 212 [vR (some (r + 1))] (S0 L, R, I, J) (fun v M2 => wpc 147 9 [vR (some b), vI (i : Int), vR (some r), vU] (v.toList ++ []) (0, 0) M2 Q) := by
    refine x_settle (is_Ru2 hr) (by omega) ⟨kd_Sh2 (is_Ru2 hr), ln_Sh2 (is_Ru2 hr)⟩ hT e3 (by omega) hW.2.2.1 (fun I1 f1 s1 => ?_)
    refine (b_Book_settleInstance_9 hb hr).mpr ?_
    have ho1 : I1 r 1 = (eO E i : Int) := by rw [f1 r (by omega) (by omega)]; exact hW.2.1
    have hb8 := bset_lt8 (n := i) (by omega) (fun j => decide (eO E j = eO E i))
    rw [ho1, f1 (b + 3) (by omega) (by omega), ho _ e2, ior1 hb8 (by omega), ← bset_t (f := fun j => decide (eO E j = eO E i)) (decide_eq_true rfl)]
    refine ⟨⟨by omega, by omega⟩, ⟨by omega, by omega⟩, ?_⟩
    have hW1 : RuW I1 r E i := hW.fr (fun j _ => by rw [f1 r (by omega) (by omega)]) (f1 _ (by omega) (by omega)) (f1 _ (by omega) (by omega)) (f1 _ (by omega) (by omega)) (f1 _ (by omega) (by omega))
    generalize hI2 : upM I1 (b + 3) (eO E i : Int) ((bset (i + 1) (fun j => decide (eO E j = eO E i)) : Nat) : Int) = I2
    have g2 : ∀ a, a ≠ b + 3 → I2 a = I1 a := fun a h => by rw [← hI2, upM_ne h]
    have o2 : ∀ c : Nat, c < nC → I2 (b + 3) (c : Int) = ((bset (i + 1) (fun i => decide (eO E i = c)) : Nat) : Int) := by
      intro c hc
      rw [← hI2]
      by_cases hce : c = eO E i
      · rw [hce, upM_same]
      · rw [upM_i (by omega), f1 (b + 3) (by omega) (by omega), ho c hc, bset_f (f := fun i => decide (eO E i = c)) (decide_eq_false (fun q => hce q.symm))]
    have hW2 : RuW I2 r E i := hW1.fr (fun j _ => by rw [g2 r (by omega)]) (g2 _ (by omega)) (g2 _ (by omega)) (g2 _ (by omega)) (g2 _ (by omega))
    refine x_isSound hr hW2 e3 e4 ?_
    refine (b_Book_settleInstance_23 hb hr).mpr ?_
    have s2 : I2 b 6 = ((bset i (sndB E) : Nat) : Int) := by rw [g2 b (by omega), f1 b (by omega) (by omega)]; exact hs
    -- what follows, whatever the sound bits came to
    have hfin : ∀ I3 : Nat → Int → Int, (∀ a, a ≠ b → I3 a = I2 a) → (∀ j : Int, j ≠ 6 → I3 b j = I2 b j) → I3 b 6 = ((bset (i + 1) (sndB E) : Nat) : Int) → wpc 147 40 [vR (some b), vU, vR (some r), vI 0] [] (0, 0) (S0 L, R, upM I3 r 6 0, J) Q := by
      intro I3 g3 q3 s3
      have hW3 : RuW (upM I3 r 6 0) r E i := hW2.fr (fun j hj => by rw [upM_i hj, g3 r (by omega)]) (by rw [upM_ne (by omega), g3 _ (by omega)]) (by rw [upM_ne (by omega), g3 _ (by omega)]) (by rw [upM_ne (by omega), g3 _ (by omega)]) (by rw [upM_ne (by omega), g3 _ (by omega)])
      refine si_loop hb hb2 hr (by omega) hC hE hi (eC E i).length 0 (by omega) hW3 (fun c hc => by rw [upM_ne (by omega), g3 _ (by omega), g2 _ (by omega), f1 _ (by omega) (by omega)]; exact ha c hc) ?_ (fun I4 f4 q4 h4 => ?_)
      · rw [upM_same]
        have : bset 8 (fun nd => gvn E ab i nd 0) = 0 := bset_zero.mpr (fun k _ => rfl)
        rw [this]; rfl
      · have t4 : ∀ a, a ≠ b → a ≠ b + 3 → a ≠ r → I4 a = I1 a := fun a p1 p2 p3 => by rw [f4 a p3, upM_ne p3, g3 a p1, g2 a p2]
        have r4 : ∀ j : Int, j ≠ 6 → I4 r j = I1 r j := fun j hj => by rw [q4 j hj, upM_i hj, g3 r (by omega), g2 r (by omega)]
        refine hQ I4 (fun a p1 p2 p3 => by rw [t4 a p1 p2 (by omega), f1 a (by omega) (by omega)]) (fun j hj => by rw [f4 b (by omega), upM_ne (by omega), q3 j hj, g2 b (by omega), f1 b (by omega) (by omega)]) ⟨?_, ?_, ?_, ?_, h4⟩ ?_ (fun c hc => by rw [f4 _ (by omega), upM_ne (by omega), g3 _ (by omega)]; exact o2 c hc) (by rw [f4 b (by omega), upM_ne (by omega)]; exact s3)
        · rw [r4 1 (by decide)]; exact hW1.2.1
        · exact s1.fr (by rw [t4 (r + 1) (by omega) (by omega) (by omega)]) (t4 _ (by omega) (by omega) (by omega)) (t4 _ (by omega) (by omega) (by omega)) (t4 _ (by omega) (by omega) (by omega))
        · rw [r4 3 (by decide)]; exact hW1.2.2.2.1
        · intro k hk
          rw [t4 (r + 5) (by omega) (by omega) (by omega), t4 (r + 6) (by omega) (by omega) (by omega)]; exact hW1.2.2.2.2 k hk
        · rw [r4 0 (by decide)]; exact hW1.1
    by_cases hsn : sndB E i = true
    · rw [if_neg (fun q => bi_0.mp q hsn), s2, ior1 (bset_lt8 (by omega) _) (by omega), ← bset_t hsn]
      exact hfin (upM I2 b 6 ((bset (i + 1) (sndB E) : Nat) : Int)) (fun a p => upM_ne p) (fun j hj => upM_i hj) upM_same
    · rw [if_pos (bi_0.mpr hsn)]
      exact hfin I2 (fun _ _ => rfl) (fun _ _ => rfl) (by rw [s2, bset_f (by cases h : sndB E i with | false => rfl | true => exact absurd h hsn)])
  rw [← hrr] at hgo
  exact hgo
end XSe
