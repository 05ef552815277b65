-- ===== the reference's answers: what is seen, counts, types =====
def tyL : List Int → Nat → Bool
  | [], k => k == 0
  | c :: l, k => match k with
    | 0 => false
    | k' + 1 => decide (¬ sg c = -1) && tyL l (k' + pts (sg c).toNat)
def toW (pg : List Int) : List Nat := pg.map (fun c => (sg c).toNat)
theorem ty_wf : ∀ (pg : List Int) (k : Nat), tyL pg k = true → wfN (toW pg) k = true ∧ ∀ p, p < pg.length → pg.getD p 0 = cd ((toW pg).getD p 0) := by
  intro pg
  induction pg with
  | nil => intro k h; exact ⟨h, fun p hp => absurd hp (by simp)⟩
  | cons c l ih =>
    intro k h
    cases k with
    | zero => exact absurd h (by unfold tyL; simp)
    | succ k =>
      have h2 : (decide (¬ sg c = -1) && tyL l (k + pts (sg c).toNat)) = true := h
      rw [Bool.and_eq_true, decide_eq_true_eq] at h2
      obtain ⟨i1, i2⟩ := ih _ h2.2
      have hr := sg_r c
      refine ⟨wf_cons.mpr ⟨by show (sg c).toNat < 6; omega, i1⟩, fun p hp => ?_⟩
      cases p with
      | zero => exact (cd_sg h2.1).symm
      | succ p => exact i2 p (by simpa using hp)
def setL (s : ST) (k : Nat) (w : List Nat) : ST := ([], s.2.1, s.2.2.1, s.2.2.2.1, (fun j => if j = k then w else sL s j), s.2.2.2.2.2)
def q_type (s : ST) (k : Int) : Int × ST := if ¬ (0 ≤ k ∧ k ≤ 3) then (-101, s) else if sB s = 0 then (-103, s) else if ¬ tyL (sP s) 1 = true then (-103, s) else if 9 < (sP s).length then (-104, s) else (((sP s).length : Int), setL s k.toNat (toW (sP s)))
theorem setN_M {I I' : Nat → Int → Int} {s : ST} {sn : SN} (hM : MSt I s) (g : ∀ a, a ≠ 243 → a ≠ 256 → a ≠ 257 → a ≠ 258 → I' a = I a) (q : ∀ j : Int, j ≠ 15 → I' 243 j = I 243 j) (hS : SeM I' sn) : MSt I' (setN s sn) := by
  obtain ⟨h1, h2, h3, h4, h5, h6, h7, h8⟩ := hM
  refine ⟨⟨by rw [q 19 (by decide)]; exact h1.1, fun k hk => by rw [g 259 (by decide) (by decide) (by decide) (by decide)]; exact h1.2 k hk⟩, by rw [q 0 (by decide)]; exact h2, h3.fr (q 1 (by decide)) (g 244 (by decide) (by decide) (by decide) (by decide)) (g 245 (by decide) (by decide) (by decide) (by decide)), h4.fr (q 4 (by decide)) (fun a p1 p2 => g a (by omega) (by omega) (by omega) (by omega)), h5.fr (g 253 (by decide) (by decide) (by decide) (by decide)), fun k hk => ?_, hS, ?_⟩
  · have := h6 k hk
    unfold SlW at *
    rw [g 254 (by decide) (by decide) (by decide) (by decide), g 255 (by decide) (by decide) (by decide) (by decide)]; exact this
  · unfold ImM at *
    rw [q 53 (by decide), q 54 (by decide), q 55 (by decide), g 283 (by decide) (by decide) (by decide) (by decide), g 284 (by decide) (by decide) (by decide) (by decide), g 285 (by decide) (by decide) (by decide) (by decide), g 286 (by decide) (by decide) (by decide) (by decide), g 287 (by decide) (by decide) (by decide) (by decide), g 288 (by decide) (by decide) (by decide) (by decide)]
    exact h8
section MPc
variable {L : Nat} {R : Nat → Int → Option Nat} {I : Nat → Int → Int} {J : Nat → Int → Int64} {Q : Option MV → MM → Prop} {s : ST}
theorem m_see (hw : wfS s) (hM : MSt I s) {i w z : Int} (hQ : mpost L R I J (vI (q_see s i w z).1) (q_see s i w z).2 Q) : wpC 117 [vR (some 243), vI i, vI w, vI z] (S0 L, R, I, J) Q := by
  have h6 := hw.2.2.2.1.1
  have hN := hw.2.2.2.2.2.1
  have mN := hM.2.2.2.2.2.2.1
  unfold q_see at hQ
  refine c_M_see.mpr ?_
  rw [k_isInst hw.2.2.2.1 hM.2.2.2.1]
  refine b_M_see_4.mpr ?_
  by_cases hc : 0 ≤ i ∧ i < (eN (sE s) : Int)
  · rw [if_neg (not_not_intro hc)] at hQ
    rw [if_neg (fun q => bi_0.mp q hc), k_within]
    refine b_M_see_14.mpr ?_
    by_cases h2 : 0 ≤ w ∧ w ≤ 3
    · rw [if_neg (not_not_intro h2)] at hQ
      rw [if_neg (fun q => bi_0.mp q h2), mN.1]
      by_cases hl : (sN s).length = 6
      · rw [if_pos hl] at hQ
        rw [if_pos (by omega)]
        exact hQ.t hM frM.rf
      · rw [if_neg hl] at hQ
        have hN6 := hN.1
        rw [if_neg (by omega), upM_ne (I := I) (a := 256) (b := 243) (by decide), mN.1, upM_ne (a := 257) (b := 243) (by decide), upM_ne (a := 256) (b := 243) (by decide), mN.1]
        refine ⟨⟨by omega, by omega⟩, ⟨by omega, by omega⟩, ?_⟩
        have key : ∀ y : Int, y = bi (decide (¬ z = 0) = true) → wpc 117 51 [vR (some 243), vU, vU, vU] [vI y, vI ((sN s).length : Int), vR (some 258)] (0, 0) (S0 L, R, upM (upM I 256 ((sN s).length : Int) i) 257 ((sN s).length : Int) w, J) Q := by
          intro y hy
          refine b_M_see_51.mpr ⟨⟨by omega, by omega⟩, ?_⟩
          rw [upM_same, upM_ne (a := 258) (b := 243) (by decide), upM_ne (a := 257) (b := 243) (by decide), upM_ne (a := 256) (b := 243) (by decide), mN.1, w32_s (by omega)]
          have e1 : ((sN s).length : Int) + 1 = (((sN s).length + 1 : Nat) : Int) := by omega
          rw [e1] at hQ
          refine hQ _ _ ?_ (fun a ha => by rw [upM_ne (by omega), upM_ne (by omega), upM_ne (by omega), upM_ne (by omega)]) (fun _ _ => rfl)
          refine setN_M hM (fun a p1 p2 p3 p4 => by rw [upM_ne p1, upM_ne p4, upM_ne p3, upM_ne p2]) (fun j hj => by rw [upM_i hj, upM_ne (by decide), upM_ne (by decide), upM_ne (by decide)]) ⟨by rw [upM_same, List.length_append, List.length_singleton], fun k hk => ?_⟩
          rw [List.length_append, List.length_singleton] at hk
          have r6 : ∀ j : Int, (upM (upM (upM (upM I 256 ((sN s).length : Int) i) 257 ((sN s).length : Int) w) 258 ((sN s).length : Int) y) 243 15 (((sN s).length + 1 : Nat) : Int)) 256 j = upM I 256 ((sN s).length : Int) i 256 j := fun j => by rw [upM_ne (by decide), upM_ne (by decide), upM_ne (by decide)]
          have r7 : ∀ j : Int, (upM (upM (upM (upM I 256 ((sN s).length : Int) i) 257 ((sN s).length : Int) w) 258 ((sN s).length : Int) y) 243 15 (((sN s).length + 1 : Nat) : Int)) 257 j = upM (upM I 256 ((sN s).length : Int) i) 257 ((sN s).length : Int) w 257 j := fun j => by rw [upM_ne (by decide), upM_ne (by decide)]
          have r8 : ∀ j : Int, (upM (upM (upM (upM I 256 ((sN s).length : Int) i) 257 ((sN s).length : Int) w) 258 ((sN s).length : Int) y) 243 15 (((sN s).length + 1 : Nat) : Int)) 258 j = upM (upM (upM I 256 ((sN s).length : Int) i) 257 ((sN s).length : Int) w) 258 ((sN s).length : Int) y 258 j := fun j => by rw [upM_ne (by decide)]
          rw [getD_app, r6, r7, r8]
          by_cases hkl : k < (sN s).length
          · rw [if_pos hkl, upM_i (by omega), upM_i (by omega), upM_i (by omega), upM_ne (by decide), upM_ne (by decide), upM_ne (by decide)]
            exact mN.2 k hkl
          · rw [if_neg hkl, if_pos (by omega), show k = (sN s).length by omega, upM_same, upM_same, upM_same]
            exact ⟨by show i = ((i.toNat : Nat) : Int); omega, by show w = ((w.toNat : Nat) : Int); omega, hy⟩
        by_cases hz : z = 0
        · rw [if_pos hz]
          exact key 0 (bi_f (by rw [decide_eq_false (not_not_intro hz)]; decide)).symm
        · rw [if_neg hz]
          exact key 1 (bi_t (decide_eq_true hz)).symm
    · rw [if_pos h2] at hQ
      rw [if_pos (bi_0.mpr h2)]
      exact hQ.t hM frM.rf
  · rw [if_pos hc] at hQ
    rw [if_pos (bi_0.mpr hc)]
    exact hQ.t hM frM.rf
theorem m_forget (hM : MSt I s) (hQ : mpost L R I J (vI (q_forget s).1) (q_forget s).2 Q) : wpC 118 [vR (some 243)] (S0 L, R, I, J) Q := by
  have mN := hM.2.2.2.2.2.2.1
  refine c_M_forget.mpr ?_
  rw [mN.1]
  exact hQ _ _ (setN_M hM (fun a p1 _ _ _ => upM_ne p1) (fun j hj => upM_i hj) ⟨upM_same, fun k hk => absurd hk (by simp)⟩) (fun a ha => upM_ne (by omega)) (fun _ _ => rfl)
theorem us_loop (hw : wfS s) (hM : MSt I s) (hQ : Q (some (vI (cnt (eN (sE s)) (fun i => !sndB (sE s) i) : Int))) (S0 L, R, I, J)) : ∀ d i : Nat, d + i = eN (sE s) → wpc 130 5 [vR (some 243), vI (cnt i (fun i => !sndB (sE s) i) : Int), vI (i : Int)] [] (0, 0) (S0 L, R, I, J) Q := by
  have hE := hw.2.2.2.1
  have mE := hM.2.2.2.1
  have h6 := hE.1
  intro d
  induction d with
  | zero =>
    intro i hi
    refine b_M_unsound_5.mpr ?_
    rw [mE.1, if_neg (by omega), show i = eN (sE s) by omega]
    exact hQ
  | succ d ih =>
    intro i hi
    have hc := cnt_le i (fun i => !sndB (sE s) i)
    have h2 : wpc 130 5 [vR (some 243), vI ((cnt i (fun i => !sndB (sE s) i) + (if !sndB (sE s) i then 1 else 0) : Nat) : Int), vI ((i + 1 : Nat) : Int)] [] (0, 0) (S0 L, R, I, J) Q := ih (i + 1) (by omega)
    refine b_M_unsound_5.mpr ?_
    rw [mE.1, if_pos (by omega), k_isSound hE mE (by omega)]
    refine b_M_unsound_15.mpr ?_
    rw [w32_s (p := i) (by omega)]
    by_cases hs : sndB (sE s) i = true
    · rw [if_neg (fun q => bi_0.mp q hs), w32_eq (by omega) (by omega), Int.add_zero]
      rw [if_neg (by rw [hs]; decide)] at h2; exact h2
    · rw [if_pos (bi_0.mpr hs), w32_s (by omega)]
      rw [if_pos (by rw [Bool.eq_false_iff.mpr hs]; rfl)] at h2; exact h2
theorem cn2_le (f : Nat → Nat → Bool) : ∀ n, n ≤ 6 → cn2 f n ≤ 6 * n := by
  intro n
  induction n with
  | zero => intro _; exact Nat.le_refl _
  | succ n ih =>
    intro hn
    have := cnt_le n (f n)
    have := ih (by omega)
    show cn2 f n + cnt n (f n) ≤ _
    omega
theorem pa_in (hw : wfS s) (hU : uniOK (sE s)) {w i z : Nat} (hi : i < eN (sE s)) (hz : z ≤ 36) : ∀ (d e : Nat) {I : Nat → Int → Int}, d + e = i → MSt I s → (∀ I', frM I I' → wpc 131 5 [vR (some 243), vI (w : Int), vI ((z + cnt i (fun e => prN (sE s) i e w) : Nat) : Int), vI ((i + 1 : Nat) : Int), vU] [] (0, 0) (S0 L, R, I', J) Q) → wpc 131 13 [vR (some 243), vI (w : Int), vI ((z + cnt e (fun e => prN (sE s) i e w) : Nat) : Int), vI (i : Int), vI (e : Int)] [] (0, 0) (S0 L, R, I, J) Q := by
  have h6 := hw.2.2.2.1.1
  intro d
  induction d with
  | zero =>
    intro e I he hM hQ
    refine b_M_pairsOf_13.mpr ?_
    rw [if_neg (by omega), w32_s (by omega), show e = i by omega]
    exact hQ I frM.rf
  | succ d ih =>
    intro e I he hM hQ
    have hc := cnt_le e (fun e => prN (sE s) i e w)
    refine b_M_pairsOf_13.mpr ?_
    rw [if_pos (by omega)]
    refine k_pairNow hw hM hU hi (by omega) (fun I' f => ?_)
    have h2 : wpc 131 13 [vR (some 243), vI (w : Int), vI ((z + (cnt e (fun e => prN (sE s) i e w) + (if prN (sE s) i e w then 1 else 0)) : Nat) : Int), vI (i : Int), vI ((e + 1 : Nat) : Int)] [] (0, 0) (S0 L, R, I', J) Q := ih (e + 1) (by omega) (hM.fr f) (fun I2 f2 => hQ I2 (f.tr f2))
    refine b_M_pairsOf_24.mpr ?_
    rw [w32_s (p := e) (by omega)]
    by_cases hp : prN (sE s) i e w = true
    · rw [if_neg (fun q => bi_0.mp q hp), w32_s (by omega)]
      rw [if_pos hp] at h2; exact h2
    · rw [if_pos (bi_0.mpr hp), w32_eq (by omega) (by omega), Int.add_zero]
      rw [if_neg hp] at h2; exact h2
theorem pa_out (hw : wfS s) (hU : uniOK (sE s)) {w : Nat} : ∀ (d i : Nat) {I : Nat → Int → Int}, d + i = eN (sE s) → MSt I s → (∀ I', frM I I' → Q (some (vI (cn2 (fun i e => prN (sE s) i e w) (eN (sE s)) : Int))) (S0 L, R, I', J)) → wpc 131 5 [vR (some 243), vI (w : Int), vI (cn2 (fun i e => prN (sE s) i e w) i : Int), vI (i : Int), vU] [] (0, 0) (S0 L, R, I, J) Q := by
  have h6 := hw.2.2.2.1.1
  intro d
  induction d with
  | zero =>
    intro i I hi hM hQ
    refine b_M_pairsOf_5.mpr ?_
    rw [hM.2.2.2.1.1, if_neg (by omega), show i = eN (sE s) by omega]
    exact hQ I frM.rf
  | succ d ih =>
    intro i I hi hM hQ
    refine b_M_pairsOf_5.mpr ?_
    rw [hM.2.2.2.1.1, if_pos (by omega)]
    have hl := cn2_le (fun i e => prN (sE s) i e w) i (by omega)
    exact pa_in hw hU (z := cn2 (fun i e => prN (sE s) i e w) i) (by omega) (by omega) i 0 (by omega) hM (fun I' f => ih (i + 1) (by omega) (hM.fr f) (fun I2 f2 => hQ I2 (f.tr f2)))
theorem lcs_le (hw : wfS s) : ∀ n, n ≤ 6 → lcs s n ≤ 16 * n := by
  intro n
  induction n with
  | zero => intro _; exact Nat.le_refl _
  | succ n ih =>
    intro hn
    have := pcn_le 16 (lck (sE s) (sC s) (sR s) (sA s) n)
    have := ih (by omega)
    show lcs s n + pcn 16 (lck (sE s) (sC s) (sR s) (sA s) n) ≤ _
    omega
theorem lck_lt (hC : sC s ≤ 4) (i : Nat) : lck (sE s) (sC s) (sR s) (sA s) i < 256 := bset_lt8 (by omega) _
theorem la_loop (hw : wfS s) : ∀ (d i : Nat) {I : Nat → Int → Int}, d + i = eN (sE s) → MSt I s → (∀ I', frM I I' → Q (some (vI (lcs s (eN (sE s)) : Int))) (S0 L, R, I', J)) → wpc 132 5 [vR (some 243), vI (lcs s i : Int), vI (i : Int)] [] (0, 0) (S0 L, R, I, J) Q := by
  have h6 := hw.2.2.2.1.1
  intro d
  induction d with
  | zero =>
    intro i I hi hM hQ
    refine b_M_lacksOfAll_5.mpr ?_
    rw [hM.2.2.2.1.1, if_neg (by omega), show i = eN (sE s) by omega]
    exact hQ I frM.rf
  | succ d ih =>
    intro i I hi hM hQ
    have hl := lcs_le hw i (by omega)
    have hp := pcn_le 16 (lck (sE s) (sC s) (sR s) (sA s) i)
    refine b_M_lacksOfAll_5.mpr ?_
    rw [hM.2.2.2.1.1, if_pos (by omega)]
    refine k_lacksOf hw.2.2.2.1 hw.2.2.1 hM.2.2.1 hM.2.2.2.1 hM.2.2.2.2.1 (by omega) (fun I' f => ?_)
    refine b_M_lacksOfAll_15.mpr ?_
    rw [k_size (lck_lt hw.2.2.1.1 i)]
    refine b_M_lacksOfAll_17.mpr ?_
    rw [w32_s (p := i) (by omega), w32_eq (by omega) (by omega)]
    exact ih (i + 1) (by omega) (hM.fr f.m) (fun I2 f2 => hQ I2 (f.m.tr f2))
theorem fl_loop (mL : ∀ k : Nat, k < 4 → SlW I k (sL s k)) (hQ : Q (some (vI (fil (sL s) : Int))) (S0 L, R, I, J)) : ∀ d k : Nat, d + k = 4 → wpc 127 5 [vR (some 243), vI (cnt k (fun k => !(sL s k).isEmpty) : Int), vI (k : Int)] [] (0, 0) (S0 L, R, I, J) Q := by
  intro d
  induction d with
  | zero =>
    intro k hk
    refine b_M_filled_5.mpr ?_
    rw [if_neg (by omega), show k = 4 by omega]
    exact hQ
  | succ d ih =>
    intro k hk
    have hc := cnt_le k (fun k => !(sL s k).isEmpty)
    have h2 : wpc 127 5 [vR (some 243), vI ((cnt k (fun k => !(sL s k).isEmpty) + (if !(sL s k).isEmpty then 1 else 0) : Nat) : Int), vI ((k + 1 : Nat) : Int)] [] (0, 0) (S0 L, R, I, J) Q := ih (k + 1) (by omega)
    refine b_M_filled_5.mpr ?_
    rw [if_pos (by omega), (mL k (by omega)).1, w32_s (p := k) (by omega)]
    refine ⟨⟨by omega, by omega⟩, ?_⟩
    cases hs : sL s k with
    | nil =>
      rw [if_pos (by simp), w32_eq (by omega) (by omega), Int.add_zero]
      rw [hs, if_neg (by simp)] at h2; exact h2
    | cons a r =>
      rw [if_neg (by rw [List.length_cons]; omega), w32_s (by omega)]
      rw [hs, if_pos (by simp)] at h2; exact h2
theorem k_filled (mL : ∀ k : Nat, k < 4 → SlW I k (sL s k)) (hQ : Q (some (vI (fil (sL s) : Int))) (S0 L, R, I, J)) : wpC 127 [vR (some 243)] (S0 L, R, I, J) Q := c_M_filled.mpr (fl_loop mL hQ 4 0 rfl)
theorem sl_no {k e : Nat} {p : Int} (hk : k < 4) : Q (some (vI 0)) (S0 L, R, I, J) → wpc 133 19 [vR (some 243), vI (k : Int), vI (e : Int), vI 0, vI p] [] (0, 0) (S0 L, R, I, J) Q := by
  intro h
  refine b_M_isSlotLike_19.mpr ⟨⟨by omega, by omega⟩, ?_⟩
  split
  · rw [if_pos rfl]; exact ⟨Or.inl rfl, h⟩
  · exact ⟨Or.inl rfl, h⟩
theorem list_ext {a b : List Nat} (hl : a.length = b.length) (h : ∀ p, p < a.length → a.getD p 0 = b.getD p 0) : a = b := by
  apply List.ext_getElem hl
  intro p h1 h2
  have := h p h1
  rw [List.getD_eq_getElem?_getD, List.getD_eq_getElem?_getD, List.getElem?_eq_getElem h1, List.getElem?_eq_getElem h2] at this
  exact this
theorem ok6 {w : List Nat} (h : w = [] ∨ (wfN w 1 = true ∧ w.length ≤ 9)) : ∀ p, p < w.length → w.getD p 0 < 6 := by
  intro p hp
  rcases h with h | h
  · rw [h] at hp; exact absurd hp (by simp)
  · exact wf_lt6 h.1 hp
theorem ok9 {w : List Nat} (h : w = [] ∨ (wfN w 1 = true ∧ w.length ≤ 9)) : w.length ≤ 9 := by
  rcases h with h | h
  · rw [h]; simp
  · exact h.2
theorem k_isSlotLike (hw : wfS s) (mL : ∀ k : Nat, k < 4 → SlW I k (sL s k)) {k e : Nat} (hk : k < 4) (he : e < 4) (hQ : Q (some (vI (bi (sL s k = sL s e)))) (S0 L, R, I, J)) : wpC 133 [vR (some 243), vI (k : Int), vI (e : Int)] (S0 L, R, I, J) Q := by
  have a := mL k hk
  have b := mL e he
  have a6 := ok6 (hw.2.2.2.2.1 k hk)
  have b6 := ok6 (hw.2.2.2.2.1 e he)
  have a9 := ok9 (hw.2.2.2.2.1 k hk)
  refine c_M_isSlotLike.mpr ⟨⟨by omega, by omega⟩, ⟨by omega, by omega⟩, ?_⟩
  rw [a.1, b.1]
  by_cases hl : (sL s k).length = (sL s e).length
  · rw [if_pos (by omega)]
    have key : ∀ d p : Nat, d + p = (sL s k).length → (∀ i, i < p → (sL s k).getD i 0 = (sL s e).getD i 0) → wpc 133 19 [vR (some 243), vI (k : Int), vI (e : Int), vI 1, vI (p : Int)] [] (0, 0) (S0 L, R, I, J) Q := by
      intro d
      induction d with
      | zero =>
        intro p hp hh
        refine b_M_isSlotLike_19.mpr ⟨⟨by omega, by omega⟩, ?_⟩
        rw [a.1, if_neg (by omega)]
        rw [bi_t (list_ext hl (fun i hi => hh i (by omega)))] at hQ
        exact ⟨Or.inr rfl, hQ⟩
      | succ d ih =>
        intro p hp hh
        refine b_M_isSlotLike_19.mpr ⟨⟨by omega, by omega⟩, ?_⟩
        have e1 : w32 (w32 (9 * (k : Int)) + (p : Int)) = ((9 * k + p : Nat) : Int) := by
          rw [w32_eq (z := 9 * (k : Int)) (by omega) (by omega), w32_eq (by omega) (by omega)]; omega
        have e2 : w32 (w32 (9 * (e : Int)) + (p : Int)) = ((9 * e + p : Nat) : Int) := by
          rw [w32_eq (z := 9 * (e : Int)) (by omega) (by omega), w32_eq (by omega) (by omega)]; omega
        rw [a.1, if_pos (by omega), if_neg (by decide), e1, e2, a.2 p (by omega), b.2 p (by omega), w32_s (by omega)]
        refine ⟨⟨by omega, by omega⟩, ⟨by omega, by omega⟩, ?_⟩
        by_cases hx : (sL s k).getD p 0 = (sL s e).getD p 0
        · rw [if_pos (by rw [hx])]
          refine ih (p + 1) (by omega) (fun i hi => ?_)
          by_cases hip : i = p
          · rw [hip]; exact hx
          · exact hh i (by omega)
        · rw [if_neg (fun q => hx ((cd_inj (a6 p (by omega)) (b6 p (by omega))).mp q))]
          rw [bi_f (fun q => hx (by rw [q]))] at hQ
          exact sl_no hk hQ
    exact key (sL s k).length 0 (by omega) (fun i hi => by omega)
  · rw [if_neg (by omega)]
    rw [bi_f (fun q => hl (by rw [q]))] at hQ
    exact sl_no hk hQ
theorem dt_in (hw : wfS s) (mL : ∀ k : Nat, k < 4 → SlW I k (sL s k)) {k : Nat} {z : Int} (hk : k < 4) (hQ : wpc 134 5 [vR (some 243), vI (w32 (z + if dfT (sL s) k k = true then 1 else 0)), vI ((k + 1 : Nat) : Int), vU, vU] [] (0, 0) (S0 L, R, I, J) Q) : ∀ d e : Nat, d + e = k → wpc 134 24 [vR (some 243), vI z, vI (k : Int), vI (bi (dfT (sL s) k e = true)), vI (e : Int)] [] (0, 0) (S0 L, R, I, J) Q := by
  intro d
  induction d with
  | zero =>
    intro e he
    refine b_M_differentTypes_24.mpr ?_
    rw [if_neg (by omega), show e = k by omega, w32_s (p := k) (by omega)]
    by_cases h : dfT (sL s) k k = true
    · rw [if_neg (fun q => bi_0.mp q h)]
      rw [if_pos h] at hQ; exact hQ
    · rw [if_pos (bi_0.mpr h)]
      rw [if_neg h] at hQ; exact hQ
  | succ d ih =>
    intro e he
    have h2 := ih (e + 1) (by omega)
    have e0 : dfT (sL s) k (e + 1) = (dfT (sL s) k e && decide (¬ sL s k = sL s e)) := rfl
    rw [e0] at h2
    refine b_M_differentTypes_24.mpr ?_
    rw [if_pos (by omega), w32_s (p := e) (by omega)]
    by_cases h : dfT (sL s) k e = true
    · rw [if_neg (fun q => bi_0.mp q h)]
      rw [h, Bool.true_and] at h2
      refine k_isSlotLike hw mL hk (by omega) ?_
      refine b_M_differentTypes_36.mpr ?_
      rw [w32_s (p := e) (by omega)]
      by_cases hs : sL s k = sL s e
      · rw [if_neg (fun q => bi_0.mp q hs)]
        rw [bi_f (by rw [decide_eq_false (not_not_intro hs)]; decide)] at h2; exact h2
      · rw [if_pos (bi_0.mpr hs)]
        rw [bi_t (decide_eq_true hs)] at h2; exact h2
    · rw [if_pos (bi_0.mpr h)]
      rw [bi_f (by rw [Bool.eq_false_iff.mpr h, Bool.false_and]; decide)] at h2; exact h2
theorem dt_out (hw : wfS s) (mL : ∀ k : Nat, k < 4 → SlW I k (sL s k)) (hQ : Q (some (vI (cnt 4 (fun k => dfT (sL s) k k) : Int))) (S0 L, R, I, J)) : ∀ d k : Nat, d + k = 4 → wpc 134 5 [vR (some 243), vI (cnt k (fun k => dfT (sL s) k k) : Int), vI (k : Int), vU, vU] [] (0, 0) (S0 L, R, I, J) Q := by
  intro d
  induction d with
  | zero =>
    intro k hk
    refine b_M_differentTypes_5.mpr ?_
    rw [if_neg (by omega), show k = 4 by omega]
    exact hQ
  | succ d ih =>
    intro k hk
    have hc := cnt_le k (fun k => dfT (sL s) k k)
    have h2 : wpc 134 5 [vR (some 243), vI ((cnt k (fun k => dfT (sL s) k k) + (if dfT (sL s) k k then 1 else 0) : Nat) : Int), vI ((k + 1 : Nat) : Int), vU, vU] [] (0, 0) (S0 L, R, I, J) Q := ih (k + 1) (by omega)
    refine b_M_differentTypes_5.mpr ?_
    rw [if_pos (by omega), (mL k (by omega)).1]
    refine ⟨⟨by omega, by omega⟩, ?_⟩
    have hin := dt_in (L := L) (R := R) (J := J) (Q := Q) hw mL (k := k) (z := (cnt k (fun k => dfT (sL s) k k) : Int)) (by omega) (by
      have e : w32 ((cnt k (fun k => dfT (sL s) k k) : Int) + if dfT (sL s) k k = true then 1 else 0) = ((cnt k (fun k => dfT (sL s) k k) + (if dfT (sL s) k k then 1 else 0) : Nat) : Int) := by
        cases dfT (sL s) k k
        · rw [if_neg (by decide), if_neg (by decide), w32_eq (by omega) (by omega)]; omega
        · rw [if_pos rfl, if_pos rfl, w32_eq (by omega) (by omega)]; omega
      rw [e]; exact h2) k 0 (by omega)
    have e0 : dfT (sL s) k 0 = !(sL s k).isEmpty := rfl
    rw [e0] at hin
    cases hs : sL s k with
    | nil =>
      rw [if_pos (by simp)]
      rw [hs, bi_f (by simp)] at hin; exact hin
    | cons a r =>
      rw [if_neg (by rw [List.length_cons]; omega)]
      rw [hs, bi_t (by simp)] at hin; exact hin
theorem k_howMany (hw : wfS s) (hM : MSt I s) (hU : uniOK (sE s)) {w : Nat} (hw10 : w ≤ 10) (hQ : ∀ I', frM I I' → Q (some (vI (hmN s w))) (S0 L, R, I', J)) : wpC 135 [vR (some 243), vI (w : Int)] (S0 L, R, I, J) Q := by
  obtain ⟨mP, mB, mC, mE, mS, mL, mN, mI⟩ := id hM
  refine c_M_howMany.mpr ?_
  unfold hmN at hQ
  by_cases h0 : w = 0
  · rw [if_pos h0] at hQ; rw [if_pos (by omega), mC.1]; exact hQ I frM.rf
  rw [if_neg h0] at hQ; rw [if_neg (by omega)]
  by_cases h1 : w = 1
  · rw [if_pos h1] at hQ; rw [if_pos (by omega), mE.1]; exact hQ I frM.rf
  rw [if_neg h1] at hQ; rw [if_neg (by omega)]
  by_cases h2 : w = 2
  · rw [if_pos h2] at hQ; rw [if_pos (by omega)]
    refine c_M_unsound.mpr (us_loop hw hM ?_ (eN (sE s)) 0 (by omega))
    exact b_M_howMany_14.mpr (hQ I frM.rf)
  rw [if_neg h2] at hQ; rw [if_neg (by omega)]
  by_cases h3 : w = 3
  · rw [if_pos h3] at hQ; rw [if_pos (by omega), h3]
    refine b_M_howMany_16.mpr ?_
    refine c_M_pairsOf.mpr (pa_out hw hU (w := 0) (eN (sE s)) 0 (by omega) hM (fun I' f => ?_))
    exact b_M_howMany_22.mpr (hQ I' f)
  rw [if_neg h3] at hQ; rw [if_neg (by omega)]
  by_cases h4 : w = 4
  · rw [if_pos h4] at hQ; rw [if_pos (by omega), h4]
    refine b_M_howMany_16.mpr ?_
    refine c_M_pairsOf.mpr (pa_out hw hU (w := 1) (eN (sE s)) 0 (by omega) hM (fun I' f => ?_))
    exact b_M_howMany_22.mpr (hQ I' f)
  rw [if_neg h4] at hQ; rw [if_neg (by omega)]
  by_cases h5 : w = 5
  · rw [if_pos h5] at hQ; rw [if_pos (by omega)]
    refine c_M_lacksOfAll.mpr (la_loop hw (eN (sE s)) 0 (by omega) hM (fun I' f => ?_))
    exact b_M_howMany_27.mpr (hQ I' f)
  rw [if_neg h5] at hQ; rw [if_neg (by omega)]
  by_cases h6 : w = 6
  · rw [if_pos h6] at hQ; rw [if_pos (by omega)]
    exact k_filled mL (b_M_howMany_32.mpr (hQ I frM.rf))
  rw [if_neg h6] at hQ; rw [if_neg (by omega)]
  by_cases h7 : w = 7
  · rw [if_pos h7] at hQ; rw [if_pos (by omega)]
    refine c_M_differentTypes.mpr (dt_out hw mL ?_ 4 0 rfl)
    exact b_M_howMany_37.mpr (hQ I frM.rf)
  rw [if_neg h7] at hQ; rw [if_neg (by omega)]
  by_cases h8 : w = 8
  · rw [if_pos h8] at hQ; rw [if_pos (by omega), mN.1]; exact hQ I frM.rf
  rw [if_neg h8] at hQ; rw [if_neg (by omega)]
  by_cases h9 : w = 9
  · rw [if_pos h9] at hQ; rw [if_pos (by omega), mP.1]; exact hQ I frM.rf
  rw [if_neg h9] at hQ; rw [if_neg (by omega), if_pos (by omega), mB]; exact hQ I frM.rf
theorem m_count (hw : wfS s) (hM : MSt I s) (hU : uniOK (sE s)) {w : Int} (hQ : mpost L R I J (vI (q_count s w).1) (q_count s w).2 Q) : wpC 136 [vR (some 243), vI w] (S0 L, R, I, J) Q := by
  unfold q_count at hQ
  refine c_M_count.mpr ?_
  by_cases h : 0 ≤ w ∧ w ≤ 10
  · rw [if_neg (not_not_intro h)] at hQ
    obtain ⟨w', rfl⟩ := nat_of h.1
    rw [Int.toNat_natCast] at hQ
    refine k_howMany hw hM hU (by omega) (fun I' f => ?_)
    exact b_M_count_4.mpr (hQ.t hM f)
  · rw [if_pos h] at hQ
    refine c_M_howMany.mpr ?_
    rw [if_neg (by omega), if_neg (by omega), if_neg (by omega), if_neg (by omega), if_neg (by omega), if_neg (by omega), if_neg (by omega), if_neg (by omega), if_neg (by omega), if_neg (by omega), if_neg (by omega)]
    exact b_M_count_4.mpr (hQ.t hM frM.rf)
theorem ty_loop (hw : wfS s) (hM : MSt I s) {k : Nat} (hk : k < 4) (hQ : mpost L R I J (vI (q_type s (k : Int)).1) (q_type s (k : Int)).2 Q) : ∀ (d p l : Nat), d + p = (sP s).length → l ≤ p + 1 → tyL (sP s) 1 = tyL ((sP s).drop p) l → (∀ hb : ¬ sB s = 0, tyL (sP s) 1 = true → (sP s).length ≤ 9 → wpc 88 66 [vR (some 243), vI (k : Int), vU, vI ((sP s).length : Int), vI 0] [] (0, 0) (S0 L, R, I, J) Q) → wpc 88 15 [vR (some 243), vI (k : Int), vI (l : Int), vI (p : Int), vU] [] (0, 0) (S0 L, R, I, J) Q := by
  have hP := hw.1
  have h84 := hP.1
  have mP := hM.1
  have mB := hM.2.1
  unfold q_type at hQ
  rw [if_neg (by omega)] at hQ
  -- the end, by how many types are wanting
  intro d
  induction d with
  | zero =>
    intro p l hd hl ht hgo
    rw [List.drop_of_length_le (by omega)] at ht
    have ht' : tyL (sP s) 1 = (l == 0) := ht
    have hout : (p : Int) = ((sP s).length : Int) := by omega
    refine b_M_type_15.mpr ?_
    rw [mB, mP.1]
    by_cases hl0 : l = 0
    · rw [if_pos (by omega)]
      by_cases hb : sB s = 0
      · rw [if_pos hb] at hQ
        rw [if_pos (by omega)]; exact hQ.t hM frM.rf
      · rw [if_neg hb] at hQ
        have hty : tyL (sP s) 1 = true := by rw [ht', hl0]; rfl
        rw [if_neg (not_not_intro hty)] at hQ
        rw [if_neg (by omega), if_pos (by omega), if_pos hout]
        by_cases h9 : 9 < (sP s).length
        · rw [if_pos h9] at hQ
          rw [if_neg (by omega)]; exact hQ.t hM frM.rf
        · rw [if_neg h9] at hQ
          rw [if_pos (by omega), hout]
          exact hgo hb hty (by omega)
    · rw [if_neg (by omega), k_at hP mP]
      refine b_M_type_22.mpr ?_
      rw [k_wants, getD_out (by omega)]
      refine b_M_type_24.mpr ?_
      rw [show wnt 0 = -1 from rfl, if_pos rfl, mB]
      have hty : ¬ tyL (sP s) 1 = true := by rw [ht']; simp [hl0]
      by_cases hb : sB s = 0
      · rw [if_pos hb] at hQ
        rw [if_pos (by omega)]; exact hQ.t hM frM.rf
      · rw [if_neg hb, if_pos hty] at hQ
        rw [if_neg (by omega), if_neg (by omega)]; exact hQ.t hM frM.rf
  | succ d ih =>
    intro p l hd hl ht hgo
    have hp : p < (sP s).length := by omega
    rw [drop_getI hp] at ht
    refine b_M_type_15.mpr ?_
    rw [mB, mP.1]
    cases l with
    | zero =>
      have hty : ¬ tyL (sP s) 1 = true := by rw [ht]; unfold tyL; simp
      rw [if_pos (by omega)]
      by_cases hb : sB s = 0
      · rw [if_pos hb] at hQ
        rw [if_pos (by omega)]; exact hQ.t hM frM.rf
      · rw [if_neg hb, if_pos hty] at hQ
        rw [if_neg (by omega), if_pos (by omega), if_neg (by omega)]; exact hQ.t hM frM.rf
    | succ l =>
      rw [if_neg (by omega), k_at hP mP]
      refine b_M_type_22.mpr ?_
      rw [k_wants, wnt_sg]
      refine b_M_type_24.mpr ?_
      have ht' : tyL (sP s) 1 = (decide (¬ sg ((sP s).getD p 0) = -1) && tyL ((sP s).drop (p + 1)) (l + pts (sg ((sP s).getD p 0)).toNat)) := ht
      by_cases hsg : sg ((sP s).getD p 0) = -1
      · have hty : ¬ tyL (sP s) 1 = true := by rw [ht', decide_eq_false (not_not_intro hsg)]; simp
        rw [if_pos hsg, if_pos rfl, mB]
        by_cases hb : sB s = 0
        · rw [if_pos hb] at hQ
          rw [if_pos (by omega)]; exact hQ.t hM frM.rf
        · rw [if_neg hb, if_pos hty] at hQ
          rw [if_neg (by omega), if_neg (by omega)]; exact hQ.t hM frM.rf
      · rw [decide_eq_true hsg, Bool.true_and] at ht'
        have hpt := pts_le (sg ((sP s).getD p 0)).toNat
        rw [if_neg hsg, if_neg (by omega), k_at hP mP]
        refine b_M_type_32.mpr ?_
        rw [k_wants, wnt_sg, if_neg hsg]
        refine b_M_type_34.mpr ?_
        rw [w32_s (p := p) (by omega), w32_eq (z := (pts (sg ((sP s).getD p 0)).toNat : Int) - 1) (by omega) (by omega), w32_eq (by omega) (by omega)]
        have e3 : ((l + 1 : Nat) : Int) + ((pts (sg ((sP s).getD p 0)).toNat : Int) - 1) = ((l + pts (sg ((sP s).getD p 0)).toNat : Nat) : Int) := by omega
        rw [e3]
        exact ih (p + 1) _ (by omega) (by omega) ht' hgo
theorem tyS_loop (hw : wfS s) {k : Nat} (hk : k < 4) (h9 : (sP s).length ≤ 9) : ∀ (d p : Nat) {I : Nat → Int → Int}, d + p = (sP s).length → PgM I (sP s) → (∀ q : Nat, q < p → I 254 ((9 * k + q : Nat) : Int) = (sP s).getD q 0) → (∀ I', (∀ a, a ≠ 254 → I' a = I a) → (∀ j : Int, j < ((9 * k : Nat) : Int) ∨ ((9 * k + 9 : Nat) : Int) ≤ j → I' 254 j = I 254 j) → (∀ q : Nat, q < (sP s).length → I' 254 ((9 * k + q : Nat) : Int) = (sP s).getD q 0) → Q (some (vI ((sP s).length : Int))) (S0 L, R, upM (upM I' 255 (k : Int) ((sP s).length : Int)) 243 19 0, J)) → wpc 88 66 [vR (some 243), vI (k : Int), vU, vI ((sP s).length : Int), vI (p : Int)] [] (0, 0) (S0 L, R, I, J) Q := by
  intro d
  induction d with
  | zero =>
    intro p I hd hP hq hQ
    refine b_M_type_66.mpr ?_
    rw [if_neg (by omega)]
    exact ⟨⟨by omega, by omega⟩, hQ I (fun _ _ => rfl) (fun _ _ => rfl) (fun q h => hq q (by omega))⟩
  | succ d ih =>
    intro p I hd hP hq hQ
    refine b_M_type_66.mpr ?_
    have e1 : w32 (w32 (9 * (k : Int)) + (p : Int)) = ((9 * k + p : Nat) : Int) := by
      rw [w32_eq (z := 9 * (k : Int)) (by omega) (by omega), w32_eq (by omega) (by omega)]; omega
    rw [if_pos (by omega), k_at hw.1 hP, e1]
    refine b_M_type_81.mpr ⟨⟨by omega, by omega⟩, ?_⟩
    rw [w32_s (by omega)]
    refine ih (p + 1) (by omega) ⟨by rw [upM_ne (by decide)]; exact hP.1, fun j hj => by rw [upM_ne (by decide)]; exact hP.2 j hj⟩ (fun q h => ?_) (fun I' f1 f2 f3 => hQ I' (fun a ha => by rw [f1 a ha, upM_ne ha]) (fun j hj => by rw [f2 j hj, upM_i (by omega)]) f3)
    by_cases hqp : q = p
    · rw [hqp, upM_same]
    · rw [upM_i (by omega)]; exact hq q (by omega)
theorem m_type (hw : wfS s) (hM : MSt I s) {k : Int} (hQ : mpost L R I J (vI (q_type s k).1) (q_type s k).2 Q) : wpC 88 [vR (some 243), vI k] (S0 L, R, I, J) Q := by
  refine c_M_type.mpr ?_
  rw [k_within]
  refine b_M_type_5.mpr ?_
  by_cases hk : 0 ≤ k ∧ k ≤ 3
  · rw [if_neg (fun q => bi_0.mp q hk)]
    obtain ⟨k', rfl⟩ := nat_of hk.1
    have hk4 : k' < 4 := by omega
    refine ty_loop hw hM hk4 hQ (sP s).length 0 1 (by omega) (by omega) (by rw [List.drop_zero]) (fun hb hty h9 => ?_)
    unfold q_type at hQ
    rw [if_neg (by omega), if_neg hb, if_neg (not_not_intro hty), if_neg (by omega), Int.toNat_natCast] at hQ
    obtain ⟨t1, t2⟩ := ty_wf _ _ hty
    refine tyS_loop hw hk4 h9 (sP s).length 0 (by omega) hM.1 (fun q h => by omega) (fun I' f1 f2 f3 => ?_)
    have g : ∀ a, a ≠ 243 → a ≠ 254 → a ≠ 255 → (upM (upM I' 255 (k' : Int) ((sP s).length : Int)) 243 19 0) a = I a := fun a p1 p2 p3 => by rw [upM_ne p1, upM_ne p3, f1 a p2]
    have q : ∀ j : Int, j ≠ 19 → (upM (upM I' 255 (k' : Int) ((sP s).length : Int)) 243 19 0) 243 j = I 243 j := fun j hj => by rw [upM_i hj, upM_ne (by decide), f1 243 (by decide)]
    refine hQ _ _ ?_ (fun a ha => g a (by omega) (by omega) (by omega)) (fun _ _ => rfl)
    obtain ⟨h1, h2, h3, h4, h5, h6, h7, h8⟩ := hM
    refine ⟨⟨upM_same, fun k hk => absurd hk (by show ¬ k < 0; omega)⟩, by rw [q 0 (by decide)]; exact h2, h3.fr (q 1 (by decide)) (g 244 (by decide) (by decide) (by decide)) (g 245 (by decide) (by decide) (by decide)), h4.fr (q 4 (by decide)) (fun a p1 p2 => g a (by omega) (by omega) (by omega)), h5.fr (g 253 (by decide) (by decide) (by decide)), fun j hj => ?_, ⟨by rw [q 15 (by decide)]; exact h7.1, fun k hk => by rw [g 256 (by decide) (by decide) (by decide), g 257 (by decide) (by decide) (by decide), g 258 (by decide) (by decide) (by decide)]; exact h7.2 k hk⟩, ?_⟩
    · show SlW _ j (if j = k' then toW (sP s) else sL s j)
      have hlen : (toW (sP s)).length = (sP s).length := by unfold toW; rw [List.length_map]
      unfold SlW
      rw [upM_ne (by decide), upM_ne (a := 243) (b := 254) (by decide), upM_ne (a := 255) (b := 254) (by decide)]
      by_cases hjk : j = k'
      · subst hjk
        rw [if_pos rfl, upM_same, hlen]
        exact ⟨rfl, fun p hp => by rw [f3 p hp]; exact t2 p hp⟩
      · rw [if_neg hjk, upM_i (by omega), f1 255 (by decide)]
        have h9j := ok9 (hw.2.2.2.2.1 j hj)
        exact ⟨(h6 j hj).1, fun p hp => by rw [f2 _ (by omega)]; exact (h6 j hj).2 p hp⟩
    · unfold ImM at *
      rw [q 53 (by decide), q 54 (by decide), q 55 (by decide), g 283 (by decide) (by decide) (by decide), g 284 (by decide) (by decide) (by decide), g 285 (by decide) (by decide) (by decide), g 286 (by decide) (by decide) (by decide), g 287 (by decide) (by decide) (by decide), g 288 (by decide) (by decide) (by decide)]
      exact h8
  · rw [if_pos (bi_0.mpr hk)]
    unfold q_type at hQ
    rw [if_pos hk] at hQ
    exact hQ.t hM frM.rf
end MPc
