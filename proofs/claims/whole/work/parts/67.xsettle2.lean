-- ===== the class settles a book: heads; the whole =====
section XSf
variable {L : Nat} {R : Nat → Int → Option Nat} {I : Nat → Int → Int} {J : Nat → Int → Int64} {Q : Option MV → MM → Prop} {E : EN} {nC b : Nat} {rt ab : Nat → Nat}
theorem x_cov {a0 a1 a3 : Nat} {h w : List Nat} (ha0 : isSh a0) (ha1 : isSh a1) (ha3 : isP2 L a3) (n0 : a3 ≠ a0 ∧ a3 ≠ a0 + 1) (n1 : a3 ≠ a1 ∧ a3 ≠ a1 + 1 ∧ a3 ≠ a1 + 2 ∧ a3 ≠ a1 + 3) (hhw : wfN h 1 = true) (hh9 : h.length ≤ 9) (hw : wfN w 1 = true) (hl : w.length ≤ 9) (hh : ShW I a0 h) (hs : ShS I a1 w) (hQ : ∀ I', (∀ x, x ≠ a3 → I' x = I x) → Q (some (vI (bi ((mtc h w [] []).isSome = true)))) (S0 L, R, I', J)) : wpC 218 [vR (some a0), vR (some a1), vI 0, vR (some a3)] (S0 L, R, I, J) Q := by
  have hp : 0 < w.length := List.length_pos_iff.mpr (ne_wf1 hw)
  refine x_covers (p := 0) ha0 ha1 ha3 n0 n1 hhw hh9 hw hl hp hh hs (fun I' f => ?_)
  have h2 := hQ I' f
  rw [sub_all hw]
  cases hm : mtc h w [] [] with
  | none =>
    rw [hm, bi_f (by decide)] at h2
    exact h2
  | some x =>
    obtain ⟨a', b'⟩ := x
    rw [hm, bi_t (show (some (a', b')).isSome = true from rfl)] at h2
    exact fun _ => h2
def HdX (I : Nat → Int → Int) (b : Nat) (E : EN) : Prop := I b 4 = (eN E : Int) ∧ ∀ i : Nat, i < eN E → ShS I (b + 8 + 7 * i + 1) (eH E i)
theorem HdX.fr {I' : Nat → Int → Int} (h : HdX I b E) (f0 : I' b = I b) (f : ∀ a, b + 8 ≤ a → a < b + 50 → I' a = I a) (h6 : eN E ≤ 6) : HdX I' b E := ⟨by rw [f0]; exact h.1, fun i hi => (h.2 i hi).fr (by rw [f _ (by omega) (by omega)]) (f _ (by omega) (by omega)) (f _ (by omega) (by omega)) (f _ (by omega) (by omega))⟩
/-- what comparing heads may change -/
def frH (b : Nat) (I I' : Nat → Int → Int) : Prop := ∀ a, a ≠ b + 5 → a ≠ b + 6 → a ≠ b + 7 → (a < 106 ∨ 113 < a) → I' a = I a
theorem frH.tr {I1 I2 I3 : Nat → Int → Int} (h : frH b I1 I2) (h2 : frH b I2 I3) : frH b I1 I3 := fun a p1 p2 p3 p4 => by rw [h2 a p1 p2 p3 p4, h a p1 p2 p3 p4]
theorem ch_loop {i : Nat} (hb : isBk b) (hb2 : 2 < b) (hb3 : b + 50 ≤ 105) (hE : wfE E nC) (hi : i < eN E) : ∀ (d e : Nat) {I : Nat → Int → Int}, d + e = eN E → StI I → HdX I b E → I (b + 5) (i : Int) = ((bset e (spc E i) : Nat) : Int) → I (b + 6) (i : Int) = ((bset e (metB E i) : Nat) : Int) → (∀ I', frH b I I' → (∀ j : Int, j ≠ (i : Int) → I' (b + 5) j = I (b + 5) j ∧ I' (b + 6) j = I (b + 6) j) → I' (b + 5) (i : Int) = ((bset (eN E) (spc E i) : Nat) : Int) → I' (b + 6) (i : Int) = ((bset (eN E) (metB E i) : Nat) : Int) → Q none (S0 L, R, I', J)) → wpc 148 19 [vR (some b), vI (i : Int), vR (some 106), vR (some (b + 8 + 7 * i + 1)), vI (e : Int), vU] [] (0, 0) (S0 L, R, I, J) Q := by
  have h6 := hE.1
  obtain ⟨i1, i2, i3, i4, i5, i6⟩ := hE.2 i hi
  have hsi : isSh (b + 8 + 7 * i + 1) := is_Ru2 (ie_Bk5 hb (i := (i : Int)) ⟨by omega, by omega⟩)
  intro d
  induction d with
  | zero =>
    intro e I hd hT hH h5 hm hQ
    refine (b_Book_compareHeads_19 hb hsi).mpr ?_
    rw [hH.1, if_neg (by omega)]
    have he : e = eN E := by omega
    exact hQ I (fun _ _ _ _ _ => rfl) (fun _ _ => ⟨rfl, rfl⟩) (by rw [h5, he]) (by rw [hm, he])
  | succ d ih =>
    intro e I hd hT hH h5 hm hQ
    have he : e < eN E := by omega
    obtain ⟨e1, e2, e3, e4, e5, e6⟩ := hE.2 e he
    have hse : isSh (b + 8 + 7 * e + 1) := is_Ru2 (ie_Bk5 hb (i := (e : Int)) ⟨by omega, by omega⟩)
    have hpt : isP2 L (b + 7) := ⟨kd_Bk9 hb, ln_Bk9 hb⟩
    refine (b_Book_compareHeads_19 hb hsi).mpr ?_
    rw [hH.1, if_pos (by omega)]
    refine ⟨⟨by omega, by omega⟩, ?_⟩
    obtain ⟨bb, u1, _, m1, _⟩ := meet_ok i3 i4 e3 e4
    have hmb : metB E i e = bb := by
      unfold metB
      rw [u1]
      cases bb <;> rfl
    -- behind the comparing by fitting
    have h59 : ∀ I1 : Nat → Int → Int, (∀ a, a ≠ b + 5 → a ≠ b + 7 → I1 a = I a) → (∀ j : Int, j ≠ (i : Int) → I1 (b + 5) j = I (b + 5) j) → I1 (b + 5) (i : Int) = ((bset (e + 1) (spc E i) : Nat) : Int) → wpc 148 59 [vR (some b), vI (i : Int), vR (some 106), vR (some (b + 8 + 7 * i + 1)), vI (e : Int), vR (some (b + 8 + 7 * e + 1))] [] (0, 0) (S0 L, R, I1, J) Q := by
      intro I1 f1 q1 s1
      have hH1 : HdX I1 b E := hH.fr (f1 b (by omega) (by omega)) (fun a p1 p2 => f1 a (by omega) (by omega)) h6
      have hT1 : StI I1 := by
        unfold StI at *
        rw [f1 1 (by omega) (by omega), f1 2 (by omega) (by omega)]; exact hT
      refine (b_Book_compareHeads_59 hb hsi hse).mpr ?_
      refine x_isPossible hsi hse (by omega) (by omega) i3 e3 i4 e4 hT1 (hH1.2 i hi) (hH1.2 e he) m1 (fun I2 f2 => ?_)
      have t2 : ∀ a, a < 106 → I2 a = I1 a := fun a h => f2.1 a (Or.inl h)
      refine (b_Book_compareHeads_64 hb hsi).mpr ?_
      rw [w32_s (by omega)]
      have hT2 : StI I2 := by
        unfold StI at *
        rw [t2 1 (by omega), t2 2 (by omega)]; exact hT1
      have hH2 : HdX I2 b E := hH1.fr (t2 b (by omega)) (fun a p1 p2 => t2 a (by omega)) h6
      have m2 : I2 (b + 6) (i : Int) = ((bset e (metB E i) : Nat) : Int) := by rw [t2 _ (by omega), f1 _ (by omega) (by omega)]; exact hm
      have s2 : I2 (b + 5) (i : Int) = ((bset (e + 1) (spc E i) : Nat) : Int) := by rw [t2 _ (by omega)]; exact s1
      have hfr : frH b I I2 := fun a p1 p2 p3 p4 => by rw [f2.1 a p4, f1 a p1 p3]
      by_cases hbb : bb = true
      · have hmt : metB E i e = true := by rw [hmb]; exact hbb
        rw [if_neg (fun q => bi_0.mp q hbb), m2, ior1 (bset_lt8 (by omega) _) (by omega), ← bset_t hmt]
        refine ⟨⟨by omega, by omega⟩, ⟨by omega, by omega⟩, ?_⟩
        refine ih (e + 1) (by omega) (by unfold StI at *; rw [upM_ne (by omega), upM_ne (by omega)]; exact hT2) (hH2.fr (upM_ne (by omega)) (fun a p1 p2 => upM_ne (by omega)) h6) (by rw [upM_ne (by omega)]; exact s2) upM_same (fun I3 f3 q3 a3 b3 => ?_)
        refine hQ I3 (fun a p1 p2 p3 p4 => by rw [f3 a p1 p2 p3 p4, upM_ne p2, hfr a p1 p2 p3 p4]) (fun j hj => ⟨?_, ?_⟩) a3 b3
        · rw [(q3 j hj).1, upM_ne (by omega), t2 _ (by omega), q1 j hj]
        · rw [(q3 j hj).2, upM_i hj, t2 _ (by omega), f1 _ (by omega) (by omega)]
      · have hmf : metB E i e = false := by rw [hmb]; cases bb with | false => rfl | true => exact absurd rfl hbb
        rw [if_pos (bi_0.mpr hbb)]
        refine ih (e + 1) (by omega) hT2 hH2 s2 (by rw [m2, bset_f hmf]) (fun I3 f3 q3 a3 b3 => ?_)
        refine hQ I3 (hfr.tr f3) (fun j hj => ⟨?_, ?_⟩) a3 b3
        · rw [(q3 j hj).1, t2 _ (by omega), q1 j hj]
        · rw [(q3 j hj).2, t2 _ (by omega), f1 _ (by omega) (by omega)]
    have sp0 : spc E i e = false → ∀ I1 : Nat → Int → Int, (∀ a, a ≠ b + 7 → I1 a = I a) → wpc 148 59 [vR (some b), vI (i : Int), vR (some 106), vR (some (b + 8 + 7 * i + 1)), vI (e : Int), vR (some (b + 8 + 7 * e + 1))] [] (0, 0) (S0 L, R, I1, J) Q := fun hs I1 f1 => h59 I1 (fun a _ p2 => f1 a p2) (fun j _ => by rw [f1 _ (by omega)]) (by rw [f1 _ (by omega), h5, bset_f hs])
    refine x_cov (h := eH E e) (w := eH E i) hse hsi hpt (by omega) (by omega) e3 (by omega) i3 (by omega) (hH.2 e he).1 (hH.2 i hi) (fun I1 f1 => ?_)
    refine (b_Book_compareHeads_37 hb hsi hse).mpr ?_
    by_cases hf : (mtc (eH E e) (eH E i) [] []).isSome = true
    · rw [if_neg (fun q => bi_0.mp q hf)]
      have hH1 : HdX I1 b E := hH.fr (f1 b (by omega)) (fun a p1 p2 => f1 a (by omega)) h6
      refine x_cov (h := eH E i) (w := eH E e) hsi hse hpt (by omega) (by omega) i3 (by omega) e3 (by omega) (hH1.2 i hi).1 (hH1.2 e he) (fun I2 f2 => ?_)
      have f12 : ∀ a, a ≠ b + 7 → I2 a = I a := fun a p => by rw [f2 a p, f1 a p]
      refine (b_Book_compareHeads_46 hb hsi hse).mpr ?_
      by_cases hg : (mtc (eH E i) (eH E e) [] []).isSome = true
      · rw [if_neg (fun q => bi_0.mp q hg)]
        refine sp0 ?_ I2 f12
        show ((mtc (eH E e) (eH E i) [] []).isSome && !(mtc (eH E i) (eH E e) [] []).isSome) = false
        rw [hg]; simp
      · have hst : spc E i e = true := by
          show ((mtc (eH E e) (eH E i) [] []).isSome && !(mtc (eH E i) (eH E e) [] []).isSome) = true
          rw [hf]; simp at hg ⊢; exact hg
        rw [if_pos (bi_0.mpr hg), f12 (b + 5) (by omega), h5, ior1 (bset_lt8 (by omega) _) (by omega), ← bset_t hst]
        refine ⟨⟨by omega, by omega⟩, ⟨by omega, by omega⟩, h59 _ (fun a p1 p2 => by rw [upM_ne p1, f12 a p2]) (fun j hj => by rw [upM_i hj, f12 _ (by omega)]) upM_same⟩
    · rw [if_pos (bi_0.mpr hf)]
      refine sp0 ?_ I1 f1
      show ((mtc (eH E e) (eH E i) [] []).isSome && !(mtc (eH E i) (eH E e) [] []).isSome) = false
      cases hx : (mtc (eH E e) (eH E i) [] []).isSome with
      | false => rfl
      | true => exact absurd hx hf
theorem x_compareHeads {i : Nat} (hb : isBk b) (hb2 : 2 < b) (hb3 : b + 50 ≤ 105) (hE : wfE E nC) (hi : i < eN E) (hT : StI I) (hH : HdX I b E) (hQ : ∀ I', frH b I I' → (∀ j : Int, j ≠ (i : Int) → I' (b + 5) j = I (b + 5) j ∧ I' (b + 6) j = I (b + 6) j) → I' (b + 5) (i : Int) = ((bset (eN E) (spc E i) : Nat) : Int) → I' (b + 6) (i : Int) = ((bset (eN E) (metB E i) : Nat) : Int) → Q none (S0 L, R, I', J)) : wpC 148 [vR (some b), vI (i : Int), vR (some 106)] (S0 L, R, I, J) Q := by
  have h6 := hE.1
  refine (c_Book_compareHeads hb).mpr ⟨⟨by omega, by omega⟩, ⟨by omega, by omega⟩, ⟨by omega, by omega⟩, ?_⟩
  have g : ∀ a, a ≠ b + 5 → a ≠ b + 6 → (upM (upM I (b + 5) (i : Int) 0) (b + 6) (i : Int) 0) a = I a := fun a p1 p2 => by rw [upM_ne p2, upM_ne p1]
  refine ch_loop hb hb2 hb3 hE hi (eN E) 0 (by omega) (by unfold StI at *; rw [g 1 (by omega) (by omega), g 2 (by omega) (by omega)]; exact hT) (hH.fr (g _ (by omega) (by omega)) (fun a p1 p2 => g a (by omega) (by omega)) h6) (by rw [upM_ne (by omega), upM_same]; rfl) (by rw [upM_same]; rfl) (fun I' f q a3 b3 => ?_)
  refine hQ I' (fun a p1 p2 p3 p4 => by rw [f a p1 p2 p3 p4, g a p1 p2]) (fun j hj => ⟨?_, ?_⟩) a3 b3
  · rw [(q j hj).1, upM_ne (by omega), upM_i hj]
  · rw [(q j hj).2, upM_i hj, upM_ne (by omega)]
/-- a book as it was read -/
def BkW (I : Nat → Int → Int) (b nC : Nat) (rt : Nat → Nat) (E : EN) : Prop := I b 0 = (nC : Int) ∧ (∀ c : Nat, c < nC → I (b + 1) (c : Int) = (rt c : Int)) ∧ I b 4 = (eN E : Int) ∧ ∀ i : Nat, i < eN E → RuW I (b + 8 + 7 * i) E i
/-- what settling may change -/
def frS (b : Nat) (I I' : Nat → Int → Int) : Prop := ∀ a, a < b ∨ (b + 50 ≤ a ∧ a < 106) ∨ 113 < a → I' a = I a
theorem frS.tr {I1 I2 I3 : Nat → Int → Int} (h : frS b I1 I2) (h2 : frS b I2 I3) : frS b I1 I3 := fun a p => by rw [h2 a p, h a p]
theorem frS.rf : frS b I I := fun _ _ => rfl
theorem StI.fr {I' : Nat → Int → Int} (h : StI I) (f1 : I' 1 = I 1) (f2 : I' 2 = I 2) : StI I' := by
  unfold StI at *
  rw [f1, f2]; exact h
/-- settled but for the heads -/
def BkY (I : Nat → Int → Int) (b nC : Nat) (rt ab : Nat → Nat) (E : EN) (n : Nat) : Prop := I b 0 = (nC : Int) ∧ (∀ c : Nat, c < nC → I (b + 1) (c : Int) = (rt c : Int) ∧ I (b + 2) (c : Int) = (ab c : Int) ∧ I (b + 3) (c : Int) = ((bset n (fun i => decide (eO E i = c)) : Nat) : Int)) ∧ I b 4 = (eN E : Int) ∧ I b 6 = ((bset n (sndB E) : Nat) : Int) ∧ ∀ i : Nat, i < n → RuX I (b + 8 + 7 * i) E ab i ∧ I (b + 8 + 7 * i) 0 = (eK E i : Int)
theorem sb_3 (hb : isBk b) (hb2 : 2 < b) (hb3 : b + 50 ≤ 105) (hE : wfE E nC) : ∀ (d i : Nat) {I : Nat → Int → Int}, d + i = eN E → StI I → BkY I b nC rt ab E (eN E) → (∀ j : Nat, j < i → I (b + 5) (j : Int) = ((bset (eN E) (spc E j) : Nat) : Int) ∧ I (b + 6) (j : Int) = ((bset (eN E) (metB E j) : Nat) : Int)) → (∀ I', frS b I I' → BkX I' b nC rt ab E → (∀ j : Nat, j < eN E → I' (b + 8 + 7 * j) 0 = (eK E j : Int)) → Q none (S0 L, R, I', J)) → wpc 145 36 [vR (some b), vR (some 106), vI (i : Int)] [] (0, 0) (S0 L, R, I, J) Q := by
  have h6 := hE.1
  intro d
  induction d with
  | zero =>
    intro i I hd hT hY hq hQ
    obtain ⟨y1, y2, y3, y4, y5⟩ := hY
    refine (b_Book_settle_36 hb).mpr ?_
    rw [y3, if_neg (by omega)]
    exact hQ I frS.rf ⟨y1, y2, y3, y4, fun j hj => ⟨(y5 j hj).1, hq j (by omega)⟩⟩ (fun j hj => (y5 j hj).2)
  | succ d ih =>
    intro i I hd hT hY hq hQ
    obtain ⟨y1, y2, y3, y4, y5⟩ := hY
    refine (b_Book_settle_36 hb).mpr ?_
    rw [y3, if_pos (by omega)]
    refine x_compareHeads hb hb2 hb3 hE (by omega) hT ⟨y3, fun j hj => (y5 j hj).1.2.1⟩ (fun I1 f1 q1 s1 m1 => ?_)
    refine (b_Book_settle_46 hb).mpr ?_
    rw [w32_s (by omega)]
    have g1 : ∀ a, a ≠ b + 5 → a ≠ b + 6 → a ≠ b + 7 → a < 106 → I1 a = I a := fun a p1 p2 p3 p4 => f1 a p1 p2 p3 (Or.inl p4)
    refine ih (i + 1) (by omega) (hT.fr (g1 1 (by omega) (by omega) (by omega) (by omega)) (g1 2 (by omega) (by omega) (by omega) (by omega))) ⟨?_, ?_, ?_, ?_, ?_⟩ (fun j hj => ?_) (fun I2 f2 => hQ I2 (frS.tr (fun a p => f1 a (by omega) (by omega) (by omega) (by omega)) f2))
    · rw [g1 b (by omega) (by omega) (by omega) (by omega)]; exact y1
    · intro c hc
      rw [g1 (b + 1) (by omega) (by omega) (by omega) (by omega), g1 (b + 2) (by omega) (by omega) (by omega) (by omega), g1 (b + 3) (by omega) (by omega) (by omega) (by omega)]; exact y2 c hc
    · rw [g1 b (by omega) (by omega) (by omega) (by omega)]; exact y3
    · rw [g1 b (by omega) (by omega) (by omega) (by omega)]; exact y4
    · intro j hj
      exact ⟨(y5 j hj).1.fr (fun a p1 p2 => g1 a (by omega) (by omega) (by omega) (by omega)), by rw [g1 _ (by omega) (by omega) (by omega) (by omega)]; exact (y5 j hj).2⟩
    · by_cases hji : j = i
      · subst hji; exact ⟨s1, m1⟩
      · rw [(q1 (j : Int) (by omega)).1, (q1 (j : Int) (by omega)).2]; exact hq j (by omega)
theorem sb_2 (hb : isBk b) (hb2 : 2 < b) (hb3 : b + 50 ≤ 105) (hC : wfC nC rt ab) (hE : wfE E nC) : ∀ (d i : Nat) {I : Nat → Int → Int}, d + i = eN E → StI I → BkY I b nC rt ab E i → (∀ j : Nat, i ≤ j → j < eN E → RuW I (b + 8 + 7 * j) E j) → (∀ I', frS b I I' → BkX I' b nC rt ab E → (∀ j : Nat, j < eN E → I' (b + 8 + 7 * j) 0 = (eK E j : Int)) → Q none (S0 L, R, I', J)) → wpc 145 21 [vR (some b), vR (some 106), vI (i : Int)] [] (0, 0) (S0 L, R, I, J) Q := by
  have h6 := hE.1
  intro d
  induction d with
  | zero =>
    intro i I hd hT hY hq hQ
    refine (b_Book_settle_21 hb).mpr ?_
    rw [hY.2.2.1, if_neg (by omega)]
    have hi : i = eN E := by omega
    subst hi
    exact sb_3 hb hb2 hb3 hE (eN E) 0 (by omega) hT hY (fun j hj => by omega) hQ
  | succ d ih =>
    intro i I hd hT hY hq hQ
    obtain ⟨y1, y2, y3, y4, y5⟩ := hY
    refine (b_Book_settle_21 hb).mpr ?_
    rw [y3, if_pos (by omega)]
    refine x_settleInstance hb hb2 hC hE (by omega) hT (hq i (by omega) (by omega)) (fun c hc => (y2 c hc).2.1) (fun c hc => (y2 c hc).2.2) y4 (fun I1 f1 q1 r1 k1 o1 s1 => ?_)
    refine (b_Book_settle_30 hb).mpr ?_
    rw [w32_s (by omega)]
    refine ih (i + 1) (by omega) (hT.fr (f1 1 (by omega) (by omega) (by omega)) (f1 2 (by omega) (by omega) (by omega))) ⟨?_, ?_, ?_, s1, ?_⟩ (fun j p1 p2 => ?_) (fun I2 f2 => hQ I2 (frS.tr (fun a p => f1 a (by omega) (by omega) (by omega)) f2))
    · rw [q1 0 (by decide)]; exact y1
    · intro c hc
      rw [f1 (b + 1) (by omega) (by omega) (by omega), f1 (b + 2) (by omega) (by omega) (by omega)]
      exact ⟨(y2 c hc).1, (y2 c hc).2.1, o1 c hc⟩
    · rw [q1 4 (by decide)]; exact y3
    · intro j hj
      by_cases hji : j = i
      · subst hji; exact ⟨r1, k1⟩
      · exact ⟨(y5 j (by omega)).1.fr (fun a p1 p2 => f1 a (by omega) (by omega) (by omega)), by rw [f1 _ (by omega) (by omega) (by omega)]; exact (y5 j (by omega)).2⟩
    · exact (hq j (by omega) p2).fr (fun x _ => by rw [f1 _ (by omega) (by omega) (by omega)]) (f1 _ (by omega) (by omega) (by omega)) (f1 _ (by omega) (by omega) (by omega)) (f1 _ (by omega) (by omega) (by omega)) (f1 _ (by omega) (by omega) (by omega))
theorem sb_1 (hb : isBk b) (hb2 : 2 < b) (hb3 : b + 50 ≤ 105) (hE : wfE E nC) (h4 : nC ≤ 4) (hrt : ∀ c, c < nC → rt c < 2 ^ c) : ∀ (d c : Nat) {I : Nat → Int → Int}, d + c = nC → StI I → BkW I b nC rt E → (∀ e : Nat, e < c → I (b + 2) (e : Int) = ((absL rt c).getD e 0 : Int) ∧ I (b + 3) (e : Int) = 0) → (∀ I', frS b I I' → BkX I' b nC rt (fun c => (absL rt nC).getD c 0) E → (∀ j : Nat, j < eN E → I' (b + 8 + 7 * j) 0 = (eK E j : Int)) → Q none (S0 L, R, I', J)) → wpc 145 3 [vR (some b), vR (some 106), vI (c : Int)] [] (0, 0) (S0 L, R, I, J) Q := by
  have h6 := hE.1
  intro d
  induction d with
  | zero =>
    intro c I hd hT hW hq hQ
    obtain ⟨y1, y2, y3, y5⟩ := hW
    refine (b_Book_settle_3 hb).mpr ?_
    rw [y1, if_neg (by omega)]
    have hc : c = nC := by omega
    subst hc
    refine sb_2 hb hb2 hb3 ⟨h4, fun c' hc' => ⟨hrt c' hc', absL_lt hrt c' hc'⟩⟩ hE (eN E) 0 (by omega) (hT.fr (upM_ne (by omega)) (upM_ne (by omega))) ⟨?_, ?_, ?_, ?_, fun j hj => by omega⟩ (fun j _ p2 => ?_) (fun I2 f2 => hQ I2 (frS.tr (fun a p => upM_ne (by omega)) f2))
    · rw [upM_i (by decide)]; exact y1
    · intro c' hc'
      rw [upM_ne (by omega), upM_ne (by omega), upM_ne (by omega)]
      exact ⟨y2 c' hc', (hq c' hc').1, (hq c' hc').2⟩
    · rw [upM_i (by decide)]; exact y3
    · rw [upM_same]; rfl
    · exact (y5 j p2).fr (fun x _ => by rw [upM_ne (by omega)]) (upM_ne (by omega)) (upM_ne (by omega)) (upM_ne (by omega)) (upM_ne (by omega))
  | succ d ih =>
    intro c I hd hT hW hq hQ
    obtain ⟨y1, y2, y3, y5⟩ := hW
    refine (b_Book_settle_3 hb).mpr ?_
    rw [y1, if_pos (by omega)]
    refine x_settleClass hb (by omega) (fun c' hc' => hrt c' (by omega)) (y2 c (by omega)) (fun e he => (hq e he).1) (fun I1 f1 q1 a1 o1 => ?_)
    refine (b_Book_settle_12 hb).mpr ?_
    rw [w32_s (by omega)]
    refine ih (c + 1) (by omega) (hT.fr (f1 1 (by omega) (by omega)) (f1 2 (by omega) (by omega))) ⟨by rw [f1 b (by omega) (by omega)]; exact y1, fun c' hc' => by rw [f1 (b + 1) (by omega) (by omega)]; exact y2 c' hc', by rw [f1 b (by omega) (by omega)]; exact y3, fun j hj => (y5 j hj).fr (fun x _ => by rw [f1 _ (by omega) (by omega)]) (f1 _ (by omega) (by omega)) (f1 _ (by omega) (by omega)) (f1 _ (by omega) (by omega)) (f1 _ (by omega) (by omega))⟩ (fun e he => ?_) (fun I2 f2 => hQ I2 (frS.tr (fun a p => f1 a (by omega) (by omega)) f2))
    by_cases hec : e = c
    · subst hec; exact ⟨a1, o1⟩
    · rw [(q1 (e : Int) (by omega)).1, (q1 (e : Int) (by omega)).2, absL_get rt (n := c) (m := c + 1) (by omega) (by omega)]
      exact hq e (by omega)
theorem x_settleBook (hb : isBk b) (hb2 : 2 < b) (hb3 : b + 50 ≤ 105) (hE : wfE E nC) (h4 : nC ≤ 4) (hrt : ∀ c, c < nC → rt c < 2 ^ c) (hT : StI I) (hW : BkW I b nC rt E) (hQ : ∀ I', frS b I I' → BkX I' b nC rt (fun c => (absL rt nC).getD c 0) E → (∀ j : Nat, j < eN E → I' (b + 8 + 7 * j) 0 = (eK E j : Int)) → Q none (S0 L, R, I', J)) : wpC 145 [vR (some b), vR (some 106)] (S0 L, R, I, J) Q :=
  (c_Book_settle hb).mpr (sb_1 hb hb2 hb3 hE h4 hrt nC 0 (by omega) hT hW (fun e he => by omega) hQ)
end XSf
