-- ===== the class: the finder's work; what is told of a goal =====
/-- what the finder changes -/
def frF (R R' : Nat → Int → Option Nat) (I I' : Nat → Int → Int) (J J' : Nat → Int → Int64) : Prop := ∀ a, a < 156 ∨ 237 < a → R' a = R a ∧ I' a = I a ∧ J' a = J a
section XWo
variable {L : Nat} {R : Nat → Int → Option Nat} {I : Nat → Int → Int} {J : Nat → Int → Int64} {Q : Option MV → MM → Prop} {E : EN} {nC : Nat} {rt ab : Nat → Nat}
theorem frF.rf : frF R R I I J J := fun _ _ => ⟨rfl, rfl, rfl⟩
theorem frF.tr {R1 R2 : Nat → Int → Option Nat} {I1 I2 : Nat → Int → Int} {J1 J2 : Nat → Int → Int64} (h : frF R R1 I I1 J J1) (h2 : frF R1 R2 I1 I2 J1 J2) : frF R R2 I I2 J J2 := fun a ha => ⟨by rw [(h2 a ha).1, (h a ha).1], by rw [(h2 a ha).2.1, (h a ha).2.1], by rw [(h2 a ha).2.2, (h a ha).2.2]⟩
theorem frO.f {R' : Nat → Int → Option Nat} {I' : Nat → Int → Int} {J' : Nat → Int → Int64} {c p : Nat} (h : frO (goA c p) R R' I I' J J') (hc : c < 4) (hp : p < 9) : frF R R' I I' J J' := fun a ha => by
  have : 166 ≤ goA c p ∧ goA c p < 237 := by unfold goA; omega
  exact ⟨h.1 a (by omega), h.2.1 a (by omega), h.2.2 a (by omega)⟩
theorem mnt_and {c : Nat} {u : List Nat} : bset (eN E) (ftF E u) &&& bset (eN E) (fun i => decide (eO E i = c)) = mnt E c u := by
  apply nat_ext
  intro k
  unfold mnt
  rw [Nat.testBit_and, bset_bit, bset_bit, bset_bit]
  unfold ftF mnF
  cases decide (k < eN E) <;> cases decide (eO E k = c) <;> cases decide (¬ eK E k = 2) <;> cases sndB E k <;> cases fitB E k u <;> rfl
/-- the state of the finder at work -/
def FdX (R : Nat → Int → Option Nat) (I : Nat → Int → Int) (b a3 nC : Nat) (rt ab : Nat → Nat) (E : EN) (w : List Nat) : Prop := R 156 3 = some b ∧ R 156 4 = some a3 ∧ BkX I b nC rt ab E ∧ KnX I E ∧ ShS I a3 w
theorem FdX.fr {R' : Nat → Int → Option Nat} {I' : Nat → Int → Int} {b a3 : Nat} {w : List Nat} (h : FdX R I b a3 nC rt ab E w) (h6 : eN E ≤ 6) (hb2 : b + 50 ≤ 105) (h3 : a3 + 3 < 156 ∨ 238 < a3) (f1 : R' 156 = R 156) (f2 : ∀ a, a < 160 ∨ 237 < a → I' a = I a) : FdX R' I' b a3 nC rt ab E w := by
  obtain ⟨g1, g2, g3, g4, g5⟩ := h
  exact ⟨by rw [f1]; exact g1, by rw [f1]; exact g2, g3.fr h6 (fun a q1 q2 => f2 a (by omega)), fun k hk => by rw [f2 158 (by omega)]; exact g4 k hk, g5.fr (by rw [f2 a3 (by omega)]) (f2 _ (by omega)) (f2 _ (by omega)) (f2 _ (by omega))⟩
theorem wk_in {b a3 p : Nat} {w : List Nat} (hE : wfE E nC) (hC : nC ≤ 4) (hb : isBk b) (hb2 : b + 50 ≤ 105) (ha3 : isSh a3) (h3 : a3 + 3 < 156 ∨ 238 < a3) (hw : wfN w 1 = true) (hl : w.length ≤ 9) (hp : p < w.length) : ∀ (d c : Nat) {R : Nat → Int → Option Nat} {I : Nat → Int → Int} {J : Nat → Int → Int64}, d + c = nC → FdX R I b a3 nC rt ab E w → (∀ i, i < eN E → PuX I E w p i) → (∀ q c' : Nat, p ≤ q → q < w.length → c' < nC → (q = p → c' < c) → RwX R I J w E nC c' q) → (∀ R' I' J', frF R R' I I' J J' → FdX R' I' b a3 nC rt ab E w → (∀ q c' : Nat, p ≤ q → q < w.length → c' < nC → RwX R' I' J' w E nC c' q) → wpc 163 16 [vR (some 156), vR (some b), vU, vU, vI ((p : Int) + (-1)), vU, vU] [] (0, 0) (S0 L, R', I', J') Q) → wpc 163 27 [vR (some 156), vR (some b), vU, vU, vI (p : Int), vI ((bset (eN E) (ftF E (sub w p)) : Nat) : Int), vI (c : Int)] [] (0, 0) (S0 L, R, I, J) Q := by
  have h6 := hE.1
  intro d
  induction d with
  | zero =>
    intro c R I J hd hF hPu hT hQ
    refine (b_Finder_work_27 hb).mpr ?_
    rw [hF.2.2.1.1, if_neg (by omega), w32_eq (by omega) (by omega)]
    exact hQ R I J frF.rf hF (fun q c' h1 h2 h3 => hT q c' h1 h2 h3 (fun _ => by omega))
  | succ d ih =>
    intro c R I J hd hF hPu hT hQ
    obtain ⟨rb, rs, hB, hK, hS⟩ := id hF
    have hc : c < nC := by omega
    have l1 := bset_lt8 (n := eN E) (by omega) (ftF E (sub w p))
    refine (b_Finder_work_27 hb).mpr ?_
    rw [hB.1, if_pos (by omega), (hB.2.1 c hc).2.2, iand_nat (by omega), mnt_and]
    refine ⟨⟨by omega, by omega⟩, ?_⟩
    refine x_findOne hE hC hb hb2 ha3 h3 rb rs hB hK hw hl hS hc hp hPu (fun q c' h1 h2 h3 => hT q c' (by omega) h2 h3 (fun h => by omega)) (fun R1 I1 J1 f1 h1 => ?_)
    have hgA : 166 ≤ goA c p ∧ goA c p < 237 := by unfold goA; omega
    have hF1 := hF.fr (R' := R1) (I' := I1) h6 hb2 h3 (f1.1 156 (by omega)) (fun a ha => f1.2.1 a (by omega))
    refine (b_Finder_work_43 hb).mpr ?_
    rw [w32_s (by omega)]
    refine ih (c + 1) (by omega) hF1 (fun i hi => (hPu i hi).fr (f1.2.1 _ (by omega))) (fun q c' g1 g2 g3 g4 => ?_) (fun R2 I2 J2 f2 hF2 hT2 => hQ R2 I2 J2 ((f1.f (by omega) (by omega)).tr f2) hF2 hT2)
    by_cases hqc : q = p ∧ c' = c
    · rw [hqc.1, hqc.2]; exact h1
    · exact (hT q c' g1 g2 g3 (fun hq => by have := g4 hq; omega)).fr f1 (fun h => hqc ⟨(goA_inj (by omega) (by omega) h).2, (goA_inj (by omega) (by omega) h).1⟩)
theorem wk_out {b a3 : Nat} {w : List Nat} (hE : wfE E nC) (hC : nC ≤ 4) (hb : isBk b) (hb2 : b + 50 ≤ 105) (ha3 : isSh a3) (h3 : a3 + 3 < 156 ∨ 238 < a3) (hw : wfN w 1 = true) (hl : w.length ≤ 9) : ∀ (p : Nat) {R : Nat → Int → Option Nat} {I : Nat → Int → Int} {J : Nat → Int → Int64}, p ≤ w.length → FdX R I b a3 nC rt ab E w → (∀ q c' : Nat, p ≤ q → q < w.length → c' < nC → RwX R I J w E nC c' q) → (∀ R' I' J', frF R R' I I' J J' → (∀ q c' : Nat, q < w.length → c' < nC → RwX R' I' J' w E nC c' q) → Q none (S0 L, R', I', J')) → wpc 163 16 [vR (some 156), vR (some b), vU, vU, vI ((p : Int) + (-1)), vU, vU] [] (0, 0) (S0 L, R, I, J) Q := by
  intro p
  induction p with
  | zero =>
    intro R I J _ hF hT hQ
    refine (b_Finder_work_16 hb).mpr ?_
    rw [if_pos (by omega)]
    exact hQ R I J frF.rf (fun q c' h1 h2 => hT q c' (by omega) h1 h2)
  | succ p ih =>
    intro R I J hp hF hT hQ
    obtain ⟨rb, rs, hB, hK, hS⟩ := id hF
    refine (b_Finder_work_16 hb).mpr ?_
    have e0 : ((p + 1 : Nat) : Int) + (-1) = (p : Int) := by omega
    rw [if_neg (by omega), e0]
    refine x_fittingAt hE hb hb2 ha3 (by omega) rb rs hB hK hw hl hS (by omega) (fun I1 f1 hPu => ?_)
    refine (b_Finder_work_23 hb).mpr ?_
    have hF1 := hF.fr (R' := R) (I' := I1) hE.1 hb2 h3 rfl (fun a ha => f1 a (by omega))
    refine wk_in hE hC hb hb2 ha3 h3 hw hl (by omega) nC 0 (by omega) hF1 hPu (fun q c' h1 h2 h3 h4 => ?_) (fun R2 I2 J2 f2 hF2 hT2 => ?_)
    · have hqp : q ≠ p := fun h => by have := h4 h; omega
      have h := hT q c' (by omega) h2 h3
      have hge : 166 ≤ goA c' q := by unfold goA; omega
      unfold RwX GvX PtX at *
      rw [f1 _ (by omega)]
      exact h
    · exact ih (by omega) hF2 hT2 (fun R3 I3 J3 f3 hT3 => hQ R3 I3 J3 (fun a ha => ⟨by rw [(f3 a ha).1, (f2 a ha).1], by rw [(f3 a ha).2.1, (f2 a ha).2.1, f1 a (by omega)], by rw [(f3 a ha).2.2, (f2 a ha).2.2]⟩) hT3)
theorem x_work {b a2 a3 : Nat} {w : List Nat} (hE : wfE E nC) (hC : nC ≤ 4) (hb : isBk b) (hb2 : b + 50 ≤ 105) (ha2 : isP6 L a2) (h2 : a2 < 156) (ha3 : isSh a3) (h3 : a3 + 3 < 156 ∨ 238 < a3) (hB : BkX I b nC rt ab E) (hkd : ∀ j : Nat, j < eN E → I a2 (j : Int) = (eK E j : Int)) (hw : wfN w 1 = true) (hl : w.length ≤ 9) (hS : ShS I a3 w) (hQ : ∀ R' I' J', frF R R' I I' J J' → (∀ q c' : Nat, q < w.length → c' < nC → RwX R' I' J' w E nC c' q) → Q none (S0 L, R', I', J')) : wpC 163 [vR (some 156), vR (some b), vR (some a2), vR (some a3)] (S0 L, R, I, J) Q := by
  have h6 := hE.1
  refine (c_Finder_work hb ha2 ha3).mpr ?_
  have rb : (upM (upM R 156 3 (some b)) 156 4 (some a3)) 156 3 = some b := by rw [upM_i (by decide), upM_same]
  have rs : (upM (upM R 156 3 (some b)) 156 4 (some a3)) 156 4 = some a3 := upM_same
  have fr0 : ∀ a, a ≠ 156 → (upM (upM R 156 3 (some b)) 156 4 (some a3)) a = R a := fun a ha => by rw [upM_ne ha, upM_ne ha]
  generalize (upM (upM R 156 3 (some b)) 156 4 (some a3)) = R0 at *
  refine x_sortByKind h6 ha2 (by omega) hb (by omega) rb hB.2.2.1 hkd (fun I1 f1 hK => ?_)
  refine (b_Finder_work_10 hb ha3).mpr ?_
  have hS1 : ShS I1 a3 w := hS.fr (by rw [f1 a3 (by omega)]) (f1 _ (by omega)) (f1 _ (by omega)) (f1 _ (by omega))
  have e : w32 (I1 a3 3 - 1) = ((w.length : Nat) : Int) + (-1) := by rw [hS1.1.1, w32_eq (by omega) (by omega)]; omega
  rw [e]
  exact wk_out hE hC hb hb2 ha3 h3 hw hl w.length (Nat.le_refl _) ⟨rb, rs, hB.fr h6 (fun a q1 q2 => f1 a (by omega)), hK, hS1⟩ (fun q c' h1 h2 => by omega) (fun R2 I2 J2 f2 hT => hQ R2 I2 J2 (fun a ha => ⟨by rw [(f2 a ha).1, fr0 a (by omega)], by rw [(f2 a ha).2.1, f1 a (by omega)], (f2 a ha).2.2⟩) hT)
/-- the goals of a type lie ready in the finder -/
def LayX (R : Nat → Int → Option Nat) (I : Nat → Int → Int) (J : Nat → Int → Int64) (E : EN) (nC : Nat) (w : List Nat) : Prop := ∀ q c' : Nat, q < w.length → c' < nC → RwX R I J w E nC c' q
theorem LayX.root {w : List Nat} (hw : wfN w 1 = true) (h : LayX R I J E nC w) {c : Nat} (hc : c < nC) : GvX I J w (goA c 0) (G E c w) (DL E c w) := by
  have := (h 0 c (List.length_pos_iff.mpr (ne_wf1 hw)) hc).1
  rw [sub_all hw] at this
  exact this
theorem na_loop {w : List Nat} (hE : wfE E nC) (hC : nC ≤ 4) (hw : wfN w 1 = true) (hl : w.length ≤ 9) (hT : LayX R I J E nC w) : ∀ (n c q left st : Nat), (sub w q).length ≤ n → n + st ≤ 9 → c < nC → q < w.length → (G E c (sub w q)).1 = 1 → left < (G E c (sub w q)).2.1.length → Q (some (vI ((G E c (sub w q)).2.1.getD left 0))) (S0 L, R, I, J) → wpc 176 7 [vU, vU, vR (some (goA c q)), vI (left : Int), vI (st : Int), vU, vU] [] (0, 0) (S0 L, R, I, J) Q := by
  intro n
  induction n with
  | zero =>
    intro c q left st hn _ _ hq
    exact absurd (List.length_eq_zero_iff.mp (by omega)) (ne_wf1 (wf_sub hw hq))
  | succ n ih =>
    intro c q left st hn hst hc hq h1 hlt hQ
    obtain ⟨hv, hP⟩ := hT q c hq hc
    obtain ⟨hP7, hPk⟩ := hP h1
    obtain ⟨g1, g2, g3, g6, g5⟩ := hv.2.2 h1
    have hu := wf_sub hw hq
    have g0 := sub_get0 hq
    have hg := isGo_goA (c := c) (p := q) (by omega) (by omega)
    have hb2 : ((G E c (sub w q)).2.1.length : Int) + 1 ≤ 512 := (G_ok hE hC 9 c _ hu (by rw [sub_len]; have := en_le (w := w) (p := q) (by omega); unfold en at this; omega) hc).2.1
    have hl5 : left < 512 := by omega
    refine (b_Goal_numberAt_7 hg).mpr ?_
    rw [if_pos (by omega)]
    by_cases hl0 : left = 0
    · subst hl0
      rw [if_pos (by omega), g6]
      exact hQ
    · rw [if_neg (by omega)]
      have hv4 : ¬ 4 ≤ (sub w q).getD 0 0 := by
        intro h4
        have eG : (G E c (sub w q)).2.1.length = 1 := by
          rw [G_eq hE hu]
          unfold nodV
          rw [if_pos h4]; rfl
        omega
      obtain ⟨eG, hk1, ht⟩ := G_ent hE hu h1 hv4
      have hlen := chl_len hE c (sub w q)
      rw [eG] at hlt hQ
      have hch0 : ¬ (chl E c (sub w q)).length = 0 := by
        intro h
        rw [List.length_eq_zero_iff.mp h] at hlt
        simp at hlt
        omega
      have ew : w32 ((left : Int) + (-1)) = ((left - 1 : Nat) : Int) := by rw [w32_eq (by omega) (by omega)]; omega
      rw [ew]
      obtain ⟨c1, q1, hc1, hq1, hq1l, hR1, hk1e⟩ := hPk 0 (by omega)
      have hm1 : (c1, sub w q1) ∈ chl E c (sub w q) := by
        rw [← hk1e, List.getD_eq_getElem?_getD, List.getElem?_eq_getElem (by omega)]
        exact List.getElem_mem _
      have hs1 := hk1 _ hm1
      have ho1 := chl_ok hE hu hm1
      have hg1 := isGo_goA (c := c1) (p := q1) (by omega) (by omega)
      have l1 := ((hT q1 c1 hq1l hc1).1.2.2 hs1).1
      obtain ⟨rest, hrest⟩ : ∃ rest, chl E c (sub w q) = (c1, sub w q1) :: rest := by
        match hch : chl E c (sub w q) with
        | [] => rw [hch] at hch0; exact absurd rfl hch0
        | a :: r => rw [hch] at hk1e; exact ⟨r, by rw [show a = (c1, sub w q1) from hk1e]⟩
      have hQ2 : ∀ z : Int, z = ((tkn E c (sub w q) :: ((chl E c (sub w q)).map (fun k => (G E k.1 k.2).2.1)).flatten).getD left 0) → Q (some (vI z)) (S0 L, R, I, J) := fun z hz => by rw [hz]; exact hQ
      rw [hrest] at hlt hQ2
      simp only [List.map_cons, List.flatten_cons, List.length_cons, List.length_append] at hlt hQ2
      have el : left = (left - 1) + 1 := by omega
      refine (b_Goal_numberAt_20 (c0 := goA c1 q1) (c1 := 0) hg hR1 hg1 hR1 hg1 hR1 hg1).mpr ?_
      rw [hP7, if_pos (by omega), if_pos rfl, l1]
      refine ⟨⟨by decide, by decide⟩, ?_⟩
      by_cases hlt1 : left - 1 < (G E c1 (sub w q1)).2.1.length
      · rw [if_pos (by omega)]
        refine ⟨⟨by decide, by decide⟩, ?_⟩
        refine (b_num20 hg (Or.inr (by simp))).mpr ?_
        rw [if_neg (by simp), w32_s (by omega)]
        refine ih c1 q1 (left - 1) (st + 1) (by have := ho1.2.2; simp only at this; omega) (by omega) hc1 hq1l hs1 hlt1 (hQ2 _ ?_)
        rw [el, List.getD_cons_succ, List.getD_eq_getElem?_getD, List.getD_eq_getElem?_getD, List.getElem?_append_left hlt1]
        rfl
      · rw [if_neg (by omega)]
        refine ⟨⟨by decide, by decide⟩, ?_⟩
        have ew2 : w32 (((left - 1 : Nat) : Int) - ((G E c1 (sub w q1)).2.1.length : Int)) = ((left - 1 - (G E c1 (sub w q1)).2.1.length : Nat) : Int) := by rw [w32_eq (by omega) (by omega)]; omega
        rw [ew2, show w32 (((0 : Nat) : Int) + 1) = ((1 : Nat) : Int) by decide]
        have hch1 : ¬ (chl E c (sub w q)).length ≤ 1 := by
          intro h
          have : rest = [] := by
            rw [hrest, List.length_cons] at h
            exact List.length_eq_zero_iff.mp (by omega)
          rw [this] at hlt
          simp at hlt
          omega
        obtain ⟨c2, q2, hc2, hq2, hq2l, hR2, hk2e⟩ := hPk 1 (by omega)
        have hm2 : (c2, sub w q2) ∈ chl E c (sub w q) := by
          rw [← hk2e, List.getD_eq_getElem?_getD, List.getElem?_eq_getElem (by omega)]
          exact List.getElem_mem _
        have hs2 := hk1 _ hm2
        have ho2 := chl_ok hE hu hm2
        have hg2 := isGo_goA (c := c2) (p := q2) (by omega) (by omega)
        have l2 := ((hT q2 c2 hq2l hc2).1.2.2 hs2).1
        have hrest2 : rest = [(c2, sub w q2)] := by
          rw [hrest] at hk2e hlen
          match rest, hk2e, hlen with
          | [], h, _ => rw [hrest] at hch1; exact absurd (by simp) hch1
          | [a], h, _ => rw [show a = (c2, sub w q2) from h]
          | a :: b :: r, _, h => simp at h
        rw [hrest2] at hlt hQ2
        simp only [List.map_cons, List.map_nil, List.flatten_cons, List.flatten_nil, List.append_nil, List.length_nil] at hlt hQ2
        refine (b_Goal_numberAt_20 (c0 := goA c2 q2) (c1 := 0) hg hR2 hg2 hR2 hg2 hR2 hg2).mpr ?_
        rw [hP7, if_pos (by omega), if_pos rfl, l2]
        refine ⟨⟨by decide, by decide⟩, ?_⟩
        rw [if_pos (by omega)]
        refine ⟨⟨by decide, by decide⟩, ?_⟩
        refine (b_num20 hg (Or.inr (by simp))).mpr ?_
        rw [if_neg (by simp), w32_s (by omega)]
        refine ih c2 q2 _ (st + 1) (by have := ho2.2.2; simp only at this; omega) (by omega) hc2 hq2l hs2 (by omega) (hQ2 _ ?_)
        rw [el, List.getD_cons_succ, List.getD_eq_getElem?_getD, List.getD_eq_getElem?_getD, List.getElem?_append_right (by omega)]
        rfl
theorem x_numberAt {w : List Nat} (hE : wfE E nC) (hC : nC ≤ 4) (hw : wfN w 1 = true) (hl : w.length ≤ 9) (hT : LayX R I J E nC w) {c left : Nat} (hc : c < nC) (h1 : (G E c w).1 = 1) (hlt : left < (G E c w).2.1.length) (hQ : Q (some (vI ((G E c w).2.1.getD left 0))) (S0 L, R, I, J)) : wpC 176 [vR (some (goA c 0)), vI (left : Int)] (S0 L, R, I, J) Q := by
  refine (c_Goal_numberAt (isGo_goA (by omega) (by decide))).mpr ?_
  have hs := sub_all hw
  exact na_loop hE hC hw hl hT w.length c 0 left 0 (by rw [hs]; exact Nat.le_refl _) (by omega) hc (List.length_pos_iff.mpr (ne_wf1 hw)) (by rw [hs]; exact h1) (by rw [hs]; exact hlt) (by rw [hs]; exact hQ)
end XWo
