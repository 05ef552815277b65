-- ===== the class: all goals of a type =====
/-- what a rule's head puts at a place -/
def PuX (I : Nat → Int → Int) (E : EN) (w : List Nat) (p i : Nat) : Prop := match mtc (eH E i) (sub w p) [] [] with
  | none => True
  | some ab => BdX I (160 + i) w p ab.1 ab.2
section XFi
variable {L : Nat} {R : Nat → Int → Option Nat} {I : Nat → Int → Int} {J : Nat → Int → Int64} {Q : Option MV → MM → Prop} {E : EN} {nC : Nat} {rt ab : Nat → Nat}
theorem BdX.fr {I' : Nat → Int → Int} {r lo : Nat} {w a b : List Nat} (h : BdX I r w lo a b) (f : I' r = I r) : BdX I' r w lo a b := by
  unfold BdX at *
  rw [f]; exact h
theorem PuX.fr {I' : Nat → Int → Int} {w : List Nat} {p i : Nat} (h : PuX I E w p i) (f : I' (160 + i) = I (160 + i)) : PuX I' E w p i := by
  unfold PuX at *
  split
  · trivial
  · rename_i x hx
    rw [hx] at h
    simp only at h
    exact h.fr f
def ftF (E : EN) (u : List Nat) (i : Nat) : Bool := fitB E i u && (sndB E i && decide (¬ eK E i = 2))
theorem x_fittingAt {b a3 p : Nat} {w : List Nat} (hE : wfE E nC) (hb : isBk b) (hb2 : b + 50 ≤ 105) (ha3 : isSh a3) (h3 : a3 + 3 < 156 ∨ (165 < a3)) (rb : R 156 3 = some b) (rs : R 156 4 = some a3) (hB : BkX I b nC rt ab E) (hK : KnX I E) (hw : wfN w 1 = true) (hl : w.length ≤ 9) (hS : ShS I a3 w) (hp : p < w.length) (hQ : ∀ I', (∀ a, a < 160 ∨ 165 < a → I' a = I a) → (∀ i, i < eN E → PuX I' E w p i) → Q (some (vI ((bset (eN E) (ftF E (sub w p)) : Nat) : Int))) (S0 L, R, I', J)) : wpC 167 [vR (some 156), vI (p : Int)] (S0 L, R, I, J) Q := by
  have h6 := hE.1
  refine c_Finder_fittingAt.mpr ?_
  have key : ∀ (d i : Nat) {I1 : Nat → Int → Int}, d + i = eN E → (∀ a, a < 160 ∨ 165 < a → I1 a = I a) → (∀ j, j < i → PuX I1 E w p j) → wpc 167 5 [vR (some 156), vI (p : Int), vI ((bset i (fun i => fitB E i (sub w p)) : Nat) : Int), vI (i : Int)] [] (0, 0) (S0 L, R, I1, J) Q := by
    intro d
    induction d with
    | zero =>
      intro i I1 hi f1 hp1
      refine (b_Finder_fittingAt_5 rb hb rs ha3).mpr ?_
      have k2 : I1 158 2 = ((bset (eN E) (fun i => decide (eK E i = 2)) : Nat) : Int) := by rw [f1 158 (by omega)]; exact hK 2 (by decide)
      have l1 := bset_lt8 (n := i) (by omega) (fun i => fitB E i (sub w p))
      have e1 : I1 b 4 = (eN E : Int) := by rw [f1 b (by omega)]; exact hB.2.2.1
      have e2 : I1 b 6 = ((bset (eN E) (sndB E) : Nat) : Int) := by rw [f1 b (by omega)]; exact hB.2.2.2.1
      rw [e1, if_neg (by omega), e2, k2, iand_nat (by omega), iand_not (Nat.lt_of_le_of_lt Nat.and_le_left (by omega))]
      have e3 : ndf (bset i (fun i => fitB E i (sub w p)) &&& bset (eN E) (sndB E)) (bset (eN E) (fun i => decide (eK E i = 2))) = bset (eN E) (ftF E (sub w p)) := by
        apply nat_ext
        intro k
        rw [ndf_bit, Nat.testBit_and, bset_bit, bset_bit, bset_bit, bset_bit, show i = eN E by omega]
        unfold ftF
        by_cases hk : k < eN E
        · rw [decide_eq_true hk, Bool.true_and, Bool.true_and, Bool.true_and, Bool.true_and]
          by_cases h2 : eK E k = 2
          · rw [decide_eq_true h2, decide_eq_false (not_not_intro h2)]; simp
          · rw [decide_eq_false h2, decide_eq_true h2]; simp
        · rw [decide_eq_false hk]; rfl
      rw [e3]
      exact hQ I1 f1 (fun j hj => hp1 j (by omega))
    | succ d ih =>
      intro i I1 hi f1 hp1
      have hi2 : i < eN E := by omega
      obtain ⟨_, _, hhw, hhl, _⟩ := hE.2 i hi2
      have l1 := bset_lt8 (n := i) (by omega) (fun i => fitB E i (sub w p))
      have e1 : I1 b 4 = (eN E : Int) := by rw [f1 b (by omega)]; exact hB.2.2.1
      refine (b_Finder_fittingAt_5 rb hb rs ha3).mpr ?_
      rw [e1, if_pos (by omega)]
      refine ⟨⟨by omega, by omega⟩, ⟨by omega, by omega⟩, ?_⟩
      rw [Int.toNat_natCast]
      have hr := ie_Bk5 hb (i := (i : Int)) ⟨by omega, by omega⟩
      rw [Int.toNat_natCast] at hr
      have hpu := ie_puts (L := L) (i := (i : Int)) ⟨by omega, by omega⟩
      rw [Int.toNat_natCast] at hpu
      have hS1 : ShS I1 a3 w := hS.fr (by rw [f1 a3 (by omega)]) (f1 _ (by omega)) (f1 _ (by omega)) (f1 _ (by omega))
      have hH : ShW I1 (b + 8 + 7 * i + 1) (eH E i) := ((hB.2.2.2.2 i hi2).1.2.1.1).fr (by rw [f1 _ (by omega)]) (f1 _ (by omega))
      refine x_covers (is_Ru2 hr) ha3 hpu ⟨by omega, by omega⟩ ⟨by omega, by omega, by omega, by omega⟩ hhw (by omega) hw hl hp hH hS1 (fun I2 f2 => ?_)
      have fr2 : ∀ a, a < 160 ∨ 165 < a → I2 a = I a := fun a ha => by rw [f2 a (by omega), f1 a ha]
      cases hm : mtc (eH E i) (sub w p) [] [] with
      | none =>
        refine b_Finder_fittingAt_26.mpr ?_
        rw [if_pos rfl, w32_s (by omega), ← bset_f (f := fun i => fitB E i (sub w p)) (by unfold fitB; rw [hm]; rfl)]
        refine ih (i + 1) (by omega) fr2 (fun j hj => ?_)
        by_cases hji : j = i
        · subst hji; unfold PuX; rw [hm]; trivial
        · exact (hp1 j (by omega)).fr (f2 _ (by omega))
      | some x =>
        intro hbd
        refine b_Finder_fittingAt_26.mpr ?_
        rw [if_neg (by decide), ior1 l1 (by omega), w32_s (by omega), ← bset_t (f := fun i => fitB E i (sub w p)) (by unfold fitB; rw [hm]; rfl)]
        refine ih (i + 1) (by omega) fr2 (fun j hj => ?_)
        by_cases hji : j = i
        · subst hji; unfold PuX; rw [hm]; exact hbd
        · exact (hp1 j (by omega)).fr (f2 _ (by omega))
  exact key (eN E) 0 (by omega) (fun _ _ => rfl) (fun j hj => by omega)
theorem BdX.at {w : List Nat} {r lo : Nat} {x : List Nat × List Nat} (h : BdX I r w lo x.1 x.2) {v : Nat} (hv : v < 2) (hne : sbs x v ≠ []) : ∃ p : Nat, lo ≤ p ∧ p < w.length ∧ I r (v : Int) = (p : Int) ∧ sub w p = sbs x v := by
  have hv2 : v = 0 ∨ v = 1 := by omega
  unfold sbs at hne ⊢
  rcases hv2 with rfl | rfl
  · rw [if_pos rfl] at hne ⊢
    have := h.1
    rw [if_neg hne] at this
    exact this
  · rw [if_neg (by decide)] at hne ⊢
    have := h.2
    rw [if_neg hne] at this
    exact this
theorem goA_inj {c p c' p' : Nat} (h1 : p < 9) (h2 : p' < 9) (h : goA c p = goA c' p') : c = c' ∧ p = p' := by
  unfold goA at h; omega
theorem fin_one {A : GV} (h : A.1 = 1) : (fin9 A).1 = 1 := h
/-- a goal that was built: it is told -/
theorem GbX.fin {w : List Nat} {g n : Nat} {A : GV} {D : List (Nat × List Nat)} (h : GbX I J w g A D n) (h1 : A.1 = 1) : GvX I J w g (fin9 A) D := by
  obtain ⟨a0, a1, a2, a3, a4, a6, a7, a5⟩ := h
  refine ⟨by rw [a0]; exact h1.symm, ?_, fun _ => ⟨a1, a2, a3, a6, a5⟩⟩
  have : (fin9 A).1 = 1 := h1
  rw [if_pos this]; exact a4
theorem x_joinConditions {b c p i : Nat} {w : List Nat} {x : List Nat × List Nat} (hE : wfE E nC) (hC : nC ≤ 4) (hb : isBk b) (hb2 : b + 50 ≤ 105) (hw : wfN w 1 = true) (hl : w.length ≤ 9) (hc : c < nC) (hp : p < w.length) (hi : i < eN E) (hv4 : ¬ 4 ≤ (sub w p).getD 0 0) (hie : tkn E c (sub w p) = (i : Int)) (hm : mtc (eH E i) (sub w p) [] [] = some x) (hB : BkX I b nC rt ab E) (hbd : BdX I (160 + i) w p x.1 x.2) (hA : GbX I J w (goA c p) (1, [(i : Int)], 7 * ((i : Int) + 1), 1, 0) [(c, sub w p)] 0) (hT : ∀ q c' : Nat, p < q → q < w.length → c' < nC → RwX R I J w E nC c' q) (hQ : ∀ R' I' J', frO (goA c p) R R' I I' J J' → RwX R' I' J' w E nC c p → Q none (S0 L, R', I', J')) : wpC 170 [vR (some 156), vR (some (goA c p)), vR (some (b + 8 + 7 * i)), vR (some (160 + i))] (S0 L, R, I, J) Q := by
  have h6 := hE.1
  have hg := isGo_goA (c := c) (p := p) (by omega) (by omega)
  have hr := ie_Bk5 hb (i := (i : Int)) ⟨by omega, by omega⟩
  rw [Int.toNat_natCast] at hr
  have hpu := ie_puts (L := L) (i := (i : Int)) ⟨by omega, by omega⟩
  rw [Int.toNat_natCast] at hpu
  obtain ⟨_, _, hhw, hhl, hcl2, hcs⟩ := hE.2 i hi
  obtain ⟨r1, r2, r3, r4, r5⟩ := (hB.2.2.2.2 i hi).1
  have hu := wf_sub hw hp
  have hch := chl_eq (c := c) hv4 hie hm
  have hGn := G_eq hE (c := c) hu
  unfold nodV at hGn
  rw [if_neg hv4, hie, if_neg (by omega)] at hGn
  have hDn := DL_eq hE (c := c) hu
  have hgA : 166 ≤ goA c p ∧ goA c p < 243 := by unfold goA; omega
  have oB : ∀ c' q' : Nat, c' < nC → q' < w.length → okV 9 (G E c' (sub w q')) := fun c' q' h1 h2 => G_ok hE hC 9 c' _ (wf_sub hw h2) (by rw [sub_len]; have := en_le (w := w) (p := q') (by omega); unfold en at this; omega) h1
  -- the places of the conditions
  have hpl : ∀ k : Nat, k < (eC E i).length → ∃ c' q' : Nat, c' < nC ∧ p < q' ∧ q' < w.length ∧ (chl E c (sub w p)).getD k (0, []) = (c', sub w q') ∧ c' = ((eC E i).getD k (0, 0)).1 ∧ I (160 + i) (((eC E i).getD k (0, 0)).2 : Int) = (q' : Int) ∧ ((eC E i).getD k (0, 0)).2 < 2 := by
    intro k hk
    obtain ⟨hc1, hc2, hc3⟩ := hcs k hk
    have hge : (chl E c (sub w p)).getD k (0, []) = (((eC E i).getD k (0, 0)).1, sbs x ((eC E i).getD k (0, 0)).2) := by
      rw [hch, List.getD_eq_getElem?_getD, List.getElem?_map, List.getElem?_eq_getElem hk, List.getD_eq_getElem?_getD, List.getElem?_eq_getElem hk]; rfl
    have hmem : (((eC E i).getD k (0, 0)).1, sbs x ((eC E i).getD k (0, 0)).2) ∈ chl E c (sub w p) := by
      rw [← hge, List.getD_eq_getElem?_getD, List.getElem?_eq_getElem (by rw [hch, List.length_map]; exact hk)]
      exact List.getElem_mem _
    obtain ⟨o1, o2, o3⟩ := chl_ok hE hu hmem
    obtain ⟨q, hq1, hq2, hq3, hq4⟩ := BdX.at hbd hc2 (ne_wf1 o2)
    have hqp : p ≠ q := by
      intro h
      subst h
      rw [← hq4] at o3
      exact absurd o3 (Nat.lt_irrefl _)
    exact ⟨((eC E i).getD k (0, 0)).1, q, hc1, by omega, hq2, by rw [hge, hq4], rfl, hq3, hc2⟩
  have hlen : (chl E c (sub w p)).length = (eC E i).length := by rw [hch, List.length_map]
  -- one step: the row of the k-th condition
  have hstep : ∀ (k : Nat) {R1 : Nat → Int → Option Nat} {I1 : Nat → Int → Int} {J1 : Nat → Int → Int64} (A : GV) (D : List (Nat × List Nat)), k < (eC E i).length → frO (goA c p) R R1 I I1 J J1 → GbX I1 J1 w (goA c p) A D k → A.1 = 1 → (A.2.1.length ≤ 2000 ∧ 1 ≤ A.2.1.length ∧ 0 ≤ A.2.2.1 ∧ A.2.2.1 ≤ 4000 ∧ 0 ≤ A.2.2.2.1 ∧ A.2.2.2.1 ≤ 100 ∧ A.2.2.2.2 < 256) → (∀ c' q' : Nat, c' < nC → p < q' → q' < w.length → (chl E c (sub w p)).getD k (0, []) = (c', sub w q') → (¬ (G E c' (sub w q')).1 = 1 → ∀ I2, (∀ a, a ≠ goA c p → I2 a = I1 a) → I2 (goA c p) 0 = (G E c' (sub w q')).1 → I2 (goA c p) 4 = 0 → Q none (S0 L, R1, I2, J1)) ∧ ((G E c' (sub w q')).1 = 1 → ∀ R2 I2 J2, frO (goA c p) R1 R2 I1 I2 J1 J2 → (∀ k' : Int, k' ≠ (k : Int) → R2 (goA c p + 1) k' = R1 (goA c p + 1) k') → R2 (goA c p + 1) (k : Int) = some (goA c' q') → GbX I2 J2 w (goA c p) (jn A ((k : Int) + 2) (G E c' (sub w q'))) (D ++ DL E c' (sub w q')) (k + 1) → wpc 170 3 [vR (some 156), vR (some (goA c p)), vR (some (b + 8 + 7 * i)), vR (some (160 + i)), vI ((k + 1 : Nat) : Int), vU] [] (0, 0) (S0 L, R2, I2, J2) Q)) → wpc 170 3 [vR (some 156), vR (some (goA c p)), vR (some (b + 8 + 7 * i)), vR (some (160 + i)), vI (k : Int), vU] [] (0, 0) (S0 L, R1, I1, J1) Q := by
    intro k R1 I1 J1 A D hk f1 hA1 hAo oA hgo
    obtain ⟨c', q', hc', hq', hql, hge, hce, hI, hv2⟩ := hpl k hk
    obtain ⟨gno, gyes⟩ := hgo c' q' hc' hq' hql hge
    have hne : goA c' q' ≠ goA c p := fun h => by have := (goA_inj (by omega) (by omega) h).2; omega
    have ir3 : I1 (b + 8 + 7 * i) 3 = ((eC E i).length : Int) := by rw [f1.2.1 _ (by omega)]; exact r3
    have ir5 : I1 (b + 8 + 7 * i + 5) (k : Int) = (((eC E i).getD k (0, 0)).1 : Int) ∧ I1 (b + 8 + 7 * i + 6) (k : Int) = (((eC E i).getD k (0, 0)).2 : Int) := by rw [f1.2.1 _ (by omega), f1.2.1 _ (by omega)]; exact r4 k hk
    have iput : I1 (160 + i) (((eC E i).getD k (0, 0)).2 : Int) = (q' : Int) := by rw [f1.2.1 _ (by omega)]; exact hI
    have hRw := (hT q' c' hq' hql hc').fr f1 hne
    have hg' := isGo_goA (c := c') (p := q') (by omega) (by omega)
    refine (b_Finder_joinConditions_3 hg hr hpu).mpr ?_
    rw [ir3, if_pos (by omega), ir5.1, ir5.2, iput, ← hce, x_goalAt (by omega) (by omega)]
    refine ⟨⟨by omega, by omega⟩, ⟨by omega, by omega⟩, ⟨by omega, by omega⟩, ?_⟩
    refine (b_Finder_joinConditions_21 hg hr hpu hg').mpr ?_
    rw [hRw.1.1]
    by_cases h1 : (G E c' (sub w q')).1 = 1
    · rw [if_pos h1]
      refine x_join hg hg' hne (by omega) hA1 hAo hRw.1 h1 oA (oB c' q' hc' hql) (fun R2 I2 J2 f2 g2 h2 b2 => ?_)
      refine (b_Finder_joinConditions_38 hg hr hpu).mpr ?_
      rw [w32_s (by omega)]
      exact gyes h1 R2 I2 J2 f2 g2 h2 b2
    · rw [if_neg h1]
      refine x_failAs hg (fun I2 f2 e0 e4 => ?_)
      exact b_Finder_joinConditions_32.mpr (gno h1 I2 f2 e0 e4)
  -- the end: all conditions are joined
  have hend : ∀ {R1 : Nat → Int → Option Nat} {I1 : Nat → Int → Int} {J1 : Nat → Int → Int64}, frO (goA c p) R R1 I I1 J J1 → RwX R1 I1 J1 w E nC c p → wpc 170 3 [vR (some 156), vR (some (goA c p)), vR (some (b + 8 + 7 * i)), vR (some (160 + i)), vI ((eC E i).length : Int), vU] [] (0, 0) (S0 L, R1, I1, J1) Q := by
    intro R1 I1 J1 f1 h
    have ir3 : I1 (b + 8 + 7 * i) 3 = ((eC E i).length : Int) := by rw [f1.2.1 _ (by omega)]; exact r3
    refine (b_Finder_joinConditions_3 hg hr hpu).mpr ?_
    rw [ir3, if_neg (by omega)]
    exact hQ R1 I1 J1 f1 h
  have hfail : ∀ {R1 : Nat → Int → Option Nat} {I1 I2 : Nat → Int → Int} {J1 : Nat → Int → Int64} {z : Int}, frO (goA c p) R R1 I I1 J J1 → (∀ a, a ≠ goA c p → I2 a = I1 a) → I2 (goA c p) 0 = z → I2 (goA c p) 4 = 0 → ¬ z = 1 → (G E c (sub w p)).1 = z → Q none (S0 L, R1, I2, J1) := by
    intro R1 I1 I2 J1 z f1 f2 e0 e4 hz hG
    refine hQ R1 I2 J1 ⟨f1.1, fun a ha => by rw [f2 a ha, f1.2.1 a ha], f1.2.2⟩ ⟨⟨by rw [e0, hG], ?_, fun q => absurd (by rw [← hG]; exact q) hz⟩, fun q => absurd (by rw [← hG]; exact q) hz⟩
    rw [if_neg (by rw [hG]; exact hz), e4]; rfl
  refine (c_Finder_joinConditions hg hr hpu).mpr ?_
  have ob0 : (([(i : Int)] : List Int).length ≤ 2000 ∧ 1 ≤ ([(i : Int)] : List Int).length ∧ (0 : Int) ≤ 7 * ((i : Int) + 1) ∧ 7 * ((i : Int) + 1) ≤ 4000 ∧ (0 : Int) ≤ 1 ∧ (1 : Int) ≤ 100 ∧ 0 < 256) := ⟨by simp, by simp, by omega, by omega, by decide, by decide, by decide⟩
  by_cases hc0 : (eC E i).length = 0
  · have hnil : chl E c (sub w p) = [] := List.length_eq_zero_iff.mp (by omega)
    have := hend (frO.rf (g := goA c p) (R := R) (I := I) (J := J)) (by
      unfold RwX
      rw [hGn, hnil, hDn, hnil]
      refine ⟨hA.fin rfl, fun _ => ⟨?_, fun k hk => absurd hk (by simp)⟩⟩
      exact hA.2.2.2.2.2.2.1)
    rw [hc0] at this
    exact this
  refine hstep 0 (1, [(i : Int)], 7 * ((i : Int) + 1), 1, 0) [(c, sub w p)] (by omega) frO.rf hA rfl ob0 (fun c1 q1 hc1 hq1 hq1l hg1 => ⟨fun h1 I2 f2 e0 e4 => ?_, fun h1 R2 I2 J2 f2 g2 h2 b2 => ?_⟩)
  · -- the first part fails
    refine hfail frO.rf f2 e0 e4 h1 ?_
    obtain ⟨rest, hrest⟩ : ∃ rest, chl E c (sub w p) = (c1, sub w q1) :: rest := by
      match hcc : chl E c (sub w p) with
      | [] => rw [hcc] at hlen; simp at hlen; omega
      | a :: r => rw [hcc] at hg1; exact ⟨r, by rw [show a = (c1, sub w q1) from hg1]⟩
    rw [hGn, hrest]
    have hj : (jn (1, [(i : Int)], 7 * ((i : Int) + 1), 1, 0) 2 (G E c1 (sub w q1))).1 = (G E c1 (sub w q1)).1 := by
      unfold jn; rw [if_pos rfl, if_neg h1]
    match rest with
    | [] => exact hj
    | k2 :: r2 =>
      show (jn (jn (1, [(i : Int)], 7 * ((i : Int) + 1), 1, 0) 2 (G E c1 (sub w q1))) 3 (G E k2.1 k2.2)).1 = _
      unfold jn
      rw [if_pos rfl, if_neg h1, if_neg h1]
  · have o1 := oB c1 q1 hc1 hq1l
    have o12 : ((G E c1 (sub w q1)).2.1.length : Int) + 1 ≤ 512 := o1.2.1
    obtain ⟨j1, j2, j3, j4, j5, j6, j7, j8, j9⟩ := jn_ok (t := 2) (n := 9) (by decide) (show ((1, [(i : Int)], 7 * ((i : Int) + 1), 1, 0) : GV).1 = 1 ∨ _ ∨ _ from Or.inl rfl) (show (0 : Int) ≤ 1 ∧ (1 : Int) ≤ ((9 : Nat) : Int) + 1 ∧ (0 : Nat) < 256 ∧ (0 : Int) ≤ 7 * ((i : Int) + 1) by omega) o1
    have j2' : (jn (1, [(i : Int)], 7 * ((i : Int) + 1), 1, 0) 2 (G E c1 (sub w q1))).2.1.length ≤ 1 + (G E c1 (sub w q1)).2.1.length := j2
    have j4' : (jn (1, [(i : Int)], 7 * ((i : Int) + 1), 1, 0) 2 (G E c1 (sub w q1))).2.2.1 ≤ 7 * ((i : Int) + 1) + 2 * 1008 := j4
    have j8' : 1 ≤ (jn (1, [(i : Int)], 7 * ((i : Int) + 1), 1, 0) 2 (G E c1 (sub w q1))).2.1.length := j8
    have jo : (jn (1, [(i : Int)], 7 * ((i : Int) + 1), 1, 0) 2 (G E c1 (sub w q1))).1 = 1 := by unfold jn; rw [if_pos rfl, if_pos h1]
    by_cases hc1' : (eC E i).length = 1
    · obtain ⟨k1, hk1⟩ := List.length_eq_one_iff.mp (show (chl E c (sub w p)).length = 1 by omega)
      have hk1' : k1 = (c1, sub w q1) := by rw [hk1] at hg1; exact hg1
      have := hend f2 (by
        unfold RwX
        rw [hGn, hDn, hk1, hk1']
        refine ⟨?_, fun _ => ⟨?_, fun k hk => ?_⟩⟩
        · have hb := b2.fin jo
          have hl1 : ([(c1, sub w q1)] : List (Nat × List Nat)).flatMap (fun k => DL E k.1 k.2) = DL E c1 (sub w q1) := by simp
          rw [hl1]
          exact hb
        · exact b2.2.2.2.2.2.2.1
        · have hk0 : k = 0 := by simpa using hk
          subst hk0
          exact ⟨c1, q1, hc1, hq1, hq1l, h2, rfl⟩)
      rw [hc1'] at this
      exact this
    · have b2' : GbX I2 J2 w (goA c p) (jn (1, [(i : Int)], 7 * ((i : Int) + 1), 1, 0) 2 (G E c1 (sub w q1))) ([(c, sub w p)] ++ DL E c1 (sub w q1)) 1 := b2
      refine hstep 1 (jn (1, [(i : Int)], 7 * ((i : Int) + 1), 1, 0) 2 (G E c1 (sub w q1))) _ (by omega) f2 b2' jo ⟨by omega, j8', j3, by omega, j5, by omega, j7⟩ (fun c2 q2 hc2 hq2 hq2l hg2 => ⟨fun h3 I3 f3 e0 e4 => ?_, fun h3 R3 I3 J3 f3 g3 h4 b3 => ?_⟩)
      · refine hfail f2 f3 e0 e4 h3 ?_
        obtain ⟨k1, k2, hk⟩ := len2 (show (chl E c (sub w p)).length = 2 by omega)
        have hk1' : k1 = (c1, sub w q1) := by rw [hk] at hg1; exact hg1
        have hk2' : k2 = (c2, sub w q2) := by rw [hk] at hg2; exact hg2
        rw [hGn, hk, hk1', hk2']
        show (jn (jn (1, [(i : Int)], 7 * ((i : Int) + 1), 1, 0) 2 (G E c1 (sub w q1))) 3 (G E c2 (sub w q2))).1 = _
        generalize jn (1, [(i : Int)], 7 * ((i : Int) + 1), 1, 0) 2 (G E c1 (sub w q1)) = A1 at *
        unfold jn
        rw [if_pos jo, if_neg h3]
      · obtain ⟨k1, k2, hk⟩ := len2 (show (chl E c (sub w p)).length = 2 by omega)
        have hk1' : k1 = (c1, sub w q1) := by rw [hk] at hg1; exact hg1
        have hk2' : k2 = (c2, sub w q2) := by rw [hk] at hg2; exact hg2
        have jo2 : (jn (jn (1, [(i : Int)], 7 * ((i : Int) + 1), 1, 0) 2 (G E c1 (sub w q1))) 3 (G E c2 (sub w q2))).1 = 1 := by
          generalize jn (1, [(i : Int)], 7 * ((i : Int) + 1), 1, 0) 2 (G E c1 (sub w q1)) = A1 at *
          unfold jn
          rw [if_pos jo, if_pos h3]
        have := hend (f2.tr f3) (by
          unfold RwX
          rw [hGn, hDn, hk, hk1', hk2']
          refine ⟨?_, fun _ => ⟨?_, fun k hk => ?_⟩⟩
          · have hb := b3.fin jo2
            have hl1 : ([(c1, sub w q1), (c2, sub w q2)] : List (Nat × List Nat)).flatMap (fun k => DL E k.1 k.2) = DL E c1 (sub w q1) ++ DL E c2 (sub w q2) := by simp
            rw [hl1]
            have hap : [(c, sub w p)] ++ DL E c1 (sub w q1) ++ DL E c2 (sub w q2) = (c, sub w p) :: (DL E c1 (sub w q1) ++ DL E c2 (sub w q2)) := by simp
            rw [hap] at hb
            exact hb
          · exact b3.2.2.2.2.2.2.1
          · have hk2 : k = 0 ∨ k = 1 := by simp at hk; omega
            rcases hk2 with rfl | rfl
            · exact ⟨c1, q1, hc1, hq1, hq1l, by rw [g3 _ (by decide)]; exact h2, rfl⟩
            · exact ⟨c2, q2, hc2, hq2, hq2l, h4, rfl⟩)
        rw [show (eC E i).length = 2 by omega] at this
        exact this
theorem lshl_nat : ∀ k : Nat, k < 36 → lshl (Int64.ofInt 1) (k : Int) = Int64.ofNat (2 ^ k) := by decide +kernel
theorem tkn_neg {c : Nat} {u : List Nat} (h : tkn E c u < 0) : (if tkn E c u = -1 then (0 : Int) else -2) = if mnt E c u = 0 then 0 else -2 := by
  by_cases h0 : mnt E c u = 0
  · rw [if_pos h0, if_pos (by unfold tkn tks; rw [if_pos h0])]
  · rw [if_neg h0]
    rw [if_neg]
    unfold tkn tks at h ⊢
    rw [if_neg h0] at h ⊢
    by_cases h1 : 1 < pcn 16 (mnt E c u) ∧ soleB E (mnt E c u) (eN E) = true
    · rw [if_pos h1]; decide
    · rw [if_neg h1] at h ⊢
      by_cases h2 : bst E (grp E (mnt E c u)) (eN E) = -1
      · rw [if_pos h2]; decide
      · rw [if_neg h2]; exact h2
theorem x_findOne {b a3 c p : Nat} {w : List Nat} (hE : wfE E nC) (hC : nC ≤ 4) (hb : isBk b) (hb2 : b + 50 ≤ 105) (ha3 : isSh a3) (h3 : a3 + 3 < 156 ∨ 238 < a3) (rb : R 156 3 = some b) (rs : R 156 4 = some a3) (hB : BkX I b nC rt ab E) (hK : KnX I E) (hw : wfN w 1 = true) (hl : w.length ≤ 9) (hS : ShS I a3 w) (hc : c < nC) (hp : p < w.length) (hPu : ∀ i, i < eN E → PuX I E w p i) (hT : ∀ q c' : Nat, p < q → q < w.length → c' < nC → RwX R I J w E nC c' q) (hQ : ∀ R' I' J', frO (goA c p) R R' I I' J J' → RwX R' I' J' w E nC c p → Q none (S0 L, R', I', J')) : wpC 168 [vR (some 156), vI (c : Int), vI (p : Int), vI (mnt E c (sub w p) : Int)] (S0 L, R, I, J) Q := by
  have h6 := hE.1
  have hg := isGo_goA (c := c) (p := p) (by omega) (by omega)
  have hgA : 166 ≤ goA c p ∧ goA c p < 238 := by unfold goA; omega
  have g0 := sub_get0 hp
  have hu := wf_sub hw hp
  have hs6 := wf_lt6 hw hp
  obtain ⟨f1, f2, f3⟩ := fsP_ok w p
  refine c_Finder_findOne.mpr ?_
  rw [x_goalAt (by omega) (by omega)]
  refine (b_Finder_findOne_5 hg rs ha3).mpr ⟨⟨by omega, by omega⟩, ?_⟩
  rw [x_variableAt ha3 (fun q hq => wf_lt6 hw hq) hl hS.1 hp, (hS.2 p hp).2]
  have e1 : w32 (w32 ((c : Int) * 9) + (fsP w p : Int)) = ((9 * c + fsP w p : Nat) : Int) := by
    rw [w32_eq (z := (c : Int) * 9) (by omega) (by omega), w32_eq (by omega) (by omega)]; omega
  have hy : Int64.ofNat (2 ^ (9 * c + fsP w p)) = Int64.ofNat (wnb w [(c, sub w p)]) := by rw [wnb_one hl (by omega) hp]
  rw [e1, lshl_nat _ (by omega), hy]
  refine (b_Finder_findOne_23 hg).mpr ?_
  by_cases h4 : 4 ≤ w.getD p 0
  · have hvr : vrF (w.getD p 0 : Int) = ((w.getD p 0 - 4 : Nat) : Int) := by unfold vrF; rw [if_neg (by omega)]; omega
    rw [hvr, if_neg (by omega)]
    have hv : 4 ≤ (sub w p).getD 0 0 := by rw [g0]; exact h4
    have eG : G E c (sub w p) = (1, [((10 + 2 * c + (w.getD p 0 - 4) : Nat) : Int)], ((10 + 2 * c + (w.getD p 0 - 4) : Nat) : Int), 1, 2 ^ (2 * c + (w.getD p 0 - 4))) := by
      rw [G_eq hE hu]
      unfold nodV
      rw [if_pos hv, g0]
    have ec : chl E c (sub w p) = [] := by unfold chl; rw [if_pos hv]
    have eD : DL E c (sub w p) = [(c, sub w p)] := by rw [DL_eq hE hu, ec]; rfl
    refine (c_Goal_findAsNeed hg).mpr ?_
    have e2 : w32 (w32 (10 + w32 (2 * (c : Int))) + ((w.getD p 0 - 4 : Nat) : Int)) = ((10 + 2 * c + (w.getD p 0 - 4) : Nat) : Int) := by
      rw [w32_eq (z := 2 * (c : Int)) (by omega) (by omega), w32_eq (z := 10 + 2 * (c : Int)) (by omega) (by omega), w32_eq (by omega) (by omega)]; omega
    rw [e2]
    refine x_begin hg (by omega) rfl (fun I1 J1 q1 q2 hA => ?_)
    obtain ⟨a0, a1, a2, a3', a4, a6, a7, a5⟩ := hA
    have a6' : I1 (goA c p) 6 = ((10 + 2 * c + (w.getD p 0 - 4) : Nat) : Int) := a6
    refine (b_Goal_findAsNeed_11 hg).mpr ?_
    rw [a6', x_needBit (by omega) (by omega)]
    refine (b_Goal_findAsNeed_20 hg).mpr ?_
    refine b_Finder_findOne_34.mpr ?_
    refine hQ R _ J1 ⟨fun _ _ => rfl, fun a ha => by rw [upM_ne ha, upM_ne ha, q1 a ha], q2⟩ ?_
    unfold RwX
    rw [eG, ec, eD]
    refine ⟨⟨?_, ?_, fun _ => ⟨?_, ?_, ?_, ?_, a5⟩⟩, fun _ => ⟨?_, fun k hk => absurd hk (by simp)⟩⟩
    · rw [upM_i (by decide), upM_i (by decide)]; exact a0
    · rw [if_pos rfl, upM_same]
    · rw [upM_i (by decide), upM_i (by decide)]; exact a1
    · rw [upM_i (by decide), upM_same]
    · rw [upM_i (by decide), upM_i (by decide)]; exact a3'
    · rw [upM_i (by decide), upM_i (by decide)]; exact a6'
    · rw [upM_i (by decide), upM_i (by decide)]; exact a7
  · have hvr : vrF (w.getD p 0 : Int) = -1 := by unfold vrF; rw [if_pos (by omega)]
    have hv4 : ¬ 4 ≤ (sub w p).getD 0 0 := by rw [g0]; exact h4
    rw [hvr, if_pos rfl]
    refine x_takenOf h6 hb rb hB hK (bset_lt _ _) ?_
    refine (b_Finder_findOne_40 hg).mpr ?_
    have hGn := G_eq hE (c := c) hu
    unfold nodV at hGn
    rw [if_neg hv4] at hGn
    by_cases ht : tkn E c (sub w p) < 0
    · have htx : tkX E (mnt E c (sub w p)) = -1 := by unfold tkX; exact if_pos ht
      rw [htx, if_pos rfl]
      rw [if_pos ht, tkn_neg ht] at hGn
      have hfl : ∀ z : Int, z = (if mnt E c (sub w p) = 0 then 0 else -2) → wpc 168 54 [vU, vU, vU, vU, vU, vU, vU, vU, vU] [vI z, vR (some (goA c p))] (0, 0) (S0 L, R, I, J) Q := by
        intro z hz
        have hz1 : ¬ z = 1 := by rw [hz]; split <;> decide
        refine (b_Finder_findOne_54 hg).mpr ?_
        refine x_failAs hg (fun I2 q2 e0 e4 => ?_)
        refine b_Finder_findOne_56.mpr ?_
        refine hQ R I2 J ⟨fun _ _ => rfl, q2, fun _ _ => rfl⟩ ?_
        unfold RwX
        rw [hGn, ← hz]
        exact ⟨⟨e0, by rw [if_neg hz1, e4]; rfl, fun q => absurd q hz1⟩, fun q => absurd q hz1⟩
      by_cases hm0 : mnt E c (sub w p) = 0
      · rw [if_pos (by omega)]
        exact hfl 0 (by rw [if_pos hm0])
      · rw [if_neg (by omega)]
        exact hfl (-2) (by rw [if_neg hm0])
    · have htx : tkX E (mnt E c (sub w p)) = tkn E c (sub w p) := by unfold tkX; exact if_neg ht
      obtain ⟨i, hi, hie, hsd, x, hab⟩ := tkn_fit ht
      rw [htx, hie, if_neg (by omega)]
      refine x_begin hg (by omega) rfl (fun I1 J1 q1 q2 hA => ?_)
      refine (b_Finder_findOne_63 hg rb hb).mpr ⟨⟨by omega, by omega⟩, ⟨by omega, by omega⟩, ?_⟩
      rw [Int.toNat_natCast]
      have fr1 : frO (goA c p) R R I I1 J J1 := ⟨fun _ _ => rfl, q1, q2⟩
      have hbd : BdX I (160 + i) w p x.1 x.2 := by
        have := hPu i hi
        unfold PuX at this
        rw [hab] at this
        exact this
      refine x_joinConditions hE hC hb hb2 hw hl hc hp hi hv4 hie hab (hB.fr h6 (fun a h1 h2 => q1 a (by omega))) (hbd.fr (q1 _ (by omega))) hA (fun q c' h1 h2 h3 => (hT q c' h1 h2 h3).fr fr1 (fun h => by have := (goA_inj (by omega) (by omega) h).2; omega)) (fun R2 I2 J2 f5 h5 => ?_)
      exact b_Finder_findOne_76.mpr (hQ R2 I2 J2 (fr1.tr f5) h5)
end XFi
