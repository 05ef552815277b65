-- ===== the class's calls on instances and goals =====
def askM (b n : Nat) : Int := if (pcn 16 (b &&& soK n) : Int) < (pcn 16 (ndf b (soK n)) : Int) then (pcn 16 (ndf b (soK n)) : Int) else (pcn 16 (b &&& soK n) : Int)
def askS (b : Nat) : Nat → Int × Int
  | 0 => (-1, 6)
  | n + 1 => if askM b n < (askS b n).2 then ((n : Int), askM b n) else askS b n
theorem ask_ok : ∀ b : Nat, b < 32 → ¬ b = 0 → (askS b 4).1 = askF b := by decide +kernel
theorem lckA_iff {E : EN} {ab : Nat → Nat} {i a : Nat} : ∀ n, lckA E ab i a n = true ↔ ∀ k, k < n → a.testBit k = true → gvn E ab i k (eC E i).length = true := by
  intro n
  induction n with
  | zero => exact ⟨fun _ k hk => absurd hk (by omega), fun _ => rfl⟩
  | succ n ih =>
    show (lckA E ab i a n && (!a.testBit n || gvn E ab i n (eC E i).length)) = true ↔ _
    rw [Bool.and_eq_true, ih]
    refine ⟨fun h k hk ht => ?_, fun h => ⟨fun k hk => h k (by omega), ?_⟩⟩
    · by_cases hkn : k = n
      · subst hkn
        have h2 := h.2
        rw [ht] at h2
        exact h2
      · exact h.1 k (by omega) ht
    · cases ht : a.testBit n with
      | false => rfl
      | true => rw [h n (by omega) ht]; rfl
theorem lckA_ndf {E : EN} {ab : Nat → Nat} {i a : Nat} (ha : a < 256) : lckA E ab i a 8 = true ↔ ndf a (bset 8 (fun nd => gvn E ab i nd (eC E i).length)) = 0 := by
  rw [lckA_iff, zero_iff]
  refine ⟨fun h k => ?_, fun h k hk ht => ?_⟩
  · rw [ndf_bit, bset_bit]
    cases ht : a.testBit k with
    | false => rfl
    | true =>
      have hk : k < 8 := Nat.lt_of_not_le (fun hle => by
        rw [Nat.testBit_lt_two_pow (Nat.lt_of_lt_of_le (show a < 2 ^ 8 from ha) (Nat.pow_le_pow_right (by decide) hle))] at ht
        exact absurd ht (by decide))
      rw [h k hk ht, decide_eq_true hk]; rfl
  · have h2 := h k
    rw [ndf_bit, bset_bit, ht, decide_eq_true hk, Bool.true_and, Bool.true_and] at h2
    cases hg : gvn E ab i k (eC E i).length with
    | true => rfl
    | false => rw [hg] at h2; exact absurd h2 (by decide)
section XGl
variable {L : Nat} {R : Nat → Int → Option Nat} {I : Nat → Int → Int} {J : Nat → Int → Int64} {Q : Option MV → MM → Prop} {s : ST} {b d : Nat}
theorem x_askAmong {n : Nat} (hT : StI I) (hn : n < 32) (hQ : Q (some (vI (askF n))) (S0 L, R, I, J)) : wpC 22 [vI (n : Int)] (S0 L, R, I, J) Q := by
  refine c_D_askAmong.mpr ?_
  by_cases h0 : n = 0
  · rw [if_pos (by omega)]
    subst h0
    exact hQ
  · rw [if_neg (by omega)]
    rw [← ask_ok n hn h0] at hQ
    have key : ∀ e k : Nat, e + k = 4 → wpc 22 13 [vI (n : Int), vI (askS n k).1, vI (askS n k).2, vI (k : Int), vU, vU, vU] [] (0, 0) (S0 L, R, I, J) Q := by
      intro e
      induction e with
      | zero =>
        intro k hk
        refine b_D_askAmong_13.mpr ?_
        rw [if_neg (by omega), show k = 4 by omega]
        exact hQ
      | succ e ih =>
        intro k hk
        have hk4 : k < 4 := by omega
        refine b_D_askAmong_13.mpr ?_
        rw [if_pos (by omega), hT.so hk4, iand_nat (by omega)]
        refine ⟨⟨by omega, by omega⟩, ?_⟩
        have l1 : n &&& soK k ≤ n := Nat.and_le_left
        have l2 : ndf n (soK k) ≤ n := ndf_le _ _
        refine (x_bitCount (by omega)).mpr ?_
        refine b_D_askAmong_25.mpr ?_
        rw [hT.so hk4, iand_not (by omega)]
        refine ⟨⟨by omega, by omega⟩, ?_⟩
        refine (x_bitCount (by omega)).mpr ?_
        refine b_D_askAmong_35.mpr ?_
        refine (x_max _ _).mpr ?_
        refine b_D_askAmong_40.mpr ?_
        rw [w32_s (by omega)]
        have h2 := ih (k + 1) (by omega)
        have e1 : askS n (k + 1) = if askM n k < (askS n k).2 then ((k : Int), askM n k) else askS n k := rfl
        have e2 : (if (pcn 16 (n &&& soK k) : Int) < (pcn 16 (ndf n (soK k)) : Int) then (pcn 16 (ndf n (soK k)) : Int) else (pcn 16 (n &&& soK k) : Int)) = askM n k := rfl
        rw [e1] at h2
        rw [e2]
        by_cases hl : askM n k < (askS n k).2
        · rw [if_pos hl] at h2 ⊢; exact h2
        · rw [if_neg hl] at h2 ⊢; exact h2
    exact key 4 0 rfl
theorem d_work {a3 : Nat} {w : List Nat} (hb : bd b d) (hw : wfS s) (hC : CSb R I b d s) (ha3 : isSh a3) (h3 : a3 + 3 < 156 ∨ 238 < a3) (hu : wfN w 1 = true) (hl : w.length ≤ 9) (hS : ShS I a3 w) (hQ : ∀ R' I' J', frF R R' I I' J J' → CSb R' I' b d s → LayX R' I' J' (sE s) (sC s) w → Q none (S0 L, R', I', J')) : wpC 163 [vR (some 156), vR (some b), vR (some (114 + 1)), vR (some a3)] (S0 L, R, I, J) Q := by
  obtain ⟨r1, r2, r3, r4, r5⟩ := hb.r
  refine x_work hw.2.2.2.1 hw.2.2.1.1 hb.b r2 ⟨kd_Dk0 is_114, ln_Dk0 is_114⟩ (by decide) ha3 h3 hC.2.2.1 hC.2.2.2.2.2.1.1 hu hl hS (fun R' I' J' f hL => ?_)
  exact hQ R' I' J' f (hC.fr hw (f 3 (by omega)).1 (fun a ha => (f a (by omega)).2.1)) hL
theorem x_lacked {i : Nat} (hb : bd b d) (hw : wfS s) (hC : CSb R I b d s) (hi : i < eN (sE s)) (hL : LayX R I J (sE s) (sC s) (eH (sE s) i)) (hQ : Q (some (vI (lck (sE s) (sC s) (sR s) (sA s) i : Int))) (S0 L, R, I, J)) : wpC 23 [vR (some 3), vR (some (b + 8 + 7 * i))] (S0 L, R, I, J) Q := by
  obtain ⟨r1, r2, r3, r4, r5⟩ := hb.r
  have hE := hw.2.2.2.1
  have hCl := hw.2.2.1
  have hC4 := hCl.1
  have h6 := hE.1
  obtain ⟨e1, e2, e3, e4, e5, e6⟩ := hE.2 i hi
  have hr : isRu (b + 8 + 7 * i) := ie_Bk5 hb.b (i := (i : Int)) ⟨by omega, by omega⟩
  have hRu := (hC.2.2.1.2.2.2.2 i hi).1
  have ho : I (b + 8 + 7 * i) 1 = (eO (sE s) i : Int) := hRu.1
  have hg6 := hRu.2.2.2.2
  have hrt := (hC.2.2.1.2.1 (eO (sE s) i) e2).1
  have hrl := (hCl.2 (eO (sE s) i) e2).1
  refine (c_D_lackedAsWorked hr).mpr ?_
  have hfin : bset (eO (sE s) i) (lckF (sE s) (sR s) (sA s) i) = lck (sE s) (sC s) (sR s) (sA s) i := by
    unfold lck
    refine nat_ext (fun k => ?_)
    rw [bset_bit, bset_bit]
    by_cases hk : k < eO (sE s) i
    · rw [decide_eq_true hk, decide_eq_true (show k < sC s by omega)]
    · have : lckF (sE s) (sR s) (sA s) i k = false := by
        unfold lckF
        rw [Nat.testBit_lt_two_pow (Nat.lt_of_lt_of_le hrl (Nat.pow_le_pow_right (by decide) (by omega)))]
        rfl
      rw [this, Bool.and_false, Bool.and_false]
  have key : ∀ e c : Nat, e + c = eO (sE s) i → wpc 23 5 [vR (some 3), vR (some (b + 8 + 7 * i)), vI ((bset c (lckF (sE s) (sR s) (sA s) i) : Nat) : Int), vI (c : Int), vU, vU] [] (0, 0) (S0 L, R, I, J) Q := by
    intro e
    induction e with
    | zero =>
      intro c hc
      refine (b_D_lackedAsWorked_5 hr).mpr ?_
      rw [ho, if_neg (by omega), show c = eO (sE s) i by omega, hfin]
      exact hQ
    | succ e ih =>
      intro c hc
      have hcC : c < sC s := by omega
      have hG := hL.root e3 hcC
      have hnd := nd_lt (G_nd hE 9 c (eH (sE s) i) e3 (by omega) hcC) hC4
      refine (b_D_lackedAsWorked_5 hr).mpr ?_
      rw [ho, if_pos (by omega)]
      refine (x_rootOf (by omega)).mpr ?_
      refine (b_D_lackedAsWorked_15 hr (isGo_goA (by omega) (by decide))).mpr ?_
      have h2 := ih (c + 1) (by omega)
      have hb8 := bset_lt8 (n := c) (by omega) (lckF (sE s) (sR s) (sA s) i)
      have h35 : ∀ z : Int, z = bi ((decide ((G (sE s) c (eH (sE s) i)).1 = 1) && lckA (sE s) (sA s) i (G (sE s) c (eH (sE s) i)).2.2.2.2 8) = true) → wpc 23 35 [vR (some 3), vR (some (b + 8 + 7 * i)), vI ((bset c (lckF (sE s) (sR s) (sA s) i) : Nat) : Int), vI (c : Int), vU, vU] [vI z] (0, 0) (S0 L, R, I, J) Q := by
        intro z hz
        rw [hz]
        refine (b_D_lackedAsWorked_35 hr hC.1 hb.b).mpr ?_
        rw [ho, hrt, ishr_256 c (by omega) _ (pow16 (by omega) hrl), w32_s (by omega)]
        refine ⟨⟨by omega, by omega⟩, ?_⟩
        by_cases ht : (sR s (eO (sE s) i)).testBit c = true
        · rw [if_pos ht, if_pos rfl]
          by_cases hgr : (decide ((G (sE s) c (eH (sE s) i)).1 = 1) && lckA (sE s) (sA s) i (G (sE s) c (eH (sE s) i)).2.2.2.2 8) = true
          · rw [if_neg (fun q => bi_0.mp q hgr)]
            rw [bset_f (by unfold lckF; rw [hgr, Bool.not_true, Bool.and_false])] at h2
            exact h2
          · rw [if_pos (bi_0.mpr hgr), ior1 hb8 (by omega)]
            rw [bset_t (by
              unfold lckF
              rw [ht]
              cases hx : (decide ((G (sE s) c (eH (sE s) i)).1 = 1) && lckA (sE s) (sA s) i (G (sE s) c (eH (sE s) i)).2.2.2.2 8) with
              | false => rfl
              | true => exact absurd hx hgr)] at h2
            exact h2
        · rw [if_neg ht, if_neg (by decide)]
          rw [bset_f (by
            unfold lckF
            cases hx : (sR s (eO (sE s) i)).testBit c with
            | false => rfl
            | true => exact absurd hx ht)] at h2
          exact h2
      rw [hG.1]
      by_cases hf : (G (sE s) c (eH (sE s) i)).1 = 1
      · have h4 := hG.2.1
        rw [if_pos hf] at h4
        rw [if_pos hf, h4, hg6, iand_not (by omega)]
        by_cases hz : ndf (G (sE s) c (eH (sE s) i)).2.2.2.2 (bset 8 (fun nd => gvn (sE s) (sA s) i nd (eC (sE s) i).length)) = 0
        · rw [if_pos (by rw [hz]; rfl)]
          exact h35 1 (bi_t (by rw [decide_eq_true hf, (lckA_ndf hnd).mpr hz]; rfl)).symm
        · rw [if_neg (by omega)]
          exact h35 0 (bi_f (fun q => by
            rw [Bool.and_eq_true] at q
            exact hz ((lckA_ndf hnd).mp q.2))).symm
      · rw [if_neg hf]
        exact h35 0 (bi_f (by rw [decide_eq_false hf, Bool.false_and]; decide)).symm
  exact key (eO (sE s) i) 0 (by omega)
theorem d_inst (hw : wfS s) (hC : CSt R I s) {i w : Int} (hQ : xpost L R I J (vI (q_inst s i w).1) (q_inst s i w).2 Q) : wpC 10 [vR (some 3), vI i, vI w] (S0 L, R, I, J) Q := by
  obtain ⟨b, d, hb, hC⟩ := hC
  obtain ⟨r1, r2, r3, r4, r5⟩ := hb.r
  have hE := hw.2.2.2.1
  have h6 := hE.1
  unfold q_inst at hQ
  refine c_D_instance.mpr ?_
  refine (x_isInstance hb hC i).mpr ?_
  refine (b_D_instance_4 hC.1 hb.b).mpr ?_
  by_cases hc : 0 ≤ i ∧ i < (eN (sE s) : Int)
  · rw [if_neg (not_not_intro hc)] at hQ
    rw [if_neg (fun q => bi_0.mp q hc)]
    obtain ⟨j, rfl⟩ := nat_of hc.1
    rw [Int.toNat_natCast] at hQ ⊢
    have hj : j < eN (sE s) := by omega
    obtain ⟨e1, e2, e3, e4, e5, e6⟩ := hE.2 j hj
    have hRu := (hC.2.2.1.2.2.2.2 j hj).1
    refine ⟨⟨by omega, by omega⟩, ?_⟩
    have hi := hQ.i hb hC
    have hDk := hC.2.2.2.2.2.1
    have hsl : sors (sN s) j < 32 := bset_lt 5 _
    by_cases hwr : 0 ≤ w ∧ w ≤ 7
    · rw [if_neg (not_not_intro hwr)] at hi hQ
      obtain ⟨w', rfl⟩ := nat_of hwr.1
      rw [Int.toNat_natCast] at hi hQ
      unfold inN at hi hQ
      by_cases h0 : w' = 0
      · rw [if_pos h0] at hi
        rw [if_pos (by omega), show I (114 + 1) (j : Int) = (eK (sE s) j : Int) from hDk.1 j hj]
        exact ⟨⟨by omega, by omega⟩, hi⟩
      rw [if_neg h0] at hi hQ
      rw [if_neg (by omega)]
      by_cases h1 : w' = 1
      · rw [if_pos h1] at hi
        rw [if_pos (by omega), hRu.1]; exact hi
      rw [if_neg h1] at hi hQ
      rw [if_neg (by omega)]
      by_cases h2 : w' = 2
      · rw [if_pos h2] at hi
        rw [if_pos (by omega), hRu.2.1.1.1]; exact hi
      rw [if_neg h2] at hi hQ
      rw [if_neg (by omega)]
      by_cases h3 : w' = 3
      · rw [if_pos h3] at hi
        rw [if_pos (by omega), hRu.2.2.1]; exact hi
      rw [if_neg h3] at hi hQ
      rw [if_neg (by omega)]
      by_cases h4 : w' = 4
      · rw [if_pos h4] at hi
        rw [if_pos (by omega), hC.2.2.1.2.2.2.1, ishr_256 j (by omega) _ (bset_lt8 (by omega) _), bset_bit, decide_eq_true hj, Bool.true_and]
        exact hi
      rw [if_neg h4] at hi hQ
      rw [if_neg (by omega)]
      by_cases h5 : w' = 5
      · rw [if_pos h5] at hi
        rw [if_pos (by omega)]
        refine x_sortsOf is_114 hw.2.2.2.2.2.1 hDk ?_
        exact b_D_instance_52.mpr hi
      rw [if_neg h5] at hi hQ
      rw [if_neg (by omega)]
      by_cases h66 : w' = 6
      · rw [if_pos h66] at hi
        rw [if_pos (by omega)]
        refine x_sortsOf is_114 hw.2.2.2.2.2.1 hDk ?_
        refine b_D_instance_59.mpr ?_
        refine x_askAmong hC.2.2.2.2.2.2.2 hsl ?_
        exact b_D_instance_61.mpr hi
      rw [if_neg h66] at hQ
      rw [if_neg (by omega), if_pos (by omega)]
      have hr : isRu (b + 8 + 7 * j) := ie_Bk5 hb.b (i := (j : Int)) ⟨by omega, by omega⟩
      refine d_work (w := eH (sE s) j) hb hw hC (is_Ru2 hr) (by omega) e3 (by omega) hRu.2.1 (fun R1 I1 J1 f1 c1 l1 => ?_)
      refine (b_D_instance_74 hr).mpr ?_
      refine x_lacked hb hw c1 hj l1 ?_
      exact b_D_instance_78.mpr (hQ R1 I1 J1 f1.q ⟨b, d, hb, c1⟩)
    · rw [if_pos hwr] at hi
      rw [if_neg (by omega), if_neg (by omega), if_neg (by omega), if_neg (by omega), if_neg (by omega), if_neg (by omega), if_neg (by omega), if_neg (by omega)]
      exact hi
  · rw [if_pos hc] at hQ
    rw [if_pos (bi_0.mpr hc)]
    exact hQ.i hb hC
theorem d_findGoal {c k : Nat} (hb : bd b d) (hw : wfS s) (hC : CSb R I b d s) (hc : c < sC s) (hk : k < 4) (hne : ¬ sL s k = []) (hQ : ∀ R' I' J', frF R R' I I' J J' → CSb R' I' b d s → LayX R' I' J' (sE s) (sC s) (sL s k) → Q (some (vR (some (goA c 0)))) (S0 L, R', I', J')) : wpC 27 [vR (some 3), vI (c : Int), vI (k : Int)] (S0 L, R, I, J) Q := by
  have hC4 := hw.2.2.1.1
  obtain ⟨hu, hl⟩ := okS_ne hw hk hne
  refine (c_D_findGoal hC.1 hb.b).mpr ⟨⟨by omega, by omega⟩, ?_⟩
  refine d_work (a3 := 114 + 5 + 4 * k) (w := sL s k) hb hw hC (ie_Dk1 is_114 (i := (k : Int)) ⟨by omega, by omega⟩) (by omega) hu hl (hC.2.2.2.2.2.1.2.1 k hk) (fun R1 I1 J1 f1 c1 l1 => ?_)
  refine b_D_findGoal_14.mpr ?_
  refine (x_rootOf (by omega)).mpr ?_
  exact (b_D_findGoal_19 (isGo_goA (by omega) (by decide))).mpr (hQ R1 I1 J1 f1 c1 l1)
theorem lay_dif {w : List Nat} {c : Nat} (hw : wfS s) (hu : wfN w 1 = true) (hl : w.length ≤ 9) (hL : LayX R I J (sE s) (sC s) w) (hc : c < sC s) (hf : (G (sE s) c w).1 = 1) : pcn 36 (wnb w (DL (sE s) c w)) = dif (sE s) c w := by
  have hE := hw.2.2.2.1
  have hC4 := hw.2.2.1.1
  refine wnb_dif (fun k hk => ?_) hl
  have hpos : 0 < w.length := List.length_pos_iff.mpr (ne_wf1 hu)
  have hall : ∀ k, k ∈ dl (sE s) w.length c w → (k ∈ dl (sE s) w.length c w) ∧ ∃ q, q < w.length ∧ k.2 = sub w q := by
    refine dl_ind (P := fun k => (k ∈ dl (sE s) w.length c w) ∧ ∃ q, q < w.length ∧ k.2 = sub w q) (fun k hP k2 hk2 => ?_) w.length c w ⟨dl_self hpos, 0, hpos, (sub_all hu).symm⟩
    obtain ⟨hm, q, hq, hkq⟩ := hP
    obtain ⟨g1, g2, g3⟩ := dl_ok hE w.length c w hu (Nat.le_refl _) hc hf k hm
    refine ⟨dl_chl hE w.length c w hu (Nat.le_refl _) k hm k2 hk2, ?_⟩
    rw [hkq] at g1 hk2
    obtain ⟨_, hPt⟩ := (hL q k.1 hq g3).2 g1
    obtain ⟨j, hj, hje⟩ := List.mem_iff_getElem.mp hk2
    obtain ⟨c', q', _, _, h3, _, h5⟩ := hPt j hj
    refine ⟨q', h3, ?_⟩
    have : (chl (sE s) k.1 (sub w q)).getD j (0, []) = k2 := by
      rw [List.getD_eq_getElem?_getD, List.getElem?_eq_getElem hj, hje]; rfl
    rw [this] at h5
    rw [h5]
  obtain ⟨hm, hq⟩ := hall k hk
  exact ⟨by have := (dl_ok hE w.length c w hu (Nat.le_refl _) hc hf k hm).2.2; omega, hq⟩
theorem d_told {w : List Nat} {c z : Nat} (hb : bd b d) (hw : wfS s) (hC : CSb R I b d s) (hu : wfN w 1 = true) (hl : w.length ≤ 9) (hL : LayX R I J (sE s) (sC s) w) (hc : c < sC s) (hz : z ≤ 6) (hQ : Q (some (vI (goN s w c z))) (S0 L, R, I, J)) : wpC 28 [vR (some 3), vR (some (goA c 0)), vI (z : Int)] (S0 L, R, I, J) Q := by
  have hE := hw.2.2.2.1
  have hCl := hw.2.2.1
  have hC4 := hCl.1
  have hG := hL.root hu hc
  have hnd := G_nd hE 9 c w hu hl hc
  refine (c_D_told (isGo_goA (by omega) (by decide)) hC.1 hb.b).mpr ?_
  unfold goN at hQ
  rw [hG.1]
  by_cases h0 : z = 0
  · rw [if_pos h0] at hQ
    rw [if_pos (by omega)]; exact hQ
  rw [if_neg h0] at hQ
  rw [if_neg (by omega)]
  by_cases hs : (G (sE s) c w).1 = 1
  · rw [if_neg (not_not_intro hs)] at hQ
    rw [if_pos hs]
    obtain ⟨g1, g2, g3, g4, g5⟩ := hG.2.2 hs
    have gn := hG.2.1
    rw [if_pos hs] at gn
    by_cases h1 : z = 1
    · rw [if_pos h1] at hQ
      rw [if_pos (by omega), g1]; exact hQ
    rw [if_neg h1] at hQ
    rw [if_neg (by omega)]
    by_cases h2 : z = 2
    · rw [if_pos h2] at hQ
      rw [if_pos (by omega), g2]; exact hQ
    rw [if_neg h2] at hQ
    rw [if_neg (by omega)]
    by_cases h3 : z = 3
    · rw [if_pos h3] at hQ
      rw [if_pos (by omega), g5]
      refine x_bitCountL (wnb_lt _ _) ?_
      rw [lay_dif hw hu hl hL hc hs]
      exact b_D_told_30.mpr hQ
    rw [if_neg h3] at hQ
    rw [if_neg (by omega)]
    by_cases h4 : z = 4
    · rw [if_pos h4] at hQ
      rw [if_pos (by omega), g3]; exact hQ
    rw [if_neg h4] at hQ
    rw [if_neg (by omega), gn]
    by_cases h5 : z = 5
    · rw [if_pos h5] at hQ
      rw [if_pos (by omega)]
      refine (x_bitCount (nd_lt hnd hC4)).mpr ?_
      exact b_D_told_40.mpr hQ
    rw [if_neg h5] at hQ
    rw [if_neg (by omega)]
    refine x_plainOf hCl hb.b hC.2.2.1.1 (fun c hc => (hC.2.2.1.2.1 c hc).2.1) hnd ?_
    refine b_D_told_48.mpr ?_
    refine (x_bitCount (pln_lt _ _)).mpr ?_
    exact b_D_told_50.mpr hQ
  · rw [if_pos hs] at hQ
    rw [if_neg hs]; exact hQ
theorem d_goal (hw : wfS s) (hC : CSt R I s) {c k w : Int} (hQ : xpost L R I J (vI (q_goal s c k w).1) (q_goal s c k w).2 Q) : wpC 24 [vR (some 3), vI c, vI k, vI w] (S0 L, R, I, J) Q := by
  obtain ⟨b, d, hb, hC⟩ := hC
  have hC4 := hw.2.2.1.1
  unfold q_goal at hQ
  refine c_D_goal.mpr ?_
  refine (x_isClass hb hC c).mpr ?_
  refine b_D_goal_4.mpr ?_
  by_cases hc : 0 ≤ c ∧ c < (sC s : Int)
  · rw [if_neg (not_not_intro hc)] at hQ
    rw [if_neg (fun q => bi_0.mp q hc)]
    refine (x_isFilled hC k).mpr ?_
    refine b_D_goal_10.mpr ?_
    by_cases hd : (0 ≤ k ∧ k < 4) ∧ ¬ sL s k.toNat = []
    · rw [if_neg (not_not_intro hd)] at hQ
      rw [if_neg (fun q => bi_0.mp q hd)]
      by_cases h2 : 0 ≤ w ∧ w ≤ 6
      · rw [if_neg (not_not_intro h2)] at hQ
        rw [if_neg (by omega), if_pos (by omega)]
        obtain ⟨c', rfl⟩ := nat_of hc.1
        obtain ⟨k', rfl⟩ := nat_of hd.1.1
        obtain ⟨w', rfl⟩ := nat_of h2.1
        rw [Int.toNat_natCast, Int.toNat_natCast, Int.toNat_natCast] at hQ
        rw [Int.toNat_natCast] at hd
        obtain ⟨hu, hl⟩ := okS_ne hw (k := k') (by omega) hd.2
        refine d_findGoal hb hw hC (by omega) (by omega) hd.2 (fun R1 I1 J1 f1 c1 l1 => ?_)
        refine (b_D_goal_31 (isGo_goA (by omega) (by decide))).mpr ?_
        refine d_told hb hw c1 hu hl l1 (by omega) (by omega) ?_
        exact b_D_goal_34.mpr (hQ R1 I1 J1 f1.q ⟨b, d, hb, c1⟩)
      · rw [if_pos h2] at hQ
        by_cases h3 : w < 0
        · rw [if_pos h3]; exact hQ.i hb hC
        · rw [if_neg h3, if_neg (by omega)]; exact hQ.i hb hC
    · rw [if_pos hd] at hQ
      rw [if_pos (bi_0.mpr hd)]; exact hQ.i hb hC
  · rw [if_pos hc] at hQ
    rw [if_pos (bi_0.mpr hc)]; exact hQ.i hb hC
theorem d_entry (hw : wfS s) (hC : CSt R I s) {c k p : Int} (hQ : xpost L R I J (vI (q_entry s c k p).1) (q_entry s c k p).2 Q) : wpC 25 [vR (some 3), vI c, vI k, vI p] (S0 L, R, I, J) Q := by
  obtain ⟨b, d, hb, hC⟩ := hC
  have hC4 := hw.2.2.1.1
  unfold q_entry at hQ
  refine c_D_entry.mpr ?_
  refine (x_isClass hb hC c).mpr ?_
  refine b_D_entry_4.mpr ?_
  by_cases hc : 0 ≤ c ∧ c < (sC s : Int)
  · rw [if_neg (not_not_intro hc)] at hQ
    rw [if_neg (fun q => bi_0.mp q hc)]
    refine (x_isFilled hC k).mpr ?_
    refine b_D_entry_10.mpr ?_
    by_cases hd : (0 ≤ k ∧ k < 4) ∧ ¬ sL s k.toNat = []
    · rw [if_neg (not_not_intro hd)] at hQ
      rw [if_neg (fun q => bi_0.mp q hd)]
      obtain ⟨c', rfl⟩ := nat_of hc.1
      obtain ⟨k', rfl⟩ := nat_of hd.1.1
      rw [Int.toNat_natCast, Int.toNat_natCast] at hQ
      rw [Int.toNat_natCast] at hd
      obtain ⟨hu, hl⟩ := okS_ne hw (k := k') (by omega) hd.2
      refine d_findGoal hb hw hC (by omega) (by omega) hd.2 (fun R1 I1 J1 f1 c1 l1 => ?_)
      have hG := l1.root hu (show c' < sC s by omega)
      have hfin : ∀ {z : MV}, xpost L R I J z s Q → Q (some z) (S0 L, R1, I1, J1) := fun h => h R1 I1 J1 f1.q ⟨b, d, hb, c1⟩
      refine (b_D_entry_20 (isGo_goA (by omega) (by decide))).mpr ?_
      rw [hG.1]
      by_cases hf : (G (sE s) c' (sL s k')).1 = 1
      · rw [if_neg (not_not_intro hf)] at hQ
        rw [if_pos hf, (hG.2.2 hf).1]
        by_cases hp : 0 ≤ p ∧ p < ((G (sE s) c' (sL s k')).2.1.length : Int)
        · rw [if_neg (not_not_intro hp)] at hQ
          rw [if_neg (by omega), if_pos hp.2]
          obtain ⟨p', rfl⟩ := nat_of hp.1
          rw [Int.toNat_natCast] at hQ
          refine x_numberAt hw.2.2.2.1 hC4 hu hl l1 (by omega) hf (by omega) ?_
          exact b_D_entry_41.mpr (hfin hQ)
        · rw [if_pos hp] at hQ
          by_cases h3 : p < 0
          · rw [if_pos h3]; exact hfin hQ
          · rw [if_neg h3, if_neg (by omega)]; exact hfin hQ
      · rw [if_pos hf] at hQ
        rw [if_neg hf]; exact hfin hQ
    · rw [if_pos hd] at hQ
      rw [if_pos (bi_0.mpr hd)]; exact hQ.i hb hC
  · rw [if_pos hc] at hQ
    rw [if_pos (bi_0.mpr hc)]; exact hQ.i hb hC
theorem d_need (hw : wfS s) (hC : CSt R I s) {c k n v : Int} (hQ : xpost L R I J (vI (q_need s c k n v).1) (q_need s c k n v).2 Q) : wpC 26 [vR (some 3), vI c, vI k, vI n, vI v] (S0 L, R, I, J) Q := by
  obtain ⟨b, d, hb, hC⟩ := hC
  have hCl := hw.2.2.1
  have hC4 := hCl.1
  unfold q_need at hQ
  refine c_D_need.mpr ?_
  refine (x_isClass hb hC c).mpr ?_
  refine b_D_need_4.mpr ?_
  by_cases hc : 0 ≤ c ∧ c < (sC s : Int)
  · rw [if_neg (not_not_intro hc)] at hQ
    rw [if_neg (fun q => bi_0.mp q hc)]
    refine (x_isFilled hC k).mpr ?_
    refine b_D_need_10.mpr ?_
    by_cases hd : (0 ≤ k ∧ k < 4) ∧ ¬ sL s k.toNat = []
    · rw [if_neg (not_not_intro hd)] at hQ
      rw [if_neg (fun q => bi_0.mp q hd)]
      refine (x_isClass hb hC n).mpr ?_
      refine b_D_need_19.mpr ?_
      by_cases hn : 0 ≤ n ∧ n < (sC s : Int)
      · rw [if_neg (not_not_intro hn)] at hQ
        rw [if_neg (fun q => bi_0.mp q hn)]
        by_cases hv : 0 ≤ v ∧ v ≤ 1
        · rw [if_neg (not_not_intro hv)] at hQ
          rw [if_neg (by omega), if_pos (by omega)]
          obtain ⟨c', rfl⟩ := nat_of hc.1
          obtain ⟨k', rfl⟩ := nat_of hd.1.1
          obtain ⟨n', rfl⟩ := nat_of hn.1
          obtain ⟨v', rfl⟩ := nat_of hv.1
          rw [Int.toNat_natCast, Int.toNat_natCast, Int.toNat_natCast, Int.toNat_natCast] at hQ
          rw [Int.toNat_natCast] at hd
          obtain ⟨hu, hl⟩ := okS_ne hw (k := k') (by omega) hd.2
          refine d_findGoal hb hw hC (by omega) (by omega) hd.2 (fun R1 I1 J1 f1 c1 l1 => ?_)
          have hG := l1.root hu (show c' < sC s by omega)
          have hfin : ∀ {z : MV}, xpost L R I J z s Q → Q (some z) (S0 L, R1, I1, J1) := fun h => h R1 I1 J1 f1.q ⟨b, d, hb, c1⟩
          refine (b_D_need_36 (isGo_goA (by omega) (by decide))).mpr ?_
          refine (x_needBit (by omega) (by omega)).mpr ?_
          have hnd : I1 (goA c' 0) 4 = (ndN s c' (sL s k') : Int) := by
            rw [hG.2.1]; rfl
          have hlt : ndN s c' (sL s k') < 2 ^ (2 * sC s) := by
            unfold ndN
            split
            · exact G_nd hw.2.2.2.1 9 c' (sL s k') hu hl (by omega)
            · exact Nat.two_pow_pos _
          have hlt8 := nd_lt hlt hC4
          refine (b_D_need_42 c1.1 hb.b).mpr ?_
          rw [hnd, iand_nat (by omega)]
          have hpl := pln_lt (sA s) (ndN s c' (sL s k'))
          have hpb : (pln (sA s) (ndN s c' (sL s k'))).testBit (2 * n' + v') = true → (ndN s c' (sL s k')).testBit (2 * n' + v') = true := by
            intro h
            unfold pln at h
            rw [bset_bit, Bool.and_eq_true, pln_cov, Bool.and_eq_true] at h
            exact h.2.1
          by_cases ht : (ndN s c' (sL s k')).testBit (2 * n' + v') = true
          · rw [if_neg (fun q => by
              rw [and_pow.mp (Int.ofNat.inj q)] at ht
              exact absurd ht (by decide))]
            refine x_plainOf hCl hb.b c1.2.2.1.1 (fun c hc => (c1.2.2.1.2.1 c hc).2.1) hlt ?_
            refine b_D_need_56.mpr ?_
            rw [iand_nat (by omega)]
            by_cases hp : (pln (sA s) (ndN s c' (sL s k'))).testBit (2 * n' + v') = true
            · rw [if_pos hp] at hQ
              rw [if_neg (fun q => by
                rw [and_pow.mp (Int.ofNat.inj q)] at hp
                exact absurd hp (by decide))]
              exact hfin hQ
            · rw [if_neg hp, if_pos ht] at hQ
              rw [if_pos (by
                have : (pln (sA s) (ndN s c' (sL s k'))) &&& 2 ^ (2 * n' + v') = 0 := and_pow.mpr (by cases hx : (pln (sA s) (ndN s c' (sL s k'))).testBit (2 * n' + v') with | false => rfl | true => exact absurd hx hp)
                rw [this]; rfl)]
              exact hfin hQ
          · rw [if_neg (fun q => ht (hpb q)), if_neg ht] at hQ
            rw [if_pos (by
              have : (ndN s c' (sL s k')) &&& 2 ^ (2 * n' + v') = 0 := and_pow.mpr (by cases hx : (ndN s c' (sL s k')).testBit (2 * n' + v') with | false => rfl | true => exact absurd hx ht)
              rw [this]; rfl)]
            exact hfin hQ
        · rw [if_pos hv] at hQ
          by_cases h3 : v < 0
          · rw [if_pos h3]; exact hQ.i hb hC
          · rw [if_neg h3, if_neg (by omega)]; exact hQ.i hb hC
      · rw [if_pos hn] at hQ
        rw [if_pos (bi_0.mpr hn)]; exact hQ.i hb hC
    · rw [if_pos hd] at hQ
      rw [if_pos (bi_0.mpr hd)]; exact hQ.i hb hC
  · rw [if_pos hc] at hQ
    rw [if_pos (bi_0.mpr hc)]; exact hQ.i hb hC
end XGl
