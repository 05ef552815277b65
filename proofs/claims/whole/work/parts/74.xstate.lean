-- ===== the class's state; its smaller calls =====
def bd (b d : Nat) : Prop := (b = 5 ∧ d = 55) ∨ (b = 55 ∧ d = 5)
theorem bd.b {b d : Nat} (h : bd b d) : isBk b := by
  rcases h with ⟨rfl, _⟩ | ⟨rfl, _⟩
  · exact is_5
  · exact is_55
theorem bd.sw {b d : Nat} (h : bd b d) : bd d b := by
  rcases h with ⟨h1, h2⟩ | ⟨h1, h2⟩
  · exact Or.inr ⟨h2, h1⟩
  · exact Or.inl ⟨h2, h1⟩
theorem bd.r {b d : Nat} (h : bd b d) : 4 < b ∧ b + 50 ≤ 105 ∧ 4 < d ∧ d + 50 ≤ 105 ∧ (b + 50 ≤ d ∨ d + 50 ≤ b) := by
  rcases h with ⟨h1, h2⟩ | ⟨h1, h2⟩ <;> subst h1 <;> subst h2 <;> decide
def ImX (I : Nat → Int → Int) (s : ST) : Prop := match sI s with
  | none => I 3 9 = 0
  | some m => I 3 9 = 1 ∧ DkX I 135 (eN (sE s)) m.1 m.2.1 m.2.2
def CSb (R : Nat → Int → Option Nat) (I : Nat → Int → Int) (b d : Nat) (s : ST) : Prop := R 3 2 = some b ∧ R 3 3 = some d ∧ BkX I b (sC s) (sR s) (sA s) (sE s) ∧ PgX I (sP s) ∧ I 3 4 = (sB s : Int) ∧ DkX I 114 (eN (sE s)) (eK (sE s)) (sL s) (sN s) ∧ ImX I s ∧ StI I
def CSt (R : Nat → Int → Option Nat) (I : Nat → Int → Int) (s : ST) : Prop := ∃ b d, bd b d ∧ CSb R I b d s
def frQ (R R' : Nat → Int → Option Nat) (I I' : Nat → Int → Int) (J J' : Nat → Int → Int64) : Prop := ∀ a, a = 0 ∨ 243 ≤ a → R' a = R a ∧ I' a = I a ∧ J' a = J a
def xpost (L : Nat) (R : Nat → Int → Option Nat) (I : Nat → Int → Int) (J : Nat → Int → Int64) (z : MV) (s' : ST) (Q : Option MV → MM → Prop) : Prop := ∀ R' I' J', frQ R R' I I' J J' → CSt R' I' s' → Q (some z) (S0 L, R', I', J')
theorem ImX.fr {I I' : Nat → Int → Int} {s : ST} (h : ImX I s) (f3 : I' 3 9 = I 3 9) (f : ∀ x, 135 ≤ x → x < 156 → I' x = I x) : ImX I' s := by
  unfold ImX at *
  cases hm : sI s with
  | none => rw [hm] at h; rw [f3]; exact h
  | some m => rw [hm] at h; rw [f3]; exact ⟨h.1, h.2.fr (fun x p1 p2 => f x p1 (by omega))⟩
theorem gvn_setK {E : EN} {kd ab : Nat → Nat} {i nd : Nat} : ∀ k, gvn (setK E kd) ab i nd k = gvn E ab i nd k := by
  intro k
  induction k with
  | zero => rfl
  | succ k ih =>
    show (gvn (setK E kd) ab i nd k || _) = (gvn E ab i nd k || _)
    rw [ih]
    rfl
theorem BkX.setK {I : Nat → Int → Int} {b nC : Nat} {rt ab : Nat → Nat} {E : EN} (h : BkX I b nC rt ab E) (kd : Nat → Nat) : BkX I b nC rt ab (setK E kd) := by
  obtain ⟨h1, h2, h3, h4, h5⟩ := h
  refine ⟨h1, h2, h3, h4, fun i hi => ⟨⟨(h5 i hi).1.1, (h5 i hi).1.2.1, (h5 i hi).1.2.2.1, (h5 i hi).1.2.2.2.1, ?_⟩, (h5 i hi).2⟩⟩
  have := (h5 i hi).1.2.2.2.2
  rw [this]
  exact congrArg (fun x : Nat => (x : Int)) (bset_ext (fun nd _ => (gvn_setK _).symm))
section XSt
variable {L : Nat} {R : Nat → Int → Option Nat} {I : Nat → Int → Int} {J : Nat → Int → Int64} {Q : Option MV → MM → Prop} {s : ST} {b d : Nat}
theorem frQ.rf : frQ R R I I J J := fun _ _ => ⟨rfl, rfl, rfl⟩
theorem frQ.tr {R1 R2 : Nat → Int → Option Nat} {I1 I2 : Nat → Int → Int} {J1 J2 : Nat → Int → Int64} (h : frQ R R1 I I1 J J1) (h2 : frQ R1 R2 I1 I2 J1 J2) : frQ R R2 I I2 J J2 := fun a ha => ⟨by rw [(h2 a ha).1, (h a ha).1], by rw [(h2 a ha).2.1, (h a ha).2.1], by rw [(h2 a ha).2.2, (h a ha).2.2]⟩
theorem frF.q {R' : Nat → Int → Option Nat} {I' : Nat → Int → Int} {J' : Nat → Int → Int64} (h : frF R R' I I' J J') : frQ R R' I I' J J' := fun a ha => h a (by omega)
theorem frI.q {I' : Nat → Int → Int} (h : ∀ a, a = 0 ∨ 243 ≤ a → I' a = I a) : frQ R R I I' J J := fun a ha => ⟨rfl, h a ha, rfl⟩
theorem xpost.i {z : MV} (h : xpost L R I J z s Q) (hb : bd b d) (hC : CSb R I b d s) : Q (some z) (S0 L, R, I, J) := h R I J frQ.rf ⟨b, d, hb, hC⟩
theorem CSb.fr {R' : Nat → Int → Option Nat} {I' : Nat → Int → Int} (h : CSb R I b d s) (hw : wfS s) (fR : R' 3 = R 3) (f : ∀ a, (1 ≤ a ∧ a ≤ 4) ∨ (b ≤ a ∧ a < b + 50) ∨ (114 ≤ a ∧ a < 156) → I' a = I a) : CSb R' I' b d s := by
  obtain ⟨h1, h2, h3, h4, h5, h6, h7, h8⟩ := h
  refine ⟨by rw [fR]; exact h1, by rw [fR]; exact h2, h3.fr hw.2.2.2.1.1 (fun a p1 p2 => f a (Or.inr (Or.inl ⟨p1, p2⟩))), h4.fr (by rw [f 3 (by omega)]) (f 4 (by omega)), by rw [f 3 (by omega)]; exact h5, h6.fr (fun a p1 p2 => f a (by omega)), h7.fr (by rw [f 3 (by omega)]) (fun a p1 p2 => f a (by omega)), h8.fr (f 1 (by omega)) (f 2 (by omega))⟩
theorem x_isClass (hb : bd b d) (hC : CSb R I b d s) (c : Int) : wpC 15 [vR (some 3), vI c] (S0 L, R, I, J) Q ↔ Q (some (vI (bi (0 ≤ c ∧ c < (sC s : Int))))) (S0 L, R, I, J) := by
  rw [c_D_isClass hC.1 hb.b, hC.2.2.1.1]
  by_cases h1 : c < 0
  · rw [if_pos h1, bi_f (by omega)]
  · rw [if_neg h1]
    by_cases h2 : c < (sC s : Int)
    · rw [if_pos h2, bi_t ⟨by omega, h2⟩]
    · rw [if_neg h2, bi_f (fun q => h2 q.2)]
theorem x_isInstance (hb : bd b d) (hC : CSb R I b d s) (c : Int) : wpC 16 [vR (some 3), vI c] (S0 L, R, I, J) Q ↔ Q (some (vI (bi (0 ≤ c ∧ c < (eN (sE s) : Int))))) (S0 L, R, I, J) := by
  rw [c_D_isInstance hC.1 hb.b, hC.2.2.1.2.2.1]
  by_cases h1 : c < 0
  · rw [if_pos h1, bi_f (by omega)]
  · rw [if_neg h1]
    by_cases h2 : c < (eN (sE s) : Int)
    · rw [if_pos h2, bi_t ⟨by omega, h2⟩]
    · rw [if_neg h2, bi_f (fun q => h2 q.2)]
theorem x_isFilled (hC : CSb R I b d s) (k : Int) : wpC 17 [vR (some 3), vI k] (S0 L, R, I, J) Q ↔ Q (some (vI (bi ((0 ≤ k ∧ k < 4) ∧ ¬ sL s k.toNat = [])))) (S0 L, R, I, J) := by
  rw [c_D_isFilled]
  by_cases h1 : k < 0
  · rw [if_pos h1, bi_f (by omega)]
  · rw [if_neg h1]
    by_cases h2 : k < 4
    · have hl : I (114 + 5 + 4 * k.toNat) 3 = ((sL s k.toNat).length : Int) := (hC.2.2.2.2.2.1.2.1 k.toNat (by omega)).1.1
      rw [if_pos h2, hl]
      by_cases h3 : sL s k.toNat = []
      · rw [if_pos (by rw [h3]; decide), bi_f (fun q => q.2 h3)]
        exact ⟨fun q => q.2, fun q => ⟨⟨by omega, h2⟩, q⟩⟩
      · have : ¬ (sL s k.toNat).length = 0 := fun q => h3 (List.length_eq_zero_iff.mp q)
        rw [if_neg (by omega), bi_t ⟨⟨by omega, h2⟩, h3⟩]
        exact ⟨fun q => q.2, fun q => ⟨⟨by omega, h2⟩, q⟩⟩
    · rw [if_neg h2, bi_f (fun q => h2 q.1.2)]
theorem x_isKind (k : Int) : wpC 18 [vI k] (S0 L, R, I, J) Q ↔ Q (some (vI (bi (0 ≤ k ∧ k ≤ 4)))) (S0 L, R, I, J) := by
  rw [c_D_isKind]
  by_cases h1 : k < 0
  · rw [if_pos h1, bi_f (by omega)]
  · rw [if_neg h1]
    by_cases h2 : k < 5
    · rw [if_pos h2, bi_t (by omega)]
    · rw [if_neg h2, bi_f (by omega)]
theorem CSb.pg {I' : Nat → Int → Int} {pg : List Int} (h : CSb R I b d s) (hb : bd b d) (hw : wfS s) (f : ∀ a, a ≠ 3 → a ≠ 4 → I' a = I a) (f3 : ∀ j : Int, j ≠ 1 → I' 3 j = I 3 j) (hP : PgX I' pg) : CSb R I' b d (setP s pg) := by
  obtain ⟨h1, h2, h3, h4, h5, h6, h7, h8⟩ := h
  obtain ⟨r1, r2, r3, r4, _⟩ := hb.r
  refine ⟨h1, h2, h3.fr hw.2.2.2.1.1 (fun a p1 p2 => f a (by omega) (by omega)), hP, by rw [f3 4 (by decide)]; exact h5, h6.fr (fun a p1 p2 => f a (by omega) (by omega)), ImX.fr (I := I) (s := s) h7 (f3 9 (by decide)) (fun a p1 p2 => f a (by omega) (by omega)), h8.fr (f 1 (by decide) (by decide)) (f 2 (by decide) (by decide))⟩
theorem d_letter (hw : wfS s) (hC : CSt R I s) {c : Int} (hQ : xpost L R I J (vI (q_letter s c).1) (q_letter s c).2 Q) : wpC 2 [vR (some 3), vI c] (S0 L, R, I, J) Q := by
  obtain ⟨b, d, hb, hC⟩ := hC
  have hP := hC.2.2.2.1
  have h84 := hw.1.1
  unfold q_letter at hQ
  refine c_D_letter.mpr ?_
  by_cases h1 : 32 ≤ c ∧ c ≤ 126
  · rw [if_neg (not_not_intro h1)] at hQ
    rw [if_neg (by omega), if_pos (by omega), hP.1]
    by_cases h2 : (sP s).length = 84
    · rw [if_pos h2] at hQ
      rw [if_neg (by omega)]
      exact hQ.i hb hC
    · rw [if_neg h2] at hQ
      rw [if_pos (by omega), show upM I 4 ((sP s).length : Int) c 3 1 = ((sP s).length : Int) by rw [upM_ne (by decide)]; exact hP.1, w32_s (by omega), upM_same]
      refine ⟨⟨by omega, by omega⟩, ?_⟩
      have e : (((sP s).length + 1 : Nat) : Int) = ((sP s).length : Int) + 1 := by omega
      rw [e]
      refine hQ R _ J (frI.q (fun a ha => by rw [upM_ne (by omega), upM_ne (by omega)])) ⟨b, d, hb, hC.pg hb hw (fun a p1 p2 => by rw [upM_ne p1, upM_ne p2]) (fun j hj => by rw [upM_i hj, upM_ne (by decide)]) ⟨?_, fun k hk => ?_⟩⟩
      · rw [upM_same, List.length_append]; exact e.symm
      · rw [List.length_append, List.length_singleton] at hk
        rw [upM_ne (by decide), getD_app]
        by_cases hkl : k < (sP s).length
        · rw [if_pos hkl, upM_i (by omega)]; exact hP.2 k hkl
        · rw [if_neg hkl, if_pos (by omega), show k = (sP s).length by omega, upM_same]
  · rw [if_pos h1] at hQ
    by_cases h2 : c < 32
    · rw [if_pos h2]; exact hQ.i hb hC
    · rw [if_neg h2, if_neg (by omega)]; exact hQ.i hb hC
theorem d_blank (hw : wfS s) (hC : CSt R I s) (hQ : xpost L R I J (vI (q_blank s).1) (q_blank s).2 Q) : wpC 3 [vR (some 3)] (S0 L, R, I, J) Q := by
  obtain ⟨b, d, hb, hC⟩ := hC
  have hP := hC.2.2.2.1
  refine c_D_blank.mpr ?_
  rw [hP.1]
  exact hQ R _ J (frI.q (fun a ha => upM_ne (by omega))) ⟨b, d, hb, hC.pg hb hw (fun a p1 p2 => upM_ne p1) (fun j hj => upM_i hj) ⟨upM_same, fun k hk => absurd hk (by simp)⟩⟩
theorem CSb.rd {R' : Nat → Int → Option Nat} {I' : Nat → Int → Int} (h : CSb R I b d s) (hb : bd b d) (hw : wfS s) (f : frB d R R' I I') : CSb R' I' b d s := by
  obtain ⟨r1, r2, r3, r4, r5⟩ := hb.r
  exact h.fr hw (f.1 3 (by decide)) (fun a ha => f.2 a (by omega) (by omega))
theorem frB.q {R' : Nat → Int → Option Nat} {I' : Nat → Int → Int} (h : frB d R R' I I') (hb : bd b d) : frQ R R' I I' J J := by
  obtain ⟨r1, r2, r3, r4, r5⟩ := hb.r
  exact fun a ha => ⟨h.1 a (by omega), h.2 a (by omega) (by omega), rfl⟩
theorem d_fault (hw : wfS s) (hC : CSt R I s) (hQ : xpost L R I J (vI (q_fault s).1) (q_fault s).2 Q) : wpC 4 [vR (some 3)] (S0 L, R, I, J) Q := by
  obtain ⟨b, d, hb, hC⟩ := hC
  obtain ⟨r1, r2, r3, r4, r5⟩ := hb.r
  refine c_D_fault.mpr ?_
  refine x_readPage hb.sw.b r3 r4 hw.1 hC.2.1 hC.2.2.2.1 hC.2.2.2.2.2.2.2 (fun R' I' f _ => ?_)
  refine b_D_fault_3.mpr ?_
  exact hQ R' I' J (f.q hb) ⟨b, d, hb, hC.rd hb hw f⟩
theorem d_about (hw : wfS s) (hC : CSt R I s) {c w : Int} (hQ : xpost L R I J (vI (q_about s c w).1) (q_about s c w).2 Q) : wpC 9 [vR (some 3), vI c, vI w] (S0 L, R, I, J) Q := by
  obtain ⟨b, d, hb, hC⟩ := hC
  unfold q_about at hQ
  have hC4 := hw.2.2.1.1
  have h6 := hw.2.2.2.1.1
  refine c_D_about.mpr ?_
  refine (x_isClass hb hC c).mpr ?_
  refine (b_D_about_4 hC.1 hb.b).mpr ?_
  by_cases hc : 0 ≤ c ∧ c < (sC s : Int)
  · rw [if_neg (not_not_intro hc)] at hQ
    rw [if_neg (fun q => bi_0.mp q hc)]
    obtain ⟨c', rfl⟩ := nat_of hc.1
    rw [Int.toNat_natCast] at hQ
    obtain ⟨k1, k2, k3⟩ := hC.2.2.1.2.1 c' (by omega)
    rw [k1, k2, k3]
    have hi := hQ.i hb hC
    by_cases hwr : 0 ≤ w ∧ w ≤ 2
    · rw [if_neg (not_not_intro hwr)] at hi
      obtain ⟨w', rfl⟩ := nat_of hwr.1
      rw [Int.toNat_natCast] at hi
      unfold abN at hi
      by_cases h0 : w' = 0
      · rw [if_pos h0] at hi
        rw [if_pos (by omega)]
        exact ⟨⟨by omega, by omega⟩, hi⟩
      rw [if_neg h0] at hi
      rw [if_neg (by omega)]
      by_cases h1 : w' = 1
      · rw [if_pos h1] at hi
        rw [if_pos (by omega)]
        exact ⟨⟨by omega, by omega⟩, hi⟩
      rw [if_neg h1] at hi
      rw [if_neg (by omega), if_pos (by omega)]
      refine ⟨⟨by omega, by omega⟩, ?_⟩
      refine (x_bitCount (bset_lt8 (by omega) _)).mpr ?_
      rw [pcn_bset (by omega)]
      exact b_D_about_33.mpr hi
    · rw [if_pos hwr] at hi
      rw [if_neg (by omega), if_neg (by omega), if_neg (by omega)]
      exact hi
  · rw [if_pos hc] at hQ
    rw [if_pos (bi_0.mpr hc)]
    exact hQ.i hb hC
theorem d_as (hw : wfS s) (hC : CSt R I s) {i k : Int} (hQ : xpost L R I J (vI (q_as s i k).1) (q_as s i k).2 Q) : wpC 11 [vR (some 3), vI i, vI k] (S0 L, R, I, J) Q := by
  obtain ⟨b, d, hb, hC⟩ := hC
  have h6 := hw.2.2.2.1.1
  have hi := hQ.i hb hC
  unfold q_as at hi
  refine c_D_as.mpr ?_
  refine (x_isInstance hb hC i).mpr ?_
  refine b_D_as_4.mpr ?_
  by_cases hc : 0 ≤ i ∧ i < (eN (sE s) : Int)
  · rw [if_neg (not_not_intro hc)] at hi
    rw [if_neg (fun q => bi_0.mp q hc)]
    refine (x_isKind k).mpr ?_
    refine b_D_as_12.mpr ?_
    by_cases hk : 0 ≤ k ∧ k ≤ 4
    · rw [if_neg (not_not_intro hk)] at hi
      rw [if_neg (fun q => bi_0.mp q hk)]
      obtain ⟨j, rfl⟩ := nat_of hc.1
      rw [Int.toNat_natCast] at hi
      rw [show I (114 + 1) (j : Int) = (eK (sE s) j : Int) from hC.2.2.2.2.2.1.1 j (by omega)]
      refine ⟨⟨by omega, by omega⟩, ?_⟩
      by_cases h0 : k = 0
      · rw [if_pos (Or.inl h0)] at hi
        rw [if_pos h0, if_neg (by decide)]; exact hi
      rw [if_neg h0]
      by_cases h1 : k = (eK (sE s) j : Int)
      · rw [if_pos (Or.inr (Or.inl h1.symm))] at hi
        rw [if_pos h1, if_neg (by decide)]; exact hi
      rw [if_neg h1]
      by_cases h2 : k = 3
      · rw [if_pos h2]
        by_cases h3 : (eK (sE s) j : Int) = 4
        · rw [if_pos (Or.inr (Or.inr ⟨h2, by omega⟩))] at hi
          rw [if_pos h3, if_neg (by decide)]; exact hi
        · rw [if_neg (by omega)] at hi
          rw [if_neg h3, if_pos rfl]; exact hi
      · rw [if_neg (by omega)] at hi
        rw [if_neg h2, if_pos rfl]; exact hi
    · rw [if_pos hk] at hi
      rw [if_pos (bi_0.mpr hk)]; exact hi
  · rw [if_pos hc] at hi
    rw [if_pos (bi_0.mpr hc)]; exact hi
theorem d_change (hw : wfS s) (hC : CSt R I s) {i k : Int} (hQ : xpost L R I J (vI (q_change s i k).1) (q_change s i k).2 Q) : wpC 12 [vR (some 3), vI i, vI k] (S0 L, R, I, J) Q := by
  obtain ⟨b, d, hb, hC⟩ := hC
  obtain ⟨r1, r2, r3, r4, r5⟩ := hb.r
  have h6 := hw.2.2.2.1.1
  unfold q_change at hQ
  refine c_D_change.mpr ?_
  refine (x_isInstance hb hC i).mpr ?_
  refine b_D_change_4.mpr ?_
  by_cases hc : 0 ≤ i ∧ i < (eN (sE s) : Int)
  · rw [if_neg (not_not_intro hc)] at hQ
    rw [if_neg (fun q => bi_0.mp q hc)]
    refine (x_isKind k).mpr ?_
    refine b_D_change_12.mpr ?_
    by_cases hk : 0 ≤ k ∧ k ≤ 4
    · rw [if_neg (not_not_intro hk)] at hQ
      rw [if_neg (fun q => bi_0.mp q hk)]
      obtain ⟨j, rfl⟩ := nat_of hc.1
      obtain ⟨k', rfl⟩ := nat_of hk.1
      rw [Int.toNat_natCast, Int.toNat_natCast] at hQ
      rw [show I (114 + 1) (j : Int) = (eK (sE s) j : Int) from hC.2.2.2.2.2.1.1 j (by omega)]
      refine ⟨⟨by omega, by omega⟩, ⟨by omega, by omega⟩, ?_⟩
      obtain ⟨h1, h2, h3, h4, h5, hD, h7, h8⟩ := hC
      have g : ∀ a, a ≠ 115 → (upM I (114 + 1) (j : Int) (k' : Int)) a = I a := fun a p => upM_ne p
      refine hQ R _ J (frI.q (fun a ha => g a (by omega))) ⟨b, d, hb, h1, h2, ?_, h4.fr (by rw [g 3 (by decide)]) (g 4 (by decide)), by rw [g 3 (by decide)]; exact h5, ⟨fun i hi => ?_, fun q hq => ?_, ?_, fun q hq => ?_⟩, ?_, h8.fr (g 1 (by decide)) (g 2 (by decide))⟩
      · exact (BkX.fr (I := I) (E := sE s) h3 h6 (fun a p1 p2 => g a (by omega))).setK _
      · show upM I (114 + 1) (j : Int) (k' : Int) (114 + 1) (i : Int) = ((if i = j then k' else eK (sE s) i : Nat) : Int)
        by_cases hij : i = j
        · rw [if_pos hij, hij, upM_same]
        · rw [if_neg hij, upM_i (by omega)]; exact hD.1 i hi
      · exact (hD.2.1 q hq).fr (by rw [g _ (by omega)]) (g _ (by omega)) (g _ (by omega)) (g _ (by omega))
      · rw [g 114 (by decide)]; exact hD.2.2.1
      · rw [g (114 + 3) (by decide), g (114 + 4) (by decide)]; exact hD.2.2.2 q hq
      · exact ImX.fr (I := I) (s := s) h7 (by rw [g 3 (by decide)]) (fun a p1 p2 => g a (by omega))
    · rw [if_pos hk] at hQ
      rw [if_pos (bi_0.mpr hk)]; exact hQ.i hb hC
  · rw [if_pos hc] at hQ
    rw [if_pos (bi_0.mpr hc)]; exact hQ.i hb hC
end XSt
