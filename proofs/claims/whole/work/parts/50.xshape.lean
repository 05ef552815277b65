-- ===== the class: types =====
def fsA (w : List Nat) (p : Nat) : Nat → Nat → Nat
  | 0, _ => p
  | f + 1, i => if sub w i = sub w p then i else fsA w p f (i + 1)
/-- the first place of a like type -/
def fsP (w : List Nat) (p : Nat) : Nat := fsA w p p 0
theorem fsA_ok (w : List Nat) (p : Nat) : ∀ (f i : Nat), f + i = p → i ≤ fsA w p f i ∧ fsA w p f i ≤ p ∧ sub w (fsA w p f i) = sub w p ∧ ∀ j, i ≤ j → j < fsA w p f i → ¬ sub w j = sub w p := by
  intro f
  induction f with
  | zero => intro i hi; exact ⟨by show i ≤ p; omega, Nat.le_refl _, rfl, fun j h1 h2 => by have : j < p := h2; omega⟩
  | succ f ih =>
    intro i hi
    unfold fsA
    by_cases h : sub w i = sub w p
    · rw [if_pos h]; exact ⟨Nat.le_refl _, by omega, h, fun j h1 h2 => by omega⟩
    · rw [if_neg h]
      obtain ⟨h1, h2, h3, h4⟩ := ih (i + 1) (by omega)
      refine ⟨by omega, h2, h3, fun j g1 g2 => ?_⟩
      by_cases hj : j = i
      · rw [hj]; exact h
      · exact h4 j (by omega) g2
theorem fsP_ok (w : List Nat) (p : Nat) : fsP w p ≤ p ∧ sub w (fsP w p) = sub w p ∧ ∀ j, j < fsP w p → ¬ sub w j = sub w p := by
  obtain ⟨_, h2, h3, h4⟩ := fsA_ok w p p 0 (by omega)
  exact ⟨h2, h3, fun j hj => h4 j (Nat.zero_le _) hj⟩
theorem fsP_iff {w : List Nat} {p q : Nat} : fsP w p = fsP w q ↔ sub w p = sub w q := by
  obtain ⟨a1, a2, a3⟩ := fsP_ok w p
  obtain ⟨b1, b2, b3⟩ := fsP_ok w q
  constructor
  · intro h; rw [← a2, ← b2, h]
  · intro h
    refine Nat.le_antisymm (Nat.le_of_not_lt (fun hl => a3 _ hl (by rw [b2, h])) ) (Nat.le_of_not_lt (fun hl => b3 _ hl (by rw [a2, h])))
/-- what the class's tables hold -/
def StI (I : Nat → Int → Int) : Prop := (∀ s : Nat, s < 6 → I 2 (s : Int) = (pts s : Int)) ∧ I 1 0 = 8 ∧ I 1 1 = 27 ∧ I 1 2 = 9 ∧ I 1 3 = 17
def ShW (I : Nat → Int → Int) (a : Nat) (w : List Nat) : Prop := I a 3 = (w.length : Int) ∧ ∀ p : Nat, p < w.length → I (a + 1) (p : Int) = (w.getD p 0 : Int)
def ShS (I : Nat → Int → Int) (a : Nat) (w : List Nat) : Prop := ShW I a w ∧ ∀ p : Nat, p < w.length → I (a + 2) (p : Int) = (en w p : Int) ∧ I (a + 3) (p : Int) = (fsP w p : Int)
theorem ShW.fr {I I' : Nat → Int → Int} {a : Nat} {w : List Nat} (h : ShW I a w) (h1 : I' a 3 = I a 3) (h2 : I' (a + 1) = I (a + 1)) : ShW I' a w := ⟨by rw [h1]; exact h.1, fun p hp => by rw [h2]; exact h.2 p hp⟩
theorem ShS.fr {I I' : Nat → Int → Int} {a : Nat} {w : List Nat} (h : ShS I a w) (h1 : I' a 3 = I a 3) (h2 : I' (a + 1) = I (a + 1)) (h3 : I' (a + 2) = I (a + 2)) (h4 : I' (a + 3) = I (a + 3)) : ShS I' a w := ⟨h.1.fr h1 h2, fun p hp => by rw [h3, h4]; exact h.2 p hp⟩
section XSh
variable {L : Nat} {R : Nat → Int → Option Nat} {I : Nat → Int → Int} {J : Nat → Int → Int64} {Q : Option MV → MM → Prop}
theorem x_signOf (c : Int) : wpC 207 [vI c] (S0 L, R, I, J) Q ↔ Q (some (vI (sg c))) (S0 L, R, I, J) := by
  rw [c_Shape_signOf]
  unfold sg
  by_cases h1 : c = 98
  · rw [if_pos h1, if_neg (by omega), if_pos h1]
  · rw [if_neg h1]
    by_cases h2 : c = 105
    · rw [if_pos h2, if_pos h2]
    · rw [if_neg h2, if_neg h2, if_neg h1]
      repeat' split
      all_goals exact Iff.rfl
theorem x_partsOf (hT : StI I) {s : Nat} (hs : s < 6) : wpC 208 [vI (s : Int)] (S0 L, R, I, J) Q ↔ Q (some (vI (pts s : Int))) (S0 L, R, I, J) := by
  rw [c_Shape_partsOf, if_neg (by omega), if_pos (by omega), hT.1 s hs]
  exact ⟨fun h => h.2, fun h => ⟨⟨by omega, by omega⟩, h⟩⟩
theorem x_partsOf_no : wpC 208 [vI (-1)] (S0 L, R, I, J) Q ↔ Q (some (vI 0)) (S0 L, R, I, J) := by
  rw [c_Shape_partsOf, if_pos (by decide)]
def vrF (s : Int) : Int := if s < 4 then -1 else s - 4
theorem x_variableOf {s : Int} (hs : -1 ≤ s ∧ s < 6) : wpC 209 [vI s] (S0 L, R, I, J) Q ↔ Q (some (vI (vrF s))) (S0 L, R, I, J) := by
  rw [c_Shape_variableOf]
  unfold vrF
  by_cases h : s < 4
  · rw [if_pos h, if_pos h]
  · rw [if_neg h, if_neg h, w32_eq (by omega) (by omega)]
theorem x_add {a s : Nat} {w : List Nat} (ha : isSh a) (hW : ShW I a w) (hl : w.length < 9) (hQ : ∀ I', (∀ b, b ≠ a → b ≠ a + 1 → I' b = I b) → ShW I' a (w ++ [s]) → Q none (S0 L, R, I', J)) : wpC 211 [vR (some a), vI (s : Int)] (S0 L, R, I, J) Q := by
  refine (c_Shape_add ha).mpr ?_
  rw [upM_ne (a := a + 1) (b := a) (by omega), hW.1, if_pos (by omega), w32_s (by omega)]
  refine ⟨⟨by omega, by omega⟩, hQ _ (fun b p1 p2 => by rw [upM_ne p1, upM_ne p2]) ⟨by rw [upM_same, List.length_append, List.length_singleton], fun p hp => ?_⟩⟩
  rw [List.length_append, List.length_singleton] at hp
  rw [upM_ne (by omega), getD_app]
  by_cases hpw : p < w.length
  · rw [if_pos hpw, upM_i (by omega)]; exact hW.2 p hpw
  · rw [if_neg hpw, if_pos (by omega), show p = w.length by omega, upM_same]
theorem x_endOf {a : Nat} {w : List Nat} (ha : isSh a) (hW : ShW I a w) (hl : w.length ≤ 9) {p : Nat} (hp : p < w.length) : wpC 213 [vR (some a), vI (p : Int)] (S0 L, R, I, J) Q ↔ Q (some (vI (I (a + 2) (p : Int)))) (S0 L, R, I, J) := by
  rw [c_Shape_endOf ha, if_neg (by omega), hW.1, if_pos (by omega)]
  exact ⟨fun h => h.2, fun h => ⟨⟨by omega, by omega⟩, h⟩⟩
theorem xs_in {a : Nat} {w : List Nat} (ha : isSh a) (hT : StI I) (hw : wfN w 1 = true) (hl : w.length ≤ 9) (hW : ShW I a w) {p : Nat} (hp : p < w.length) (hs : ∀ q : Nat, p < q → q < w.length → I (a + 2) (q : Int) = (en w q : Int)) (hQ : wpc 212 6 [vR (some a), vI ((p : Int) + (-1)), vU, vU] [] (0, 0) (S0 L, R, upM I (a + 2) (p : Int) (en w p : Int), J) Q) : ∀ d j : Nat, d + j = pts (w.getD p 0) → wpc 212 16 [vR (some a), vI (p : Int), vI ((p + 1 + tl (w.drop (p + 1)) j : Nat) : Int), vI (j : Int)] [] (0, 0) (S0 L, R, I, J) Q := by
  have h6 := wf_lt6 hw hp
  have hp2 := pts_le (w.getD p 0)
  intro d
  induction d with
  | zero =>
    intro j hj
    refine (b_Shape_settle_16 ha).mpr ⟨⟨by omega, by omega⟩, ?_⟩
    rw [hW.2 p hp, x_partsOf hT h6]
    refine (b_Shape_settle_23 ha).mpr ?_
    rw [if_neg (by omega)]
    refine ⟨⟨by omega, by omega⟩, ?_⟩
    have e1 : j = pts (w.getD p 0) := by omega
    have e2 := en_eq hp
    rw [← e1] at e2
    rw [← e2, w32_eq (by omega) (by omega)]
    exact hQ
  | succ d ih =>
    intro j hj
    refine (b_Shape_settle_16 ha).mpr ⟨⟨by omega, by omega⟩, ?_⟩
    rw [hW.2 p hp, x_partsOf hT h6]
    refine (b_Shape_settle_23 ha).mpr ?_
    have h1 := parts_in hw hp (j := j) (by omega)
    rw [if_pos (by omega), x_endOf ha hW hl h1]
    refine (b_Shape_settle_29 ha).mpr ?_
    rw [hs _ (by omega) h1, w32_s (by omega), ← en_chain (w := w) (p := p + 1) j]
    exact ih (j + 1) (by omega)
theorem xs_out {a : Nat} {w : List Nat} (ha : isSh a) (h2a : a + 2 ≠ 2) (hw : wfN w 1 = true) (hl : w.length ≤ 9) : ∀ (p : Nat) {I : Nat → Int → Int}, 2 < a → p ≤ w.length → StI I → ShW I a w → (∀ q : Nat, p ≤ q → q < w.length → I (a + 2) (q : Int) = (en w q : Int)) → (∀ I', (∀ b, b ≠ a + 2 → I' b = I b) → (∀ q : Nat, q < w.length → I' (a + 2) (q : Int) = (en w q : Int)) → wpc 212 44 [vR (some a), vI 0, vU, vU] [] (0, 0) (S0 L, R, I', J) Q) → wpc 212 6 [vR (some a), vI ((p : Int) + (-1)), vU, vU] [] (0, 0) (S0 L, R, I, J) Q := by
  intro p
  induction p with
  | zero =>
    intro I _ _ hT hW hs hQ
    refine (b_Shape_settle_6 ha).mpr ?_
    rw [if_pos (by omega)]
    exact hQ I (fun _ _ => rfl) (fun q hq => hs q (by omega) hq)
  | succ p ih =>
    intro I h2 hp hT hW hs hQ
    refine (b_Shape_settle_6 ha).mpr ?_
    have e0 : ((p + 1 : Nat) : Int) + (-1) = (p : Int) := by omega
    rw [if_neg (by omega), e0, w32_s (by omega)]
    have h0 := xs_in (Q := Q) (R := R) (J := J) (L := L) ha hT hw hl hW (p := p) (by omega) (fun q hq hq2 => hs q (by omega) hq2) ?_ (pts (w.getD p 0)) 0 (by omega)
    · rw [tl_zero, Nat.add_zero] at h0
      exact h0
    · refine ih h2 (by omega) ⟨fun s hs => by rw [upM_ne (by omega)]; exact hT.1 s hs, by rw [upM_ne (by omega)]; exact hT.2⟩ (hW.fr (by rw [upM_ne (by omega)]) (upM_ne (by omega))) (fun q hq hq2 => ?_) (fun I' h1 h2 => hQ I' (fun b hb => by rw [h1 b hb, upM_ne hb]) h2)
      by_cases hqp : q = p
      · subst hqp; rw [upM_same]
      · rw [upM_i (by omega)]; exact hs q (by omega) hq2
theorem x_isLike {a : Nat} {w : List Nat} (ha : isSh a) (hw : wfN w 1 = true) (hl : w.length ≤ 9) (hW : ShW I a w) (hE : ∀ q : Nat, q < w.length → I (a + 2) (q : Int) = (en w q : Int)) {p q : Nat} (hp : p < w.length) (hq : q < w.length) (hQ : Q (some (vI (bi (sub w p = sub w q)))) (S0 L, R, I, J)) : wpC 215 [vR (some a), vI (p : Int), vI (q : Int)] (S0 L, R, I, J) Q := by
  have lp := en_le (w := w) (p := p) (by omega)
  have lq := en_le (w := w) (p := q) (by omega)
  have gp := en_gt hp
  have gq := en_gt hq
  have ep : w32 ((en w p : Int) - (p : Int)) = (tl (w.drop p) 1 : Int) := by rw [w32_eq (by omega) (by omega)]; unfold en; omega
  have eq : w32 ((en w q : Int) - (q : Int)) = (tl (w.drop q) 1 : Int) := by rw [w32_eq (by omega) (by omega)]; unfold en; omega
  unfold en at lp lq
  refine (c_Shape_isLike ha).mpr ⟨⟨by omega, by omega⟩, ⟨by omega, by omega⟩, ?_⟩
  rw [hE p hp, hE q hq, ep, eq]
  by_cases ht : tl (w.drop p) 1 = tl (w.drop q) 1
  · rw [if_pos (by omega)]
    have key : ∀ d k : Nat, d + k = tl (w.drop p) 1 → (∀ i, i < k → w.getD (p + i) 0 = w.getD (q + i) 0) → wpc 215 22 [vR (some a), vI (p : Int), vI (q : Int), vI (tl (w.drop p) 1 : Int), vI (k : Int)] [] (0, 0) (S0 L, R, I, J) Q := by
      intro d
      induction d with
      | zero =>
        intro k hk hh
        refine (b_Shape_isLike_22 ha).mpr ?_
        rw [if_neg (by omega)]
        rw [bi_t (same_iff.mpr ⟨ht, fun i h => hh i (by omega)⟩)] at hQ
        exact hQ
      | succ d ih =>
        intro k hk hh
        refine (b_Shape_isLike_22 ha).mpr ?_
        have e1 : (p : Int) + (k : Int) = ((p + k : Nat) : Int) := by omega
        have e2 : (q : Int) + (k : Int) = ((q + k : Nat) : Int) := by omega
        rw [if_pos (by omega), w32_eq (z := (q : Int) + (k : Int)) (by omega) (by omega), w32_eq (z := (p : Int) + (k : Int)) (by omega) (by omega), e1, e2, hW.1, if_pos (by omega), hW.2 _ (by omega), hW.2 _ (by omega), w32_s (by omega)]
        refine ⟨⟨by omega, by omega⟩, ⟨by omega, by omega⟩, ?_⟩
        by_cases he : w.getD (p + k) 0 = w.getD (q + k) 0
        · rw [if_pos (by omega)]
          refine ih (k + 1) (by omega) (fun i h => ?_)
          by_cases hik : i = k
          · rw [hik]; exact he
          · exact hh i (by omega)
        · rw [if_neg (by omega)]
          rw [bi_f (fun h => he ((same_iff.mp h).2 k (by omega)))] at hQ
          exact hQ
    exact key (tl (w.drop p) 1) 0 (by omega) (fun i hi => by omega)
  · rw [if_neg (by omega)]
    rw [bi_f (fun h => ht (same_iff.mp h).1)] at hQ
    exact hQ
theorem x_firstLike {a : Nat} {w : List Nat} (ha : isSh a) (hw : wfN w 1 = true) (hl : w.length ≤ 9) (hW : ShW I a w) (hE : ∀ q : Nat, q < w.length → I (a + 2) (q : Int) = (en w q : Int)) {p : Nat} (hp : p < w.length) (hQ : Q (some (vI (fsP w p : Int))) (S0 L, R, I, J)) : wpC 214 [vR (some a), vI (p : Int)] (S0 L, R, I, J) Q := by
  refine (c_Shape_firstLike ha).mpr ?_
  have key : ∀ f i : Nat, f + i = p → Q (some (vI (fsA w p f i : Int))) (S0 L, R, I, J) → wpc 214 3 [vR (some a), vI (p : Int), vI (i : Int)] [] (0, 0) (S0 L, R, I, J) Q := by
    intro f
    induction f with
    | zero =>
      intro i hi hq
      refine (b_Shape_firstLike_3 ha).mpr ?_
      rw [if_neg (by omega)]
      exact hq
    | succ f ih =>
      intro i hi hq
      unfold fsA at hq
      refine (b_Shape_firstLike_3 ha).mpr ?_
      rw [if_pos (by omega)]
      refine x_isLike ha hw hl hW hE (by omega) hp ?_
      refine (b_Shape_firstLike_12 ha).mpr ?_
      rw [w32_s (by omega)]
      by_cases h : sub w i = sub w p
      · rw [if_pos h] at hq
        rw [if_neg (fun q => bi_0.mp q h)]; exact hq
      · rw [if_neg h] at hq
        rw [if_pos (bi_0.mpr h)]; exact ih (i + 1) (by omega) hq
  exact key p 0 (by omega) hQ
theorem x_settle {a : Nat} {w : List Nat} (ha : isSh a) (h2 : 2 < a) (hA : isA L (a + 3) 9) (hT : StI I) (hw : wfN w 1 = true) (hl : w.length ≤ 9) (hW : ShW I a w) (hQ : ∀ I', (∀ b, b ≠ a + 2 → b ≠ a + 3 → I' b = I b) → ShS I' a w → Q none (S0 L, R, I', J)) : wpC 212 [vR (some a)] (S0 L, R, I, J) Q := by
  refine (c_Shape_settle ha).mpr ?_
  have e : w32 (I a 3 - 1) = ((w.length : Nat) : Int) + (-1) := by rw [hW.1, w32_eq (by omega) (by omega)]; omega
  rw [e]
  refine xs_out ha (by omega) hw hl w.length h2 (Nat.le_refl _) hT hW (fun q h1 h2 => by omega) (fun I1 f1 h1 => ?_)
  have key : ∀ (d p : Nat) {I2 : Nat → Int → Int}, d + p = w.length → (∀ b, b ≠ a + 3 → I2 b = I1 b) → (∀ q : Nat, q < p → I2 (a + 3) (q : Int) = (fsP w q : Int)) → wpc 212 44 [vR (some a), vI (p : Int), vU, vU] [] (0, 0) (S0 L, R, I2, J) Q := by
    intro d
    induction d with
    | zero =>
      intro p I2 hd f2 hq
      have hW2 : ShW I2 a w := hW.fr (by rw [f2 a (by omega), f1 a (by omega)]) (by rw [f2 (a + 1) (by omega), f1 (a + 1) (by omega)])
      refine (b_Shape_settle_44 ha).mpr ?_
      rw [hW2.1, if_neg (by omega)]
      exact hQ I2 (fun b p1 p2 => by rw [f2 b p2, f1 b p1]) ⟨hW2, fun q hq2 => ⟨by rw [f2 (a + 2) (by omega)]; exact h1 q hq2, hq q (by omega)⟩⟩
    | succ d ih =>
      intro p I2 hd f2 hq
      have hW2 : ShW I2 a w := hW.fr (by rw [f2 a (by omega), f1 a (by omega)]) (by rw [f2 (a + 1) (by omega), f1 (a + 1) (by omega)])
      refine (b_Shape_settle_44 ha).mpr ?_
      rw [hW2.1, if_pos (by omega)]
      refine x_firstLike ha hw hl hW2 (fun q hq2 => by rw [f2 (a + 2) (by omega)]; exact h1 q hq2) (by omega) ?_
      refine (b_Shape_settle_56 ha hA).mpr ⟨⟨by omega, by omega⟩, ?_⟩
      rw [w32_s (by omega)]
      refine ih (p + 1) (by omega) (fun b hb => by rw [upM_ne hb, f2 b hb]) (fun q hq2 => ?_)
      by_cases hqp : q = p
      · rw [hqp, upM_same]
      · rw [upM_i (by omega)]; exact hq q (by omega)
  exact key w.length 0 (by omega) (fun _ _ => rfl) (fun q hq => by omega)
end XSh
