-- ===== the class: a head is laid on a type =====
def BdX (I : Nat → Int → Int) (r : Nat) (w : List Nat) (lo : Nat) (a b : List Nat) : Prop := (if a = [] then I r 0 = -1 else ∃ p : Nat, lo ≤ p ∧ p < w.length ∧ I r 0 = (p : Int) ∧ sub w p = a) ∧ (if b = [] then I r 1 = -1 else ∃ p : Nat, lo ≤ p ∧ p < w.length ∧ I r 1 = (p : Int) ∧ sub w p = b)
section XCo
variable {L : Nat} {R : Nat → Int → Option Nat} {I : Nat → Int → Int} {J : Nat → Int → Int64} {Q : Option MV → MM → Prop}
theorem xc_loop {a0 a1 a3 lo : Nat} {h w : List Nat} (ha0 : isSh a0) (ha1 : isSh a1) (ha3 : isP2 L a3) (n0 : a3 ≠ a0 ∧ a3 ≠ a0 + 1) (n1 : a3 ≠ a1 ∧ a3 ≠ a1 + 1 ∧ a3 ≠ a1 + 2 ∧ a3 ≠ a1 + 3) (hh9 : h.length ≤ 9) (hh0 : 0 < h.length) (hw : wfN w 1 = true) (hl : w.length ≤ 9) : ∀ (d k : Nat) {I : Nat → Int → Int} (p : Nat) (a b : List Nat), d + k = h.length → lo ≤ p → (∃ m, wfN (h.drop k) m = true ∧ ∃ m2, wfN (w.drop p) (m + m2) = true) → ShW I a0 h → ShS I a1 w → BdX I a3 w lo a b → (∀ I', (∀ x, x ≠ a3 → I' x = I x) → (match mtc (h.drop k) (w.drop p) a b with
      | none => Q (some (vI 0)) (S0 L, R, I', J)
      | some (a', b') => BdX I' a3 w lo a' b' → Q (some (vI 1)) (S0 L, R, I', J))) → wpc 218 20 [vR (some a0), vR (some a1), vU, vR (some a3), vI (p : Int), vI (k : Int), vU] [] (0, 0) (S0 L, R, I, J) Q := by
  intro d
  induction d with
  | zero =>
    intro k I p a b hk _ _ hh hs hb hQ
    have e : k = h.length := by omega
    subst e
    refine (b_Shape_covers_20 ha0 ha1 ha3).mpr ?_
    rw [hh.1, if_neg (by omega), if_neg (by omega)]
    have := hQ I (fun _ _ => rfl)
    rw [List.drop_length] at this
    exact this hb
  | succ d ih =>
    intro k I p a b hk hlo hm hh hs hb hQ
    obtain ⟨m, hm, m2, hm2⟩ := hm
    have hk2 : k < h.length := by omega
    rw [drop_get hk2] at hm
    cases m with
    | zero => exact absurd hm (by simp [wfN])
    | succ m =>
    obtain ⟨hs6, hm⟩ := wf_cons.mp hm
    have hpl : p < w.length := by
      rw [show m + 1 + m2 = (m + m2) + 1 by omega] at hm2
      obtain ⟨s, r, hsr, _⟩ := wf_pos hm2
      have h4 := congrArg List.length hsr
      rw [List.length_drop, List.length_cons] at h4
      omega
    have hp6 := wf_lt6 hw hpl
    rw [show m + 1 + m2 = (m + m2) + 1 by omega, drop_get hpl] at hm2
    have hm2' := (wf_cons.mp hm2).2
    refine (b_Shape_covers_20 ha0 ha1 ha3).mpr ?_
    rw [hh.1, if_pos (by omega), if_neg (by omega), hs.1.1, if_pos (by omega), hh.2 k hk2]
    refine ⟨⟨by omega, by omega⟩, ?_⟩
    rw [drop_get hk2] at hQ
    generalize hse : h.getD k 0 = s at *
    have ew : w32 ((s : Int) - 4) = (s : Int) - 4 := w32_eq (by omega) (by omega)
    rw [ew]
    by_cases h4 : s < 4
    · rw [if_pos (by omega)]
      refine (b_Shape_covers_51 ha0 ha1 ha3).mpr ⟨⟨by omega, by omega⟩, ⟨by omega, by omega⟩, ?_⟩
      rw [hh.2 k hk2, hse, hs.1.2 p hpl, w32_s (by omega), w32_s (by omega)]
      by_cases hc : w.getD p 0 = s
      · rw [if_pos (by omega)]
        refine ih (k + 1) (p + 1) a b (by omega) (by omega) ⟨_, hm, m2, ?_⟩ hh hs hb (fun I' h1 => ?_)
        · rw [← hc, show m + pts (w.getD p 0) + m2 = m + m2 + pts (w.getD p 0) by omega]; exact hm2'
        · have := hQ I' h1
          unfold mtc at this
          rw [if_pos h4, drop_get hpl] at this
          simp only [hc, if_true] at this
          exact this
      · rw [if_neg (by omega)]
        have := hQ I (fun _ _ => rfl)
        unfold mtc at this
        rw [if_pos h4, drop_get hpl] at this
        simp only [hc, if_false] at this
        exact this
    · rw [pts_var (by omega), Nat.add_zero] at hm
      have hen := en_le (w := w) (p := p) (by omega)
      have hm3 : wfN (w.drop (en w p)) (m + m2) = true := by
        have := (wf_split (w.drop p) 1 (m + m2) (by rw [drop_get hpl, Nat.add_comm 1 (m + m2)]; exact hm2)).2
        rw [List.drop_drop] at this
        exact this
      have et : (w.drop p).take (tl (w.drop p) 1) = sub w p := rfl
      have ed : (w.drop p).drop (tl (w.drop p) 1) = w.drop (en w p) := by rw [List.drop_drop]; rfl
      have hv : (s : Int) - 4 = ((s - 4 : Nat) : Int) := by omega
      rw [if_neg (by omega), if_pos (by omega), hv]
      refine ⟨⟨by omega, by omega⟩, ?_⟩
      have hsne : sub w p ≠ [] := sub_ne hw hpl
      -- a place is put
      have hput : ∀ a' b' : List Nat, BdX (upM I a3 ((s - 4 : Nat) : Int) (p : Int)) a3 w lo a' b' → mtc (s :: h.drop (k + 1)) (w.drop p) a b = mtc (h.drop (k + 1)) (w.drop (en w p)) a' b' → wpc 218 20 [vR (some a0), vR (some a1), vU, vR (some a3), vI ((upM I a3 ((s - 4 : Nat) : Int) (p : Int)) (a1 + 2) (p : Int)), vI (w32 ((k : Int) + 1)), vU] [] (0, 0) (S0 L, R, upM I a3 ((s - 4 : Nat) : Int) (p : Int), J) Q := by
        intro a' b' hb' he
        rw [upM_ne (by omega), (hs.2 p hpl).1, w32_s (by omega)]
        refine ih (k + 1) (en w p) a' b' (by omega) (by unfold en; omega) ⟨m, hm, m2, hm3⟩ (hh.fr (by rw [upM_ne (by omega)]) (upM_ne (by omega))) (hs.fr (by rw [upM_ne (by omega)]) (upM_ne (by omega)) (upM_ne (by omega)) (upM_ne (by omega))) hb' (fun I' h1 => ?_)
        rw [← he]
        exact hQ I' (fun x hx => by rw [h1 x hx, upM_ne hx])
      -- a place was put
      have hold : mtc (s :: h.drop (k + 1)) (w.drop p) a b = mtc (h.drop (k + 1)) (w.drop (en w p)) a b → wpc 218 20 [vR (some a0), vR (some a1), vU, vR (some a3), vI (I (a1 + 2) (p : Int)), vI (w32 ((k : Int) + 1)), vU] [] (0, 0) (S0 L, R, I, J) Q := by
        intro he
        rw [(hs.2 p hpl).1, w32_s (by omega)]
        refine ih (k + 1) (en w p) a b (by omega) (by unfold en; omega) ⟨m, hm, m2, hm3⟩ hh hs hb (fun I' h1 => ?_)
        rw [← he]
        exact hQ I' h1
      by_cases h5 : s = 4
      · subst h5
        by_cases hn : a = []
        · subst hn
          rw [if_pos (by have := hb.1; rw [if_pos rfl] at this; exact this)]
          refine ⟨⟨by omega, by omega⟩, ⟨by omega, by omega⟩, ?_⟩
          refine hput (sub w p) b ⟨?_, ?_⟩ ?_
          · rw [if_neg hsne]; exact ⟨p, hlo, hpl, upM_same, rfl⟩
          · have := hb.2; rw [upM_i (by decide)]; exact this
          · conv => lhs; unfold mtc
            rw [if_neg h4, if_pos rfl, if_pos rfl, et, ed]
        · have hba := hb.1
          rw [if_neg hn] at hba
          obtain ⟨p0, hlo0, hp0, hI0, hs0⟩ := hba
          rw [show ((4 - 4 : Nat) : Int) = 0 from rfl, hI0, if_neg (by omega), (hs.2 p0 hp0).2, (hs.2 p hpl).2]
          refine ⟨⟨by omega, by omega⟩, ⟨by omega, by omega⟩, ⟨by omega, by omega⟩, ?_⟩
          by_cases he : sub w p0 = sub w p
          · rw [if_pos (by rw [fsP_iff.mpr he])]
            refine ⟨⟨by omega, by omega⟩, hold ?_⟩
            conv => lhs; unfold mtc
            rw [if_neg h4, if_pos rfl, if_neg hn, et, ed, if_pos (by rw [← hs0]; exact he)]
          · rw [if_neg (fun q => he (fsP_iff.mp (by omega)))]
            have := hQ I (fun _ _ => rfl)
            unfold mtc at this
            rw [if_neg h4, if_pos rfl, if_neg hn, et, if_neg (by rw [← hs0]; exact he)] at this
            exact this
      · have h5' : s = 5 := by omega
        subst h5'
        by_cases hn : b = []
        · subst hn
          rw [if_pos (by have := hb.2; rw [if_pos rfl] at this; exact this)]
          refine ⟨⟨by omega, by omega⟩, ⟨by omega, by omega⟩, ?_⟩
          refine hput a (sub w p) ⟨?_, ?_⟩ ?_
          · have := hb.1; rw [upM_i (by decide)]; exact this
          · rw [if_neg hsne]; exact ⟨p, hlo, hpl, upM_same, rfl⟩
          · conv => lhs; unfold mtc
            rw [if_neg h4, if_neg h5, if_pos rfl, et, ed]
        · have hba := hb.2
          rw [if_neg hn] at hba
          obtain ⟨p0, hlo0, hp0, hI0, hs0⟩ := hba
          rw [show ((5 - 4 : Nat) : Int) = 1 from rfl, hI0, if_neg (by omega), (hs.2 p0 hp0).2, (hs.2 p hpl).2]
          refine ⟨⟨by omega, by omega⟩, ⟨by omega, by omega⟩, ⟨by omega, by omega⟩, ?_⟩
          by_cases he : sub w p0 = sub w p
          · rw [if_pos (by rw [fsP_iff.mpr he])]
            refine ⟨⟨by omega, by omega⟩, hold ?_⟩
            conv => lhs; unfold mtc
            rw [if_neg h4, if_neg h5, if_neg hn, et, ed, if_pos (by rw [← hs0]; exact he)]
          · rw [if_neg (fun q => he (fsP_iff.mp (by omega)))]
            have := hQ I (fun _ _ => rfl)
            unfold mtc at this
            rw [if_neg h4, if_neg h5, if_neg hn, et, if_neg (by rw [← hs0]; exact he)] at this
            exact this
theorem x_covers {a0 a1 a3 p : Nat} {h w : List Nat} (ha0 : isSh a0) (ha1 : isSh a1) (ha3 : isP2 L a3) (n0 : a3 ≠ a0 ∧ a3 ≠ a0 + 1) (n1 : a3 ≠ a1 ∧ a3 ≠ a1 + 1 ∧ a3 ≠ a1 + 2 ∧ a3 ≠ a1 + 3) (hhw : wfN h 1 = true) (hh9 : h.length ≤ 9) (hw : wfN w 1 = true) (hl : w.length ≤ 9) (hp : p < w.length) (hh : ShW I a0 h) (hs : ShS I a1 w) (hQ : ∀ I', (∀ x, x ≠ a3 → I' x = I x) → (match mtc h (sub w p) [] [] with
      | none => Q (some (vI 0)) (S0 L, R, I', J)
      | some (a', b') => BdX I' a3 w p a' b' → Q (some (vI 1)) (S0 L, R, I', J))) : wpC 218 [vR (some a0), vR (some a1), vI (p : Int), vR (some a3)] (S0 L, R, I, J) Q := by
  refine (c_Shape_covers ha0 ha1 ha3).mpr ?_
  refine (b_Shape_covers_3 ha0 ha1 ha3).mpr ?_
  rw [if_pos (by decide)]
  refine ⟨⟨by decide, by decide⟩, ?_⟩
  refine (b_Shape_covers_3 ha0 ha1 ha3).mpr ?_
  rw [show w32 (0 + 1) = 1 by decide, if_pos (by decide)]
  refine ⟨⟨by decide, by decide⟩, ?_⟩
  refine (b_Shape_covers_3 ha0 ha1 ha3).mpr ?_
  rw [show w32 (1 + 1) = 2 by decide, if_neg (by decide)]
  have f1 : ∀ x, x ≠ a3 → (upM (upM I a3 0 (-1)) a3 1 (-1)) x = I x := fun x hx => by rw [upM_ne hx, upM_ne hx]
  obtain ⟨m, hm⟩ := wf_at hw hp
  refine xc_loop ha0 ha1 ha3 n0 n1 hh9 (List.length_pos_iff.mpr (ne_wf1 hhw)) hw hl h.length 0 p [] [] (by omega) (Nat.le_refl _) ⟨1, by rw [List.drop_zero]; exact hhw, m, by rw [Nat.add_comm]; exact hm⟩ (hh.fr (by rw [f1 a0 (by omega)]) (f1 _ (by omega))) (hs.fr (by rw [f1 a1 (by omega)]) (f1 _ (by omega)) (f1 _ (by omega)) (f1 _ (by omega))) ⟨?_, ?_⟩ (fun I' h1 => ?_)
  · rw [if_pos rfl, upM_i (by decide), upM_same]
  · rw [if_pos rfl, upM_same]
  · rw [List.drop_zero, mtc_sub hhw hw hp]
    exact hQ I' (fun x hx => by rw [h1 x hx, f1 x hx])
theorem x_variableAt {a : Nat} {w : List Nat} (ha : isSh a) (h6 : ∀ p, p < w.length → w.getD p 0 < 6) (hl : w.length ≤ 9) (hW : ShW I a w) {p : Nat} (hp : p < w.length) : wpC 216 [vR (some a), vI (p : Int)] (S0 L, R, I, J) Q ↔ Q (some (vI (vrF (w.getD p 0 : Int)))) (S0 L, R, I, J) := by
  have := h6 p hp
  rw [c_Shape_variableAt ha, if_neg (by omega), hW.1, if_pos (by omega), hW.2 p hp, x_variableOf (by omega)]
  constructor
  · intro h; exact b_Shape_variableAt_17.mp h.2
  · intro h; exact ⟨⟨by omega, by omega⟩, b_Shape_variableAt_17.mpr h⟩
theorem x_hasVariable {a v : Nat} {w : List Nat} (ha : isSh a) (hv : v < 2) (h6 : ∀ p, p < w.length → w.getD p 0 < 6) (hl : w.length ≤ 9) (hW : ShW I a w) (hQ : Q (some (vI (bi (v + 4 ∈ w)))) (S0 L, R, I, J)) : wpC 217 [vR (some a), vI (v : Int)] (S0 L, R, I, J) Q := by
  refine (c_Shape_hasVariable ha).mpr ?_
  have key : ∀ d k : Nat, d + k = w.length → (∀ i, i < k → ¬ w.getD i 0 = v + 4) → wpc 217 3 [vR (some a), vI (v : Int), vI (k : Int)] [] (0, 0) (S0 L, R, I, J) Q := by
    intro d
    induction d with
    | zero =>
      intro k hk hh
      refine (b_Shape_hasVariable_3 ha).mpr ?_
      rw [hW.1, if_neg (by omega)]
      rw [bi_f (fun q => ?_)] at hQ
      · exact hQ
      · obtain ⟨i, hi, he⟩ := List.getElem_of_mem q
        exact hh i (by omega) (by rw [List.getD_eq_getElem?_getD, List.getElem?_eq_getElem hi]; exact he)
    | succ d ih =>
      intro k hk hh
      have := h6 k (by omega)
      refine (b_Shape_hasVariable_3 ha).mpr ?_
      rw [hW.1, if_pos (by omega), hW.2 k (by omega), x_variableOf (by omega)]
      refine ⟨⟨by omega, by omega⟩, ?_⟩
      refine (b_Shape_hasVariable_14 ha).mpr ?_
      rw [w32_s (by omega)]
      by_cases he : w.getD k 0 = v + 4
      · rw [if_pos (by unfold vrF; rw [if_neg (by omega)]; omega)]
        rw [bi_t (by
          rw [← he, List.getD_eq_getElem?_getD, List.getElem?_eq_getElem (by omega)]
          exact List.getElem_mem _)] at hQ
        exact hQ
      · rw [if_neg (by unfold vrF; split <;> omega)]
        refine ih (k + 1) (by omega) (fun i hi => ?_)
        by_cases hik : i = k
        · rw [hik]; exact he
        · exact hh i (by omega)
  exact key w.length 0 (by omega) (fun i hi => by omega)
theorem x_isSameAs {a b : Nat} {w u : List Nat} (ha : isSh a) (hb : isSh b) (hl : w.length ≤ 9) (hW : ShW I a w) (hU : ShW I b u) (hQ : Q (some (vI (bi (w = u)))) (S0 L, R, I, J)) : wpC 219 [vR (some a), vR (some b)] (S0 L, R, I, J) Q := by
  refine (c_Shape_isSameAs ha hb).mpr ?_
  rw [hW.1, hU.1]
  by_cases hll : w.length = u.length
  · rw [if_pos (by omega)]
    have key : ∀ d k : Nat, d + k = w.length → (∀ i, i < k → w.getD i 0 = u.getD i 0) → wpc 219 12 [vR (some a), vR (some b), vI (k : Int)] [] (0, 0) (S0 L, R, I, J) Q := by
      intro d
      induction d with
      | zero =>
        intro k hk hh
        refine (b_Shape_isSameAs_12 ha hb).mpr ?_
        rw [hW.1, if_neg (by omega)]
        rw [bi_t (list_ext hll (fun i hi => hh i (by omega)))] at hQ
        exact hQ
      | succ d ih =>
        intro k hk hh
        refine (b_Shape_isSameAs_12 ha hb).mpr ?_
        rw [hW.1, if_pos (by omega), hW.2 k (by omega), hU.2 k (by omega), w32_s (by omega)]
        refine ⟨⟨by omega, by omega⟩, ⟨by omega, by omega⟩, ?_⟩
        by_cases he : w.getD k 0 = u.getD k 0
        · rw [if_pos (by omega)]
          refine ih (k + 1) (by omega) (fun i hi => ?_)
          by_cases hik : i = k
          · rw [hik]; exact he
          · exact hh i (by omega)
        · rw [if_neg (by omega)]
          rw [bi_f (fun q => he (by rw [q]))] at hQ
          exact hQ
    exact key w.length 0 (by omega) (fun i hi => by omega)
  · rw [if_neg (by omega)]
    rw [bi_f (fun q => hll (by rw [q]))] at hQ
    exact hQ
/-- a shape that may be empty: settled where it isn't -/
def ShO (I : Nat → Int → Int) (a : Nat) (w : List Nat) : Prop := ShS I a w
theorem x_copyFrom {a b : Nat} {w : List Nat} (ha : isSh a) (hb : isSh b) (hab : a + 3 < b ∨ b + 3 < a) (hl : w.length ≤ 9) (hS : ShS I b w) (hQ : ∀ I', (∀ x, x < a ∨ a + 3 < x → I' x = I x) → ShS I' a w → Q none (S0 L, R, I', J)) : wpC 220 [vR (some a), vR (some b)] (S0 L, R, I, J) Q := by
  refine (c_Shape_copyFrom ha hb).mpr ?_
  rw [hS.1.1]
  have key : ∀ (d k : Nat) {I' : Nat → Int → Int}, d + k = w.length → (∀ x, x < a ∨ a + 3 < x → I' x = I x) → I' a 3 = (w.length : Int) → (∀ q : Nat, q < k → I' (a + 1) (q : Int) = (w.getD q 0 : Int) ∧ I' (a + 2) (q : Int) = (en w q : Int) ∧ I' (a + 3) (q : Int) = (fsP w q : Int)) → wpc 220 7 [vR (some a), vR (some b), vI (k : Int)] [] (0, 0) (S0 L, R, I', J) Q := by
    intro d
    induction d with
    | zero =>
      intro k I' hk f1 h3 hq
      refine (b_Shape_copyFrom_7 ha hb).mpr ?_
      rw [h3, if_neg (by omega)]
      exact hQ I' f1 ⟨⟨h3, fun p hp => (hq p (by omega)).1⟩, fun p hp => (hq p (by omega)).2⟩
    | succ d ih =>
      intro k I' hk f1 h3 hq
      refine (b_Shape_copyFrom_7 ha hb).mpr ?_
      rw [h3, if_pos (by omega), upM_ne (a := a + 2) (b := b + 3) (by omega), upM_ne (a := a + 1) (b := b + 3) (by omega), upM_ne (a := a + 1) (b := b + 2) (by omega), f1 (b + 1) (by omega), f1 (b + 2) (by omega), f1 (b + 3) (by omega), hS.1.2 k (by omega), (hS.2 k (by omega)).1, (hS.2 k (by omega)).2, w32_s (by omega)]
      refine ⟨⟨by omega, by omega⟩, ⟨by omega, by omega⟩, ⟨by omega, by omega⟩, ⟨by omega, by omega⟩, ⟨by omega, by omega⟩, ⟨by omega, by omega⟩, ?_⟩
      refine ih (k + 1) (by omega) (fun x hx => by rw [upM_ne (by omega), upM_ne (by omega), upM_ne (by omega), f1 x hx]) (by rw [upM_ne (by omega), upM_ne (by omega), upM_ne (by omega)]; exact h3) (fun q hq2 => ?_)
      by_cases hqk : q = k
      · subst hqk
        refine ⟨?_, ?_, upM_same⟩
        · rw [upM_ne (by omega), upM_ne (by omega), upM_same]
        · rw [upM_ne (by omega), upM_same]
      · have hne : ((q : Nat) : Int) ≠ (k : Int) := by omega
        rw [upM_oi hne, upM_oi hne, upM_oi hne, upM_oi hne, upM_oi hne, upM_oi hne, upM_oi hne, upM_oi hne, upM_oi hne]
        exact hq q (by omega)
  exact key w.length 0 (by omega) (fun x hx => upM_ne (by omega)) upM_same (fun q hq => by omega)
end XCo
