-- ===== whether two heads can be one: as the reference finds it out =====
def uL (h1 h2 : List Nat) (n : Nat) : Nat := if n < 5 then h1.getD n 9 else h2.getD (n - 5) 9
def uV (h1 h2 : List Nat) (n : Nat) : Nat := n / 5 * 2 + (uL h1 h2 n - 4)
def uS (h1 h2 : List Nat) : Nat → List Nat → Nat → Option Nat
  | 0, _, _ => none
  | f + 1, bs, n => if uL h1 h2 n < 4 then some n else if uL h1 h2 n < 6 then (if bs.getD (uV h1 h2 n) 15 = 15 then some n else uS h1 h2 f bs (bs.getD (uV h1 h2 n) 15)) else none
def uB (h1 h2 : List Nat) : Nat → Nat → Nat → Option Nat
  | 0, _, _ => none
  | f + 1, k, n => if k = 0 then some n else if uL h1 h2 n < 6 then uB h1 h2 f (k - 1 + pts (uL h1 h2 n)) (n + 1) else none
def uO (h1 h2 : List Nat) (bs : List Nat) (v : Nat) : Nat → List Nat → Option Bool
  | 0, _ => none
  | f + 1, st => match st with
    | [] => some false
    | x :: r => match uS h1 h2 9 bs x with
      | none => none
      | some n =>
        if 4 ≤ uL h1 h2 n then (if uV h1 h2 n = v then some true else uO h1 h2 bs v f r)
        else if pts (uL h1 h2 n) = 0 then uO h1 h2 bs v f r
        else if 60 < r.length then none
        else if pts (uL h1 h2 n) = 1 then uO h1 h2 bs v f ((n + 1) :: r)
        else match uB h1 h2 9 1 (n + 1) with
          | none => none
          | some m => uO h1 h2 bs v f (m :: (n + 1) :: r)
def uJ (h1 h2 : List Nat) (p q : Nat) (bs : List Nat) (ps : List (Nat × Nat)) : Option (Option (List Nat × List (Nat × Nat))) :=
  if 4 ≤ uL h1 h2 p ∧ 4 ≤ uL h1 h2 q ∧ uV h1 h2 p = uV h1 h2 q then some (some (bs, ps))
  else if 4 ≤ uL h1 h2 p then match uO h1 h2 bs (uV h1 h2 p) 40 [q] with
    | none => none
    | some true => some none
    | some false => some (some (bs.set (uV h1 h2 p) q, ps))
  else if 4 ≤ uL h1 h2 q then match uO h1 h2 bs (uV h1 h2 q) 40 [p] with
    | none => none
    | some true => some none
    | some false => some (some (bs.set (uV h1 h2 q) p, ps))
  else if ¬ uL h1 h2 p = uL h1 h2 q then some none
  else if pts (uL h1 h2 p) = 0 then some (some (bs, ps))
  else if 60 < ps.length then none
  else if pts (uL h1 h2 p) = 1 then some (some (bs, (p + 1, q + 1) :: ps))
  else match uB h1 h2 9 1 (p + 1), uB h1 h2 9 1 (q + 1) with
    | some a, some b => some (some (bs, (p + 1, q + 1) :: (a, b) :: ps))
    | _, _ => none
def uP (h1 h2 : List Nat) : Nat → List Nat → List (Nat × Nat) → Option Bool
  | 0, _, _ => none
  | f + 1, bs, ps => match ps with
    | [] => some true
    | (p, q) :: r => match uS h1 h2 9 bs p, uS h1 h2 9 bs q with
      | some a, some b => match uJ h1 h2 a b bs r with
        | none => none
        | some none => some false
        | some (some (bs', ps')) => uP h1 h2 f bs' ps'
      | _, _ => none
def uni (h1 h2 : List Nat) : Option Bool := uP h1 h2 40 [15, 15, 15, 15] [(0, 5)]
theorem getD_lt {l : List Nat} {n : Nat} (h : l.getD n 9 < 6) : n < l.length := by
  refine Nat.lt_of_not_le (fun h2 => ?_)
  rw [List.getD_eq_getElem?_getD, List.getElem?_eq_none h2] at h
  exact absurd h (by decide)
theorem getD_ch {l : List Nat} {n : Nat} (h : n < l.length) : l.getD n 9 = l.getD n 0 := by
  rw [List.getD_eq_getElem?_getD, List.getD_eq_getElem?_getD, List.getElem?_eq_getElem h]; rfl
def UnM (I : Nat → Int → Int) (i e : Nat) (h1 h2 : List Nat) : Prop := I 243 45 = (i : Int) ∧ I 243 46 = (e : Int) ∧ HdW I i h1 ∧ HdW I e h2 ∧ i < 6 ∧ e < 6 ∧ h1.length ≤ 5 ∧ h2.length ≤ 5
def BnM (I : Nat → Int → Int) (bs : List Nat) : Prop := bs.length = 4 ∧ ∀ v : Nat, v < 4 → I 279 (v : Int) = if bs.getD v 15 = 15 then -1 else (bs.getD v 15 : Int)
def WtM (I : Nat → Int → Int) (st : List Nat) : Prop := ∀ k : Nat, k < st.length → I 282 (k : Int) = (st.getD (st.length - 1 - k) 0 : Int)
def PrM (I : Nat → Int → Int) (ps : List (Nat × Nat)) : Prop := I 243 50 = (ps.length : Int) ∧ ∀ k : Nat, k < ps.length → I 280 (k : Int) = ((ps.getD (ps.length - 1 - k) (0, 0)).1 : Int) ∧ I 281 (k : Int) = ((ps.getD (ps.length - 1 - k) (0, 0)).2 : Int)
/-- what the search changes -/
def frU (I I' : Nat → Int → Int) : Prop := (∀ a, a ≠ 243 → a ≠ 279 → a ≠ 280 → a ≠ 281 → a ≠ 282 → I' a = I a) ∧ ∀ i : Int, i ≠ 50 → I' 243 i = I 243 i
theorem UnM.fr {I I' : Nat → Int → Int} {i e : Nat} {h1 h2 : List Nat} (h : UnM I i e h1 h2) (f : frU I I') : UnM I' i e h1 h2 := by
  unfold UnM HdW at *
  rw [f.2 45 (by decide), f.2 46 (by decide), f.1 248 (by decide) (by decide) (by decide) (by decide) (by decide), f.1 249 (by decide) (by decide) (by decide) (by decide) (by decide)]
  exact h
theorem frU.tr {I I' I2 : Nat → Int → Int} (h : frU I I') (h2 : frU I' I2) : frU I I2 := ⟨fun a p1 p2 p3 p4 p5 => by rw [h2.1 a p1 p2 p3 p4 p5, h.1 a p1 p2 p3 p4 p5], fun i hi => by rw [h2.2 i hi, h.2 i hi]⟩
theorem frU_82 {I I' : Nat → Int → Int} (h : ∀ a, a ≠ 282 → I' a = I a) : frU I I' := ⟨fun a _ _ _ _ p5 => h a p5, fun i _ => by rw [h 243 (by decide)]⟩
section MUn
variable {L : Nat} {R : Nat → Int → Option Nat} {I : Nat → Int → Int} {J : Nat → Int → Int64} {Q : Option MV → MM → Prop} {i e : Nat} {h1 h2 : List Nat}
theorem uL_lt (hU : UnM I i e h1 h2) {n : Nat} (h : uL h1 h2 n < 6) : n < 10 := by
  obtain ⟨_, _, _, _, _, _, l1, l2⟩ := hU
  unfold uL at h
  split at h
  · omega
  · have := getD_lt h; omega
theorem k_letterOf (hU : UnM I i e h1 h2) {n : Nat} (h : uL h1 h2 n < 6) : wpC 98 [vR (some 243), vI (n : Int)] (S0 L, R, I, J) Q ↔ Q (some (vI (cd (uL h1 h2 n)))) (S0 L, R, I, J) := by
  have hn := uL_lt hU h
  obtain ⟨e1, e2, d1, d2, hi, he, l1, l2⟩ := hU
  rw [c_M_letterOf, e1, e2]
  unfold uL at h ⊢
  have t : (n : Int).tmod 5 = ((n % 5 : Nat) : Int) := rfl
  by_cases h5 : n < 5
  · rw [if_pos h5] at h ⊢
    have hl := getD_lt h
    rw [if_pos (by omega), t, w32_eq (z := 5 * (i : Int)) (by omega) (by omega), w32_eq (by omega) (by omega)]
    have e3 : 5 * (i : Int) + ((n % 5 : Nat) : Int) = ((5 * i + n : Nat) : Int) := by omega
    rw [e3, d1.2 n hl, getD_ch hl]
    exact ⟨fun h => h.2, fun h => ⟨⟨by omega, by omega⟩, h⟩⟩
  · rw [if_neg h5] at h ⊢
    have hl := getD_lt h
    rw [if_neg (by omega), t, w32_eq (z := 5 * (e : Int)) (by omega) (by omega), w32_eq (by omega) (by omega)]
    have e3 : 5 * (e : Int) + ((n % 5 : Nat) : Int) = ((5 * e + (n - 5) : Nat) : Int) := by omega
    rw [e3, d2.2 (n - 5) hl, getD_ch hl]
    exact ⟨fun h => h.2, fun h => ⟨⟨by omega, by omega⟩, h⟩⟩
theorem uV_lt (hU : UnM I i e h1 h2) {n : Nat} (h : uL h1 h2 n < 6) : uV h1 h2 n < 4 := by
  have := uL_lt hU h
  unfold uV; omega
theorem k_variableOf (hU : UnM I i e h1 h2) {n : Nat} (h : uL h1 h2 n < 6) (h4 : 4 ≤ uL h1 h2 n) : wpC 99 [vR (some 243), vI (n : Int)] (S0 L, R, I, J) Q ↔ Q (some (vI (uV h1 h2 n : Int))) (S0 L, R, I, J) := by
  have hn := uL_lt hU h
  rw [c_M_variableOf, k_letterOf hU h]
  refine b_M_variableOf_9.trans ?_
  have t : (n : Int).tdiv 5 = ((n / 5 : Nat) : Int) := rfl
  rw [t, cd_var h h4, w32_eq (z := ((n / 5 : Nat) : Int)) (by omega) (by omega), w32_eq (z := ((n / 5 : Nat) : Int) * 2) (by omega) (by omega), w32_eq (z := ((n / 5 : Nat) : Int) * 2 + (116 + (uL h1 h2 n : Int))) (by omega) (by omega), w32_eq (by omega) (by omega)]
  have e3 : ((n / 5 : Nat) : Int) * 2 + (116 + (uL h1 h2 n : Int)) - 120 = (uV h1 h2 n : Int) := by unfold uV; omega
  rw [e3]
theorem sF_loop (hU : UnM I i e h1 h2) {bs : List Nat} (hB : BnM I bs) : ∀ (f n m : Nat), uS h1 h2 f bs n = some m → Q (some (vI (m : Int))) (S0 L, R, I, J) → wpc 100 3 [vR (some 243), vU, vI (n : Int)] [] (0, 0) (S0 L, R, I, J) Q := by
  intro f
  induction f with
  | zero => intro n m h; exact absurd h (by unfold uS; simp)
  | succ f ih =>
    intro n m h hQ
    unfold uS at h
    refine b_M_standsFor_3.mpr ?_
    by_cases h4 : uL h1 h2 n < 4
    · rw [if_pos h4] at h
      cases h
      rw [k_letterOf hU (by omega)]
      refine b_M_standsFor_7.mpr ?_
      rw [k_isVariable]
      refine b_M_standsFor_9.mpr ?_
      rw [if_pos (bi_0.mpr (fun q => by have := (var_cd (by omega)).mp q; omega))]
      exact hQ
    · rw [if_neg h4] at h
      by_cases h6 : uL h1 h2 n < 6
      · rw [if_pos h6] at h
        have hv := uV_lt hU h6
        rw [k_letterOf hU h6]
        refine b_M_standsFor_7.mpr ?_
        rw [k_isVariable]
        refine b_M_standsFor_9.mpr ?_
        rw [if_neg (fun q => bi_0.mp q ((var_cd h6).mpr (by omega))), k_variableOf hU h6 (by omega)]
        refine b_M_standsFor_17.mpr ⟨⟨by omega, by omega⟩, ?_⟩
        rw [hB.2 _ hv]
        by_cases hb : bs.getD (uV h1 h2 n) 15 = 15
        · rw [if_pos hb] at h
          cases h
          rw [if_pos hb, if_pos rfl]
          exact hQ
        · rw [if_neg hb] at h
          rw [if_neg hb, if_neg (by omega), k_variableOf hU h6 (by omega)]
          refine b_M_standsFor_27.mpr ⟨⟨by omega, by omega⟩, ?_⟩
          rw [hB.2 _ hv, if_neg hb]
          exact ih _ m h hQ
      · rw [if_neg h6] at h
        exact absurd h (by simp)
theorem k_standsFor (hU : UnM I i e h1 h2) {bs : List Nat} (hB : BnM I bs) {n m : Nat} (h : uS h1 h2 9 bs n = some m) (hQ : Q (some (vI (m : Int))) (S0 L, R, I, J)) : wpC 100 [vR (some 243), vI (n : Int)] (S0 L, R, I, J) Q := c_M_standsFor.mpr (sF_loop hU hB 9 n m h hQ)
theorem uS_lt {f : Nat} {bs : List Nat} {n m : Nat} (h : uS h1 h2 f bs n = some m) : uL h1 h2 m < 6 := by
  induction f generalizing n with
  | zero => exact absurd h (by unfold uS; simp)
  | succ f ih =>
    unfold uS at h
    split at h
    · cases h; omega
    · split at h
      · split at h
        · cases h; assumption
        · exact ih h
      · exact absurd h (by simp)
theorem bh_loop (hU : UnM I i e h1 h2) : ∀ (f k n m : Nat), k + f ≤ 30 → uB h1 h2 f k n = some m → Q (some (vI (m : Int))) (S0 L, R, I, J) → wpc 101 5 [vR (some 243), vU, vI (k : Int), vI (n : Int)] [] (0, 0) (S0 L, R, I, J) Q := by
  intro f
  induction f with
  | zero => intro k n m _ h; exact absurd h (by unfold uB; simp)
  | succ f ih =>
    intro k n m hk h hQ
    unfold uB at h
    refine b_M_behind_5.mpr ?_
    by_cases h0 : k = 0
    · rw [if_pos h0] at h
      cases h
      rw [if_pos (by omega)]
      exact hQ
    · rw [if_neg h0] at h
      by_cases h6 : uL h1 h2 n < 6
      · rw [if_pos h6] at h
        have hn := uL_lt hU h6
        have hp := pts_le (uL h1 h2 n)
        rw [if_neg (by omega), k_letterOf hU h6]
        refine b_M_behind_13.mpr ?_
        rw [k_wants, wnt_cd h6]
        refine b_M_behind_15.mpr ?_
        rw [w32_s (by omega), w32_eq (z := (pts (uL h1 h2 n) : Int) - 1) (by omega) (by omega), w32_eq (by omega) (by omega)]
        have e3 : (k : Int) + ((pts (uL h1 h2 n) : Int) - 1) = ((k - 1 + pts (uL h1 h2 n) : Nat) : Int) := by omega
        rw [e3]
        exact ih _ _ m (by omega) h hQ
      · rw [if_neg h6] at h
        exact absurd h (by simp)
theorem k_behind (hU : UnM I i e h1 h2) {n m : Nat} (h : uB h1 h2 9 1 n = some m) (hQ : Q (some (vI (m : Int))) (S0 L, R, I, J)) : wpC 101 [vR (some 243), vI (n : Int)] (S0 L, R, I, J) Q := c_M_behind.mpr (bh_loop hU 9 1 n m (by decide) h hQ)
theorem WtM.push {st : List Nat} {I : Nat → Int → Int} {x : Nat} (h : WtM I st) : WtM (upM I 282 (st.length : Int) (x : Int)) (x :: st) := by
  intro k hk
  rw [List.length_cons] at hk ⊢
  by_cases he : k = st.length
  · subst he
    rw [upM_same, show st.length + 1 - 1 - st.length = 0 by omega]; rfl
  · rw [upM_i (by omega), h k (by omega), show st.length + 1 - 1 - k = (st.length - 1 - k) + 1 by omega, List.getD_cons_succ]
theorem WtM.pop {st : List Nat} {I : Nat → Int → Int} {x : Nat} (h : WtM I (x :: st)) : WtM I st := by
  intro k hk
  have := h k (by rw [List.length_cons]; omega)
  rw [List.length_cons, show st.length + 1 - 1 - k = (st.length - 1 - k) + 1 by omega, List.getD_cons_succ] at this
  exact this
theorem BnM.f2 {I' : Nat → Int → Int} {bs : List Nat} (h : BnM I bs) (f : I' 279 = I 279) : BnM I' bs := ⟨h.1, fun v hv => by rw [f]; exact h.2 v hv⟩
theorem oc_loop {v : Nat} : ∀ (f : Nat) (st : List Nat) {I : Nat → Int → Int} {bs : List Nat} (b : Bool), UnM I i e h1 h2 → BnM I bs → WtM I st → st.length ≤ 63 → uO h1 h2 bs v f st = some b → (∀ I', (∀ a, a ≠ 282 → I' a = I a) → Q (some (vI (bi (b = true)))) (S0 L, R, I', J)) → wpc 102 8 [vR (some 243), vI (v : Int), vU, vI (st.length : Int), vU, vU] [] (0, 0) (S0 L, R, I, J) Q := by
  intro f
  induction f with
  | zero => intro st I bs b _ _ _ _ h; exact absurd h (by unfold uO; simp)
  | succ f ih =>
    intro st I bs b hU hB hW hl h hQ
    match st, hW, hl, h with
    | [], _, _, h =>
      unfold uO at h
      simp only at h
      cases h
      refine b_M_occurs_8.mpr ?_
      rw [if_pos (by decide)]
      have := hQ I (fun _ _ => rfl)
      rw [bi_f (by decide)] at this
      exact this
    | x :: r, hW, hl, h =>
      unfold uO at h
      simp only at h
      rw [List.length_cons] at hl ⊢
      cases hn : uS h1 h2 9 bs x with
      | none => rw [hn] at h; exact absurd h (by simp)
      | some n =>
        rw [hn] at h
        simp only at h
        have h6 := uS_lt hn
        have hn10 := uL_lt hU h6
        have hx : I 282 ((r.length : Nat) : Int) = (x : Int) := by
          have := hW r.length (by simp)
          rw [List.length_cons, show r.length + 1 - 1 - r.length = 0 by omega] at this
          exact this
        have hW' := hW.pop
        refine b_M_occurs_8.mpr ?_
        rw [if_neg (by omega), w32_p (by omega)]
        refine ⟨⟨by omega, by omega⟩, ?_⟩
        rw [hx]
        refine k_standsFor hU hB hn ?_
        refine b_M_occurs_19.mpr ?_
        rw [k_letterOf hU h6]
        refine b_M_occurs_24.mpr ?_
        rw [k_isVariable]
        refine b_M_occurs_28.mpr ?_
        have hgo : ∀ (st' : List Nat) (I' : Nat → Int → Int), (∀ a, a ≠ 282 → I' a = I a) → WtM I' st' → st'.length ≤ 63 → uO h1 h2 bs v f st' = some b → wpc 102 8 [vR (some 243), vI (v : Int), vU, vI (st'.length : Int), vU, vU] [] (0, 0) (S0 L, R, I', J) Q := fun st' I' f1 w1 l1 o1 => ih st' b (hU.fr (frU_82 f1)) (hB.f2 (f1 279 (by decide))) w1 l1 o1 (fun I2 f2 => hQ I2 (fun a ha => by rw [f2 a ha, f1 a ha]))
        by_cases h4 : 4 ≤ uL h1 h2 n
        · rw [if_pos h4] at h
          rw [if_neg (fun q => bi_0.mp q ((var_cd h6).mpr h4)), k_variableOf hU h6 h4]
          refine b_M_occurs_34.mpr ?_
          by_cases hv : uV h1 h2 n = v
          · rw [if_pos hv] at h
            cases h
            rw [if_pos (by omega)]
            have := hQ I (fun _ _ => rfl)
            rw [bi_t rfl] at this
            exact this
          · rw [if_neg hv] at h
            rw [if_neg (by omega)]
            refine b_M_occurs_40.mpr ?_
            rw [k_wants, wnt_cd h6, pts_var h4]
            refine b_M_occurs_43.mpr ?_
            rw [if_pos (by decide)]
            refine b_M_occurs_54.mpr ?_
            rw [k_wants, wnt_cd h6, pts_var h4]
            refine b_M_occurs_57.mpr ?_
            rw [if_pos (by decide)]
            exact hgo r I (fun _ _ => rfl) hW' (by omega) h
        · rw [if_neg h4] at h
          rw [if_pos (bi_0.mpr (fun q => h4 ((var_cd h6).mp q)))]
          refine b_M_occurs_40.mpr ?_
          rw [k_wants, wnt_cd h6]
          refine b_M_occurs_43.mpr ?_
          by_cases p0 : pts (uL h1 h2 n) = 0
          · rw [if_pos p0] at h
            rw [if_pos (by omega)]
            refine b_M_occurs_54.mpr ?_
            rw [k_wants, wnt_cd h6]
            refine b_M_occurs_57.mpr ?_
            rw [if_pos (by omega)]
            exact hgo r I (fun _ _ => rfl) hW' (by omega) h
          · rw [if_neg p0] at h
            by_cases hr : 60 < r.length
            · rw [if_pos hr] at h; exact absurd h (by simp)
            rw [if_neg hr] at h
            rw [if_neg (by omega), w32_s (by omega), w32_s (by omega)]
            refine ⟨⟨by omega, by omega⟩, ?_⟩
            have f1 : ∀ a, a ≠ 282 → (upM I 282 ((r.length : Nat) : Int) ((n + 1 : Nat) : Int)) a = I a := fun a ha => upM_ne ha
            have w1 : WtM (upM I 282 ((r.length : Nat) : Int) ((n + 1 : Nat) : Int)) ((n + 1) :: r) := hW'.push
            refine b_M_occurs_54.mpr ?_
            rw [k_wants, wnt_cd h6]
            refine b_M_occurs_57.mpr ?_
            by_cases p1 : pts (uL h1 h2 n) = 1
            · rw [if_pos p1] at h
              rw [if_pos (by omega)]
              exact hgo ((n + 1) :: r) _ f1 w1 (by rw [List.length_cons]; omega) h
            · rw [if_neg p1] at h
              rw [if_neg (by omega), w32_s (by omega)]
              cases hm : uB h1 h2 9 1 (n + 1) with
              | none => rw [hm] at h; exact absurd h (by simp)
              | some m =>
                rw [hm] at h
                simp only at h
                refine k_behind (hU.fr (frU_82 f1)) hm ?_
                refine b_M_occurs_69.mpr ⟨⟨by omega, by omega⟩, ?_⟩
                rw [w32_s (by omega)]
                have w2 := w1.push (x := m)
                rw [List.length_cons] at w2
                exact hgo (m :: (n + 1) :: r) _ (fun a ha => by rw [upM_ne ha, f1 a ha]) w2 (by rw [List.length_cons, List.length_cons]; omega) h
theorem k_occurs {v x : Nat} {bs : List Nat} {b : Bool} (hU : UnM I i e h1 h2) (hB : BnM I bs) (h : uO h1 h2 bs v 40 [x] = some b) (hQ : ∀ I', (∀ a, a ≠ 282 → I' a = I a) → Q (some (vI (bi (b = true)))) (S0 L, R, I', J)) : wpC 102 [vR (some 243), vI (v : Int), vI (x : Int)] (S0 L, R, I, J) Q := by
  refine c_M_occurs.mpr ?_
  have f1 : ∀ a, a ≠ 282 → (upM I 282 0 (x : Int)) a = I a := fun a ha => upM_ne ha
  refine oc_loop 40 [x] b (hU.fr (frU_82 f1)) (hB.f2 (f1 279 (by decide))) ?_ (by simp) h (fun I' f2 => hQ I' (fun a ha => by rw [f2 a ha, f1 a ha]))
  intro k hk
  have hk0 : k = 0 := by simpa using hk
  subst hk0
  exact upM_same
theorem k_addPair {p q : Nat} {ps : List (Nat × Nat)} (hP : PrM I ps) (hl : ps.length ≤ 62) (hQ : ∀ I', (∀ a, a ≠ 243 → a ≠ 280 → a ≠ 281 → I' a = I a) → (∀ j : Int, j ≠ 50 → I' 243 j = I 243 j) → PrM I' ((p, q) :: ps) → Q none (S0 L, R, I', J)) : wpC 103 [vR (some 243), vI (p : Int), vI (q : Int)] (S0 L, R, I, J) Q := by
  refine c_M_addPair.mpr ?_
  rw [upM_ne (I := I) (a := 280) (b := 243) (by decide), upM_ne (a := 281) (b := 243) (by decide), upM_ne (I := I) (a := 280) (b := 243) (by decide), hP.1, w32_s (by omega)]
  refine ⟨⟨by omega, by omega⟩, ⟨by omega, by omega⟩, ?_⟩
  refine hQ _ (fun a p1 p2 p3 => by rw [upM_ne p1, upM_ne p3, upM_ne p2]) (fun j hj => by rw [upM_i hj, upM_ne (by decide), upM_ne (by decide)]) ⟨by rw [upM_same, List.length_cons], fun k hk => ?_⟩
  rw [List.length_cons] at hk ⊢
  rw [upM_ne (by decide), upM_ne (a := 243) (by decide), upM_ne (a := 281) (b := 280) (by decide)]
  by_cases he : k = ps.length
  · subst he
    rw [upM_same, upM_same, show ps.length + 1 - 1 - ps.length = 0 by omega]
    exact ⟨rfl, rfl⟩
  · rw [upM_i (by omega), upM_i (by omega), upM_ne (by decide), show ps.length + 1 - 1 - k = (ps.length - 1 - k) + 1 by omega, List.getD_cons_succ]
    exact hP.2 k (by omega)
theorem BnM.set {bs : List Nat} {v x : Nat} (h : BnM I bs) (hv : v < 4) (hx : x < 10) : BnM (upM I 279 (v : Int) (x : Int)) (bs.set v x) := by
  refine ⟨by rw [List.length_set]; exact h.1, fun k hk => ?_⟩
  have hl := h.1
  by_cases he : k = v
  · subst he
    have e1 : (bs.set k x).getD k 15 = x := by rw [List.getD_eq_getElem?_getD, List.getElem?_set_self (by omega)]; rfl
    rw [upM_same, e1, if_neg (by omega)]
  · have e1 : (bs.set v x).getD k 15 = bs.getD k 15 := by rw [List.getD_eq_getElem?_getD, List.getElem?_set_ne (fun h => he h.symm), List.getD_eq_getElem?_getD]
    rw [upM_i (by omega), e1]
    exact h.2 k hk
theorem k_joins {p q : Nat} {bs : List Nat} {ps : List (Nat × Nat)} {o : Option (List Nat × List (Nat × Nat))} (hU : UnM I i e h1 h2) (hB : BnM I bs) (hP : PrM I ps) (hp6 : uL h1 h2 p < 6) (hq6 : uL h1 h2 q < 6) (h : uJ h1 h2 p q bs ps = some o) (hQ : ∀ I', frU I I' → (match o with
      | none => Q (some (vI 0)) (S0 L, R, I', J)
      | some (bs', ps') => BnM I' bs' → PrM I' ps' → Q (some (vI 1)) (S0 L, R, I', J))) : wpC 104 [vR (some 243), vI (p : Int), vI (q : Int)] (S0 L, R, I, J) Q := by
  have hp10 := uL_lt hU hp6
  have hq10 := uL_lt hU hq6
  have rfU : frU I I := ⟨fun _ _ _ _ _ _ => rfl, fun _ _ => rfl⟩
  refine c_M_joins.mpr ?_
  rw [k_letterOf hU hp6]
  refine b_M_joins_4.mpr ?_
  rw [k_isVariable]
  refine b_M_joins_6.mpr ?_
  rw [k_letterOf hU hq6]
  refine b_M_joins_11.mpr ?_
  rw [k_isVariable]
  refine b_M_joins_13.mpr ?_
  unfold uJ at h
  -- a variable is bound
  have hbind : ∀ v x : Nat, v < 4 → x < 10 → (match uO h1 h2 bs v 40 [x] with
      | none => none
      | some true => some none
      | some false => some (some (bs.set v x, ps))) = some o → wpc 104 59 [vR (some 243), vU, vU, vU, vU, vI (v : Int), vU] [vI (x : Int)] (0, 0) (S0 L, R, I, J) Q := by
    intro v x hv hx ho
    refine b_M_joins_59.mpr ?_
    cases hoc : uO h1 h2 bs v 40 [x] with
    | none => rw [hoc] at ho; exact absurd ho (by simp)
    | some b =>
      rw [hoc] at ho
      refine k_occurs hU hB hoc (fun I' f1 => ?_)
      refine b_M_joins_65.mpr ?_
      cases b with
      | true =>
        simp only at ho
        cases ho
        rw [if_neg (by rw [bi_t rfl]; decide)]
        exact hQ I' (frU_82 f1)
      | false =>
        simp only at ho
        cases ho
        rw [if_pos (by rw [bi_f (by decide)])]
        refine ⟨⟨by omega, by omega⟩, ?_⟩
        refine hQ _ ((frU_82 f1).tr ⟨fun a _ p2 _ _ _ => upM_ne p2, fun j _ => by rw [upM_ne (by decide)]⟩) ((hB.f2 (f1 279 (by decide))).set hv hx) ⟨by rw [upM_ne (by decide), f1 243 (by decide)]; exact hP.1, fun k hk => by rw [upM_ne (by decide), upM_ne (by decide), f1 280 (by decide), f1 281 (by decide)]; exact hP.2 k hk⟩
  by_cases vp : 4 ≤ uL h1 h2 p
  · have np : ¬ bi (cd (uL h1 h2 p) = 120 ∨ cd (uL h1 h2 p) = 121) = 0 := fun q => bi_0.mp q ((var_cd hp6).mpr vp)
    have hP1 : ¬ (4 ≤ uL h1 h2 p ∧ 4 ≤ uL h1 h2 q ∧ uV h1 h2 p = uV h1 h2 q) → wpc 104 48 [vR (some 243), vI (p : Int), vI (q : Int), vI (bi (cd (uL h1 h2 p) = 120 ∨ cd (uL h1 h2 p) = 121)), vU, vU, vU] [vI (p : Int), vR (some 243)] (0, 0) (S0 L, R, I, J) Q := by
      intro hn
      rw [if_neg hn, if_pos vp] at h
      refine b_M_joins_48.mpr ?_
      rw [k_variableOf hU hp6 vp]
      refine b_M_joins_50.mpr ?_
      rw [if_neg np]
      exact hbind _ _ (uV_lt hU hp6) hq10 h
    rw [if_neg np]
    by_cases vq : 4 ≤ uL h1 h2 q
    · have nq : ¬ bi (cd (uL h1 h2 q) = 120 ∨ cd (uL h1 h2 q) = 121) = 0 := fun q => bi_0.mp q ((var_cd hq6).mpr vq)
      rw [if_neg nq, k_variableOf hU hp6 vp]
      refine b_M_joins_24.mpr ?_
      rw [k_variableOf hU hq6 vq]
      refine b_M_joins_28.mpr ?_
      by_cases hv : uV h1 h2 p = uV h1 h2 q
      · rw [if_pos ⟨vp, vq, hv⟩] at h
        cases h
        rw [if_pos (by omega)]
        exact hQ I rfU hB hP
      · rw [if_neg (by omega), if_neg np, if_neg np]
        exact hP1 (fun q => hv q.2.2)
    · have nq : bi (cd (uL h1 h2 q) = 120 ∨ cd (uL h1 h2 q) = 121) = 0 := bi_0.mpr (fun q => vq ((var_cd hq6).mp q))
      rw [if_pos nq, if_neg np, if_neg np]
      exact hP1 (fun q => vq q.2.1)
  · have np : bi (cd (uL h1 h2 p) = 120 ∨ cd (uL h1 h2 p) = 121) = 0 := bi_0.mpr (fun q => vp ((var_cd hp6).mp q))
    rw [if_neg (fun q => vp q.1), if_neg vp] at h
    rw [if_pos np, if_pos np]
    by_cases vq : 4 ≤ uL h1 h2 q
    · have nq : ¬ bi (cd (uL h1 h2 q) = 120 ∨ cd (uL h1 h2 q) = 121) = 0 := fun q => bi_0.mp q ((var_cd hq6).mpr vq)
      rw [if_pos vq] at h
      rw [if_neg nq, if_pos np]
      refine b_M_joins_48.mpr ?_
      rw [k_variableOf hU hq6 vq]
      refine b_M_joins_50.mpr ?_
      rw [if_pos np]
      exact hbind _ _ (uV_lt hU hq6) hp10 h
    · have nq : bi (cd (uL h1 h2 q) = 120 ∨ cd (uL h1 h2 q) = 121) = 0 := bi_0.mpr (fun q => vq ((var_cd hq6).mp q))
      rw [if_neg vq] at h
      rw [if_pos nq, k_letterOf hU hp6]
      refine b_M_joins_82.mpr ?_
      rw [k_letterOf hU hq6]
      refine b_M_joins_86.mpr ?_
      by_cases he : uL h1 h2 p = uL h1 h2 q
      · rw [if_neg (not_not_intro he)] at h
        rw [if_pos (by rw [he]), k_letterOf hU hp6]
        refine b_M_joins_95.mpr ?_
        rw [k_wants, wnt_cd hp6]
        refine b_M_joins_97.mpr ?_
        have hlast : ∀ (I' : Nat → Int → Int), frU I I' → BnM I' bs → ∀ (ps0 : List (Nat × Nat)), PrM I' ps0 → (¬ pts (uL h1 h2 p) = 0 → ps0.length ≤ 62) → (if pts (uL h1 h2 p) = 0 then o = some (bs, ps0) else o = some (bs, (p + 1, q + 1) :: ps0)) → wpc 104 115 [vR (some 243), vI (p : Int), vI (q : Int), vU, vU, vU, vU] [] (0, 0) (S0 L, R, I', J) Q := by
          intro I' f1 hB' ps0 hP0 hl0 ho
          have hU' := hU.fr f1
          refine b_M_joins_115.mpr ?_
          rw [k_letterOf hU' hp6]
          refine b_M_joins_119.mpr ?_
          rw [k_wants, wnt_cd hp6]
          refine b_M_joins_121.mpr ?_
          by_cases p0 : pts (uL h1 h2 p) = 0
          · rw [if_pos p0] at ho
            subst ho
            rw [if_pos (by omega)]
            exact b_M_joins_132.mpr (hQ I' f1 hB' hP0)
          · rw [if_neg p0] at ho
            subst ho
            rw [if_neg (by omega), w32_s (by omega), w32_s (by omega)]
            refine k_addPair hP0 (hl0 p0) (fun I2 g1 g2 g3 => ?_)
            refine b_M_joins_132.mpr (hQ I2 (f1.tr ⟨fun a p1 p2 p3 p4 p5 => g1 a p1 p3 p4, g2⟩) (hB'.f2 (g1 279 (by decide) (by decide) (by decide))) g3)
        by_cases p0 : pts (uL h1 h2 p) = 0
        · rw [if_pos p0] at h
          rw [if_pos (by omega)]
          cases h
          exact hlast I rfU hB ps hP (fun q => absurd p0 q) (by rw [if_pos p0])
        · rw [if_neg p0] at h
          by_cases hr : 60 < ps.length
          · rw [if_pos hr] at h; exact absurd h (by simp)
          rw [if_neg hr] at h
          by_cases p1 : pts (uL h1 h2 p) = 1
          · rw [if_pos p1] at h
            cases h
            rw [if_pos (by omega)]
            exact hlast I rfU hB ps hP (fun _ => by omega) (by rw [if_neg p0])
          · rw [if_neg p1] at h
            rw [if_neg (by omega), w32_s (by omega)]
            cases ha : uB h1 h2 9 1 (p + 1) with
            | none => rw [ha] at h; exact absurd h (by simp)
            | some a =>
              cases hb : uB h1 h2 9 1 (q + 1) with
              | none => rw [ha, hb] at h; exact absurd h (by simp)
              | some b =>
                rw [ha, hb] at h
                simp only at h
                cases h
                refine k_behind hU ha ?_
                refine b_M_joins_107.mpr ?_
                rw [w32_s (by omega)]
                refine k_behind hU hb ?_
                refine b_M_joins_113.mpr ?_
                refine k_addPair hP (by omega) (fun I2 g1 g2 g3 => ?_)
                exact hlast I2 ⟨fun a p1 p2 p3 p4 p5 => g1 a p1 p3 p4, g2⟩ (hB.f2 (g1 279 (by decide) (by decide) (by decide))) _ g3 (fun _ => by rw [List.length_cons]; omega) (by rw [if_neg p0])
      · rw [if_pos he] at h
        cases h
        rw [if_neg (fun q => he ((cd_inj hp6 hq6).mp q))]
        exact hQ I rfU
theorem PrM.pop {p q : Nat} {ps : List (Nat × Nat)} (h : PrM I ((p, q) :: ps)) : PrM (upM I 243 50 (ps.length : Int)) ps ∧ I 280 (ps.length : Int) = (p : Int) ∧ I 281 (ps.length : Int) = (q : Int) := by
  have h0 := h.2 ps.length (by simp)
  rw [List.length_cons, show ps.length + 1 - 1 - ps.length = 0 by omega] at h0
  refine ⟨⟨upM_same, fun k hk => ?_⟩, h0.1, h0.2⟩
  have h3 := h.2 k (by rw [List.length_cons]; omega)
  rw [List.length_cons, show ps.length + 1 - 1 - k = (ps.length - 1 - k) + 1 by omega, List.getD_cons_succ] at h3
  rw [upM_ne (by decide), upM_ne (by decide)]
  exact h3
theorem ao_loop : ∀ (f : Nat) {I : Nat → Int → Int} (bs : List Nat) (ps : List (Nat × Nat)) (b : Bool), UnM I i e h1 h2 → BnM I bs → PrM I ps → ps.length ≤ 64 → uP h1 h2 f bs ps = some b → (∀ I', frU I I' → Q (some (vI (bi (b = true)))) (S0 L, R, I', J)) → wpc 105 29 [vR (some 243), vU, vU, vU] [] (0, 0) (S0 L, R, I, J) Q := by
  intro f
  induction f with
  | zero => intro I bs ps b _ _ _ _ h; exact absurd h (by unfold uP; simp)
  | succ f ih =>
    intro I bs ps b hU hB hP hl h hQ
    unfold uP at h
    match ps, hP, hl, h with
    | [], hP, _, h =>
      simp only at h
      cases h
      refine b_M_areOne_29.mpr ?_
      rw [hP.1, if_pos (by decide)]
      have := hQ I ⟨fun _ _ _ _ _ _ => rfl, fun _ _ => rfl⟩
      rw [bi_t rfl] at this
      exact this
    | (p, q) :: r, hP, hl, h =>
      simp only at h
      rw [List.length_cons] at hl
      obtain ⟨p1, p2, p3⟩ := hP.pop
      have f1 : frU I (upM I 243 50 (r.length : Int)) := ⟨fun a g1 _ _ _ _ => upM_ne g1, fun j hj => upM_i hj⟩
      cases ha : uS h1 h2 9 bs p with
      | none => rw [ha] at h; exact absurd h (by simp)
      | some a =>
        cases hb : uS h1 h2 9 bs q with
        | none => rw [ha, hb] at h; exact absurd h (by simp)
        | some c =>
          rw [ha, hb] at h
          simp only at h
          refine b_M_areOne_29.mpr ?_
          have e50 : w32 (I 243 50 - 1) = (r.length : Int) := by rw [hP.1, List.length_cons, w32_eq (by omega) (by omega)]; omega
          rw [e50, hP.1, List.length_cons, if_neg (by omega), upM_same, upM_ne (by decide), p2]
          refine ⟨⟨by omega, by omega⟩, ?_⟩
          have hU1 := hU.fr f1
          have hB1 : BnM (upM I 243 50 (r.length : Int)) bs := hB.f2 (upM_ne (by decide))
          refine k_standsFor hU1 hB1 ha ?_
          refine b_M_areOne_48.mpr ?_
          rw [upM_same, upM_ne (by decide), p3]
          refine ⟨⟨by omega, by omega⟩, ?_⟩
          refine k_standsFor hU1 hB1 hb ?_
          refine b_M_areOne_56.mpr ?_
          cases hj : uJ h1 h2 a c bs r with
          | none => rw [hj] at h; exact absurd h (by simp)
          | some o =>
            rw [hj] at h
            refine k_joins hU1 hB1 p1 (uS_lt ha) (uS_lt hb) hj (fun I' f2 => ?_)
            cases o with
            | none =>
              simp only at h ⊢
              cases h
              refine b_M_areOne_58.mpr ?_
              rw [if_pos rfl]
              have := hQ I' (f1.tr f2)
              rw [bi_f (by decide)] at this
              exact this
            | some bp =>
              obtain ⟨bs', ps'⟩ := bp
              simp only at h ⊢
              intro hB' hP'
              refine b_M_areOne_58.mpr ?_
              rw [if_neg (by decide)]
              refine ih bs' ps' b (hU1.fr f2) hB' hP' ?_ h (fun I2 f3 => hQ I2 ((f1.tr f2).tr f3))
              unfold uJ at hj
              repeat' split at hj
              all_goals (try simp only [Option.some.injEq, Prod.mk.injEq, reduceCtorEq] at hj)
              all_goals (obtain ⟨_, hj2⟩ := hj; rw [← hj2]; first | omega | (simp only [List.length_cons]; omega))
theorem ao_ini : ∀ (d k : Nat) {I : Nat → Int → Int}, d + k = 4 → (∀ v : Nat, v < k → I 279 (v : Int) = -1) → (∀ I', (∀ a, a ≠ 279 → I' a = I a) → (∀ v : Nat, v < 4 → I' 279 (v : Int) = -1) → wpC 103 [vR (some 243), vI 0, vI 5] (S0 L, R, upM I' 243 50 0, J) (fun v M2 => wpc 105 29 [vR (some 243), vU, vU, vU] (v.toList ++ []) (0, 0) M2 Q)) → wpc 105 9 [vR (some 243), vU, vU, vI (k : Int)] [] (0, 0) (S0 L, R, I, J) Q := by
  intro d
  induction d with
  | zero =>
    intro k I hk hv hQ
    refine b_M_areOne_9.mpr ?_
    rw [if_neg (by omega)]
    exact hQ I (fun _ _ => rfl) (fun v h => hv v (by omega))
  | succ d ih =>
    intro k I hk hv hQ
    refine b_M_areOne_9.mpr ?_
    rw [if_pos (by omega), w32_s (by omega)]
    refine ⟨⟨by omega, by omega⟩, ?_⟩
    refine ih (k + 1) (by omega) (fun v h => ?_) (fun I' f1 h1 => hQ I' (fun a ha => by rw [f1 a ha, upM_ne ha]) h1)
    by_cases hvk : v = k
    · rw [hvk, upM_same]
    · rw [upM_i (by omega)]; exact hv v (by omega)
/-- what the search changes, the two heads too -/
def frV (I I' : Nat → Int → Int) : Prop := (∀ a, a < 243 ∨ (243 < a ∧ a < 279) ∨ 282 < a → I' a = I a) ∧ ∀ i : Int, i ≠ 45 → i ≠ 46 → i ≠ 50 → I' 243 i = I 243 i
theorem k_areOne {i e : Nat} {h1 h2 : List Nat} {b : Bool} (hi : i < 6) (he : e < 6) (d1 : HdW I i h1) (d2 : HdW I e h2) (l1 : h1.length ≤ 5) (l2 : h2.length ≤ 5) (h : uni h1 h2 = some b) (hQ : ∀ I', frV I I' → Q (some (vI (bi (b = true)))) (S0 L, R, I', J)) : wpC 105 [vR (some 243), vI (i : Int), vI (e : Int)] (S0 L, R, I, J) Q := by
  refine c_M_areOne.mpr ?_
  refine ao_ini 4 0 rfl (fun v h => by omega) (fun I1 f1 g1 => ?_)
  have fA : ∀ a, a ≠ 243 → a ≠ 279 → (upM I1 243 50 0) a = I a := fun a q1 q2 => by rw [upM_ne q1, f1 a q2, upM_ne q1, upM_ne q1]
  have f43 : ∀ j : Int, j ≠ 50 → (upM I1 243 50 0) 243 j = upM (upM I 243 45 (i : Int)) 243 46 (e : Int) 243 j := fun j hj => by rw [upM_i hj, f1 243 (by decide)]
  refine k_addPair (p := 0) (q := 5) (ps := []) ⟨upM_same, fun k hk => absurd hk (by simp)⟩ (by decide) (fun I2 f2 f2' hP => ?_)
  have hU : UnM I2 i e h1 h2 := by
    unfold UnM HdW at *
    rw [f2' 45 (by decide), f2' 46 (by decide), f43 45 (by decide), f43 46 (by decide), upM_i (by decide), upM_same, upM_same, f2 248 (by decide) (by decide) (by decide), f2 249 (by decide) (by decide) (by decide), fA 248 (by decide) (by decide), fA 249 (by decide) (by decide)]
    exact ⟨rfl, rfl, d1, d2, hi, he, l1, l2⟩
  have hB : BnM I2 [15, 15, 15, 15] := by
    refine ⟨rfl, fun v hv => ?_⟩
    rw [f2 279 (by decide) (by decide) (by decide), upM_ne (by decide), g1 v hv]
    have : v = 0 ∨ v = 1 ∨ v = 2 ∨ v = 3 := by omega
    rcases this with rfl | rfl | rfl | rfl <;> rfl
  refine ao_loop 40 [15, 15, 15, 15] [(0, 5)] b hU hB hP (by decide) h (fun I3 f3 => hQ I3 ⟨fun a ha => ?_, fun j q1 q2 q3 => ?_⟩)
  · rw [f3.1 a (by omega) (by omega) (by omega) (by omega) (by omega), f2 a (by omega) (by omega) (by omega), fA a (by omega) (by omega)]
  · rw [f3.2 j q3, f2' j q3, f43 j q3, upM_i q2, upM_i q1]
end MUn
