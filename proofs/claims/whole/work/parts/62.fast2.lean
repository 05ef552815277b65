-- ===== the fast ways are the ways =====
section Fst
variable {h1 h2 : List Nat} {T P : Nat}
theorem br_blt {α : Type} {a b : Nat} {x y : α} : brF (Nat.ble (Nat.succ a) b) x y = if a < b then x else y := by
  by_cases h : a < b
  · rw [if_pos h, Nat.ble_eq.mpr h]; rfl
  · rw [if_neg h, Bool.eq_false_iff.mpr (fun q => h (Nat.ble_eq.mp q))]; rfl
theorem br_ble {α : Type} {a b : Nat} {x y : α} : brF (Nat.ble a b) x y = if a ≤ b then x else y := by
  by_cases h : a ≤ b
  · rw [if_pos h, Nat.ble_eq.mpr h]; rfl
  · rw [if_neg h, Bool.eq_false_iff.mpr (fun q => h (Nat.ble_eq.mp q))]; rfl
theorem br_beq {α : Type} {a b : Nat} {x y : α} : brF (Nat.beq a b) x y = if a = b then x else y := by
  by_cases h : a = b
  · rw [if_pos h, Nat.beq_eq.mpr h]; rfl
  · rw [if_neg h, Bool.eq_false_iff.mpr (fun q => h (Nat.beq_eq.mp q))]; rfl
theorem frc_eq {α : Type} (x : Nat) (k : Nat → α) : frc x k = k x := by cases x <;> rfl
theorem gt_eq (d : Nat) : ∀ (l : List Nat) (n : Nat), gt l n d = l.getD n d := by
  intro l
  induction l with
  | nil => intro n; rfl
  | cons x r ih =>
    intro n
    cases n with
    | zero => rfl
    | succ n => exact ih n
theorem stF_eq (b : Nat) : ∀ (l : List Nat) (a : Nat), stF l a b = l.set a b := by
  intro l
  induction l with
  | nil => intro n; rfl
  | cons x r ih =>
    intro n
    cases n with
    | zero => rfl
    | succ n => show x :: stF r n b = x :: r.set n b; rw [ih]
theorem pF_eq (u : Nat) : pF u = pts u := by unfold pF pts; rw [br_beq, br_beq]
theorem vF_eq (n : Nat) : vF (uL h1 h2 n) n = uV h1 h2 n := rfl
theorem uSF_eq (hT : ∀ n, lF T n = uL h1 h2 n) : ∀ (f : Nat) (bs : List Nat) (n : Nat), uSF T f bs n = uS h1 h2 f bs n := by
  intro f
  induction f with
  | zero => intro bs n; rfl
  | succ f ih =>
    intro bs n
    show (frc (lF T n) fun u => brF (Nat.ble (Nat.succ u) 4) (some n) (brF (Nat.ble (Nat.succ u) 6) (frc (gt bs (vF u n) 15) fun w => brF (Nat.beq w 15) (some n) (uSF T f bs w)) none)) = _
    unfold uS
    simp only [frc_eq, hT, br_blt, br_beq, gt_eq, vF_eq, ih]
    rfl
theorem uBF_eq (hT : ∀ n, lF T n = uL h1 h2 n) : ∀ (f k n : Nat), uBF T f k n = uB h1 h2 f k n := by
  intro f
  induction f with
  | zero => intro k n; rfl
  | succ f ih =>
    intro k n
    show (brF (Nat.beq k 0) (some n) (frc (lF T n) fun u => brF (Nat.ble (Nat.succ u) 6) (frc (Nat.add (Nat.sub k 1) (pF u)) fun k' => frc (Nat.add n 1) fun n' => uBF T f k' n') none)) = _
    unfold uB
    simp only [frc_eq, hT, br_blt, br_beq, pF_eq, ih]
    rfl
theorem uOF_eq (hT : ∀ n, lF T n = uL h1 h2 n) (bs : List Nat) (v : Nat) : ∀ (f : Nat) (st : List Nat), uOF T bs v f st = uO h1 h2 bs v f st := by
  intro f
  induction f with
  | zero => intro st; rfl
  | succ f ih =>
    intro st
    cases st with
    | nil => rfl
    | cons x r =>
      show (onO (uSF T 9 bs x) none fun n => frc (lF T n) fun u => brF (Nat.ble 4 u) (brF (Nat.beq (vF u n) v) (some true) (uOF T bs v f r)) (brF (Nat.beq (pF u) 0) (uOF T bs v f r) (brF (Nat.ble 61 r.length) none (brF (Nat.beq (pF u) 1) (frc (Nat.add n 1) fun n' => uOF T bs v f (n' :: r)) (frc (Nat.add n 1) fun n' => onO (uBF T 9 1 n') none fun m => uOF T bs v f (m :: n' :: r)))))) = _
      unfold uO
      dsimp only
      rw [uSF_eq hT]
      cases uS h1 h2 9 bs x with
      | none => rfl
      | some n =>
        dsimp only [onO]
        simp only [frc_eq, hT, br_ble, br_beq, pF_eq, vF_eq, ih, uBF_eq hT]
        have e : (61 ≤ r.length) = (60 < r.length) := rfl
        simp only [e]
        cases uB h1 h2 9 1 (n + 1) <;> rfl
theorem uJF_eq (hT : ∀ n, lF T n = uL h1 h2 n) (p q : Nat) (bs : List Nat) (ps : List (Nat × Nat)) : uJF T p q bs ps = uJ h1 h2 p q bs ps := by
  unfold uJF uJ
  simp only [frc_eq, hT, br_ble, br_beq, pF_eq, vF_eq, uOF_eq hT, uBF_eq hT, stF_eq]
  by_cases a1 : 4 ≤ uL h1 h2 p
  · rw [if_pos a1]
    by_cases a2 : 4 ≤ uL h1 h2 q
    · rw [if_pos a2]
      by_cases a3 : uV h1 h2 p = uV h1 h2 q
      · rw [if_pos ⟨a1, a2, a3⟩, br_beq, if_pos a3]
      · rw [if_neg (fun x => a3 x.2.2), br_beq, if_neg a3, if_pos a1]
        cases uO h1 h2 bs (uV h1 h2 p) 40 [q] with
        | none => rfl
        | some o => cases o <;> rfl
    · rw [if_neg a2, if_neg (fun x => a2 x.2.1), if_pos a1]
      show onO _ _ _ = _
      cases uO h1 h2 bs (uV h1 h2 p) 40 [q] with
      | none => rfl
      | some o => cases o <;> rfl
  · rw [if_neg a1, if_neg (c := 4 ≤ uL h1 h2 p ∧ 4 ≤ uL h1 h2 q ∧ uV h1 h2 p = uV h1 h2 q) (fun x => a1 x.1), if_neg a1]
    by_cases a2 : 4 ≤ uL h1 h2 q
    · rw [if_pos a2, if_pos a2]
      cases uO h1 h2 bs (uV h1 h2 q) 40 [p] with
      | none => rfl
      | some o => cases o <;> rfl
    · rw [if_neg a2, if_neg a2]
      by_cases a3 : uL h1 h2 p = uL h1 h2 q
      · rw [if_pos a3, if_neg (c := ¬ uL h1 h2 p = uL h1 h2 q) (fun x => x a3)]
        have e : (61 ≤ ps.length) = (60 < ps.length) := rfl
        simp only [e]
        by_cases b1 : pts (uL h1 h2 p) = 0
        · rw [if_pos b1, if_pos b1]
        · rw [if_neg b1, if_neg b1]
          by_cases b2 : 60 < ps.length
          · rw [if_pos b2, if_pos b2]
          · rw [if_neg b2, if_neg b2]
            by_cases b3 : pts (uL h1 h2 p) = 1
            · rw [if_pos b3, if_pos b3]
            · rw [if_neg b3, if_neg b3]
              show onO (uB h1 h2 9 1 (p + 1)) _ _ = _
              cases uB h1 h2 9 1 (p + 1) with
              | none => rfl
              | some a =>
                show onO (uB h1 h2 9 1 (q + 1)) _ _ = _
                cases uB h1 h2 9 1 (q + 1) with
                | none => rfl
                | some b => rfl
      · rw [if_neg a3, if_pos a3]
theorem uPF_eq (hT : ∀ n, lF T n = uL h1 h2 n) : ∀ (f : Nat) (bs : List Nat) (ps : List (Nat × Nat)), uPF T f bs ps = uP h1 h2 f bs ps := by
  intro f
  induction f with
  | zero => intro bs ps; rfl
  | succ f ih =>
    intro bs ps
    cases ps with
    | nil => rfl
    | cons x r =>
      obtain ⟨p, q⟩ := x
      show (onO (uSF T 9 bs p) none fun a => onO (uSF T 9 bs q) none fun b => onO (uJF T a b bs r) none fun o => onO o (some false) fun y => uPF T f y.1 y.2) = _
      unfold uP
      dsimp only
      rw [uSF_eq hT, uSF_eq hT]
      cases uS h1 h2 9 bs p with
      | none => rfl
      | some a =>
        show (onO (uS h1 h2 9 bs q) none fun b => onO (uJF T a b bs r) none fun o => onO o (some false) fun y => uPF T f y.1 y.2) = _
        cases uS h1 h2 9 bs q with
        | none => rfl
        | some b =>
          show (onO (uJF T a b bs r) none fun o => onO o (some false) fun y => uPF T f y.1 y.2) = _
          rw [uJF_eq hT]
          dsimp only
          cases uJ h1 h2 a b bs r with
          | none => rfl
          | some o =>
            cases o with
            | none => rfl
            | some y => exact ih y.1 y.2
theorem uniF_eq (hT : ∀ n, lF T n = uL h1 h2 n) : uniF T = uni h1 h2 := uPF_eq hT 40 _ _
-- the class's way
theorem tab_out {f : Nat → Nat} {n d : Nat} (h : ¬ n < 10) : (tab f).getD n d = d := by
  unfold tab
  rw [List.getD_eq_getElem?_getD, List.getElem?_eq_none (by simp; omega)]; rfl
theorem uL_out (l2 : h2.length ≤ 5) {n : Nat} (h : ¬ n < 10) : uL h1 h2 n = 9 := by
  unfold uL
  rw [if_neg (by omega), List.getD_eq_getElem?_getD, List.getElem?_eq_none (by omega)]; rfl
theorem sF_eq (hT : ∀ n, lF T n = uL h1 h2 n) (l2 : h2.length ≤ 5) (n : Nat) : sF T n = (tab (cS h1 h2)).getD n 0 := by
  unfold sF
  rw [frc_eq, br_blt, hT]
  by_cases h : n < 10
  · rw [tab_get h]; rfl
  · rw [tab_out h, uL_out l2 h, if_neg (by decide)]
theorem fF_eq' (hT : ∀ n, lF T n = uL h1 h2 n) (n : Nat) : fF T n = cF h1 h2 n := by
  unfold fF cF
  rw [br_ble, pF_eq, hT]
  by_cases hz : 0 < pts (uL h1 h2 n)
  · have h6 : uL h1 h2 n < 6 := by
      apply Classical.byContradiction
      intro q
      rw [pts_var (by omega)] at hz
      omega
    rw [if_pos (show 1 ≤ _ from hz), if_pos ⟨h6, hz⟩]
  · rw [if_neg (by omega), if_neg (fun q => hz q.2)]
theorem fF_eq (hT : ∀ n, lF T n = uL h1 h2 n) (l2 : h2.length ≤ 5) (n : Nat) : fF T n = (tab (cF h1 h2)).getD n 15 := by
  rw [fF_eq' hT]
  by_cases h : n < 10
  · rw [tab_get h]
  · rw [tab_out h]; unfold cF; rw [uL_out l2 h, if_neg (fun q => absurd q.1 (by decide))]
theorem pP_eq (hP : ∀ n, pPF P n = cP h1 h2 n) (l2 : h2.length ≤ 5) (n : Nat) : pPF P n = (tab (cP h1 h2)).getD n 15 := by
  rw [hP]
  by_cases h : n < 10
  · rw [tab_get h]
  · rw [tab_out h]; unfold cP; rw [uL_out l2 h, if_neg (fun q => absurd q.1 (by decide))]
theorem lfF_eq (ld : List Nat) : ∀ (f n : Nat), lfF ld f n = ldF ld f n := by
  intro f
  induction f with
  | zero => intro n; rfl
  | succ f ih =>
    intro n
    show (frc (gt ld n 0) fun w => brF (Nat.beq w n) n (lfF ld f w)) = _
    unfold ldF
    rw [frc_eq, br_beq, gt_eq, ih]
theorem nwF_eq (a b : Nat) : nwF a b = cNew a b := by
  unfold nwF cNew
  rw [frc_eq, frc_eq, br_blt, br_blt]
  by_cases ha : a < 10
  · rw [if_pos ha]
    by_cases hb : b < 10
    · rw [if_pos hb, if_pos ⟨ha, hb⟩]
    · rw [if_neg hb, if_neg (fun q => hb q.2)]
  · rw [if_neg ha, if_neg (fun q => ha q.1)]
theorem cBF_eq (hT : ∀ n, lF T n = uL h1 h2 n) (hP : ∀ n, pPF P n = cP h1 h2 n) (l2 : h2.length ≤ 5) : ∀ (f : Nat) (ld : List Nat) (q : List (Nat × Nat)) (t : Nat), cBF T P f ld q t = cB (tab (cS h1 h2)) (tab (cF h1 h2)) (tab (cP h1 h2)) f ld q t := by
  intro f
  induction f with
  | zero => intro ld q t; rfl
  | succ f ih =>
    intro ld q t
    cases q with
    | nil => rfl
    | cons x r =>
      show (frc (lfF ld 10 x.1) fun a => frc (lfF ld 10 x.2) fun b => brF (Nat.beq a b) (cBF T P f ld r t) (frc (sF T a) fun sa => brF (Nat.ble 4 sa) (cBF T P f (stF ld a b) r t) (frc (sF T b) fun sb => brF (Nat.ble 4 sb) (cBF T P f (stF ld b a) r t) (brF (Nat.ble 37 t) none (brF (Nat.beq sa sb) (cBF T P f (stF ld b a) (r ++ (nwF (fF T a) (fF T b) ++ nwF (pPF P a) (pPF P b))) (t + (nwF (fF T a) (fF T b) ++ nwF (pPF P a) (pPF P b)).length)) (some (false, ld))))))) = _
      unfold cB
      simp only [frc_eq, lfF_eq, br_beq, br_ble, sF_eq hT l2, fF_eq hT l2, pP_eq hP l2, nwF_eq, stF_eq, ih]
      rfl
theorem beqd (a b : Nat) : Nat.beq a b = decide (a = b) := by
  by_cases h : a = b
  · rw [decide_eq_true h, Nat.beq_eq.mpr h]
  · rw [decide_eq_false h, Bool.eq_false_iff.mpr (fun q => h (Nat.beq_eq.mp q))]
theorem bF_eq (e x : Nat) : bF e x = (decide (10 ≤ x) || e.testBit x) := by
  unfold bF
  rw [br_ble]
  by_cases h : 10 ≤ x
  · rw [if_pos h, decide_eq_true h]; rfl
  · rw [if_neg h, decide_eq_false h, Bool.false_or, Nat.testBit_eq_decide_div_mod_eq]
    show Nat.beq (e / 2 ^ x % 2) 1 = _
    by_cases hz : e / 2 ^ x % 2 = 1
    · rw [decide_eq_true hz, Nat.beq_eq.mpr hz]
    · rw [decide_eq_false hz, Bool.eq_false_iff.mpr (fun q => hz (Nat.beq_eq.mp q))]
theorem cEF_eq (l1 l2 : List Nat) (e n : Nat) : cEF l1 l2 e n = cE l1 l2 e n := by
  unfold cEF cE
  rw [bF_eq, bF_eq, gt_eq, gt_eq]
  cases (decide (10 ≤ l1.getD n 15) || e.testBit (l1.getD n 15)) <;> cases (decide (10 ≤ l2.getD n 15) || e.testBit (l2.getD n 15)) <;> rfl
theorem cRF_eq (l1 l2 : List Nat) (e : Nat) : ∀ n, cRF l1 l2 e n = cR l1 l2 n e := by
  intro n
  induction n with
  | zero => rfl
  | succ n ih =>
    show (frc (cRF l1 l2 e n) fun e' => cEF l1 l2 e' n) = cE l1 l2 (cR l1 l2 n e) n
    rw [frc_eq, cEF_eq, ih]
theorem cIF_eq (l1 l2 : List Nat) : ∀ k e, cIF l1 l2 k e = cI l1 l2 k e := by
  intro k
  induction k with
  | zero => intro e; rfl
  | succ k ih =>
    intro e
    show (frc (cRF l1 l2 e 10) fun e' => brF (Nat.beq e' e) e (cIF l1 l2 k e')) = _
    unfold cI
    rw [frc_eq, br_beq, cRF_eq, ih]
theorem lpF_eq (ld : List Nat) (x : Nat) : lpF ld x = ldP ld x := by
  unfold lpF ldP
  rw [frc_eq, br_blt, lfF_eq]
theorem tbF_eq {α : Type} (f : Nat → Nat) (k : List Nat → α) : tbF f k = k (tab f) := by
  unfold tbF tab
  simp only [frc_eq]
theorem metF_eq (hT : ∀ n, lF T n = uL h1 h2 n) (hP : ∀ n, pPF P n = cP h1 h2 n) (l2 : h2.length ≤ 5) : metF T P (cQ h1 0 h1.length ++ cQ h2 5 h2.length ++ [(0, 5)]) = met h1 h2 := by
  unfold metF met
  rw [cBF_eq hT hP l2]
  cases cB (tab (cS h1 h2)) (tab (cF h1 h2)) (tab (cP h1 h2)) 40 [0, 1, 2, 3, 4, 5, 6, 7, 8, 9] (cQ h1 0 h1.length ++ cQ h2 5 h2.length ++ [(0, 5)]) (cQ h1 0 h1.length ++ cQ h2 5 h2.length ++ [(0, 5)]).length with
  | none => rfl
  | some x =>
    obtain ⟨b, ld⟩ := x
    cases b with
    | false => rfl
    | true =>
      show (tbF (fun n => lpF ld (fF T n)) fun l1 => tbF (fun n => lpF ld (pPF P n)) fun l2 => frc (cIF l1 l2 10 0) fun e => frc (lfF ld 10 0) fun r => some (Nat.beq (Nat.mod (Nat.div e (Nat.pow 2 r)) 2) 1)) = _
      rw [tbF_eq, tbF_eq, frc_eq, frc_eq, cIF_eq, lfF_eq]
      have e1 : (fun n => lpF ld (fF T n)) = (fun n => ldP ld (cF h1 h2 n)) := funext fun n => by rw [lpF_eq, fF_eq' hT]
      have e2 : (fun n => lpF ld (pPF P n)) = (fun n => ldP ld (cP h1 h2 n)) := funext fun n => by rw [lpF_eq, hP]
      rw [e1, e2]
      show some _ = some _
      congr 1
      rw [Nat.testBit_eq_decide_div_mod_eq]
      exact beqd _ _
end Fst
