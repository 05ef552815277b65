-- ===== types as rows of signs (0 i, 1 b, 2 l, 3 p, 4 x, 5 y) =====
def pts (s : Nat) : Nat := if s = 2 then 1 else if s = 3 then 2 else 0
theorem pts_le (s : Nat) : pts s ≤ 2 := by unfold pts; split <;> (try split) <;> omega
theorem pts_var {s : Nat} (h : 4 ≤ s) : pts s = 0 := by unfold pts; rw [if_neg (by omega), if_neg (by omega)]
/-- how many letters the first k types of a row have -/
def tl : List Nat → Nat → Nat
  | [], _ => 0
  | s :: r, k => match k with
    | 0 => 0
    | k' + 1 => tl r (k' + pts s) + 1
/-- a row of just k types -/
def wfN : List Nat → Nat → Bool
  | [], k => k == 0
  | s :: r, k => match k with
    | 0 => false
    | k' + 1 => decide (s < 6) && wfN r (k' + pts s)
theorem tl_zero (l : List Nat) : tl l 0 = 0 := by cases l <;> rfl
theorem tl_cons (s : Nat) (r : List Nat) (k : Nat) : tl (s :: r) (k + 1) = tl r (k + pts s) + 1 := rfl
theorem tl_add (l : List Nat) : ∀ j k : Nat, tl l (j + k) = tl l j + tl (l.drop (tl l j)) k := by
  induction l with
  | nil => intro j k; simp [tl]
  | cons s r ih =>
    intro j k
    cases j with
    | zero => rw [tl_zero, Nat.zero_add, Nat.zero_add]; rfl
    | succ j =>
      rw [show j + 1 + k = (j + k) + 1 by omega, tl_cons, tl_cons, List.drop_succ_cons, show j + k + pts s = (j + pts s) + k by omega, ih]
      omega
theorem tl_le (l : List Nat) : ∀ k : Nat, tl l k ≤ l.length := by
  induction l with
  | nil => intro k; exact Nat.le_refl _
  | cons s r ih =>
    intro k
    cases k with
    | zero => exact Nat.zero_le _
    | succ k => rw [tl_cons, List.length_cons]; exact Nat.succ_le_succ (ih _)
theorem wf_cons {s : Nat} {r : List Nat} {k : Nat} : wfN (s :: r) (k + 1) = true ↔ s < 6 ∧ wfN r (k + pts s) = true := by
  show (decide (s < 6) && wfN r (k + pts s)) = true ↔ _
  rw [Bool.and_eq_true, decide_eq_true_eq]
theorem wf_pos {l : List Nat} {k : Nat} (h : wfN l (k + 1) = true) : ∃ s r, l = s :: r ∧ s < 6 ∧ wfN r (k + pts s) = true := by
  cases l with
  | nil => exact absurd h (by simp [wfN])
  | cons s r => exact ⟨s, r, rfl, wf_cons.mp h⟩
theorem wf_zero {l : List Nat} (h : wfN l 0 = true) : l = [] := by
  cases l with
  | nil => rfl
  | cons s r => exact absurd h (by simp [wfN])
theorem wf_tl (l : List Nat) : ∀ k : Nat, wfN l k = true → tl l k = l.length := by
  induction l with
  | nil => intro k _; rfl
  | cons s r ih =>
    intro k h
    cases k with
    | zero => exact absurd h (by simp [wfN])
    | succ k => rw [tl_cons, List.length_cons, ih _ (wf_cons.mp h).2]
theorem wf_split (l : List Nat) : ∀ j k : Nat, wfN l (j + k) = true → wfN (l.take (tl l j)) j = true ∧ wfN (l.drop (tl l j)) k = true := by
  induction l with
  | nil =>
    intro j k h
    have h1 : j + k = 0 := by simpa [wfN] using h
    have hj : j = 0 := by omega
    have hk : k = 0 := by omega
    subst hj; subst hk
    exact ⟨rfl, rfl⟩
  | cons s r ih =>
    intro j k h
    cases j with
    | zero =>
      rw [tl_zero]
      refine ⟨rfl, ?_⟩
      rw [Nat.zero_add] at h
      exact h
    | succ j =>
      rw [show j + 1 + k = (j + k) + 1 by omega] at h
      obtain ⟨hs, hr⟩ := wf_cons.mp h
      rw [show j + k + pts s = (j + pts s) + k by omega] at hr
      obtain ⟨h1, h2⟩ := ih _ _ hr
      rw [tl_cons, List.drop_succ_cons, List.take_succ_cons]
      exact ⟨wf_cons.mpr ⟨hs, h1⟩, h2⟩
theorem tl_app (l : List Nat) : ∀ (k : Nat) (m : List Nat), wfN l k = true → tl (l ++ m) k = l.length := by
  induction l with
  | nil =>
    intro k m h
    have h1 : k = 0 := by simpa [wfN] using h
    subst h1
    rw [tl_zero]; rfl
  | cons s r ih =>
    intro k m h
    cases k with
    | zero => exact absurd h (by simp [wfN])
    | succ k => rw [List.cons_append, tl_cons, List.length_cons, ih _ _ (wf_cons.mp h).2]
/-- behind a place of a row of types there are types -/
theorem wf_drop (l : List Nat) : ∀ (k p : Nat), wfN l k = true → ∃ m, wfN (l.drop p) m = true := by
  induction l with
  | nil => intro k p _; exact ⟨0, by simp [wfN]⟩
  | cons s r ih =>
    intro k p h
    cases p with
    | zero => exact ⟨k, h⟩
    | succ p =>
      cases k with
      | zero => exact absurd h (by simp [wfN])
      | succ k => exact ih _ p (wf_cons.mp h).2
theorem wf_at {l : List Nat} {k p : Nat} (h : wfN l k = true) (hp : p < l.length) : ∃ m, wfN (l.drop p) (m + 1) = true := by
  obtain ⟨m, hm⟩ := wf_drop l k p h
  cases m with
  | zero =>
    have := wf_zero hm
    have h2 := congrArg List.length this
    rw [List.length_drop] at h2
    simp at h2
    omega
  | succ m => exact ⟨m, hm⟩
/-- the type that begins at a place, and where it ends -/
def sub (w : List Nat) (p : Nat) : List Nat := (w.drop p).take (tl (w.drop p) 1)
def en (w : List Nat) (p : Nat) : Nat := p + tl (w.drop p) 1
theorem drop_get {w : List Nat} {p : Nat} (hp : p < w.length) : w.drop p = w.getD p 0 :: w.drop (p + 1) := by
  rw [List.drop_eq_getElem_cons hp, List.getD_eq_getElem?_getD, List.getElem?_eq_getElem hp]
  rfl
theorem en_eq {w : List Nat} {p : Nat} (hp : p < w.length) : en w p = p + 1 + tl (w.drop (p + 1)) (pts (w.getD p 0)) := by
  unfold en
  rw [drop_get hp, show (1 : Nat) = 0 + 1 from rfl, tl_cons, Nat.zero_add, Nat.zero_add]
  omega
theorem en_gt {w : List Nat} {p : Nat} (hp : p < w.length) : p < en w p := by rw [en_eq hp]; omega
theorem en_le {w : List Nat} {p : Nat} (hp : p ≤ w.length) : en w p ≤ w.length := by
  have := tl_le (w.drop p) 1
  rw [List.length_drop] at this
  unfold en; omega
theorem sub_len (w : List Nat) (p : Nat) : (sub w p).length = tl (w.drop p) 1 := by
  unfold sub
  rw [List.length_take]
  exact Nat.min_eq_left (tl_le _ _)
theorem drop_sub (w : List Nat) (p : Nat) : w.drop p = sub w p ++ w.drop (en w p) := by
  unfold sub en
  rw [← List.drop_drop, List.take_append_drop]
theorem wf_sub {w : List Nat} {k p : Nat} (h : wfN w k = true) (hp : p < w.length) : wfN (sub w p) 1 = true := by
  obtain ⟨m, hm⟩ := wf_at h hp
  exact (wf_split _ 1 m (by rw [Nat.add_comm]; exact hm)).1
theorem sub_ne {w : List Nat} {k p : Nat} (h : wfN w k = true) (hp : p < w.length) : sub w p ≠ [] := by
  intro h2
  have := wf_sub h hp
  rw [h2] at this
  exact absurd this (by decide)
theorem sub_get {w : List Nat} {p i : Nat} (hi : i < tl (w.drop p) 1) : (sub w p).getD i 0 = w.getD (p + i) 0 := by
  unfold sub
  rw [List.getD_eq_getElem?_getD, List.getD_eq_getElem?_getD, List.getElem?_take_of_lt hi, List.getElem?_drop]
theorem sub_all {w : List Nat} (h : wfN w 1 = true) : sub w 0 = w := by
  unfold sub
  rw [List.drop_zero, wf_tl w 1 h, List.take_length]
/-- steps from end to end -/
theorem en_chain {w : List Nat} {p : Nat} : ∀ j : Nat, p + tl (w.drop p) (j + 1) = en w (p + tl (w.drop p) j) := by
  intro j
  unfold en
  rw [tl_add, List.drop_drop]
  omega
theorem tl_lt {w : List Nat} {j k : Nat} (h : wfN w k = true) (hj : j < k) : tl w j < w.length := by
  have e : k = j + (k - j) := by omega
  rw [e] at h
  have h2 := (wf_split w j (k - j) h).2
  have h3 : k - j = (k - j - 1) + 1 := by omega
  rw [h3] at h2
  obtain ⟨s, r, hsr, _⟩ := wf_pos h2
  have h4 := congrArg List.length hsr
  rw [List.length_drop, List.length_cons] at h4
  omega
/-- the parts of a type lie in the row -/
theorem parts_in {w : List Nat} {k p j : Nat} (h : wfN w k = true) (hp : p < w.length) (hj : j < pts (w.getD p 0)) : p + 1 + tl (w.drop (p + 1)) j < w.length := by
  obtain ⟨m, hm⟩ := wf_at h hp
  rw [drop_get hp] at hm
  have h2 := (wf_cons.mp hm).2
  have h3 := tl_lt h2 (j := j) (by omega)
  rw [List.length_drop] at h3
  omega
theorem same_iff {w : List Nat} {p q : Nat} : sub w p = sub w q ↔ tl (w.drop p) 1 = tl (w.drop q) 1 ∧ ∀ i, i < tl (w.drop p) 1 → w.getD (p + i) 0 = w.getD (q + i) 0 := by
  constructor
  · intro h
    have h1 : tl (w.drop p) 1 = tl (w.drop q) 1 := by rw [← sub_len, ← sub_len, h]
    refine ⟨h1, fun i hi => ?_⟩
    rw [← sub_get hi, h, sub_get (by omega)]
  · rintro ⟨h1, h2⟩
    apply List.ext_getElem?
    intro i
    by_cases hi : i < tl (w.drop p) 1
    · have e1 := sub_get hi
      have e2 := sub_get (w := w) (p := q) (i := i) (by omega)
      have l1 : i < (sub w p).length := by rw [sub_len]; exact hi
      have l2 : i < (sub w q).length := by rw [sub_len]; omega
      have e3 := h2 i hi
      rw [← e1, ← e2] at e3
      rw [List.getD_eq_getElem?_getD, List.getD_eq_getElem?_getD, List.getElem?_eq_getElem l1, List.getElem?_eq_getElem l2] at e3
      rw [List.getElem?_eq_getElem l1, List.getElem?_eq_getElem l2]
      exact congrArg some e3
    · rw [List.getElem?_eq_none (by rw [sub_len]; omega), List.getElem?_eq_none (by rw [sub_len]; omega)]
-- ===== a head and a row =====
/-- what is put for x and y ([]: nothing yet) when a head is laid on a row -/
def mtc : List Nat → List Nat → List Nat → List Nat → Option (List Nat × List Nat)
  | [], _, a, b => some (a, b)
  | s :: h, u, a, b =>
    if s < 4 then match u with
      | [] => none
      | c :: r => if c = s then mtc h r a b else none
    else if s = 4 then
      if a = [] then mtc h (u.drop (tl u 1)) (u.take (tl u 1)) b
      else if a = u.take (tl u 1) then mtc h (u.drop (tl u 1)) a b else none
    else
      if b = [] then mtc h (u.drop (tl u 1)) a (u.take (tl u 1))
      else if b = u.take (tl u 1) then mtc h (u.drop (tl u 1)) a b else none
theorem mtc_loc (h : List Nat) : ∀ (k : Nat) (u m a b : List Nat), wfN h k = true → wfN u k = true → mtc h (u ++ m) a b = mtc h u a b := by
  induction h with
  | nil => intro k u m a b _ _; rfl
  | cons s h ih =>
    intro k u m a b hh hu
    cases k with
    | zero => exact absurd hh (by simp [wfN])
    | succ k =>
      obtain ⟨hs, hh⟩ := wf_cons.mp hh
      obtain ⟨c, r, hcr, hc, hr⟩ := wf_pos hu
      unfold mtc
      by_cases h4 : s < 4
      · rw [if_pos h4, if_pos h4]
        subst hcr
        show (if c = s then mtc h (r ++ m) a b else none) = if c = s then mtc h r a b else none
        by_cases hcs : c = s
        · rw [if_pos hcs, if_pos hcs]
          subst hcs
          exact ih _ _ _ _ _ hh hr
        · rw [if_neg hcs, if_neg hcs]
      · rw [pts_var (by omega), Nat.add_zero] at hh
        have hu1 : wfN u (1 + k) = true := by rw [Nat.add_comm]; exact hu
        obtain ⟨w1, w2⟩ := wf_split u 1 k hu1
        have e0 : u = u.take (tl u 1) ++ u.drop (tl u 1) := (List.take_append_drop _ _).symm
        have el : (u.take (tl u 1)).length = tl u 1 := by rw [List.length_take]; exact Nat.min_eq_left (tl_le _ _)
        have e1 : tl (u ++ m) 1 = tl u 1 := by
          conv => lhs; rw [e0, List.append_assoc]
          rw [tl_app _ 1 _ w1, el]
        have e2 : (u ++ m).take (tl u 1) = u.take (tl u 1) := List.take_append_of_le_length (tl_le _ _)
        have e3 : (u ++ m).drop (tl u 1) = u.drop (tl u 1) ++ m := List.drop_append_of_le_length (tl_le _ _)
        rw [if_neg h4, if_neg h4, e1, e2, e3]
        by_cases h5 : s = 4
        · rw [if_pos h5, if_pos h5, ih _ _ _ _ _ hh w2, ih _ _ _ _ _ hh w2]
        · rw [if_neg h5, if_neg h5, ih _ _ _ _ _ hh w2, ih _ _ _ _ _ hh w2]
theorem mtc_sub {h w : List Nat} {k p : Nat} (hh : wfN h 1 = true) (hw : wfN w k = true) (hp : p < w.length) : mtc h (w.drop p) [] [] = mtc h (sub w p) [] [] := by
  rw [drop_sub w p]
  exact mtc_loc h 1 _ _ _ _ hh (wf_sub hw hp)
