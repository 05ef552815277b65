-- ===== the class's desk =====
def soK (w : Nat) : Nat := if w = 0 then 8 else if w = 1 then 27 else if w = 2 then 9 else 17
def lvs (x : Nat × Nat × Bool) : Int := if x.2.2 = true then (soK x.2.1 : Int) else ixor (soK x.2.1 : Int) (-1)
def DkX (I : Nat → Int → Int) (a n : Nat) (kd : Nat → Nat) (sl : Nat → List Nat) (sn : SN) : Prop := (∀ i : Nat, i < n → I (a + 1) (i : Int) = (kd i : Int)) ∧ (∀ k : Nat, k < 4 → ShS I (a + 5 + 4 * k) (sl k)) ∧ I a 2 = (sn.length : Int) ∧ ∀ k : Nat, k < sn.length → I (a + 3) (k : Int) = ((sn.getD k (0, 0, false)).1 : Int) ∧ I (a + 4) (k : Int) = lvs (sn.getD k (0, 0, false))
theorem DkX.fr {I I' : Nat → Int → Int} {a n : Nat} {kd : Nat → Nat} {sl : Nat → List Nat} {sn : SN} (h : DkX I a n kd sl sn) (f : ∀ x, a ≤ x → x < a + 21 → I' x = I x) : DkX I' a n kd sl sn := by
  obtain ⟨h1, h2, h3, h4⟩ := h
  refine ⟨fun i hi => by rw [f _ (by omega) (by omega)]; exact h1 i hi, fun k hk => (h2 k hk).fr (by rw [f _ (by omega) (by omega)]) (f _ (by omega) (by omega)) (f _ (by omega) (by omega)) (f _ (by omega) (by omega)), by rw [f _ (by omega) (by omega)]; exact h3, fun k hk => by rw [f (a + 3) (by omega) (by omega), f (a + 4) (by omega) (by omega)]; exact h4 k hk⟩
theorem soK_lt (w : Nat) : soK w < 32 := by
  unfold soK
  repeat' split
  all_goals omega
theorem soK_cld : ∀ w : Nat, w < 4 → ∀ k : Nat, k < 5 → (soK w).testBit k = cldB k w := by decide +kernel
theorem StI.so {I : Nat → Int → Int} (h : StI I) {w : Nat} (hw : w < 4) : I 1 (w : Int) = (soK w : Int) := by
  obtain ⟨_, h0, h1, h2, h3⟩ := h
  rcases (show w = 0 ∨ w = 1 ∨ w = 2 ∨ w = 3 by omega) with e | e | e | e
  · subst e; exact h0
  · subst e; exact h1
  · subst e; exact h2
  · subst e; exact h3
def erl (sl : Nat → List Nat) (k : Nat) : Nat → Bool
  | 0 => false
  | e + 1 => erl sl k e || decide (sl e = sl k)
theorem dfT_erl (sl : Nat → List Nat) (k : Nat) : ∀ e, dfT sl k e = (!(sl k).isEmpty && !erl sl k e) := by
  intro e
  induction e with
  | zero => show _ = (_ && true); rw [Bool.and_true]; rfl
  | succ e ih =>
    show (dfT sl k e && decide (¬ sl k = sl e)) = (!(sl k).isEmpty && !(erl sl k e || decide (sl e = sl k)))
    rw [ih, Bool.not_or, Bool.and_assoc]
    by_cases h : sl k = sl e
    · rw [decide_eq_false (fun q => q h), decide_eq_true h.symm]; rfl
    · rw [decide_eq_true h, decide_eq_false (fun q => h q.symm)]; rfl
section XDk
variable {L : Nat} {R : Nat → Int → Option Nat} {I : Nat → Int → Int} {J : Nat → Int → Int64} {Q : Option MV → MM → Prop} {n : Nat} {kd : Nat → Nat} {sl : Nat → List Nat} {sn : SN}
theorem x_asNumber (c : Prop) [Decidable c] : wpC 19 [vI (bi c)] (S0 L, R, I, J) Q ↔ Q (some (vI (bi c))) (S0 L, R, I, J) := by
  refine c_D_asNumber.trans ?_
  by_cases h : c
  · rw [if_neg (fun q => bi_0.mp q h), bi_t h]
  · rw [if_pos (bi_0.mpr h), bi_f h]
theorem sw_2 {a : Nat} (ha : isDk a) : ∀ (d k : Nat) {I : Nat → Int → Int}, d + k = 4 → (∀ j : Nat, j < k → I (a + 5 + 4 * j) 3 = 0) → (∀ I', (∀ x, x < a ∨ (a < x ∧ x < a + 5) ∨ a + 20 < x → I' x = I x) → (∀ j : Nat, j < 4 → I' (a + 5 + 4 * j) 3 = 0) → I' a 2 = 0 → Q none (S0 L, R, I', J)) → wpc 155 23 [vR (some a), vU, vI (k : Int)] [] (0, 0) (S0 L, R, I, J) Q := by
  intro d
  induction d with
  | zero =>
    intro k I hd hq hQ
    refine (b_Desk_startWith_23 ha).mpr ?_
    rw [if_neg (by omega)]
    exact hQ _ (fun x hx => upM_ne (by omega)) (fun j hj => by rw [upM_ne (by omega)]; exact hq j (by omega)) upM_same
  | succ d ih =>
    intro k I hd hq hQ
    refine (b_Desk_startWith_23 ha).mpr ?_
    rw [if_pos (by omega)]
    refine ⟨⟨by omega, by omega⟩, ?_⟩
    refine (c_Shape_clear (a0 := a + 5 + 4 * k) (ie_Dk1 ha (i := (k : Int)) ⟨by omega, by omega⟩)).mpr ?_
    refine (b_Desk_startWith_33 ha).mpr ?_
    rw [w32_s (by omega)]
    refine ih (k + 1) (by omega) (fun j hj => ?_) (fun I' f h2 h3 => hQ I' (fun x hx => by rw [f x hx, upM_ne (by omega)]) h2 h3)
    by_cases hjk : j = k
    · subst hjk; exact upM_same
    · rw [upM_ne (by omega)]; exact hq j (by omega)
theorem sw_1 {a b : Nat} (ha : isDk a) (hb : isBk b) (hab : b + 50 ≤ a) (hn : n ≤ 6) : ∀ (d k : Nat) {I : Nat → Int → Int}, d + k = n → I b 4 = (n : Int) → (∀ j : Nat, j < n → I (b + 8 + 7 * j) 0 = (kd j : Int)) → (∀ j : Nat, j < k → I (a + 1) (j : Int) = (kd j : Int)) → (∀ I', (∀ x, x < a ∨ a + 20 < x → I' x = I x) → DkX I' a n kd (fun _ => []) [] → Q none (S0 L, R, I', J)) → wpc 155 3 [vR (some a), vR (some b), vI (k : Int)] [] (0, 0) (S0 L, R, I, J) Q := by
  intro d
  induction d with
  | zero =>
    intro k I hd h4 hk0 hq hQ
    refine (b_Desk_startWith_3 ha hb).mpr ?_
    rw [h4, if_neg (by omega)]
    refine sw_2 ha 4 0 rfl (fun j hj => by omega) (fun I' f h2 h3 => hQ I' (fun x hx => f x (by omega)) ⟨fun i hi => ?_, fun k hk => ⟨⟨h2 k hk, fun p hp => absurd hp (by simp)⟩, fun p hp => absurd hp (by simp)⟩, h3, fun k hk => absurd hk (by simp)⟩)
    rw [f _ (by omega)]; exact hq i (by omega)
  | succ d ih =>
    intro k I hd h4 hk0 hq hQ
    refine (b_Desk_startWith_3 ha hb).mpr ?_
    rw [h4, if_pos (by omega), w32_s (by omega)]
    refine ⟨⟨by omega, by omega⟩, ⟨by omega, by omega⟩, ?_⟩
    refine ih (k + 1) (by omega) (by rw [upM_ne (by omega)]; exact h4) (fun j hj => by rw [upM_ne (by omega)]; exact hk0 j hj) (fun j hj => ?_) (fun I' f => hQ I' (fun x hx => by rw [f x hx, upM_ne (by omega)]))
    by_cases hjk : j = k
    · subst hjk; rw [upM_same]; exact hk0 j (by omega)
    · rw [upM_i (by omega)]; exact hq j (by omega)
theorem x_startWith {a b : Nat} (ha : isDk a) (hb : isBk b) (hab : b + 50 ≤ a) (hn : n ≤ 6) (h4 : I b 4 = (n : Int)) (hk : ∀ j : Nat, j < n → I (b + 8 + 7 * j) 0 = (kd j : Int)) (hQ : ∀ I', (∀ x, x < a ∨ a + 20 < x → I' x = I x) → DkX I' a n kd (fun _ => []) [] → Q none (S0 L, R, I', J)) : wpC 155 [vR (some a), vR (some b)] (S0 L, R, I, J) Q :=
  (c_Desk_startWith ha hb).mpr (sw_1 ha hb hab hn n 0 (by omega) h4 hk (fun j hj => by omega) hQ)
theorem cf_3 {a c : Nat} (ha : isDk a) (hc : isDk c) (hac : a + 21 ≤ c ∨ c + 21 ≤ a) : ∀ (d k : Nat) {I : Nat → Int → Int}, d + k = 6 → (∀ j : Nat, j < k → I (a + 3) (j : Int) = I (c + 3) (j : Int) ∧ I (a + 4) (j : Int) = I (c + 4) (j : Int)) → (∀ I', (∀ x, x ≠ a + 3 → x ≠ a + 4 → I' x = I x) → (∀ j : Nat, j < 6 → I' (a + 3) (j : Int) = I (c + 3) (j : Int) ∧ I' (a + 4) (j : Int) = I (c + 4) (j : Int)) → Q none (S0 L, R, I', J)) → wpc 156 45 [vR (some a), vR (some c), vI (k : Int)] [] (0, 0) (S0 L, R, I, J) Q := by
  intro d
  induction d with
  | zero =>
    intro k I hd hq hQ
    refine (b_Desk_copyFrom_45 ha hc).mpr ?_
    rw [if_neg (by omega)]
    exact hQ I (fun _ _ _ => rfl) (fun j hj => hq j (by omega))
  | succ d ih =>
    intro k I hd hq hQ
    refine (b_Desk_copyFrom_45 ha hc).mpr ?_
    rw [if_pos (by omega), w32_s (by omega), upM_ne (a := a + 3) (b := c + 4) (by omega)]
    refine ⟨⟨by omega, by omega⟩, ⟨by omega, by omega⟩, ⟨by omega, by omega⟩, ⟨by omega, by omega⟩, ?_⟩
    have g : ∀ x, x ≠ a + 3 → x ≠ a + 4 → (upM (upM I (a + 3) (k : Int) (I (c + 3) (k : Int))) (a + 4) (k : Int) (I (c + 4) (k : Int))) x = I x := fun x p1 p2 => by rw [upM_ne p2, upM_ne p1]
    refine ih (k + 1) (by omega) (fun j hj => ?_) (fun I' f h2 => hQ I' (fun x p1 p2 => by rw [f x p1 p2, g x p1 p2]) (fun j hj => by
      have := h2 j hj
      rw [g (c + 3) (by omega) (by omega), g (c + 4) (by omega) (by omega)] at this
      exact this))
    rw [g (c + 3) (by omega) (by omega), g (c + 4) (by omega) (by omega), upM_ne (a := a + 4) (b := a + 3) (by omega)]
    by_cases hjk : j = k
    · subst hjk; rw [upM_same, upM_same]; exact ⟨rfl, rfl⟩
    · rw [upM_i (by omega), upM_i (by omega), upM_ne (by omega)]; exact hq j (by omega)
theorem cf_2 {a c : Nat} (ha : isDk a) (hc : isDk c) (hac : a + 21 ≤ c ∨ c + 21 ≤ a) (h9 : ∀ k, k < 4 → (sl k).length ≤ 9) : ∀ (d k : Nat) {I : Nat → Int → Int}, d + k = 4 → (∀ j : Nat, j < 4 → ShS I (c + 5 + 4 * j) (sl j)) → (∀ j : Nat, j < k → ShS I (a + 5 + 4 * j) (sl j)) → (∀ I', (∀ x, x < a + 5 ∨ a + 20 < x → I' x = I x) → (∀ j : Nat, j < 4 → ShS I' (a + 5 + 4 * j) (sl j)) → wpc 156 45 [vR (some a), vR (some c), vI 0] [] (0, 0) (S0 L, R, upM I' a 2 (I' c 2), J) Q) → wpc 156 21 [vR (some a), vR (some c), vI (k : Int)] [] (0, 0) (S0 L, R, I, J) Q := by
  intro d
  induction d with
  | zero =>
    intro k I hd hs hq hQ
    refine (b_Desk_copyFrom_21 ha hc).mpr ?_
    rw [if_neg (by omega)]
    exact hQ I (fun _ _ => rfl) (fun j hj => hq j (by omega))
  | succ d ih =>
    intro k I hd hs hq hQ
    refine (b_Desk_copyFrom_21 ha hc).mpr ?_
    rw [if_pos (by omega)]
    refine ⟨⟨by omega, by omega⟩, ⟨by omega, by omega⟩, ?_⟩
    refine x_copyFrom (a := a + 5 + 4 * k) (b := c + 5 + 4 * k) (w := sl k) (ie_Dk1 ha (i := (k : Int)) ⟨by omega, by omega⟩) (ie_Dk1 hc (i := (k : Int)) ⟨by omega, by omega⟩) (by omega) (h9 k (by omega)) (hs k (by omega)) (fun I1 f1 s1 => ?_)
    refine (b_Desk_copyFrom_35 ha hc).mpr ?_
    rw [w32_s (by omega)]
    refine ih (k + 1) (by omega) (fun j hj => (hs j hj).fr (by rw [f1 _ (by omega)]) (f1 _ (by omega)) (f1 _ (by omega)) (f1 _ (by omega))) (fun j hj => ?_) (fun I' f => hQ I' (fun x hx => by rw [f x hx, f1 x (by omega)]))
    by_cases hjk : j = k
    · subst hjk; exact s1
    · exact (hq j (by omega)).fr (by rw [f1 _ (by omega)]) (f1 _ (by omega)) (f1 _ (by omega)) (f1 _ (by omega))
theorem cf_1 {a c : Nat} (ha : isDk a) (hc : isDk c) (hac : a + 21 ≤ c ∨ c + 21 ≤ a) : ∀ (d k : Nat) {I : Nat → Int → Int}, d + k = 6 → (∀ j : Nat, j < k → I (a + 1) (j : Int) = I (c + 1) (j : Int)) → (∀ I', (∀ x, x ≠ a + 1 → I' x = I x) → (∀ j : Nat, j < 6 → I' (a + 1) (j : Int) = I (c + 1) (j : Int)) → wpc 156 21 [vR (some a), vR (some c), vI 0] [] (0, 0) (S0 L, R, I', J) Q) → wpc 156 3 [vR (some a), vR (some c), vI (k : Int)] [] (0, 0) (S0 L, R, I, J) Q := by
  intro d
  induction d with
  | zero =>
    intro k I hd hq hQ
    refine (b_Desk_copyFrom_3 ha hc).mpr ?_
    rw [if_neg (by omega)]
    exact hQ I (fun _ _ => rfl) (fun j hj => hq j (by omega))
  | succ d ih =>
    intro k I hd hq hQ
    refine (b_Desk_copyFrom_3 ha hc).mpr ?_
    rw [if_pos (by omega), w32_s (by omega)]
    refine ⟨⟨by omega, by omega⟩, ⟨by omega, by omega⟩, ?_⟩
    refine ih (k + 1) (by omega) (fun j hj => ?_) (fun I' f h2 => hQ I' (fun x p => by rw [f x p, upM_ne p]) (fun j hj => by
      have := h2 j hj
      rw [upM_ne (by omega)] at this
      exact this))
    rw [upM_ne (a := a + 1) (b := c + 1) (by omega)]
    by_cases hjk : j = k
    · subst hjk; rw [upM_same]
    · rw [upM_i (by omega)]; exact hq j (by omega)
theorem x_copyDesk {a c : Nat} (ha : isDk a) (hc : isDk c) (hac : a + 21 ≤ c ∨ c + 21 ≤ a) (hn : n ≤ 6) (h9 : ∀ k, k < 4 → (sl k).length ≤ 9) (h6 : sn.length ≤ 6) (hD : DkX I c n kd sl sn) (hQ : ∀ I', (∀ x, x < a ∨ a + 20 < x → I' x = I x) → DkX I' a n kd sl sn → Q none (S0 L, R, I', J)) : wpC 156 [vR (some a), vR (some c)] (S0 L, R, I, J) Q := by
  obtain ⟨d1, d2, d3, d4⟩ := hD
  refine (c_Desk_copyFrom ha hc).mpr ?_
  refine cf_1 ha hc hac 6 0 rfl (fun j hj => by omega) (fun I1 f1 q1 => ?_)
  refine cf_2 (sl := sl) ha hc hac h9 4 0 rfl (fun j hj => (d2 j hj).fr (by rw [f1 _ (by omega)]) (f1 _ (by omega)) (f1 _ (by omega)) (f1 _ (by omega))) (fun j hj => by omega) (fun I2 f2 s2 => ?_)
  have c2 : I2 c 2 = (sn.length : Int) := by rw [f2 c (by omega), f1 c (by omega)]; exact d3
  rw [c2]
  refine cf_3 ha hc hac 6 0 rfl (fun j hj => by omega) (fun I3 f3 q3 => ?_)
  refine hQ I3 (fun x hx => by rw [f3 x (by omega) (by omega), upM_ne (by omega), f2 x (by omega), f1 x (by omega)]) ⟨fun i hi => ?_, fun k hk => ?_, ?_, fun k hk => ?_⟩
  · rw [f3 _ (by omega) (by omega), upM_ne (by omega), f2 _ (by omega), q1 i (by omega)]; exact d1 i hi
  · exact (s2 k hk).fr (by rw [f3 _ (by omega) (by omega), upM_ne (by omega)]) (by rw [f3 _ (by omega) (by omega), upM_ne (by omega)]) (by rw [f3 _ (by omega) (by omega), upM_ne (by omega)]) (by rw [f3 _ (by omega) (by omega), upM_ne (by omega)])
  · rw [f3 _ (by omega) (by omega), upM_same]
  · rw [(q3 k (by omega)).1, (q3 k (by omega)).2, upM_ne (by omega), upM_ne (by omega), f2 _ (by omega), f2 _ (by omega), f1 _ (by omega), f1 _ (by omega)]; exact d4 k hk
theorem x_keepSeen {a i w : Nat} {z : Bool} (ha : isDk a) (h6 : sn.length < 6) (hD : DkX I a n kd sl sn) (hQ : ∀ I', (∀ x, x ≠ a → x ≠ a + 3 → x ≠ a + 4 → I' x = I x) → DkX I' a n kd sl (sn ++ [(i, w, z)]) → Q none (S0 L, R, I', J)) : wpC 157 [vR (some a), vI (i : Int), vI (lvs (i, w, z))] (S0 L, R, I, J) Q := by
  obtain ⟨d1, d2, d3, d4⟩ := hD
  refine (c_Desk_keepSeen ha).mpr ?_
  rw [d3, if_pos (by omega), show upM I (a + 3) (sn.length : Int) (i : Int) a 2 = (sn.length : Int) by rw [upM_ne (by omega)]; exact d3, show upM (upM I (a + 3) (sn.length : Int) (i : Int)) (a + 4) (sn.length : Int) (lvs (i, w, z)) a 2 = (sn.length : Int) by rw [upM_ne (by omega), upM_ne (by omega)]; exact d3, w32_s (by omega)]
  refine ⟨⟨by omega, by omega⟩, ⟨by omega, by omega⟩, hQ _ (fun x p1 p2 p3 => by rw [upM_ne p1, upM_ne p3, upM_ne p2]) ⟨fun j hj => ?_, fun k hk => ?_, ?_, fun k hk => ?_⟩⟩
  · rw [upM_ne (by omega), upM_ne (by omega), upM_ne (by omega)]; exact d1 j hj
  · exact (d2 k hk).fr (by rw [upM_ne (by omega), upM_ne (by omega), upM_ne (by omega)]) (by rw [upM_ne (by omega), upM_ne (by omega), upM_ne (by omega)]) (by rw [upM_ne (by omega), upM_ne (by omega), upM_ne (by omega)]) (by rw [upM_ne (by omega), upM_ne (by omega), upM_ne (by omega)])
  · rw [upM_same, List.length_append]; rfl
  · rw [List.length_append, List.length_singleton] at hk
    rw [upM_ne (a := a) (b := a + 3) (by omega), upM_ne (a := a) (b := a + 4) (by omega), upM_ne (a := a + 4) (b := a + 3) (by omega), getD_app]
    by_cases h : k < sn.length
    · rw [if_pos h, upM_i (by omega), upM_i (by omega), upM_ne (by omega)]; exact d4 k h
    · rw [if_neg h, if_pos (by omega), show k = sn.length by omega, upM_same, upM_same]
      exact ⟨rfl, rfl⟩
theorem sor_step {i k : Nat} (hs : (sn.getD k (0, 0, false)).2.1 < 4) (he : (sn.getD k (0, 0, false)).1 = i) : iand ((bset 5 (fun kind => sorB sn i kind k) : Nat) : Int) (lvs (sn.getD k (0, 0, false))) = ((bset 5 (fun kind => sorB sn i kind (k + 1)) : Nat) : Int) := by
  have hb := bset_lt 5 (fun kind => sorB sn i kind k)
  have hsk := soK_lt (sn.getD k (0, 0, false)).2.1
  have hg : ∀ kind, sorB sn i kind (k + 1) = (sorB sn i kind k && (cldB kind (sn.getD k (0, 0, false)).2.1 == (sn.getD k (0, 0, false)).2.2)) := by
    intro kind
    show (sorB sn i kind k && (decide (¬ (sn.getD k (0, 0, false)).1 = i) || _)) = _
    rw [decide_eq_false (fun q => q he), Bool.false_or]
  unfold lvs
  cases hz : (sn.getD k (0, 0, false)).2.2 with
  | true =>
    rw [if_pos rfl, iand_nat (by omega)]
    refine congrArg (fun x : Nat => (x : Int)) (nat_ext (fun e => ?_))
    rw [Nat.testBit_and, bset_bit, bset_bit, hg, hz]
    by_cases h5 : e < 5
    · rw [decide_eq_true h5, soK_cld _ hs e h5]; simp
    · rw [decide_eq_false h5]; simp
  | false =>
    rw [if_neg (by decide), iand_not (by omega)]
    refine congrArg (fun x : Nat => (x : Int)) (nat_ext (fun e => ?_))
    rw [ndf_bit, bset_bit, bset_bit, hg, hz]
    by_cases h5 : e < 5
    · rw [decide_eq_true h5, soK_cld _ hs e h5]; simp
    · rw [decide_eq_false h5]; simp
theorem x_sortsOf {a i : Nat} (ha : isDk a) (hs : okSn sn) (hD : DkX I a n kd sl sn) (hQ : Q (some (vI ((sors sn i : Nat) : Int))) (S0 L, R, I, J)) : wpC 158 [vR (some a), vI (i : Int)] (S0 L, R, I, J) Q := by
  obtain ⟨d1, d2, d3, d4⟩ := hD
  have h6 := hs.1
  refine (c_Desk_sortsOf ha).mpr ?_
  have key : ∀ d k : Nat, d + k = sn.length → wpc 158 5 [vR (some a), vI (i : Int), vI ((bset 5 (fun kind => sorB sn i kind k) : Nat) : Int), vI (k : Int)] [] (0, 0) (S0 L, R, I, J) Q := by
    intro d
    induction d with
    | zero =>
      intro k hk
      refine (b_Desk_sortsOf_5 ha).mpr ?_
      rw [d3, if_neg (by omega), show k = sn.length by omega]
      exact hQ
    | succ d ih =>
      intro k hk
      have hkl : k < sn.length := by omega
      refine (b_Desk_sortsOf_5 ha).mpr ?_
      rw [d3, if_pos (by omega), (d4 k hkl).1, (d4 k hkl).2, w32_s (by omega)]
      refine ⟨⟨by omega, by omega⟩, ?_⟩
      by_cases he : (sn.getD k (0, 0, false)).1 = i
      · rw [if_pos (by omega), sor_step (hs.2 k hkl) he]
        exact ⟨⟨by omega, by omega⟩, ih (k + 1) (by omega)⟩
      · rw [if_neg (by omega)]
        have h2 := ih (k + 1) (by omega)
        rw [show bset 5 (fun kind => sorB sn i kind (k + 1)) = bset 5 (fun kind => sorB sn i kind k) from bset_ext (fun kind _ => by
          show (sorB sn i kind k && (decide (¬ (sn.getD k (0, 0, false)).1 = i) || _)) = _
          rw [decide_eq_true he, Bool.true_or, Bool.and_true])] at h2
        exact h2
  have := key sn.length 0 (by omega)
  rw [show bset 5 (fun kind => sorB sn i kind 0) = 31 from (bset_ext (g := fun _ => true) (fun _ _ => rfl)).trans (by decide)] at this
  exact this
theorem cnt_t {f : Nat → Bool} {n : Nat} (h : f n = true) : cnt (n + 1) f = cnt n f + 1 := by show cnt n f + (if f n then 1 else 0) = _; rw [h]; rfl
theorem cnt_f {f : Nat → Bool} {n : Nat} (h : f n = false) : cnt (n + 1) f = cnt n f := by show cnt n f + (if f n then 1 else 0) = _; rw [h]; rfl
theorem nonemp {w : List Nat} : (!w.isEmpty) = true ↔ ¬ w.length ≤ 0 := by
  cases w with
  | nil => simp
  | cons a l => simp
theorem x_filledSlots {a : Nat} (ha : isDk a) (hD : ∀ k : Nat, k < 4 → ShS I (a + 5 + 4 * k) (sl k)) (hQ : Q (some (vI (fil sl : Int))) (S0 L, R, I, J)) : wpC 159 [vR (some a)] (S0 L, R, I, J) Q := by
  refine (c_Desk_filledSlots ha).mpr ?_
  have key : ∀ d k : Nat, d + k = 4 → wpc 159 5 [vR (some a), vI (cnt k (fun k => !(sl k).isEmpty) : Int), vI (k : Int)] [] (0, 0) (S0 L, R, I, J) Q := by
    intro d
    induction d with
    | zero =>
      intro k hk
      refine (b_Desk_filledSlots_5 ha).mpr ?_
      rw [if_neg (by omega), show k = 4 by omega]
      exact hQ
    | succ d ih =>
      intro k hk
      have hc := cnt_le k (fun k => !(sl k).isEmpty)
      have hl : I (a + 5 + 4 * (k : Int).toNat) 3 = ((sl k).length : Int) := (hD k (by omega)).1.1
      refine (b_Desk_filledSlots_5 ha).mpr ?_
      rw [if_pos (by omega), hl]
      refine ⟨⟨by omega, by omega⟩, ?_⟩
      have hgo : ∀ z : Int, z = bi ((!(sl k).isEmpty) = true) → wpc 159 22 [vR (some a), vU, vI (k : Int)] [vI z, vI (cnt k (fun k => !(sl k).isEmpty) : Int)] (0, 0) (S0 L, R, I, J) Q := by
        intro z hz
        rw [hz]
        refine (b_Desk_filledSlots_22 ha).mpr ?_
        refine (x_asNumber _).mpr ?_
        refine (b_Desk_filledSlots_24 ha).mpr ?_
        have h2 := ih (k + 1) (by omega)
        rw [w32_s (by omega)]
        by_cases he : (!(sl k).isEmpty) = true
        · rw [bi_t he, w32_s (by omega)]
          rw [cnt_t (f := fun k => !(sl k).isEmpty) he] at h2
          exact h2
        · rw [bi_f he, w32_eq (by omega) (by omega)]
          rw [cnt_f (f := fun k => !(sl k).isEmpty) (by cases hx : (!(sl k).isEmpty) with | false => rfl | true => exact absurd hx he)] at h2
          rw [Int.add_zero]
          exact h2
      by_cases h0 : (sl k).length ≤ 0
      · rw [if_pos (by omega)]
        exact hgo 0 (bi_f (fun q => nonemp.mp q h0)).symm
      · rw [if_neg (by omega)]
        exact hgo 1 (bi_t (nonemp.mpr h0)).symm
  exact key 4 0 rfl
theorem x_isEarlier {a k : Nat} (ha : isDk a) (hk : k < 4) (h9 : ∀ k, k < 4 → (sl k).length ≤ 9) (hD : ∀ k : Nat, k < 4 → ShS I (a + 5 + 4 * k) (sl k)) (hQ : Q (some (vI (bi (erl sl k k = true)))) (S0 L, R, I, J)) : wpC 161 [vR (some a), vI (k : Int)] (S0 L, R, I, J) Q := by
  refine (c_Desk_isEarlier ha).mpr ?_
  have mono : ∀ e m, e ≤ m → erl sl k e = true → erl sl k m = true := by
    intro e m hem h
    induction hem with
    | refl => exact h
    | step _ ih => show (erl sl k _ || _) = true; rw [ih]; rfl
  have key : ∀ d e : Nat, d + e = k → erl sl k e = false → wpc 161 3 [vR (some a), vI (k : Int), vI (e : Int)] [] (0, 0) (S0 L, R, I, J) Q := by
    intro d
    induction d with
    | zero =>
      intro e he h0
      refine (b_Desk_isEarlier_3 ha).mpr ?_
      rw [if_neg (by omega)]
      have hek : e = k := by omega
      rw [hek] at h0
      rw [bi_f (by rw [h0]; decide)] at hQ
      exact hQ
    | succ d ih =>
      intro e he h0
      refine (b_Desk_isEarlier_3 ha).mpr ?_
      rw [if_pos (by omega)]
      refine ⟨⟨by omega, by omega⟩, ⟨by omega, by omega⟩, ?_⟩
      refine x_isSameAs (a := a + 5 + 4 * e) (b := a + 5 + 4 * k) (ie_Dk1 ha (i := (e : Int)) ⟨by omega, by omega⟩) (ie_Dk1 ha (i := (k : Int)) ⟨by omega, by omega⟩) (h9 e (by omega)) (hD e (by omega)).1 (hD k hk).1 ?_
      refine (b_Desk_isEarlier_17 ha).mpr ?_
      by_cases hs : sl e = sl k
      · rw [if_neg (fun q => bi_0.mp q hs)]
        rw [bi_t (mono (e + 1) k (by omega) (by show (erl sl k e || decide (sl e = sl k)) = true; rw [decide_eq_true hs, Bool.or_true]))] at hQ
        exact hQ
      · rw [if_pos (bi_0.mpr hs), w32_s (by omega)]
        exact ih (e + 1) (by omega) (by show (erl sl k e || decide (sl e = sl k)) = false; rw [h0, decide_eq_false hs]; rfl)
  exact key k 0 (by omega) rfl
theorem x_differentTypes {a : Nat} (ha : isDk a) (h9 : ∀ k, k < 4 → (sl k).length ≤ 9) (hD : ∀ k : Nat, k < 4 → ShS I (a + 5 + 4 * k) (sl k)) (hQ : Q (some (vI (cnt 4 (fun k => dfT sl k k) : Int))) (S0 L, R, I, J)) : wpC 160 [vR (some a)] (S0 L, R, I, J) Q := by
  refine (c_Desk_differentTypes ha).mpr ?_
  have key : ∀ d k : Nat, d + k = 4 → wpc 160 5 [vR (some a), vI (cnt k (fun k => dfT sl k k) : Int), vI (k : Int)] [] (0, 0) (S0 L, R, I, J) Q := by
    intro d
    induction d with
    | zero =>
      intro k hk
      refine (b_Desk_differentTypes_5 ha).mpr ?_
      rw [if_neg (by omega), show k = 4 by omega]
      exact hQ
    | succ d ih =>
      intro k hk
      have hc := cnt_le k (fun k => dfT sl k k)
      have hl : I (a + 5 + 4 * (k : Int).toNat) 3 = ((sl k).length : Int) := (hD k (by omega)).1.1
      have h2 := ih (k + 1) (by omega)
      refine (b_Desk_differentTypes_5 ha).mpr ?_
      rw [if_pos (by omega), hl]
      refine ⟨⟨by omega, by omega⟩, ?_⟩
      have hgo : ∀ z : Int, z = bi (dfT sl k k = true) → wpc 160 28 [vR (some a), vU, vI (k : Int)] [vI z, vI (cnt k (fun k => dfT sl k k) : Int)] (0, 0) (S0 L, R, I, J) Q := by
        intro z hz
        rw [hz]
        refine (b_Desk_differentTypes_28 ha).mpr ?_
        refine (x_asNumber _).mpr ?_
        refine (b_Desk_differentTypes_30 ha).mpr ?_
        rw [w32_s (p := k) (by omega)]
        by_cases he : dfT sl k k = true
        · rw [bi_t he, w32_s (by omega)]
          rw [cnt_t (f := fun k => dfT sl k k) he] at h2
          exact h2
        · rw [bi_f he, w32_eq (by omega) (by omega)]
          rw [cnt_f (f := fun k => dfT sl k k) (by cases hx : dfT sl k k with | false => rfl | true => exact absurd hx he)] at h2
          rw [Int.add_zero]
          exact h2
      have hdf := dfT_erl sl k k
      by_cases h0 : (sl k).length ≤ 0
      · rw [if_pos (by omega)]
        refine hgo 0 (bi_f (fun q => ?_)).symm
        rw [hdf, Bool.and_eq_true] at q
        exact nonemp.mp q.1 h0
      · rw [if_neg (by omega)]
        refine x_isEarlier ha (by omega) h9 hD ?_
        refine (b_Desk_differentTypes_21 ha).mpr ?_
        rw [nonemp.mpr h0, Bool.true_and] at hdf
        by_cases he : erl sl k k = true
        · rw [if_neg (fun q => bi_0.mp q he)]
          exact hgo 0 (bi_f (by rw [hdf, he]; decide)).symm
        · rw [if_pos (bi_0.mpr he)]
          exact hgo 1 (bi_t (by rw [hdf]; cases hx : erl sl k k with | false => rfl | true => exact absurd hx he)).symm
  exact key 4 0 rfl
end XDk
