-- ===== the class reads a page: what is written into a book =====
def RuI (I : Nat → Int → Int) (r : Nat) (x : INS) : Prop := I r 0 = (x.1 : Int) ∧ I r 1 = (x.2.1 : Int) ∧ ShW I (r + 1) x.2.2.1 ∧ I r 3 = (x.2.2.2.length : Int) ∧ ∀ k : Nat, k < x.2.2.2.length → I (r + 5) (k : Int) = ((x.2.2.2.getD k (0, 0)).1 : Int) ∧ I (r + 6) (k : Int) = ((x.2.2.2.getD k (0, 0)).2 : Int)
theorem RuI.fr {I I' : Nat → Int → Int} {r : Nat} {x : INS} (h : RuI I r x) (f : ∀ a, r ≤ a → a < r + 7 → I' a = I a) : RuI I' r x := by
  obtain ⟨h1, h2, h3, h4, h5⟩ := h
  exact ⟨by rw [f r (by omega) (by omega)]; exact h1, by rw [f r (by omega) (by omega)]; exact h2, h3.fr (by rw [f (r + 1) (by omega) (by omega)]) (f _ (by omega) (by omega)), by rw [f r (by omega) (by omega)]; exact h4, fun k hk => by rw [f (r + 5) (by omega) (by omega), f (r + 6) (by omega) (by omega)]; exact h5 k hk⟩
def ClL (I : Nat → Int → Int) (b : Nat) (cs : List Nat) : Prop := I b 0 = (cs.length : Int) ∧ ∀ c : Nat, c < cs.length → I (b + 1) (c : Int) = (cs.getD c 0 : Int)
def InL (I : Nat → Int → Int) (b : Nat) (xs : List INS) : Prop := I b 4 = (xs.length : Int) ∧ ∀ i : Nat, i < xs.length → RuI I (b + 8 + 7 * i) (xs.getD i (0, 0, [], []))
theorem ClL.fr {I I' : Nat → Int → Int} {b : Nat} {cs : List Nat} (h : ClL I b cs) (f0 : I' b 0 = I b 0) (f1 : I' (b + 1) = I (b + 1)) : ClL I' b cs := ⟨by rw [f0]; exact h.1, fun c hc => by rw [f1]; exact h.2 c hc⟩
theorem InL.fr {I I' : Nat → Int → Int} {b : Nat} {xs : List INS} (h : InL I b xs) (h6 : xs.length ≤ 6) (f0 : I' b 4 = I b 4) (f : ∀ a, b + 8 ≤ a → a < b + 50 → I' a = I a) : InL I' b xs := ⟨by rw [f0]; exact h.1, fun i hi => (h.2 i hi).fr (fun a p1 p2 => f a (by omega) (by omega))⟩
theorem InL.get {I : Nat → Int → Int} {b : Nat} {xs : List INS} {x : INS} (h : InL I b (xs ++ [x])) : RuI I (b + 8 + 7 * xs.length) x := by
  have := h.2 xs.length (by rw [List.length_append]; exact Nat.lt_succ_self _)
  rw [getD_app, if_neg (by omega), if_pos rfl] at this
  exact this
theorem InL.add {I I' : Nat → Int → Int} {b : Nat} {xs : List INS} {x : INS} (h : ∀ i : Nat, i < xs.length → RuI I (b + 8 + 7 * i) (xs.getD i (0, 0, [], []))) (f0 : I' b 4 = ((xs.length + 1 : Nat) : Int)) (f : ∀ a, b + 8 ≤ a → a < b + 8 + 7 * xs.length → I' a = I a) (hx : RuI I' (b + 8 + 7 * xs.length) x) : InL I' b (xs ++ [x]) := by
  refine ⟨by rw [f0, List.length_append]; rfl, fun i hi => ?_⟩
  rw [List.length_append, List.length_singleton] at hi
  rw [getD_app]
  by_cases hil : i < xs.length
  · rw [if_pos hil]
    exact (h i hil).fr (fun a p1 p2 => f a (by omega) (by omega))
  · rw [if_neg hil, if_pos (by omega), show i = xs.length by omega]; exact hx
theorem InL.set {I I' : Nat → Int → Int} {b : Nat} {xs : List INS} {x x' : INS} (h : InL I b (xs ++ [x])) (f0 : I' b 4 = I b 4) (f : ∀ a, b + 8 ≤ a → a < b + 8 + 7 * xs.length → I' a = I a) (hx : RuI I' (b + 8 + 7 * xs.length) x') : InL I' b (xs ++ [x']) := by
  refine InL.add (I := I) (fun i hi => ?_) (by rw [f0, h.1, List.length_append]; rfl) f hx
  have := h.2 i (by rw [List.length_append, List.length_singleton]; omega)
  rw [getD_app, if_pos hi] at this
  exact this
def clS (s : PS) : List Nat := if s.1 = 1 ∨ s.1 = 2 then s.2.2.1.1 ++ [s.2.2.1.2] else s.2.2.1.1
def inS (s : PS) : List INS := if 4 ≤ s.1 then s.2.2.2.1 ++ [s.2.2.2.2] else s.2.2.2.1
def RdX (R : Nat → Int → Option Nat) (I : Nat → Int → Int) (b : Nat) (s : PS) : Prop := R 105 0 = some b ∧ (∃ ru, R 105 1 = some ru ∧ isRu ru ∧ (4 ≤ s.1 → ru = b + 8 + 7 * s.2.2.2.1.length)) ∧ I 105 2 = (s.1 : Int) ∧ (s.1 = 1 ∨ s.1 = 7 → I 105 3 = (s.2.1.1 : Int)) ∧ (s.1 = 5 → I 105 4 = (s.2.1.2 : Int)) ∧ ClL I b (clS s) ∧ InL I b (inS s) ∧ (s.1 = 4 → s.2.2.2.2.2.2.1 = []) ∧ (s.1 = 4 ∨ s.1 = 5 → s.2.2.2.2.2.2.2 = [])
/-- what reading may change -/
def frB (b : Nat) (R R' : Nat → Int → Option Nat) (I I' : Nat → Int → Int) : Prop := (∀ a, a ≠ 105 → R' a = R a) ∧ ∀ a, a ≠ 105 → (a < b ∨ b + 50 ≤ a) → I' a = I a
theorem frB.rf {b : Nat} {R : Nat → Int → Option Nat} {I : Nat → Int → Int} : frB b R R I I := ⟨fun _ _ => rfl, fun _ _ _ => rfl⟩
theorem frB.tr {b : Nat} {R R' R2 : Nat → Int → Option Nat} {I I' I2 : Nat → Int → Int} (h : frB b R R' I I') (h2 : frB b R' R2 I' I2) : frB b R R2 I I2 := ⟨fun a p => by rw [h2.1 a p, h.1 a p], fun a p q => by rw [h2.2 a p q, h.2 a p q]⟩
section XRd
variable {L : Nat} {R : Nat → Int → Option Nat} {I : Nat → Int → Int} {J : Nat → Int → Int64} {Q : Option MV → MM → Prop} {b : Nat}
theorem x_addClass {cs : List Nat} (hb : isBk b) (hc : ClL I b cs) (h4 : cs.length < 4) (hQ : ∀ I', (∀ a, a ≠ b → a ≠ b + 1 → I' a = I a) → (∀ j : Int, j ≠ 0 → I' b j = I b j) → ClL I' b (cs ++ [0]) → Q none (S0 L, R, I', J)) : wpC 142 [vR (some b)] (S0 L, R, I, J) Q := by
  refine (c_Book_addClass hb).mpr ?_
  rw [hc.1, if_pos (by omega), upM_ne (a := b + 1) (b := b) (by omega), hc.1, w32_s (by omega)]
  refine ⟨⟨by omega, by omega⟩, hQ _ (fun a p1 p2 => by rw [upM_ne p1, upM_ne p2]) (fun j hj => by rw [upM_i hj, upM_ne (by omega)]) ⟨by rw [upM_same, List.length_append]; rfl, fun c hc2 => ?_⟩⟩
  rw [List.length_append, List.length_singleton] at hc2
  rw [upM_ne (by omega), getD_app]
  by_cases h : c < cs.length
  · rw [if_pos h, upM_i (by omega)]; exact hc.2 c h
  · rw [if_neg h, if_pos (by omega), show c = cs.length by omega, upM_same]; rfl
theorem x_addRight {rs : List Nat} {r k : Nat} (hb : isBk b) (hc : ClL I b (rs ++ [r])) (h4 : rs.length < 4) (hr : r < 256) (hk : k < 8) (hQ : ∀ I', (∀ a, a ≠ b + 1 → I' a = I a) → ClL I' b (rs ++ [r ||| 2 ^ k]) → Q none (S0 L, R, I', J)) : wpC 143 [vR (some b), vI (k : Int)] (S0 L, R, I, J) Q := by
  refine (c_Book_addRight hb).mpr ?_
  have h1 := hc.1
  rw [List.length_append, List.length_singleton] at h1
  have hl := hc.2 rs.length (by rw [List.length_append]; exact Nat.lt_succ_self _)
  rw [getD_app, if_neg (by omega), if_pos rfl] at hl
  have hw : w32 (((rs.length + 1 : Nat) : Int) - 1) = (rs.length : Int) := by rw [w32_eq (by omega) (by omega)]; omega
  rw [h1, if_neg (by omega), hw, hl, ior1 hr hk]
  refine ⟨⟨by omega, by omega⟩, ⟨by omega, by omega⟩, hQ _ (fun a p => upM_ne p) ⟨by rw [upM_ne (by omega), h1, List.length_append]; rfl, fun c hc2 => ?_⟩⟩
  rw [List.length_append, List.length_singleton] at hc2
  rw [getD_app]
  by_cases h : c < rs.length
  · have := hc.2 c (by rw [List.length_append, List.length_singleton]; omega)
    rw [getD_app, if_pos h] at this
    rw [if_pos h, upM_i (by omega)]; exact this
  · rw [if_neg h, if_pos (by omega), show c = rs.length by omega, upM_same]
theorem x_addInstance {xs : List INS} {k : Nat} (hb : isBk b) (hx : InL I b xs) (h6 : xs.length < 6) (hQ : ∀ I', (∀ a, a ≠ b → a ≠ b + 8 + 7 * xs.length → a ≠ b + 8 + 7 * xs.length + 1 → I' a = I a) → (∀ j : Int, j ≠ 4 → I' b j = I b j) → InL I' b (xs ++ [(k, 0, [], [])]) → Q none (S0 L, R, I', J)) : wpC 144 [vR (some b), vI (k : Int)] (S0 L, R, I, J) Q := by
  have hr : isRu (b + 8 + 7 * xs.length) := ie_Bk5 hb (i := (xs.length : Int)) ⟨by omega, by omega⟩
  refine (c_Book_addInstance hb).mpr ?_
  rw [hx.1, if_pos (by omega)]
  refine ⟨⟨by omega, by omega⟩, ?_⟩
  have hgo : wpC 202 [vR (some (b + 8 + 7 * xs.length)), vI (k : Int)] (S0 L, R, I, J) (fun v M2 => wpc 144 13 [vR (some b), vU] (v.toList ++ []) (0, 0) M2 Q) := by
    generalize hrr : b + 8 + 7 * xs.length = r at *
    refine (c_Rule_startWith hr).mpr ?_
    refine (c_Shape_clear (is_Ru2 hr)).mpr ?_
    refine (b_Rule_startWith_10 hr).mpr ?_
    refine (b_Book_addInstance_13 hb).mpr ?_
    rw [show upM (upM (upM (upM I r 0 (k : Int)) r 1 0) (r + 1) 3 0) r 3 0 b 4 = (xs.length : Int) by rw [upM_ne (by omega), upM_ne (by omega), upM_ne (by omega), upM_ne (by omega)]; exact hx.1, w32_s (by omega)]
    refine hQ _ (fun a p1 p2 p3 => by rw [upM_ne p1, upM_ne p2, upM_ne p3, upM_ne p2, upM_ne p2]) (fun j hj => by rw [upM_i hj, upM_ne (by omega), upM_ne (by omega), upM_ne (by omega), upM_ne (by omega)]) ?_
    refine InL.add (I := I) hx.2 upM_same (fun a p1 p2 => by rw [upM_ne (by omega), upM_ne (by omega), upM_ne (by omega), upM_ne (by omega), upM_ne (by omega)]) ?_
    rw [hrr]
    refine ⟨?_, ?_, ⟨?_, fun p hp => absurd hp (by simp)⟩, ?_, fun k hk => absurd hk (by simp)⟩
    · rw [upM_ne (by omega), upM_i (by decide), upM_ne (by omega), upM_i (by decide), upM_same]
    · rw [upM_ne (by omega), upM_i (by decide), upM_ne (by omega), upM_same]; rfl
    · rw [upM_ne (by omega), upM_ne (by omega), upM_same]; rfl
    · rw [upM_ne (by omega), upM_same]; rfl
  exact hgo
theorem x_hasRoom {r : Nat} {x : INS} (hr : isRu r) (hW : RuI I r x) (hh : wfN x.2.2.1 1 = true) (hl : x.2.2.1.length ≤ 5) (hQ : Q (some (vI (bi (x.2.2.2.length < 2 ∧ (4 ∈ x.2.2.1 ∨ 5 ∈ x.2.2.1))))) (S0 L, R, I, J)) : wpC 204 [vR (some r)] (S0 L, R, I, J) Q := by
  refine (c_Rule_hasRoom hr).mpr ?_
  rw [hW.2.2.2.1]
  have h6 := ok6 (Or.inr ⟨hh, by omega⟩ : x.2.2.1 = [] ∨ _)
  by_cases h2 : x.2.2.2.length < 2
  · rw [if_pos (by omega)]
    refine x_hasVariable (v := 0) (is_Ru2 hr) (by decide) h6 (by omega) hW.2.2.1 ?_
    refine (b_Rule_hasRoom_10 hr).mpr ?_
    by_cases h4 : 4 ∈ x.2.2.1
    · rw [if_neg (fun q => bi_0.mp q h4)]
      rw [bi_t ⟨h2, Or.inl h4⟩] at hQ
      exact hQ
    · rw [if_pos (bi_0.mpr h4)]
      refine x_hasVariable (v := 1) (is_Ru2 hr) (by decide) h6 (by omega) hW.2.2.1 ?_
      refine b_Rule_hasRoom_17.mpr ?_
      by_cases h5 : 5 ∈ x.2.2.1
      · rw [if_neg (fun q => bi_0.mp q h5)]
        rw [bi_t ⟨h2, Or.inr h5⟩] at hQ
        exact hQ
      · rw [if_pos (bi_0.mpr h5)]
        rw [bi_f (fun q => q.2.elim h4 h5)] at hQ
        exact hQ
  · rw [if_neg (by omega)]
    rw [bi_f (fun q => h2 q.1)] at hQ
    exact hQ
theorem x_addCondition {r c v : Nat} {x : INS} (hr : isRu r) (hW : RuI I r x) (h2 : x.2.2.2.length < 2) (hQ : ∀ I', (∀ a, a ≠ r → a ≠ r + 5 → a ≠ r + 6 → I' a = I a) → RuI I' r (x.1, x.2.1, x.2.2.1, x.2.2.2 ++ [(c, v)]) → Q none (S0 L, R, I', J)) : wpC 205 [vR (some r), vI (c : Int), vI (v : Int)] (S0 L, R, I, J) Q := by
  refine (c_Rule_addCondition hr).mpr ?_
  have h3 := hW.2.2.2.1
  rw [h3, if_pos (by omega), show upM I (r + 5) (x.2.2.2.length : Int) (c : Int) r 3 = (x.2.2.2.length : Int) by rw [upM_ne (by omega)]; exact h3, show upM (upM I (r + 5) (x.2.2.2.length : Int) (c : Int)) (r + 6) (x.2.2.2.length : Int) (v : Int) r 3 = (x.2.2.2.length : Int) by rw [upM_ne (by omega), upM_ne (by omega)]; exact h3, w32_s (by omega)]
  refine ⟨⟨by omega, by omega⟩, ⟨by omega, by omega⟩, hQ _ (fun a p1 p2 p3 => by rw [upM_ne p1, upM_ne p3, upM_ne p2]) ⟨?_, ?_, ?_, ?_, fun k hk => ?_⟩⟩
  · rw [upM_i (by decide), upM_ne (by omega), upM_ne (by omega)]; exact hW.1
  · rw [upM_i (by decide), upM_ne (by omega), upM_ne (by omega)]; exact hW.2.1
  · exact hW.2.2.1.fr (by rw [upM_ne (by omega), upM_ne (by omega), upM_ne (by omega)]) (by rw [upM_ne (by omega), upM_ne (by omega), upM_ne (by omega)])
  · rw [upM_same]; show _ = (((x.2.2.2 ++ [(c, v)]).length : Nat) : Int); rw [List.length_append]; rfl
  · have hk2 : k < x.2.2.2.length + 1 := by
      have : k < (x.2.2.2 ++ [(c, v)]).length := hk
      rw [List.length_append] at this; exact this
    show upM _ r 3 _ (r + 5) (k : Int) = (((x.2.2.2 ++ [(c, v)]).getD k (0, 0)).1 : Int) ∧ upM _ r 3 _ (r + 6) (k : Int) = (((x.2.2.2 ++ [(c, v)]).getD k (0, 0)).2 : Int)
    rw [upM_ne (a := r) (b := r + 5) (by omega), upM_ne (a := r) (b := r + 6) (by omega), upM_ne (a := r + 6) (b := r + 5) (by omega), getD_app]
    by_cases h : k < x.2.2.2.length
    · rw [if_pos h, upM_i (by omega), upM_i (by omega), upM_ne (by omega)]; exact hW.2.2.2.2 k h
    · rw [if_neg h, if_pos (by omega), show k = x.2.2.2.length by omega, upM_same, upM_same]
      exact ⟨rfl, rfl⟩
end XRd
