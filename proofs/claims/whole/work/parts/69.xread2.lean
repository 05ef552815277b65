-- ===== the class reads a page, letter by letter =====
def acQ (L : Nat) (R : Nat → Int → Option Nat) (I : Nat → Int → Int) (J : Nat → Int → Int64) (b : Nat) (o : Option PS) (Q : Option MV → MM → Prop) : Prop := ∀ R' I', frB b R R' I I' → (match o with
  | none => Q (some (vI 0)) (S0 L, R', I', J)
  | some s' => RdX R' I' b s' → Q (some (vI 1)) (S0 L, R', I', J))
section XRe
variable {L : Nat} {R : Nat → Int → Option Nat} {I : Nat → Int → Int} {J : Nat → Int → Int64} {Q : Option MV → MM → Prop} {b : Nat}
theorem acQ.no {o : Option PS} {R' : Nat → Int → Option Nat} {I' : Nat → Int → Int} (h : acQ L R I J b o Q) (hs : o = none) (f : frB b R R' I I') : Q (some (vI 0)) (S0 L, R', I', J) := by
  subst hs
  exact h R' I' f
theorem acQ.yes {o : Option PS} {s' : PS} {R' : Nat → Int → Option Nat} {I' : Nat → Int → Int} (h : acQ L R I J b o Q) (hs : o = some s') (f : frB b R R' I I') (hr : RdX R' I' b s') : Q (some (vI 1)) (S0 L, R', I', J) := by
  subst hs
  exact h R' I' f hr
theorem fr105 {i z : Int} : frB b R R I (upM I 105 i z) := ⟨fun _ _ => rfl, fun a p _ => upM_ne p⟩
theorem x_classEnd {st dg lk r : Nat} {rs : List Nat} {xs : List INS} {x : INS} {c : Int} (hb : isBk b) (hb3 : b + 50 ≤ 105) (hst : st = 1 ∨ st = 2) (h : RdX R I b (st, (dg, lk), (rs, r), xs, x)) (h6 : xs.length ≤ 6) (hQ : acQ L R I J b (stE (st, (dg, lk), (rs, r), xs, x) c) Q) : wpC 192 [vR (some 105), vI c] (S0 L, R, I, J) Q := by
  obtain ⟨p1, ⟨ru, p2, p3, _⟩, p4, p5, p6, p7, p8, p9, p10⟩ := h
  have e1 : clS (st, (dg, lk), (rs, r), xs, x) = rs ++ [r] := if_pos hst
  have e2 : inS (st, (dg, lk), (rs, r), xs, x) = xs := if_neg (by show ¬ 4 ≤ st; omega)
  rw [e1] at p7
  rw [e2] at p8
  have hl : I b 0 = ((rs.length + 1 : Nat) : Int) := by rw [p7.1, List.length_append]; rfl
  refine (c_Reader_acceptsClassEnd p1 hb).mpr ?_
  rw [hl]
  have hnew : ∀ z : Nat, z = 3 ∨ z = 0 → RdX R (upM I 105 2 (z : Int)) b (z, (dg, lk), (rs ++ [r], 0), xs, x) := by
    intro z hz
    refine ⟨p1, ⟨ru, p2, p3, fun q => ?_⟩, upM_same, fun q => ?_, fun q => ?_, ?_, ?_, fun q => ?_, fun q => ?_⟩
    · have : 4 ≤ z := q
      omega
    · have : z = 1 ∨ z = 7 := q
      omega
    · have : z = 5 := q
      omega
    · have : clS (z, (dg, lk), (rs ++ [r], 0), xs, x) = rs ++ [r] := if_neg (by show ¬ (z = 1 ∨ z = 2); omega)
      rw [this]
      exact p7.fr (by rw [upM_ne (by omega)]) (upM_ne (by omega))
    · have : inS (z, (dg, lk), (rs ++ [r], 0), xs, x) = xs := if_neg (by show ¬ 4 ≤ z; omega)
      rw [this]
      exact p8.fr h6 (by rw [upM_ne (by omega)]) (fun a _ _ => upM_ne (by omega))
    · have : z = 4 := q
      omega
    · have : z = 4 ∨ z = 5 := q
      omega
  by_cases h1 : c = 59
  · rw [if_pos h1]
    exact hQ.yes (if_pos h1) fr105 (hnew 3 (Or.inl rfl))
  · rw [if_neg h1]
    by_cases h2 : c = 44
    · rw [if_pos h2]
      by_cases h3 : rs.length < 3
      · rw [if_pos (by omega)]
        refine hQ.yes (s' := (0, (dg, lk), (rs ++ [r], 0), xs, x)) ?_ fr105 (hnew 0 (Or.inr rfl))
        show (if c = 59 then _ else if c = 44 ∧ rs.length < 3 then _ else _) = _
        rw [if_neg h1, if_pos ⟨h2, h3⟩]
      · rw [if_neg (by omega)]
        refine hQ.no ?_ frB.rf
        show (if c = 59 then _ else if c = 44 ∧ rs.length < 3 then _ else _) = _
        rw [if_neg h1, if_neg (fun q => h3 q.2)]
    · rw [if_neg h2]
      refine hQ.no ?_ frB.rf
      show (if c = 59 then _ else if c = 44 ∧ rs.length < 3 then _ else _) = _
      rw [if_neg h1, if_neg (fun q => h2 q.1)]
/-- a reading in one of the first states -/
theorem rd_lo {st dg lk r : Nat} {rs : List Nat} {xs : List INS} {x : INS} {ru : Nat} (h1 : R 105 0 = some b) (h2 : R 105 1 = some ru) (h3 : isRu ru) (hst : st < 4) (h4 : I 105 2 = (st : Int)) (h5 : st = 1 → I 105 3 = (dg : Int)) (h7 : ClL I b (if st = 1 ∨ st = 2 then rs ++ [r] else rs)) (h8 : InL I b xs) : RdX R I b (st, (dg, lk), (rs, r), xs, x) := by
  refine ⟨h1, ⟨ru, h2, h3, fun q => ?_⟩, h4, fun q => ?_, fun q => ?_, h7, ?_, fun q => ?_, fun q => ?_⟩
  · have : 4 ≤ st := q
    omega
  · have : st = 1 ∨ st = 7 := q
    exact h5 (by omega)
  · have : st = 5 := q
    omega
  · have : inS (st, (dg, lk), (rs, r), xs, x) = xs := if_neg (by show ¬ 4 ≤ st; omega)
    rw [this]; exact h8
  · have : st = 4 := q
    omega
  · have : st = 4 ∨ st = 5 := q
    omega
/-- a reading in one of the later states -/
theorem rd_hi {st dg lk r : Nat} {rs : List Nat} {xs : List INS} {x : INS} (h1 : R 105 0 = some b) (h2 : R 105 1 = some (b + 8 + 7 * xs.length)) (h3 : isRu (b + 8 + 7 * xs.length)) (hst : 4 ≤ st) (h4 : I 105 2 = (st : Int)) (h5 : st = 7 → I 105 3 = (dg : Int)) (h6 : st = 5 → I 105 4 = (lk : Int)) (h7 : ClL I b rs) (h8 : InL I b (xs ++ [x])) (h9 : st = 4 → x.2.2.1 = []) (h10 : st = 4 ∨ st = 5 → x.2.2.2 = []) : RdX R I b (st, (dg, lk), (rs, r), xs, x) := by
  refine ⟨h1, ⟨_, h2, h3, fun _ => rfl⟩, h4, fun q => ?_, h6, ?_, ?_, h9, h10⟩
  · have : st = 1 ∨ st = 7 := q
    exact h5 (by omega)
  · have : clS (st, (dg, lk), (rs, r), xs, x) = rs := if_neg (by show ¬ (st = 1 ∨ st = 2); omega)
    rw [this]; exact h7
  · have : inS (st, (dg, lk), (rs, r), xs, x) = xs ++ [x] := if_pos (by show 4 ≤ st; omega)
    rw [this]; exact h8
theorem rd_hi_of {st dg lk r : Nat} {rs : List Nat} {xs : List INS} {x : INS} (h : RdX R I b (st, (dg, lk), (rs, r), xs, x)) (hst : 4 ≤ st) : R 105 0 = some b ∧ R 105 1 = some (b + 8 + 7 * xs.length) ∧ isRu (b + 8 + 7 * xs.length) ∧ I 105 2 = (st : Int) ∧ (st = 7 → I 105 3 = (dg : Int)) ∧ (st = 5 → I 105 4 = (lk : Int)) ∧ ClL I b rs ∧ InL I b (xs ++ [x]) ∧ (st = 4 → x.2.2.1 = []) ∧ (st = 4 ∨ st = 5 → x.2.2.2 = []) := by
  obtain ⟨p1, ⟨ru, p2, p3, pe⟩, p4, p5, p6, p7, p8, p9, p10⟩ := h
  have hru : ru = b + 8 + 7 * xs.length := pe hst
  subst hru
  have e1 : clS (st, (dg, lk), (rs, r), xs, x) = rs := if_neg (by show ¬ (st = 1 ∨ st = 2); omega)
  have e2 : inS (st, (dg, lk), (rs, r), xs, x) = xs ++ [x] := if_pos hst
  rw [e1] at p7
  rw [e2] at p8
  exact ⟨p1, p2, p3, p4, fun q => p5 (Or.inr q), p6, p7, p8, p9, p10⟩
theorem d48 {c : Int} (hc : 0 ≤ c ∧ c ≤ 126) : w32 (c - 48) = c - 48 := w32_eq (by omega) (by omega)
theorem x_ac0 {dg lk r : Nat} {rs : List Nat} {xs : List INS} {x : INS} {c : Int} (hb : isBk b) (hb3 : b + 50 ≤ 105) (hc : 0 ≤ c ∧ c ≤ 126) (h : RdX R I b (0, (dg, lk), (rs, r), xs, x)) (h3 : rs.length ≤ 3) (h6 : xs.length ≤ 6) (hQ : acQ L R I J b (stp (0, (dg, lk), (rs, r), xs, x) c) Q) : wpC 190 [vR (some 105), vI c] (S0 L, R, I, J) Q := by
  obtain ⟨p1, ⟨ru, p2, p3, _⟩, p4, p5, p6, p7, p8, p9, p10⟩ := h
  have e1 : clS (0, (dg, lk), (rs, r), xs, x) = rs := if_neg (by show ¬ ((0 : Nat) = 1 ∨ (0 : Nat) = 2); omega)
  have e2 : inS (0, (dg, lk), (rs, r), xs, x) = xs := if_neg (by show ¬ 4 ≤ (0 : Nat); omega)
  rw [e1] at p7
  rw [e2] at p8
  refine (c_Reader_acceptsClass p1 hb).mpr ?_
  have hS : stp (0, (dg, lk), (rs, r), xs, x) c = if c = 45 then some (2, (dg, lk), (rs, 0), xs, x) else if 48 ≤ c ∧ c - 48 < (rs.length : Int) then some (1, ((c - 48).toNat, lk), (rs, 2 ^ (c - 48).toNat), xs, x) else none := rfl
  rw [d48 hc]
  by_cases h1 : c = 45
  · rw [if_pos h1]
    refine x_addClass hb p7 (by omega) (fun I1 f1 q1 c1 => ?_)
    refine b_Reader_acceptsClass_8.mpr ?_
    refine hQ.yes (s' := (2, (dg, lk), (rs, 0), xs, x)) (by rw [hS, if_pos h1]) ⟨fun _ _ => rfl, fun a p q => by rw [upM_ne p, f1 a (by omega) (by omega)]⟩ ?_
    refine rd_lo p1 p2 p3 (by decide) upM_same (fun q => absurd q (by decide)) ?_ ?_
    · rw [if_pos (Or.inr rfl)]; exact c1.fr (by rw [upM_ne (by omega)]) (upM_ne (by omega))
    · exact p8.fr h6 (by rw [upM_ne (by omega), q1 4 (by decide)]) (fun a s1 s2 => by rw [upM_ne (by omega), f1 a (by omega) (by omega)])
  · rw [if_neg h1, upM_same, upM_ne (a := 105) (b := b) (by omega), p7.1]
    by_cases h2 : c - 48 < 0
    · rw [if_pos h2]
      refine hQ.no ?_ fr105
      rw [hS, if_neg h1, if_neg (by omega)]
    · rw [if_neg h2]
      by_cases h4 : c - 48 < (rs.length : Int)
      · rw [if_pos h4]
        refine x_addClass (cs := rs) hb (p7.fr (by rw [upM_ne (by omega)]) (upM_ne (by omega))) (by omega) (fun I1 f1 q1 c1 => ?_)
        refine (b_Reader_acceptsClass_37 p1 hb).mpr ?_
        obtain ⟨k, hk⟩ := nat_of (show 0 ≤ c - 48 by omega)
        have hk2 : (c - 48).toNat = k := by omega
        have i3 : I1 105 3 = (k : Int) := by rw [f1 105 (by omega) (by omega), upM_same, hk]
        rw [i3]
        refine x_addRight hb c1 (by omega) (by decide) (by omega) (fun I2 f2 c2 => ?_)
        refine b_Reader_acceptsClass_43.mpr ?_
        refine hQ.yes (s' := (1, (k, lk), (rs, 2 ^ k), xs, x)) (by rw [hS, if_neg h1, if_pos ⟨by omega, h4⟩, hk2]) ⟨fun _ _ => rfl, fun a p q => by rw [upM_ne p, f2 a (by omega), f1 a (by omega) (by omega), upM_ne p]⟩ ?_
        rw [Nat.zero_or] at c2
        refine rd_lo p1 p2 p3 (by decide) upM_same (fun _ => by rw [upM_i (by decide), f2 105 (by omega)]; exact i3) ?_ ?_
        · rw [if_pos (Or.inl rfl)]; exact c2.fr (by rw [upM_ne (by omega)]) (upM_ne (by omega))
        · exact p8.fr h6 (by rw [upM_ne (by omega), f2 b (by omega), q1 4 (by decide), upM_ne (by omega)]) (fun a s1 s2 => by rw [upM_ne (by omega), f2 a (by omega), f1 a (by omega) (by omega), upM_ne (by omega)])
      · rw [if_neg h4]
        refine hQ.no ?_ fr105
        rw [hS, if_neg h1, if_neg (by omega)]
theorem x_ac3 {dg lk r : Nat} {rs : List Nat} {xs : List INS} {x : INS} {c : Int} (hb : isBk b) (hb3 : b + 50 ≤ 105) (h : RdX R I b (3, (dg, lk), (rs, r), xs, x)) (h5 : xs.length ≤ 5) (hQ : acQ L R I J b (stp (3, (dg, lk), (rs, r), xs, x) c) Q) : wpC 193 [vR (some 105), vI c] (S0 L, R, I, J) Q := by
  obtain ⟨p1, ⟨ru, p2, p3, _⟩, p4, p5, p6, p7, p8, p9, p10⟩ := h
  have e1 : clS (3, (dg, lk), (rs, r), xs, x) = rs := if_neg (by show ¬ ((3 : Nat) = 1 ∨ (3 : Nat) = 2); omega)
  have e2 : inS (3, (dg, lk), (rs, r), xs, x) = xs := if_neg (by show ¬ 4 ≤ (3 : Nat); omega)
  rw [e1] at p7
  rw [e2] at p8
  have hS : stp (3, (dg, lk), (rs, r), xs, x) c = if kdF c = -1 then none else some (4, (dg, lk), (rs, r), xs, ((kdF c).toNat, 0, [], [])) := rfl
  refine c_Reader_acceptsKind.mpr ?_
  have hk0 : ∀ (Q1 : Option MV → MM → Prop), Q1 (some (vI (kdF c))) (S0 L, R, I, J) → wpC 194 [vI c] (S0 L, R, I, J) Q1 := by
    intro Q1 hq
    refine c_Reader_kindOf.mpr ?_
    unfold kdF at hq
    by_cases a1 : c = 100
    · rw [if_pos a1] at hq ⊢; exact hq
    rw [if_neg a1] at hq ⊢
    by_cases a2 : c = 102
    · rw [if_pos a2] at hq ⊢; exact hq
    rw [if_neg a2] at hq ⊢
    by_cases a3 : c = 104
    · rw [if_pos a3] at hq ⊢; exact hq
    rw [if_neg a3] at hq ⊢
    by_cases a4 : c = 110
    · rw [if_pos a4] at hq ⊢; exact hq
    rw [if_neg a4] at hq ⊢
    by_cases a5 : c = 115
    · rw [if_pos a5] at hq ⊢; exact hq
    rw [if_neg a5] at hq ⊢
    exact hq
  refine hk0 _ ?_
  refine (b_Reader_acceptsKind_3 (c1 := b) p1 hb (by rw [upM_i (by decide)]; exact p1) hb).mpr ?_
  by_cases hk : kdF c = -1
  · rw [if_pos hk]
    exact hQ.no (by rw [hS, if_pos hk]) frB.rf
  · rw [if_neg hk, p8.1, if_pos (by omega)]
    refine ⟨⟨by omega, by omega⟩, ?_⟩
    have hkr := kdF_r c
    obtain ⟨k, hkk⟩ := nat_of (show 0 ≤ kdF c by omega)
    have hk2 : (kdF c).toNat = k := by omega
    rw [hkk]
    refine x_addInstance hb p8 (by omega) (fun I1 f1 q1 i1 => ?_)
    refine b_Reader_acceptsKind_31.mpr ?_
    refine hQ.yes (s' := (4, (dg, lk), (rs, r), xs, (k, 0, [], []))) (by rw [hS, if_neg hk, hk2]) ⟨fun a p => upM_ne p, fun a p q => by rw [upM_ne p, f1 a (by omega) (by omega) (by omega)]⟩ ?_
    refine rd_hi (by rw [upM_i (by decide)]; exact p1) upM_same (ie_Bk5 hb (i := (xs.length : Int)) ⟨by omega, by omega⟩) (by decide) upM_same (fun q => absurd q (by decide)) (fun q => absurd q (by decide)) ?_ ?_ (fun _ => rfl) (fun _ => rfl)
    · exact p7.fr (by rw [upM_ne (by omega), q1 0 (by decide)]) (by rw [upM_ne (by omega), f1 _ (by omega) (by omega) (by omega)])
    · exact i1.fr (by rw [List.length_append, List.length_singleton]; omega) (by rw [upM_ne (by omega)]) (fun a _ _ => upM_ne (by omega))
theorem x_isClassDigit {rs : List Nat} {c : Int} (hb : isBk b) (hc : 0 ≤ c ∧ c ≤ 126) (h1 : R 105 0 = some b) (h0 : I b 0 = (rs.length : Int)) (hQ : Q (some (vI (bi (48 ≤ c ∧ c - 48 < (rs.length : Int))))) (S0 L, R, I, J)) : wpC 195 [vR (some 105), vI c] (S0 L, R, I, J) Q := by
  refine (c_Reader_isClassDigit h1 hb).mpr ?_
  rw [d48 hc, h0]
  by_cases a1 : c < 48
  · rw [if_pos a1]
    rw [bi_f (by omega)] at hQ
    exact hQ
  · rw [if_neg a1]
    by_cases a2 : c - 48 < (rs.length : Int)
    · rw [if_pos a2]
      rw [bi_t ⟨by omega, a2⟩] at hQ
      exact hQ
    · rw [if_neg a2]
      rw [bi_f (fun q => a2 q.2)] at hQ
      exact hQ
theorem x_ac4 {dg lk r : Nat} {rs : List Nat} {xs : List INS} {x : INS} {c : Int} (hb : isBk b) (hb3 : b + 50 ≤ 105) (hc : 0 ≤ c ∧ c ≤ 126) (h : RdX R I b (4, (dg, lk), (rs, r), xs, x)) (h5 : xs.length ≤ 5) (hQ : acQ L R I J b (stp (4, (dg, lk), (rs, r), xs, x) c) Q) : wpC 196 [vR (some 105), vI c] (S0 L, R, I, J) Q := by
  obtain ⟨p1, p2, p3, p4, p5, p6, p7, p8, p9, p10⟩ := rd_hi_of h (by decide)
  have hS : stp (4, (dg, lk), (rs, r), xs, x) c = if 48 ≤ c ∧ c - 48 < (rs.length : Int) then some (5, (dg, 1), (rs, r), xs, (x.1, (c - 48).toNat, [], [])) else none := rfl
  refine c_Reader_acceptsOwner.mpr ?_
  refine x_isClassDigit hb hc p1 p7.1 ?_
  refine (b_Reader_acceptsOwner_4 p2 p3).mpr ?_
  by_cases hd : 48 ≤ c ∧ c - 48 < (rs.length : Int)
  · rw [if_neg (fun q => bi_0.mp q hd), d48 hc]
    obtain ⟨k, hk⟩ := nat_of (show 0 ≤ c - 48 by omega)
    have hk2 : (c - 48).toNat = k := by omega
    rw [hk]
    have hx := p8.get
    have x1 := p9 rfl
    have x2 := p10 (Or.inl rfl)
    refine hQ.yes (s' := (5, (dg, 1), (rs, r), xs, (x.1, k, [], []))) (by rw [hS, if_pos hd, hk2]) ⟨fun _ _ => rfl, fun a p q => by rw [upM_ne p, upM_ne p, upM_ne (by omega)]⟩ ?_
    refine rd_hi p1 p2 p3 (by decide) upM_same (fun q => absurd q (by decide)) (fun _ => by rw [upM_i (by decide), upM_same]; rfl) ?_ ?_ (fun q => absurd q (by decide)) (fun _ => rfl)
    · exact p7.fr (by rw [upM_ne (by omega), upM_ne (by omega), upM_ne (by omega)]) (by rw [upM_ne (by omega), upM_ne (by omega), upM_ne (by omega)])
    · refine p8.set (by rw [upM_ne (by omega), upM_ne (by omega), upM_ne (by omega)]) (fun a q1 q2 => by rw [upM_ne (by omega), upM_ne (by omega), upM_ne (by omega)]) ⟨?_, ?_, ?_, ?_, fun k hk => absurd hk (by simp)⟩
      · rw [upM_ne (by omega), upM_ne (by omega), upM_i (by decide)]; exact hx.1
      · rw [upM_ne (by omega), upM_ne (by omega), upM_same]
      · have hw := hx.2.2.1
        rw [x1] at hw
        exact hw.fr (by rw [upM_ne (by omega), upM_ne (by omega), upM_ne (by omega)]) (by rw [upM_ne (by omega), upM_ne (by omega), upM_ne (by omega)])
      · have hw := hx.2.2.2.1
        rw [x2] at hw
        rw [upM_ne (by omega), upM_ne (by omega), upM_i (by decide)]; exact hw
  · rw [if_pos (bi_0.mpr hd)]
    exact hQ.no (by rw [hS, if_neg hd]) frB.rf
theorem x_ac5 {dg lk r : Nat} {rs : List Nat} {xs : List INS} {x : INS} {c : Int} (hb : isBk b) (hb2 : 2 < b) (hb3 : b + 50 ≤ 105) (hT : StI I) (h : RdX R I b (5, (dg, lk), (rs, r), xs, x)) (h5 : xs.length ≤ 5) (hl1 : 1 ≤ lk) (hl5 : x.2.2.1.length + lk ≤ 5) (hQ : acQ L R I J b (stp (5, (dg, lk), (rs, r), xs, x) c) Q) : wpC 197 [vR (some 105), vI c] (S0 L, R, I, J) Q := by
  obtain ⟨p1, p2, p3, p4, p5, p6, p7, p8, p9, p10⟩ := rd_hi_of h (by decide)
  have hS : stp (5, (dg, lk), (rs, r), xs, x) c = if sg c = -1 then none else if 5 < x.2.2.1.length + lk + pts (sg c).toNat then none else some ((if lk + pts (sg c).toNat = 1 then 6 else 5), (dg, lk + pts (sg c).toNat - 1), (rs, r), xs, (x.1, x.2.1, x.2.2.1 ++ [(sg c).toNat], [])) := rfl
  have hx := p8.get
  have hlk := p6 rfl
  have hsz : I (b + 8 + 7 * xs.length + 1) 3 = (x.2.2.1.length : Int) := hx.2.2.1.1
  have w1 : w32 ((x.2.2.1.length : Int) + (lk : Int)) = ((x.2.2.1.length + lk : Nat) : Int) := by rw [w32_eq (by omega) (by omega)]; omega
  refine c_Reader_acceptsHead.mpr ?_
  refine (x_signOf c).mpr ?_
  refine (b_Reader_acceptsHead_3 p2 p3).mpr ?_
  rw [hsz, hlk, w1]
  have hr := sg_r c
  by_cases hn : sg c = -1
  · rw [hn]
    refine x_partsOf_no.mpr ?_
    refine (b_Reader_acceptsHead_14 p2 p3).mpr ?_
    rw [if_pos rfl]
    exact hQ.no (by rw [hS, if_pos hn]) frB.rf
  · obtain ⟨g, hg⟩ := nat_of (show 0 ≤ sg c by omega)
    have hg2 : (sg c).toNat = g := by omega
    have hp := pts_le g
    rw [hg]
    refine (x_partsOf hT (by omega)).mpr ?_
    refine (b_Reader_acceptsHead_14 p2 p3).mpr ?_
    have w2 : w32 (((x.2.2.1.length + lk : Nat) : Int) + (pts g : Int)) = ((x.2.2.1.length + lk + pts g : Nat) : Int) := by rw [w32_eq (by omega) (by omega)]; omega
    rw [if_neg (by omega), w2]
    by_cases h6 : 5 < x.2.2.1.length + lk + pts g
    · rw [if_neg (by omega)]
      exact hQ.no (by rw [hS, if_neg hn, hg2, if_pos h6]) frB.rf
    · rw [if_pos (by omega)]
      refine x_add (is_Ru2 p3) hx.2.2.1 (by omega) (fun I1 f1 s1 => ?_)
      refine b_Reader_acceptsHead_33.mpr ?_
      refine (x_partsOf (hT.fr (f1 1 (by omega) (by omega)) (f1 2 (by omega) (by omega))) (by omega)).mpr ?_
      refine b_Reader_acceptsHead_39.mpr ?_
      have l1 : I1 105 4 = (lk : Int) := by rw [f1 105 (by omega) (by omega)]; exact hlk
      have w3 : w32 ((lk : Int) + w32 ((pts g : Int) - 1)) = ((lk + pts g - 1 : Nat) : Int) := by rw [w32_eq (z := (pts g : Int) - 1) (by omega) (by omega), w32_eq (by omega) (by omega)]; omega
      rw [l1, w3, upM_same]
      have x2 := p10 (Or.inr rfl)
      have hru : ∀ I2 : Nat → Int → Int, (∀ a, a ≠ 105 → I2 a = I1 a) → ClL I2 b rs ∧ InL I2 b (xs ++ [(x.1, x.2.1, x.2.2.1 ++ [g], [])]) := by
        intro I2 f2
        refine ⟨p7.fr (by rw [f2 b (by omega), f1 b (by omega) (by omega)]) (by rw [f2 _ (by omega), f1 _ (by omega) (by omega)]), p8.set (by rw [f2 b (by omega), f1 b (by omega) (by omega)]) (fun a q1 q2 => by rw [f2 a (by omega), f1 a (by omega) (by omega)]) ⟨?_, ?_, ?_, ?_, fun k hk => absurd hk (by simp)⟩⟩
        · rw [f2 _ (by omega), f1 _ (by omega) (by omega)]; exact hx.1
        · rw [f2 _ (by omega), f1 _ (by omega) (by omega)]; exact hx.2.1
        · exact s1.fr (by rw [f2 _ (by omega)]) (f2 _ (by omega))
        · have hw := hx.2.2.2.1
          rw [x2] at hw
          rw [f2 _ (by omega), f1 _ (by omega) (by omega)]; exact hw
      have hfr : ∀ I2 : Nat → Int → Int, (∀ a, a ≠ 105 → I2 a = I1 a) → frB b R R I I2 := fun I2 f2 => ⟨fun _ _ => rfl, fun a p q => by rw [f2 a p, f1 a (by omega) (by omega)]⟩
      by_cases h1 : lk + pts g = 1
      · rw [if_pos (by omega)]
        have f2 : ∀ a, a ≠ 105 → (upM (upM I1 105 4 ((lk + pts g - 1 : Nat) : Int)) 105 2 6) a = I1 a := fun a p => by rw [upM_ne p, upM_ne p]
        refine hQ.yes (s' := (6, (dg, lk + pts g - 1), (rs, r), xs, (x.1, x.2.1, x.2.2.1 ++ [g], []))) (by rw [hS, if_neg hn, hg2, if_neg h6, if_pos h1]) (hfr _ f2) ?_
        exact rd_hi p1 p2 p3 (by decide) upM_same (fun q => absurd q (by decide)) (fun q => absurd q (by decide)) (hru _ f2).1 (hru _ f2).2 (fun q => absurd q (by decide)) (fun _ => rfl)
      · rw [if_neg (by omega)]
        have f2 : ∀ a, a ≠ 105 → (upM I1 105 4 ((lk + pts g - 1 : Nat) : Int)) a = I1 a := fun a p => upM_ne p
        refine hQ.yes (s' := (5, (dg, lk + pts g - 1), (rs, r), xs, (x.1, x.2.1, x.2.2.1 ++ [g], []))) (by rw [hS, if_neg hn, hg2, if_neg h6, if_neg h1]) (hfr _ f2) ?_
        exact rd_hi p1 p2 p3 (by decide) (by rw [upM_i (by decide), f1 105 (by omega) (by omega)]; exact p4) (fun q => absurd q (by decide)) (fun _ => upM_same) (hru _ f2).1 (hru _ f2).2 (fun q => absurd q (by decide)) (fun _ => rfl)
end XRe
