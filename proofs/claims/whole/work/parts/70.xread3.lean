-- ===== the class reads a page: the last states; the whole page =====
section XRf
variable {L : Nat} {R : Nat → Int → Option Nat} {I : Nat → Int → Int} {J : Nat → Int → Int64} {Q : Option MV → MM → Prop} {b : Nat}
theorem acQ.bk {o : Option PS} (h : acQ L R I J b o Q) : acQ L R I J b o (fun v M2 => ∃ z : Int, (z = 0 ∨ z = 1) ∧ v = some (vI z) ∧ Q (some (vI z)) M2) := by
  intro R' I' f
  have := h R' I' f
  cases o with
  | none => exact ⟨0, Or.inl rfl, rfl, this⟩
  | some s' => exact fun hr => ⟨1, Or.inr rfl, rfl, this hr⟩
theorem x_ac1 {dg lk r : Nat} {rs : List Nat} {xs : List INS} {x : INS} {c : Int} (hb : isBk b) (hb3 : b + 50 ≤ 105) (hc : 0 ≤ c ∧ c ≤ 126) (h : RdX R I b (1, (dg, lk), (rs, r), xs, x)) (h3 : rs.length ≤ 3) (hr : r < 256) (h6 : xs.length ≤ 6) (hQ : acQ L R I J b (stp (1, (dg, lk), (rs, r), xs, x) c) Q) : wpC 191 [vR (some 105), vI c] (S0 L, R, I, J) (fun v M2 => wpc 189 25 [vR (some 105), vI c] (v.toList ++ []) (0, 0) M2 Q) := by
  have h0 := h
  obtain ⟨p1, ⟨ru, p2, p3, _⟩, p4, p5, p6, p7, p8, p9, p10⟩ := h
  have e1 : clS (1, (dg, lk), (rs, r), xs, x) = rs ++ [r] := if_pos (Or.inl rfl)
  have e2 : inS (1, (dg, lk), (rs, r), xs, x) = xs := if_neg (by show ¬ 4 ≤ (1 : Nat); omega)
  rw [e1] at p7
  rw [e2] at p8
  have hS : stp (1, (dg, lk), (rs, r), xs, x) c = if (dg : Int) < c - 48 ∧ c - 48 < (rs.length : Int) then some (2, (dg, lk), (rs, r ||| 2 ^ (c - 48).toNat), xs, x) else stE (1, (dg, lk), (rs, r), xs, x) c := rfl
  have hl : I b 0 = ((rs.length + 1 : Nat) : Int) := by rw [p7.1, List.length_append]; rfl
  have hdg : I 105 3 = (dg : Int) := p5 (Or.inl rfl)
  have hw : w32 (((rs.length + 1 : Nat) : Int) - 1) = (rs.length : Int) := by rw [w32_eq (by omega) (by omega)]; omega
  have hend : ¬ ((dg : Int) < c - 48 ∧ c - 48 < (rs.length : Int)) → wpc 189 25 [vR (some 105), vI c] [vI 0] (0, 0) (S0 L, R, I, J) Q := by
    intro hn
    refine b_Reader_accepts_25.mpr ?_
    rw [if_pos rfl]
    rw [hS, if_neg hn] at hQ
    refine x_classEnd hb hb3 (Or.inl rfl) h0 h6 (fun R' I' f => ?_)
    have h2 := hQ R' I' f
    cases ho : stE (1, (dg, lk), (rs, r), xs, x) c with
    | none =>
      rw [ho] at h2
      refine b_Reader_accepts_31.mpr ?_
      rw [if_pos rfl]; exact h2
    | some s' =>
      rw [ho] at h2
      intro hr
      refine b_Reader_accepts_31.mpr ?_
      rw [if_neg (by decide)]; exact h2 hr
  refine (c_Reader_acceptsSecondDigit p1 hb).mpr ?_
  rw [d48 hc, hdg, hl, hw]
  by_cases a1 : c - 48 ≤ (dg : Int)
  · rw [if_pos a1]
    exact hend (by omega)
  · rw [if_neg a1]
    by_cases a2 : c - 48 < (rs.length : Int)
    · rw [if_pos a2]
      obtain ⟨k, hk⟩ := nat_of (show 0 ≤ c - 48 by omega)
      have hk2 : (c - 48).toNat = k := by omega
      rw [hk]
      refine x_addRight hb p7 (by omega) hr (by omega) (fun I1 f1 c1 => ?_)
      refine b_Reader_acceptsSecondDigit_25.mpr ?_
      refine b_Reader_accepts_25.mpr ?_
      rw [if_neg (by decide)]
      refine hQ.yes (s' := (2, (dg, lk), (rs, r ||| 2 ^ k), xs, x)) (by rw [hS, if_pos ⟨by omega, a2⟩, hk2]) ⟨fun _ _ => rfl, fun a p q => by rw [upM_ne p, f1 a (by omega)]⟩ ?_
      refine rd_lo p1 p2 p3 (by decide) upM_same (fun q => absurd q (by decide)) ?_ ?_
      · rw [if_pos (Or.inr rfl)]; exact c1.fr (by rw [upM_ne (by omega)]) (upM_ne (by omega))
      · exact p8.fr h6 (by rw [upM_ne (by omega), f1 b (by omega)]) (fun a s1 s2 => by rw [upM_ne (by omega), f1 a (by omega)])
    · rw [if_neg a2]
      exact hend (fun q => a2 q.2)
theorem x_ac6 {dg lk r : Nat} {rs : List Nat} {xs : List INS} {x : INS} {c : Int} (hb : isBk b) (hb3 : b + 50 ≤ 105) (hc : 0 ≤ c ∧ c ≤ 126) (h : RdX R I b (6, (dg, lk), (rs, r), xs, x)) (h5 : xs.length ≤ 5) (hh : wfN x.2.2.1 1 = true) (hl : x.2.2.1.length ≤ 5) (hQ : acQ L R I J b (stp (6, (dg, lk), (rs, r), xs, x) c) Q) : wpC 198 [vR (some 105), vI c] (S0 L, R, I, J) (fun v M2 => wpc 189 68 [vR (some 105), vI c] (v.toList ++ []) (0, 0) M2 Q) := by
  obtain ⟨p1, p2, p3, p4, p5, p6, p7, p8, p9, p10⟩ := rd_hi_of h (by decide)
  have hS : stp (6, (dg, lk), (rs, r), xs, x) c = if 48 ≤ c ∧ c - 48 < (rs.length : Int) ∧ x.2.2.2.length < 2 ∧ (4 ∈ x.2.2.1 ∨ 5 ∈ x.2.2.1) then some (7, ((c - 48).toNat, lk), (rs, r), xs, x) else if c = 44 ∧ xs.length < 5 then some (3, (dg, lk), (rs, r), xs ++ [x], (0, 0, [], [])) else none := rfl
  have hx := p8.get
  have h4 : I b 4 = ((xs.length + 1 : Nat) : Int) := by rw [p8.1, List.length_append]; rfl
  have hnext : ¬ (48 ≤ c ∧ c - 48 < (rs.length : Int) ∧ x.2.2.2.length < 2 ∧ (4 ∈ x.2.2.1 ∨ 5 ∈ x.2.2.1)) → wpc 189 68 [vR (some 105), vI c] [vI 0] (0, 0) (S0 L, R, I, J) Q := by
    intro hn
    refine b_Reader_accepts_68.mpr ?_
    rw [if_pos rfl]
    refine (c_Reader_acceptsNext p1 hb).mpr ?_
    rw [h4]
    by_cases a1 : c = 44
    · rw [if_pos a1]
      by_cases a2 : xs.length < 5
      · rw [if_pos (by omega)]
        refine b_Reader_accepts_74.mpr ?_
        rw [if_neg (by decide)]
        refine hQ.yes (s' := (3, (dg, lk), (rs, r), xs ++ [x], (0, 0, [], []))) (by rw [hS, if_neg hn, if_pos ⟨a1, a2⟩]) fr105 ?_
        refine rd_lo p1 p2 p3 (by decide) upM_same (fun q => absurd q (by decide)) ?_ ?_
        · rw [if_neg (by decide)]; exact p7.fr (by rw [upM_ne (by omega)]) (upM_ne (by omega))
        · exact p8.fr (by rw [List.length_append, List.length_singleton]; omega) (by rw [upM_ne (by omega)]) (fun a _ _ => upM_ne (by omega))
      · rw [if_neg (by omega)]
        refine b_Reader_accepts_74.mpr ?_
        rw [if_pos rfl]
        exact hQ.no (by rw [hS, if_neg hn, if_neg (fun q => a2 q.2)]) frB.rf
    · rw [if_neg a1]
      refine b_Reader_accepts_74.mpr ?_
      rw [if_pos rfl]
      exact hQ.no (by rw [hS, if_neg hn, if_neg (fun q => a1 q.1)]) frB.rf
  refine c_Reader_acceptsCondition.mpr ?_
  refine x_isClassDigit hb hc p1 p7.1 ?_
  refine (b_Reader_acceptsCondition_4 p2 p3).mpr ?_
  by_cases hd : 48 ≤ c ∧ c - 48 < (rs.length : Int)
  · rw [if_neg (fun q => bi_0.mp q hd)]
    refine x_hasRoom p3 hx hh hl ?_
    refine b_Reader_acceptsCondition_10.mpr ?_
    by_cases hm : x.2.2.2.length < 2 ∧ (4 ∈ x.2.2.1 ∨ 5 ∈ x.2.2.1)
    · rw [if_neg (fun q => bi_0.mp q hm), d48 hc]
      obtain ⟨k, hk⟩ := nat_of (show 0 ≤ c - 48 by omega)
      have hk2 : (c - 48).toNat = k := by omega
      rw [hk]
      refine b_Reader_accepts_68.mpr ?_
      rw [if_neg (by decide)]
      have f2 : ∀ a, a ≠ 105 → (upM (upM I 105 3 (k : Int)) 105 2 7) a = I a := fun a p => by rw [upM_ne p, upM_ne p]
      refine hQ.yes (s' := (7, (k, lk), (rs, r), xs, x)) (by rw [hS, if_pos ⟨hd.1, hd.2, hm⟩, hk2]) ⟨fun _ _ => rfl, fun a p _ => f2 a p⟩ ?_
      refine rd_hi p1 p2 p3 (by decide) upM_same (fun _ => by rw [upM_i (by decide), upM_same]) (fun q => absurd q (by decide)) (p7.fr (by rw [f2 b (by omega)]) (f2 _ (by omega))) (p8.fr (by rw [List.length_append, List.length_singleton]; omega) (by rw [f2 b (by omega)]) (fun a _ _ => f2 a (by omega))) (fun q => absurd q (by decide)) (fun q => absurd q (by decide))
    · rw [if_pos (bi_0.mpr hm)]
      exact hnext (fun q => hm q.2.2)
  · rw [if_pos (bi_0.mpr hd)]
    exact hnext (fun q => hd ⟨q.1, q.2.1⟩)
theorem x_ac7 {dg lk r : Nat} {rs : List Nat} {xs : List INS} {x : INS} {c : Int} (hb : isBk b) (hb3 : b + 50 ≤ 105) (h : RdX R I b (7, (dg, lk), (rs, r), xs, x)) (h5 : xs.length ≤ 5) (hh : wfN x.2.2.1 1 = true) (hl : x.2.2.1.length ≤ 5) (h2 : x.2.2.2.length < 2) (hQ : acQ L R I J b (stp (7, (dg, lk), (rs, r), xs, x) c) Q) : wpC 199 [vR (some 105), vI c] (S0 L, R, I, J) Q := by
  obtain ⟨p1, p2, p3, p4, p5, p6, p7, p8, p9, p10⟩ := rd_hi_of h (by decide)
  have hS : stp (7, (dg, lk), (rs, r), xs, x) c = if 4 ≤ sg c ∧ (sg c).toNat ∈ x.2.2.1 then some (6, (dg, lk), (rs, r), xs, (x.1, x.2.1, x.2.2.1, x.2.2.2 ++ [(dg, (sg c).toNat - 4)])) else none := rfl
  have hx := p8.get
  have h6 := ok6 (Or.inr ⟨hh, by omega⟩ : x.2.2.1 = [] ∨ _)
  have hr := sg_r c
  have hdg := p5 rfl
  refine c_Reader_acceptsGap.mpr ?_
  refine (x_signOf c).mpr ?_
  refine b_Reader_acceptsGap_3.mpr ?_
  refine (x_variableOf (by omega)).mpr ?_
  refine (b_Reader_acceptsGap_5 p2 p3).mpr ?_
  by_cases h4 : 4 ≤ sg c
  · obtain ⟨v, hv⟩ := nat_of (show 0 ≤ sg c - 4 by omega)
    have hvr : vrF (sg c) = (v : Int) := by unfold vrF; rw [if_neg (by omega)]; exact hv
    have hv2 : (sg c).toNat = v + 4 := by omega
    rw [hvr, if_neg (by omega)]
    refine x_hasVariable (is_Ru2 p3) (by omega) h6 (by omega) hx.2.2.1 ?_
    refine (b_Reader_acceptsGap_16 p2 p3).mpr ?_
    by_cases hm : v + 4 ∈ x.2.2.1
    · rw [if_neg (fun q => bi_0.mp q hm), hdg]
      refine x_addCondition p3 hx h2 (fun I1 f1 r1 => ?_)
      refine b_Reader_acceptsGap_28.mpr ?_
      have f2 : ∀ a, a ≠ 105 → a ≠ b + 8 + 7 * xs.length → a ≠ b + 8 + 7 * xs.length + 5 → a ≠ b + 8 + 7 * xs.length + 6 → (upM I1 105 2 6) a = I a := fun a q0 q1 q2 q3 => by rw [upM_ne q0, f1 a q1 q2 q3]
      refine hQ.yes (s' := (6, (dg, lk), (rs, r), xs, (x.1, x.2.1, x.2.2.1, x.2.2.2 ++ [(dg, v)]))) (by rw [hS, hv2, if_pos ⟨h4, hm⟩, show v + 4 - 4 = v by omega]) ⟨fun _ _ => rfl, fun a p q => f2 a p (by omega) (by omega) (by omega)⟩ ?_
      refine rd_hi p1 p2 p3 (by decide) upM_same (fun q => absurd q (by decide)) (fun q => absurd q (by decide)) (p7.fr (by rw [f2 b (by omega) (by omega) (by omega) (by omega)]) (f2 _ (by omega) (by omega) (by omega) (by omega))) (p8.set (by rw [f2 b (by omega) (by omega) (by omega) (by omega)]) (fun a q1 q2 => f2 a (by omega) (by omega) (by omega) (by omega)) (r1.fr (fun a q1 q2 => upM_ne (by omega)))) (fun q => absurd q (by decide)) (fun q => absurd q (by decide))
    · rw [if_pos (bi_0.mpr hm)]
      exact hQ.no (by rw [hS, hv2, if_neg (fun q => hm q.2)]) frB.rf
  · have hvr : vrF (sg c) = -1 := by unfold vrF; rw [if_pos (by omega)]
    rw [hvr, if_pos rfl]
    exact hQ.no (by rw [hS, if_neg (fun q => h4 q.1)]) frB.rf
/-- the answers that go straight through -/
theorem ac_thru {o : Option PS} {j : Nat} (hrow : ∀ {s0 : Int} {R' : Nat → Int → Option Nat} {I' : Nat → Int → Int}, wpc 189 j [vU, vU] [vI s0] (0, 0) (S0 L, R', I', J) Q ↔ (s0 = 0 ∨ s0 = 1) ∧ Q (some (vI s0)) (S0 L, R', I', J)) (hQ : acQ L R I J b o Q) : acQ L R I J b o (fun v M2 => wpc 189 j [vU, vU] (v.toList ++ []) (0, 0) M2 Q) := by
  intro R' I' f
  have h := hQ R' I' f
  cases o with
  | none => exact hrow.mpr ⟨Or.inl rfl, h⟩
  | some s' => exact fun hr => hrow.mpr ⟨Or.inr rfl, h hr⟩
theorem x_accepts {s : PS} {c : Int} (hb : isBk b) (hb2 : 2 < b) (hb3 : b + 50 ≤ 105) (hc : 0 ≤ c ∧ c ≤ 126) (hT : StI I) (ho : okPS s) (h : RdX R I b s) (hQ : acQ L R I J b (stp s c) Q) : wpC 189 [vR (some 105), vI c] (S0 L, R, I, J) Q := by
  obtain ⟨st, ⟨dg, lk⟩, ⟨rs, r⟩, xs, x⟩ := s
  obtain ⟨o1, o2, o3, o4, o5, o6, o7, o8, o9, o10, o11, o12⟩ := ho
  have h0 := h
  obtain ⟨p1, ⟨ru, p2, p3, _⟩, p4, _⟩ := h
  have o1' : st ≤ 7 := o1
  have o4' : xs.length ≤ 5 := o4
  have p4' : I 105 2 = (st : Int) := p4
  refine (c_Reader_accepts p1 hb p2 p3).mpr ?_
  rw [p4']
  rcases (show st = 0 ∨ st = 1 ∨ st = 2 ∨ st = 3 ∨ st = 4 ∨ st = 5 ∨ st = 6 ∨ st = 7 by omega) with e | e | e | e | e | e | e | e
  · subst e
    rw [if_pos (by decide)]
    exact x_ac0 hb hb3 hc h0 (o6 rfl).1 (by omega) (ac_thru (fun {s0 R' I'} => b_Reader_accepts_19) hQ)
  · subst e
    rw [if_neg (by decide), if_pos (by decide)]
    have hr : r < 2 ^ rs.length := (o7 (Or.inl rfl)).2.1
    have hl3 : rs.length ≤ 3 := (o7 (Or.inl rfl)).1
    exact x_ac1 hb hb3 hc h0 hl3 (pow16 (by omega) hr) (by omega) hQ
  · subst e
    rw [if_neg (by decide), if_neg (by decide), if_pos (by decide)]
    exact x_classEnd hb hb3 (Or.inr rfl) h0 (by omega) (ac_thru (fun {s0 R' I'} => b_Reader_accepts_44) hQ)
  · subst e
    rw [if_neg (by decide), if_neg (by decide), if_neg (by decide), if_pos (by decide)]
    exact x_ac3 hb hb3 h0 o4' (ac_thru (fun {s0 R' I'} => b_Reader_accepts_50) hQ)
  · subst e
    rw [if_neg (by decide), if_neg (by decide), if_neg (by decide), if_neg (by decide), if_pos (by decide)]
    exact x_ac4 hb hb3 hc h0 o4' (ac_thru (fun {s0 R' I'} => b_Reader_accepts_56) hQ)
  · subst e
    rw [if_neg (by decide), if_neg (by decide), if_neg (by decide), if_neg (by decide), if_neg (by decide), if_pos (by decide)]
    have hx := o10 rfl
    exact x_ac5 hb hb2 hb3 hT h0 o4' hx.2.2.2.1 hx.2.2.2.2 (ac_thru (fun {s0 R' I'} => b_Reader_accepts_62) hQ)
  · subst e
    rw [if_neg (by decide), if_neg (by decide), if_neg (by decide), if_neg (by decide), if_neg (by decide), if_neg (by decide), if_pos (by decide)]
    have hx := o11 rfl
    exact x_ac6 hb hb3 hc h0 o4' hx.2.2.1 hx.2.2.2.1 hQ
  · subst e
    rw [if_neg (by decide), if_neg (by decide), if_neg (by decide), if_neg (by decide), if_neg (by decide), if_neg (by decide), if_neg (by decide)]
    have hx := o12 rfl
    exact x_ac7 hb hb3 h0 o4' hx.1.2.2.1 hx.1.2.2.2.1 hx.2.2 (ac_thru (fun {s0 R' I'} => b_Reader_accepts_87) hQ)
/-- the class's page -/
def PgX (I : Nat → Int → Int) (pg : List Int) : Prop := I 3 1 = (pg.length : Int) ∧ ∀ k : Nat, k < pg.length → I 4 (k : Int) = pg.getD k 0
theorem PgX.fr {I' : Nat → Int → Int} {pg : List Int} (h : PgX I pg) (f1 : I' 3 1 = I 3 1) (f2 : I' 4 = I 4) : PgX I' pg := ⟨by rw [f1]; exact h.1, fun k hk => by rw [f2]; exact h.2 k hk⟩
theorem rp_loop {pg : List Int} (hb : isBk b) (hb2 : 4 < b) (hb3 : b + 50 ≤ 105) (hw : wfP pg) : ∀ (d k : Nat) (s : PS) {R : Nat → Int → Option Nat} {I : Nat → Int → Int}, d + k = pg.length → PgX I pg → StI I → okPS s → RdX R I b s → AtS pg k s → (∀ R' I', frB b R R' I I' → ((rdP pg).1 = pg.length → RdX R' I' b (rdP pg).2) → Q (some (vI ((rdP pg).1 : Int))) (S0 L, R', I', J)) → wpc 7 9 [vR (some 3), vI (k : Int)] [] (0, 0) (S0 L, R, I, J) Q := by
  intro d
  induction d with
  | zero =>
    intro k s R I hd hP hT ho hR hA hQ
    refine b_D_readPage_9.mpr ?_
    rw [hP.1, if_neg (by omega)]
    have he := hA.no (fun h => by omega)
    have := hQ R I frB.rf (fun _ => by rw [he]; exact hR)
    rw [he] at this
    rw [show pg.length = k by omega]
    exact this
  | succ d ih =>
    intro k s R I hd hP hT ho hR hA hQ
    have hk : k < pg.length := by omega
    have h84 := hw.1
    have hc := pg_r hw k
    refine b_D_readPage_9.mpr ?_
    rw [hP.1, if_pos (by omega), hP.2 k hk]
    refine ⟨⟨by omega, by omega⟩, ?_⟩
    refine x_accepts hb (by omega) hb3 hc hT ho hR (fun R' I' f => ?_)
    cases hs : stp s (pg.getD k 0) with
    | none =>
      refine b_D_readPage_22.mpr ?_
      rw [if_pos rfl]
      have he := hA.no (fun _ => hs)
      have := hQ R' I' f (fun q => by rw [he] at q; exact absurd q (by show ¬ k = _; omega))
      rw [he] at this
      exact this
    | some s' =>
      intro hr
      refine b_D_readPage_22.mpr ?_
      rw [if_neg (by decide), w32_s (by omega)]
      have ho' := at_ok ho hA hk hs
      exact ih (k + 1) s' (by omega) (hP.fr (by rw [f.2 3 (by decide) (by omega)]) (f.2 4 (by decide) (by omega))) (hT.fr (f.2 1 (by decide) (by omega)) (f.2 2 (by decide) (by omega))) ho'.2 hr ho'.1 (fun R2 I2 f2 => hQ R2 I2 (f.tr f2))
theorem x_readPage {pg : List Int} (hb : isBk b) (hb2 : 4 < b) (hb3 : b + 50 ≤ 105) (hw : wfP pg) (hd : R 3 3 = some b) (hP : PgX I pg) (hT : StI I) (hQ : ∀ R' I', frB b R R' I I' → ((rdP pg).1 = pg.length → RdX R' I' b (rdP pg).2) → Q (some (vI ((rdP pg).1 : Int))) (S0 L, R', I', J)) : wpC 7 [vR (some 3)] (S0 L, R, I, J) Q := by
  refine (c_D_readPage hd hb).mpr ?_
  refine (c_Reader_start (c0 := b) hb upM_same hb).mpr ?_
  refine (c_Book_clear hb).mpr ?_
  refine (b_Reader_start_7 (c0 := b) upM_same hb).mpr ?_
  refine b_D_readPage_6.mpr ?_
  have f1 : ∀ a, a ≠ 105 → a ≠ b → (upM (upM (upM I b 0 0) b 4 0) 105 2 0) a = I a := fun a p1 p2 => by rw [upM_ne p1, upM_ne p2, upM_ne p2]
  refine rp_loop (pg := pg) hb hb2 hb3 hw pg.length 0 ps0 (by omega) (hP.fr (by rw [f1 3 (by decide) (by omega)]) (f1 4 (by decide) (by omega))) (hT.fr (f1 1 (by decide) (by omega)) (f1 2 (by decide) (by omega))) ok_ps0 ?_ (at_ini pg) (fun R' I' f => hQ R' I' (frB.tr ⟨fun a p => by rw [upM_ne p, upM_ne p], fun a p q => f1 a p (by omega)⟩ f))
  have h0 : isRu (b + 8 + 7 * (0 : Int).toNat) := ie_Bk5 hb (i := 0) ⟨by decide, by decide⟩
  refine rd_lo (by rw [upM_i (by decide), upM_same]) upM_same h0 (by decide) upM_same (fun q => absurd q (by decide)) ?_ ?_
  · rw [if_neg (by decide)]
    exact ⟨by rw [upM_ne (by omega), upM_i (by decide), upM_same]; rfl, fun c hc => absurd hc (by simp)⟩
  · exact ⟨by rw [upM_ne (by omega), upM_same]; rfl, fun i hi => absurd hi (by simp)⟩
end XRf
