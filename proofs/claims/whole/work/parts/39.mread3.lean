-- ===== the reference reads a page =====
theorem whl_no {pg : List Int} {k : Nat} {s : PS} (h : rdP pg = (k, s)) (hs : ¬ s.1 = 6 ∨ ¬ k = pg.length) : whlB pg = false := by
  unfold whlB
  rw [h]
  rcases hs with hs | hs
  · rw [decide_eq_false (p := (k, s).2.1 = 6) hs, Bool.and_false]
  · rw [decide_eq_false (p := (k, s).1 = pg.length) hs]; rfl
section MRf
variable {L : Nat} {R : Nat → Int → Option Nat} {I : Nat → Int → Int} {J : Nat → Int → Int64} {Q : Option MV → MM → Prop} {pg : List Int}
/-- classes are read: broken; or as far as they go -/
def rcsQ (L : Nat) (R : Nat → Int → Option Nat) (J : Nat → Int → Int64) (I : Nat → Int → Int) (pg : List Int) (Q : Option MV → MM → Prop) : Prop := ∀ (I' : Nat → Int → Int) (k : Nat), frR I I' → I' 243 24 = I 243 24 → I' 243 21 = I 243 21 →
  ((I' 243 22 = 1 ∧ (rdP pg).1 = k ∧ whlB pg = false) ∨ (I' 243 22 = 0 ∧ ∃ (rs : List Nat) (r d l st : Nat), (st = 1 ∨ st = 2) ∧ RcM I' (rs ++ [r]) ∧ AtS pg k (st, (d, l), (rs, r), [], (0, 0, [], [])) ∧ okPS (st, (d, l), (rs, r), [], (0, 0, [], [])) ∧ (st = 1 → pg.getD k 0 - 48 < 0 ∨ 9 < pg.getD k 0 - 48) ∧ (pg.getD k 0 = 44 → 3 ≤ rs.length))) → Q (some (vI (k : Int))) (S0 L, R, I', J)
theorem brk_of {k : Nat} {pg : List Int} (h : (rdP pg).1 = k ∧ ¬ (rdP pg).2.1 = 6) : (rdP pg).1 = k ∧ whlB pg = false := by
  refine ⟨h.1, ?_⟩
  unfold whlB
  rw [decide_eq_false h.2, Bool.and_false]
theorem at_ok {pg : List Int} {k : Nat} {s s' : PS} (ho : okPS s) (h : AtS pg k s) (hk : k < pg.length) (hs : stp s (pg.getD k 0) = some s') : AtS pg (k + 1) s' ∧ okPS s' := ⟨h.st hk hs, stp_ok ho hs⟩
theorem stE_12 {st d l : Nat} {rs : List Nat} {r : Nat} {c : Int} (hst : st = 1 ∨ st = 2) (h1 : st = 1 → c - 48 < 0 ∨ 9 < c - 48) (hl : rs.length ≤ 3) : stp (st, (d, l), (rs, r), [], (0, 0, [], [])) c = stE (st, (d, l), (rs, r), [], (0, 0, [], [])) c := by
  rcases hst with rfl | rfl
  · show (if (d : Int) < c - 48 ∧ c - 48 < (rs.length : Int) then _ else stE _ c) = _
    rw [if_neg (by have := h1 rfl; omega)]
  · rfl
theorem rcs_loop (hw : wfP pg) : ∀ (n : Nat) {I : Nat → Int → Int} (k : Nat) (rs : List Nat) (r d l st : Nat), rs.length + n = 4 → PgM I pg → I 243 22 = 0 → (st = 1 ∨ st = 2) → RcM I (rs ++ [r]) → AtS pg k (st, (d, l), (rs, r), [], (0, 0, [], [])) → okPS (st, (d, l), (rs, r), [], (0, 0, [], [])) → (st = 1 → pg.getD k 0 - 48 < 0 ∨ 9 < pg.getD k 0 - 48) → rcsQ L R J I pg Q → wpc 55 6 [vR (some 243), vI (k : Int)] [] (0, 0) (S0 L, R, I, J) Q := by
  intro n
  induction n with
  | zero =>
    intro I k rs r d l st hn _ _ hst _ _ ho
    have := (ho.2.2.2.2.2.2.1 hst).1
    simp only at this
    omega
  | succ n ih =>
    intro I k rs r d l st hn hP hb hst hr hA ho h1 hQ
    have hl3 : rs.length ≤ 3 := (ho.2.2.2.2.2.2.1 hst).1
    have hlen : I 243 23 = ((rs.length + 1 : Nat) : Int) := by rw [hr.1, List.length_append]; rfl
    have hstop : (pg.getD k 0 = 44 → 3 ≤ rs.length) → Q (some (vI (k : Int))) (S0 L, R, I, J) := fun h => hQ I k frR.rf rfl rfl (Or.inr ⟨hb, rs, r, d, l, st, hst, hr, hA, ho, h1, h⟩)
    refine b_M_readClasses_6.mpr ?_
    rw [hb, if_pos rfl, hlen]
    by_cases h4 : rs.length + 1 < 4
    · rw [if_pos (by omega), k_at hw hP]
      refine b_M_readClasses_19.mpr ?_
      by_cases h44 : pg.getD k 0 = 44
      · have hk := pg_in (k := k) (pg := pg) (by omega)
        have h84 := hw.1
        rw [if_pos h44, w32_s (by omega)]
        have hs : stp (st, (d, l), (rs, r), [], (0, 0, [], [])) (pg.getD k 0) = some (0, (d, l), (rs ++ [r], 0), [], (0, 0, [], [])) := by
          rw [stE_12 hst h1 hl3]
          unfold stE
          rw [if_neg (by omega), if_pos ⟨h44, by show rs.length < 3; omega⟩]
        obtain ⟨hA2, ho2⟩ := at_ok ho hA hk hs
        refine k_readClass hw hP hr (by rw [List.length_append, List.length_singleton]; omega) hb hA2 (fun I' k' f1 g1 g1' h => ?_)
        refine b_M_readClasses_28.mpr ?_
        rcases h with ⟨g2, g3⟩ | ⟨g2, r', d', st', g3, g4, g5, g6, g7⟩
        · refine b_M_readClasses_6.mpr ?_
          rw [g2, if_neg (by decide)]
          exact hQ I' k' f1 g1 g1' (Or.inl ⟨g2, brk_of g3⟩)
        · have ho3 : okPS (st', (d', l), (rs ++ [r], r'), [], (0, 0, [], [])) := by
            obtain ⟨o1, o2, o3, o4, o5, o6, o7, o8, o9, o10, o11, o12⟩ := ho2
            rcases g4 with rfl | rfl
            · exact ⟨by simp, o2, o3, o4, o5, by simp, fun _ => ⟨(o6 rfl).1, g3, rfl⟩, by simp, by simp, by simp, by simp, by simp⟩
            · exact ⟨by simp, o2, o3, o4, o5, by simp, fun _ => ⟨(o6 rfl).1, g3, rfl⟩, by simp, by simp, by simp, by simp, by simp⟩
          exact ih k' (rs ++ [r]) r' d' l st' (by rw [List.length_append, List.length_singleton]; omega) (hP.fr f1) g2 g4 g5 g6 ho3 g7 (fun I2 k2 f2 e2 e2' h2 => hQ I2 k2 (f1.tr f2) (by rw [e2, g1]) (by rw [e2', g1']) h2)
      · rw [if_neg h44]
        exact hstop (fun h => absurd h h44)
    · rw [if_neg (by omega)]
      exact hstop (fun _ => by omega)
theorem k_readClasses (hw : wfP pg) (hP : PgM I pg) (hb : I 243 22 = 0) (hc : I 243 23 = 0) (hQ : rcsQ L R J I pg Q) : wpC 55 [vR (some 243)] (S0 L, R, I, J) Q := by
  refine c_M_readClasses.mpr ?_
  refine k_readClass (from' := 0) (d := 0) (l := 0) (rs := []) hw hP ⟨hc, fun c hc => absurd hc (by simp)⟩ (by simp) hb (at_ini pg) (fun I' k' f1 g1 g1' h => ?_)
  refine b_M_readClasses_4.mpr ?_
  rcases h with ⟨g2, g3⟩ | ⟨g2, r', d', st', g3, g4, g5, g6, g7⟩
  · refine b_M_readClasses_6.mpr ?_
    rw [g2, if_neg (by decide)]
    exact hQ I' k' f1 g1 g1' (Or.inl ⟨g2, brk_of g3⟩)
  · have ho3 : okPS (st', (d', 0), ([], r'), [], (0, 0, [], [])) := by
      rcases g4 with rfl | rfl
      · exact ⟨by simp, by simp, by simp, by simp, by simp, by simp, fun _ => ⟨by simp, g3, rfl⟩, by simp, by simp, by simp, by simp, by simp⟩
      · exact ⟨by simp, by simp, by simp, by simp, by simp, by simp, fun _ => ⟨by simp, g3, rfl⟩, by simp, by simp, by simp, by simp, by simp⟩
    exact rcs_loop hw 4 k' [] r' d' 0 st' (by simp) (hP.fr f1) g2 g4 g5 g6 ho3 g7 (fun I2 k2 f2 e2 e2' h2 => hQ I2 k2 (f1.tr f2) (by rw [e2, g1]) (by rw [e2', g1']) h2)
theorem wnt_sg (c : Int) : wnt c = if sg c = -1 then -1 else (pts (sg c).toNat : Int) := by
  unfold wnt
  by_cases h1 : c = 98
  · subst h1; rfl
  by_cases h2 : c = 105
  · subst h2; rfl
  by_cases h3 : c = 108
  · subst h3; rfl
  by_cases h4 : c = 112
  · subst h4; rfl
  by_cases h5 : c = 120
  · subst h5; rfl
  by_cases h6 : c = 121
  · subst h6; rfl
  unfold sg
  rw [if_neg h1, if_neg h2, if_neg h3, if_neg h4, if_neg h5, if_neg h6, if_neg h2, if_neg h1, if_neg h3, if_neg h4, if_neg h5, if_neg h6, if_pos rfl]
theorem cd_sg {c : Int} (h : ¬ sg c = -1) : cd (sg c).toNat = c := by
  unfold sg at h ⊢
  by_cases h2 : c = 105
  · subst h2; rfl
  by_cases h1 : c = 98
  · subst h1; rfl
  by_cases h3 : c = 108
  · subst h3; rfl
  by_cases h4 : c = 112
  · subst h4; rfl
  by_cases h5 : c = 120
  · subst h5; rfl
  by_cases h6 : c = 121
  · subst h6; rfl
  rw [if_neg h2, if_neg h1, if_neg h3, if_neg h4, if_neg h5, if_neg h6] at h
  exact absurd rfl h
/-- a head is read: broken; or the head -/
theorem rh_loop (hw : wfP pg) (hP : PgM I pg) {from' i d kd ow : Nat} {rs : List Nat} {r : Nat} {xs : List INS} (hi : i < 6) (hQb : ∀ k : Nat, (rdP pg).1 = k → whlB pg = false → Q (some (vI (k : Int))) (S0 L, R, upM I 243 22 1, J)) (hQ : ∀ h : List Nat, AtS pg (from' + h.length) (6, (d, 0), (rs, r), xs, (kd, ow, h, [])) → okPS (6, (d, 0), (rs, r), xs, (kd, ow, h, [])) → (∀ k, k < h.length → pg.getD (from' + k) 0 = cd (h.getD k 0)) → Q (some (vI ((from' + h.length : Nat) : Int))) (S0 L, R, upM (upM I 263 (i : Int) (from' : Int)) 264 (i : Int) (h.length : Int), J)) : ∀ (n l : Nat) (h : List Nat), h.length + n = 5 → AtS pg (from' + h.length) (5, (d, l), (rs, r), xs, (kd, ow, h, [])) → okPS (5, (d, l), (rs, r), xs, (kd, ow, h, [])) → (∀ k, k < h.length → pg.getD (from' + k) 0 = cd (h.getD k 0)) → wpc 56 5 [vR (some 243), vI (from' : Int), vI (i : Int), vI ((from' + h.length : Nat) : Int), vI (l : Int), vU] [] (0, 0) (S0 L, R, I, J) Q := by
  have h84 := hw.1
  intro n
  induction n with
  | zero =>
    intro l h hn hA ho hh
    obtain ⟨_, _, _, p4, p5⟩ := ho.2.2.2.2.2.2.2.2.2.1 rfl
    simp only at p4 p5
    omega
  | succ n ih =>
    intro l h hn hA ho hh
    obtain ⟨_, _, _, p4, p5⟩ := ho.2.2.2.2.2.2.2.2.2.1 rfl
    simp only at p4 p5
    have hk5 := hA.1
    refine b_M_readHead_5.mpr ?_
    rw [if_neg (by omega), k_at hw hP]
    refine b_M_readHead_12.mpr ?_
    rw [k_wants, wnt_sg]
    refine b_M_readHead_14.mpr ?_
    have hbrk : (from' + h.length < pg.length → stp (5, (d, l), (rs, r), xs, (kd, ow, h, [])) (pg.getD (from' + h.length) 0) = none) → wpc 56 29 [vR (some 243), vU, vU, vI ((from' + h.length : Nat) : Int), vU, vU] [] (0, 0) (S0 L, R, I, J) Q := by
      intro hno
      have hrd := hA.no hno
      refine b_M_readHead_29.mpr ?_
      refine c_M_broken.mpr ?_
      refine b_M_readHead_33.mpr ?_
      exact hQb _ (by rw [hrd]) (whl_no hrd (Or.inl (by show ¬ 5 = 6; decide)))
    have hstp : ∀ c : Int, stp (5, (d, l), (rs, r), xs, (kd, ow, h, [])) c = (if sg c = -1 then none else if 5 < h.length + l + pts (sg c).toNat then none else some ((if l + pts (sg c).toNat = 1 then 6 else 5), (d, l + pts (sg c).toNat - 1), (rs, r), xs, (kd, ow, h ++ [(sg c).toNat], []))) := fun c => rfl
    have hsr := sg_r (pg.getD (from' + h.length) 0)
    by_cases hsg : sg (pg.getD (from' + h.length) 0) = -1
    · rw [if_pos hsg, if_pos rfl]
      exact hbrk (fun _ => by rw [hstp, if_pos hsg])
    · rw [if_neg hsg]
      have hpt := pts_le (sg (pg.getD (from' + h.length) 0)).toNat
      have hk : from' + h.length < pg.length := pg_in (fun h0 => hsg (by rw [h0]; rfl))
      rw [if_neg (by omega)]
      have e1 : w32 (w32 (w32 (((from' + h.length : Nat) : Int) - (from' : Int)) + (l : Int)) + (pts (sg (pg.getD (from' + h.length) 0)).toNat : Int)) = ((h.length + l + pts (sg (pg.getD (from' + h.length) 0)).toNat : Nat) : Int) := by
        rw [w32_eq (z := ((from' + h.length : Nat) : Int) - (from' : Int)) (by omega) (by omega), w32_eq (z := ((from' + h.length : Nat) : Int) - (from' : Int) + (l : Int)) (by omega) (by omega), w32_eq (by omega) (by omega)]
        omega
      rw [e1]
      by_cases h5 : 5 < h.length + l + pts (sg (pg.getD (from' + h.length) 0)).toNat
      · rw [if_neg (by omega)]
        exact hbrk (fun _ => by rw [hstp, if_neg hsg, if_pos h5])
      · rw [if_pos (by omega)]
        obtain ⟨hA2, ho2⟩ := at_ok ho hA hk (by rw [hstp, if_neg hsg, if_neg h5])
        have hh2 : ∀ k, k < (h ++ [(sg (pg.getD (from' + h.length) 0)).toNat]).length → pg.getD (from' + k) 0 = cd ((h ++ [(sg (pg.getD (from' + h.length) 0)).toNat]).getD k 0) := by
          intro k hk
          rw [List.length_append, List.length_singleton] at hk
          rw [getD_app]
          by_cases hkl : k < h.length
          · rw [if_pos hkl]; exact hh k hkl
          · rw [if_neg hkl, if_pos (by omega), show k = h.length by omega, cd_sg hsg]
        have e2 : w32 (((from' + h.length : Nat) : Int) + 1) = ((from' + (h ++ [(sg (pg.getD (from' + h.length) 0)).toNat]).length : Nat) : Int) := by
          rw [List.length_append, List.length_singleton, w32_eq (by omega) (by omega)]; omega
        have e3 : w32 ((l : Int) + w32 ((pts (sg (pg.getD (from' + h.length) 0)).toNat : Int) - 1)) = ((l + pts (sg (pg.getD (from' + h.length) 0)).toNat - 1 : Nat) : Int) := by
          rw [w32_eq (z := (pts (sg (pg.getD (from' + h.length) 0)).toNat : Int) - 1) (by omega) (by omega), w32_eq (by omega) (by omega)]; omega
        rw [e2, e3]
        have hlen2 : from' + h.length + 1 = from' + (h ++ [(sg (pg.getD (from' + h.length) 0)).toNat]).length := by rw [List.length_append, List.length_singleton]; omega
        rw [hlen2] at hA2
        by_cases hl1 : l + pts (sg (pg.getD (from' + h.length) 0)).toNat = 1
        · rw [if_pos hl1] at hA2 ho2
          rw [show l + pts (sg (pg.getD (from' + h.length) 0)).toNat - 1 = 0 by omega] at hA2 ho2 ⊢
          refine b_M_readHead_5.mpr ?_
          rw [if_pos (by decide)]
          refine ⟨⟨by omega, by omega⟩, ⟨by omega, by omega⟩, ?_⟩
          have e4 : w32 (((from' + (h ++ [(sg (pg.getD (from' + h.length) 0)).toNat]).length : Nat) : Int) - (from' : Int)) = ((h ++ [(sg (pg.getD (from' + h.length) 0)).toNat]).length : Int) := by
            rw [List.length_append, List.length_singleton, w32_eq (by omega) (by omega)]; omega
          rw [e4]
          exact hQ _ hA2 ho2 hh2
        · rw [if_neg hl1] at hA2 ho2
          exact ih _ _ (by rw [List.length_append, List.length_singleton]; omega) hA2 ho2 hh2
theorem k_readHead (hw : wfP pg) (hP : PgM I pg) {from' i d kd ow : Nat} {rs : List Nat} {r : Nat} {xs : List INS} (hi : i < 6) (hA : AtS pg from' (5, (d, 1), (rs, r), xs, (kd, ow, [], []))) (ho : okPS (5, (d, 1), (rs, r), xs, (kd, ow, [], []))) (hQb : ∀ k : Nat, (rdP pg).1 = k → whlB pg = false → Q (some (vI (k : Int))) (S0 L, R, upM I 243 22 1, J)) (hQ : ∀ h : List Nat, AtS pg (from' + h.length) (6, (d, 0), (rs, r), xs, (kd, ow, h, [])) → okPS (6, (d, 0), (rs, r), xs, (kd, ow, h, [])) → (∀ k, k < h.length → pg.getD (from' + k) 0 = cd (h.getD k 0)) → Q (some (vI ((from' + h.length : Nat) : Int))) (S0 L, R, upM (upM I 263 (i : Int) (from' : Int)) 264 (i : Int) (h.length : Int), J)) : wpC 56 [vR (some 243), vI (from' : Int), vI (i : Int)] (S0 L, R, I, J) Q :=
  c_M_readHead.mpr (rh_loop hw hP hi hQb hQ 5 1 [] rfl hA ho (fun k hk => absurd hk (by simp)))
/-- the head of an instance that is being read -/
def NhM (I : Nat → Int → Int) (pg : List Int) (i : Nat) (h : List Nat) : Prop := I 264 (i : Int) = (h.length : Int) ∧ ∃ hp : Nat, I 263 (i : Int) = (hp : Int) ∧ hp + h.length ≤ pg.length ∧ ∀ k, k < h.length → pg.getD (hp + k) 0 = cd (h.getD k 0)
def inH (h : List Nat) (s : Nat) : Nat → Bool
  | 0 => false
  | k + 1 => inH h s k || decide (h.getD k 0 = s)
theorem inH_mem {h : List Nat} {s : Nat} : inH h s h.length = true ↔ s ∈ h := by
  have key : ∀ n, inH h s n = true ↔ ∃ k, k < n ∧ h.getD k 0 = s := by
    intro n
    induction n with
    | zero => exact ⟨fun h => absurd h (by unfold inH; decide), fun ⟨k, hk, _⟩ => by omega⟩
    | succ n ih =>
      show (inH h s n || decide (h.getD n 0 = s)) = true ↔ _
      rw [Bool.or_eq_true, ih, decide_eq_true_eq]
      constructor
      · rintro (⟨k, h1, h2⟩ | h1)
        · exact ⟨k, by omega, h2⟩
        · exact ⟨n, by omega, h1⟩
      · rintro ⟨k, h1, h2⟩
        by_cases hk : k = n
        · exact Or.inr (by rw [← hk]; exact h2)
        · exact Or.inl ⟨k, by omega, h2⟩
  rw [key]
  constructor
  · rintro ⟨k, h1, h2⟩
    rw [List.getD_eq_getElem?_getD, List.getElem?_eq_getElem h1] at h2
    rw [← h2]
    exact List.getElem_mem _
  · intro hm
    obtain ⟨k, hk, he⟩ := List.getElem_of_mem hm
    exact ⟨k, hk, by rw [List.getD_eq_getElem?_getD, List.getElem?_eq_getElem hk]; exact he⟩
theorem ih_loop (hw : wfP pg) (hP : PgM I pg) {i s : Nat} {h : List Nat} (hi : i < 6) (hh : wfN h 1 = true) (hs : s < 6) (hN : NhM I pg i h) (hQ : Q (some (vI (bi (s ∈ h)))) (S0 L, R, I, J)) : ∀ d k : Nat, d + k = h.length → wpc 57 5 [vR (some 243), vI (i : Int), vI (cd s), vI (bi (inH h s k = true)), vI (k : Int)] [] (0, 0) (S0 L, R, I, J) Q := by
  obtain ⟨n1, hp, n2, n3, n4⟩ := hN
  have h84 := hw.1
  intro d
  induction d with
  | zero =>
    intro k hk
    refine b_M_isInHead_5.mpr ⟨⟨by omega, by omega⟩, ?_⟩
    rw [n1, if_neg (by omega), show k = h.length by omega, bi_cong inH_mem]
    exact ⟨bi_01, hQ⟩
  | succ d ih =>
    intro k hk
    have h2 := ih (k + 1) (by omega)
    have e0 : inH h s (k + 1) = (inH h s k || decide (h.getD k 0 = s)) := rfl
    rw [e0] at h2
    refine b_M_isInHead_5.mpr ⟨⟨by omega, by omega⟩, ?_⟩
    rw [n1, if_pos (by omega), w32_s (by omega)]
    by_cases hb : inH h s k = true
    · rw [if_neg (fun q => bi_0.mp q hb)]
      rw [bi_t (by rw [hb]; rfl)] at h2; exact h2
    · rw [if_pos (bi_0.mpr hb), n2]
      refine ⟨⟨by omega, by omega⟩, ?_⟩
      have e1 : w32 ((hp : Int) + (k : Int)) = ((hp + k : Nat) : Int) := by rw [w32_eq (by omega) (by omega)]; omega
      rw [e1, k_at hw hP, n4 k (by omega)]
      refine b_M_isInHead_24.mpr ?_
      rw [w32_s (by omega)]
      rw [Bool.eq_false_iff.mpr hb, Bool.false_or] at h2
      have h6 := wf_lt6 hh (p := k) (by omega)
      by_cases he : h.getD k 0 = s
      · rw [if_pos (by rw [he])]
        rw [bi_t (decide_eq_true he)] at h2; exact h2
      · rw [if_neg (fun q => he ((cd_inj h6 hs).mp q))]
        rw [bi_f (by rw [decide_eq_false he]; decide)] at h2; exact h2
theorem k_isInHead (hw : wfP pg) (hP : PgM I pg) {i s : Nat} {h : List Nat} (hi : i < 6) (hh : wfN h 1 = true) (hs : s < 6) (hN : NhM I pg i h) (hQ : Q (some (vI (bi (s ∈ h)))) (S0 L, R, I, J)) : wpC 57 [vR (some 243), vI (i : Int), vI (cd s)] (S0 L, R, I, J) Q := by
  refine c_M_isInHead.mpr ?_
  have := ih_loop hw hP hi hh hs hN hQ h.length 0 (by omega)
  rw [bi_f (by unfold inH; decide)] at this
  exact this
end MRf
