-- ===== how a page is read, letter by letter: a pure picture =====
/-- kind, class, head, conditions -/
abbrev INS : Type := Nat × Nat × List Nat × List (Nat × Nat)
/-- state; digit, lacking; classes that are read, the one being read; instances likewise -/
abbrev PS : Type := Nat × (Nat × Nat) × (List Nat × Nat) × List INS × INS
def kdF (c : Int) : Int := if c = 100 then 1 else if c = 102 then 3 else if c = 104 then 2 else if c = 110 then 0 else if c = 115 then 4 else -1
def stE (s : PS) (c : Int) : Option PS :=
  if c = 59 then some (3, s.2.1, (s.2.2.1.1 ++ [s.2.2.1.2], 0), s.2.2.2)
  else if c = 44 ∧ s.2.2.1.1.length < 3 then some (0, s.2.1, (s.2.2.1.1 ++ [s.2.2.1.2], 0), s.2.2.2)
  else none
def stp (s : PS) (c : Int) : Option PS := match s.1 with
  | 0 => if c = 45 then some (2, s.2.1, (s.2.2.1.1, 0), s.2.2.2)
    else if 48 ≤ c ∧ c - 48 < (s.2.2.1.1.length : Int) then some (1, ((c - 48).toNat, s.2.1.2), (s.2.2.1.1, 2 ^ (c - 48).toNat), s.2.2.2)
    else none
  | 1 => if (s.2.1.1 : Int) < c - 48 ∧ c - 48 < (s.2.2.1.1.length : Int) then some (2, s.2.1, (s.2.2.1.1, s.2.2.1.2 ||| 2 ^ (c - 48).toNat), s.2.2.2)
    else stE s c
  | 2 => stE s c
  | 3 => if kdF c = -1 then none else some (4, s.2.1, s.2.2.1, s.2.2.2.1, ((kdF c).toNat, 0, [], []))
  | 4 => if 48 ≤ c ∧ c - 48 < (s.2.2.1.1.length : Int) then some (5, (s.2.1.1, 1), s.2.2.1, s.2.2.2.1, (s.2.2.2.2.1, (c - 48).toNat, [], []))
    else none
  | 5 => if sg c = -1 then none
    else if 5 < s.2.2.2.2.2.2.1.length + s.2.1.2 + pts (sg c).toNat then none
    else some ((if s.2.1.2 + pts (sg c).toNat = 1 then 6 else 5), (s.2.1.1, s.2.1.2 + pts (sg c).toNat - 1), s.2.2.1, s.2.2.2.1, (s.2.2.2.2.1, s.2.2.2.2.2.1, s.2.2.2.2.2.2.1 ++ [(sg c).toNat], []))
  | 6 => if 48 ≤ c ∧ c - 48 < (s.2.2.1.1.length : Int) ∧ s.2.2.2.2.2.2.2.length < 2 ∧ (4 ∈ s.2.2.2.2.2.2.1 ∨ 5 ∈ s.2.2.2.2.2.2.1) then some (7, ((c - 48).toNat, s.2.1.2), s.2.2)
    else if c = 44 ∧ s.2.2.2.1.length < 5 then some (3, s.2.1, s.2.2.1, s.2.2.2.1 ++ [s.2.2.2.2], (0, 0, [], []))
    else none
  | _ => if 4 ≤ sg c ∧ (sg c).toNat ∈ s.2.2.2.2.2.2.1 then some (6, s.2.1, s.2.2.1, s.2.2.2.1, (s.2.2.2.2.1, s.2.2.2.2.2.1, s.2.2.2.2.2.2.1, s.2.2.2.2.2.2.2 ++ [(s.2.1.1, (sg c).toNat - 4)]))
    else none
def runP (s : PS) : List Int → Nat × PS
  | [] => (0, s)
  | c :: l => match stp s c with
    | none => (0, s)
    | some s' => ((runP s' l).1 + 1, (runP s' l).2)
def ps0 : PS := (0, (0, 0), ([], 0), [], (0, 0, [], []))
def rdP (pg : List Int) : Nat × PS := runP ps0 pg
/-- a page that is a whole book -/
def whlB (pg : List Int) : Bool := decide ((rdP pg).1 = pg.length) && decide ((rdP pg).2.1 = 6)
def wfP (pg : List Int) : Prop := pg.length ≤ 84 ∧ ∀ k, k < pg.length → 32 ≤ pg.getD k 0 ∧ pg.getD k 0 ≤ 126
/-- the reading is at a place, in a state -/
def AtS (pg : List Int) (k : Nat) (s : PS) : Prop := k ≤ pg.length ∧ rdP pg = (k + (runP s (pg.drop k)).1, (runP s (pg.drop k)).2)
theorem at_ini (pg : List Int) : AtS pg 0 ps0 := ⟨Nat.zero_le _, by rw [List.drop_zero, Nat.zero_add]; rfl⟩
theorem drop_getI {w : List Int} {p : Nat} (hp : p < w.length) : w.drop p = w.getD p 0 :: w.drop (p + 1) := by
  rw [List.drop_eq_getElem_cons hp, List.getD_eq_getElem?_getD, List.getElem?_eq_getElem hp]
  rfl
theorem AtS.st {pg : List Int} {k : Nat} {s s' : PS} (h : AtS pg k s) (hk : k < pg.length) (hs : stp s (pg.getD k 0) = some s') : AtS pg (k + 1) s' := by
  refine ⟨by omega, ?_⟩
  have := h.2
  rw [drop_getI hk] at this
  unfold runP at this
  rw [hs] at this
  rw [this]
  congr 1
  simp only
  omega
theorem AtS.no {pg : List Int} {k : Nat} {s : PS} (h : AtS pg k s) (hs : k < pg.length → stp s (pg.getD k 0) = none) : rdP pg = (k, s) := by
  have h2 := h.2
  by_cases hk : k < pg.length
  · rw [drop_getI hk] at h2
    unfold runP at h2
    rw [hs hk] at h2
    exact h2
  · rw [List.drop_of_length_le (by omega)] at h2
    exact h2
theorem getD_out {pg : List Int} {k : Nat} (h : ¬ k < pg.length) : pg.getD k 0 = 0 := by
  rw [List.getD_eq_getElem?_getD, List.getElem?_eq_none (by omega)]; rfl
theorem pg_r {pg : List Int} (h : wfP pg) (k : Nat) : 0 ≤ pg.getD k 0 ∧ pg.getD k 0 ≤ 126 := by
  by_cases hk : k < pg.length
  · have := h.2 k hk; omega
  · rw [getD_out hk]; decide
theorem pg_in {pg : List Int} {k : Nat} (h : ¬ pg.getD k 0 = 0) : k < pg.length := by
  by_cases hk : k < pg.length
  · exact hk
  · exact absurd (getD_out hk) h
def PgM (I : Nat → Int → Int) (pg : List Int) : Prop := I 243 19 = (pg.length : Int) ∧ ∀ k : Nat, k < pg.length → I 259 (k : Int) = pg.getD k 0
def RcM (I : Nat → Int → Int) (rs : List Nat) : Prop := I 243 23 = (rs.length : Int) ∧ ∀ c : Nat, c < rs.length → I 260 (c : Int) = (rs.getD c 0 : Int)
def InM (I : Nat → Int → Int) (pg : List Int) (i : Nat) (x : INS) : Prop := I 261 (i : Int) = (x.1 : Int) ∧ I 262 (i : Int) = (x.2.1 : Int) ∧ I 264 (i : Int) = (x.2.2.1.length : Int) ∧ (∃ hp : Nat, I 263 (i : Int) = (hp : Int) ∧ hp + x.2.2.1.length ≤ pg.length ∧ ∀ k, k < x.2.2.1.length → pg.getD (hp + k) 0 = cd (x.2.2.1.getD k 0)) ∧ I 265 (i : Int) = (x.2.2.2.length : Int) ∧ ∀ k, k < x.2.2.2.length → ∃ cp : Nat, I 266 ((2 * i + k : Nat) : Int) = (cp : Int) ∧ cp + 1 < pg.length ∧ pg.getD cp 0 = 48 + ((x.2.2.2.getD k (0, 0)).1 : Int) ∧ pg.getD (cp + 1) 0 = 120 + ((x.2.2.2.getD k (0, 0)).2 : Int)
def RiM (I : Nat → Int → Int) (pg : List Int) (xs : List INS) : Prop := I 243 24 = (xs.length : Int) ∧ ∀ i : Nat, i < xs.length → InM I pg i (xs.getD i (0, 0, [], []))
/-- what reading changes -/
def frR (I I' : Nat → Int → Int) : Prop := (∀ a, a < 243 ∨ (243 < a ∧ a < 260) ∨ 266 < a → I' a = I a) ∧ ∀ i : Int, i ≠ 21 → i ≠ 22 → i ≠ 23 → i ≠ 24 → I' 243 i = I 243 i
theorem frR.tr {I I' I2 : Nat → Int → Int} (h : frR I I') (h2 : frR I' I2) : frR I I2 := ⟨fun a ha => by rw [h2.1 a ha, h.1 a ha], fun i p1 p2 p3 p4 => by rw [h2.2 i p1 p2 p3 p4, h.2 i p1 p2 p3 p4]⟩
theorem frR.rf {I : Nat → Int → Int} : frR I I := ⟨fun _ _ => rfl, fun _ _ _ _ _ => rfl⟩
theorem PgM.fr {I I' : Nat → Int → Int} {pg : List Int} (h : PgM I pg) (f : frR I I') : PgM I' pg := ⟨by rw [f.2 19 (by decide) (by decide) (by decide) (by decide)]; exact h.1, fun k hk => by rw [f.1 259 (by omega)]; exact h.2 k hk⟩
section MRe
variable {L : Nat} {R : Nat → Int → Option Nat} {I : Nat → Int → Int} {J : Nat → Int → Int64} {Q : Option MV → MM → Prop} {pg : List Int}
theorem k_at (hw : wfP pg) (hP : PgM I pg) (k : Nat) : wpC 51 [vR (some 243), vI (k : Int)] (S0 L, R, I, J) Q ↔ Q (some (vI (pg.getD k 0))) (S0 L, R, I, J) := by
  have := hw.1
  rw [c_M_at, hP.1]
  by_cases hk : k < pg.length
  · rw [if_pos (by omega), hP.2 k hk]
    exact ⟨fun h => h.2, fun h => ⟨⟨by omega, by omega⟩, h⟩⟩
  · rw [if_neg (by omega), getD_out hk]
theorem k_figure (hw : wfP pg) (hP : PgM I pg) (k : Nat) : wpC 52 [vR (some 243), vI (k : Int)] (S0 L, R, I, J) Q ↔ Q (some (vI (pg.getD k 0 - 48))) (S0 L, R, I, J) := by
  have := pg_r hw k
  rw [c_M_figure, k_at hw hP]
  refine b_M_figure_4.trans ?_
  rw [w32_eq (by omega) (by omega)]
theorem RcM.fr {I' : Nat → Int → Int} {rs : List Nat} (h : RcM I rs) (h1 : I' 243 23 = I 243 23) (h2 : ∀ c : Nat, c < rs.length → I' 260 (c : Int) = I 260 (c : Int)) : RcM I' rs := ⟨by rw [h1]; exact h.1, fun c hc => by rw [h2 c hc]; exact h.2 c hc⟩
theorem getD_app {α : Type} {l : List α} {x d : α} {n : Nat} : (l ++ [x]).getD n d = if n < l.length then l.getD n d else if n = l.length then x else d := by
  rw [List.getD_eq_getElem?_getD, List.getD_eq_getElem?_getD]
  by_cases h : n < l.length
  · rw [if_pos h, List.getElem?_append_left h]
  · rw [if_neg h, List.getElem?_append_right (by omega)]
    by_cases h2 : n = l.length
    · rw [if_pos h2, h2, Nat.sub_self]; rfl
    · rw [if_neg h2, List.getElem?_eq_none (by simp; omega)]; rfl
theorem RcM.add {rs : List Nat} {r : Nat} (h : ∀ c : Nat, c < rs.length → I 260 (c : Int) = (rs.getD c 0 : Int)) (h1 : I 243 23 = ((rs.length + 1 : Nat) : Int)) (h2 : I 260 (rs.length : Int) = (r : Int)) : RcM I (rs ++ [r]) := by
  refine ⟨by rw [h1, List.length_append]; rfl, fun c hc => ?_⟩
  rw [List.length_append, List.length_singleton] at hc
  rw [getD_app]
  by_cases hcr : c < rs.length
  · rw [if_pos hcr]; exact h c hcr
  · rw [if_neg hcr, if_pos (by omega), show c = rs.length by omega]; exact h2
/-- what readClass comes to: broken, at a place where the reading stops; or a class more -/
def rcQ (L : Nat) (R : Nat → Int → Option Nat) (J : Nat → Int → Int64) (I : Nat → Int → Int) (pg : List Int) (d l : Nat) (rs : List Nat) (Q : Option MV → MM → Prop) : Prop := ∀ (I' : Nat → Int → Int) (k : Nat), frR I I' → I' 243 24 = I 243 24 → I' 243 21 = I 243 21 →
  ((I' 243 22 = 1 ∧ (rdP pg).1 = k ∧ ¬ (rdP pg).2.1 = 6) ∨ (I' 243 22 = 0 ∧ ∃ (r d' st : Nat), r < 2 ^ rs.length ∧ (st = 1 ∨ st = 2) ∧ RcM I' (rs ++ [r]) ∧ AtS pg k (st, (d', l), (rs, r), [], (0, 0, [], [])) ∧ (st = 1 → pg.getD k 0 - 48 < 0 ∨ 9 < pg.getD k 0 - 48))) → Q (some (vI (k : Int))) (S0 L, R, I', J)
theorem k_readClass (hw : wfP pg) (hP : PgM I pg) {from' d l : Nat} {rs : List Nat} (hr : RcM I rs) (hrl : rs.length < 4) (hb : I 243 22 = 0) (hA : AtS pg from' (0, (d, l), (rs, 0), [], (0, 0, [], []))) (hQ : rcQ L R J I pg d l rs Q) : wpC 54 [vR (some 243), vI (from' : Int)] (S0 L, R, I, J) Q := by
  have h84 := hw.1
  have hfl := hA.1
  have pr := pg_r hw from'
  have pr1 := pg_r hw (from' + 1)
  refine c_M_readClass.mpr ?_
  rw [hr.1]
  refine ⟨⟨by omega, by omega⟩, ?_⟩
  have f1 : frR I (upM I 260 (rs.length : Int) 0) := ⟨fun a ha => upM_ne (by omega), fun j _ _ _ _ => by rw [upM_ne (by decide)]⟩
  have r1 : ∀ c : Nat, c < rs.length → (upM I 260 (rs.length : Int) 0) 260 (c : Int) = (rs.getD c 0 : Int) := fun c hc => by rw [upM_i (by omega)]; exact hr.2 c hc
  have z1 : (upM I 260 (rs.length : Int) 0) 260 (rs.length : Int) = 0 := upM_same
  have t1 : (upM I 260 (rs.length : Int) 0) 243 = I 243 := upM_ne (by decide)
  generalize (upM I 260 (rs.length : Int) 0) = I1 at *
  have hP1 := hP.fr f1
  rw [k_at hw hP1]
  refine b_M_readClass_10.mpr ?_
  rw [t1, hr.1, w32_s (by omega)]
  by_cases h45 : pg.getD from' 0 = 45
  · have hk := pg_in (k := from') (pg := pg) (by omega)
    rw [if_pos h45, w32_s (by omega)]
    have hA2 := hA.st hk (s' := (2, (d, l), (rs, 0), [], (0, 0, [], []))) (by show (if pg.getD from' 0 = 45 then _ else _) = _; rw [if_pos h45])
    refine hQ _ (from' + 1) (f1.tr ⟨fun a ha => upM_ne (by omega), fun j _ _ p3 _ => upM_i p3⟩) (by rw [upM_i (by decide), t1]) (by rw [upM_i (by decide), t1]) (Or.inr ⟨by rw [upM_i (by decide), t1]; exact hb, 0, d, 2, Nat.two_pow_pos _, Or.inr rfl, RcM.add (fun c hc => by rw [upM_ne (by decide)]; exact r1 c hc) upM_same (by rw [upM_ne (by decide)]; exact z1), hA2, fun h => by omega⟩)
  · rw [if_neg h45]
    refine b_M_readClass_29.mpr ?_
    rw [if_pos (by rw [w32_eq (by omega) (by omega)]; omega), if_pos rfl]
    refine b_M_readClass_49.mpr ?_
    rw [k_figure hw hP1]
    refine b_M_readClass_53.mpr ?_
    rw [t1, hr.1, w32_eq (z := (-1 : Int) + 1) (by omega) (by omega), w32_eq (by omega) (by omega), k_within]
    refine b_M_readClass_62.mpr ?_
    by_cases hd : 48 ≤ pg.getD from' 0 ∧ pg.getD from' 0 - 48 < (rs.length : Int)
    · have hk := pg_in (k := from') (pg := pg) (by omega)
      have hA2 := hA.st hk (s' := (1, ((pg.getD from' 0 - 48).toNat, l), (rs, 2 ^ (pg.getD from' 0 - 48).toNat), [], (0, 0, [], []))) (by show (if pg.getD from' 0 = 45 then _ else _) = _; rw [if_neg h45, if_pos hd])
      obtain ⟨d1, hd1⟩ : ∃ d1 : Nat, pg.getD from' 0 - 48 = (d1 : Int) := ⟨(pg.getD from' 0 - 48).toNat, by omega⟩
      rw [hd1, Int.toNat_natCast] at hA2
      rw [if_neg (fun h => bi_0.mp h (by omega)), k_figure hw hP1]
      refine b_M_readClass_74.mpr ?_
      rw [t1, hr.1, z1, hd1]
      have e1 : ior 0 (ishl 1 (d1 : Int)) = ((2 ^ d1 : Nat) : Int) := by
        have := ior1 (a := 0) (k := d1) (by decide) (by omega)
        rw [Nat.zero_or] at this
        exact this
      refine ⟨⟨by omega, by omega⟩, ⟨by omega, by omega⟩, ?_⟩
      rw [e1, w32_s (by omega)]
      have f2 : frR I (upM I1 260 (rs.length : Int) ((2 ^ d1 : Nat) : Int)) := f1.tr ⟨fun a ha => upM_ne (by omega), fun j _ _ _ _ => by rw [upM_ne (by decide)]⟩
      have r2 : ∀ c : Nat, c < rs.length → (upM I1 260 (rs.length : Int) ((2 ^ d1 : Nat) : Int)) 260 (c : Int) = (rs.getD c 0 : Int) := fun c hc => by rw [upM_i (by omega)]; exact r1 c hc
      have z2 : (upM I1 260 (rs.length : Int) ((2 ^ d1 : Nat) : Int)) 260 (rs.length : Int) = ((2 ^ d1 : Nat) : Int) := upM_same
      have t2 : (upM I1 260 (rs.length : Int) ((2 ^ d1 : Nat) : Int)) 243 = I 243 := by rw [upM_ne (by decide), t1]
      generalize (upM I1 260 (rs.length : Int) ((2 ^ d1 : Nat) : Int)) = I2 at *
      have hP2 := hP.fr f2
      have hd1r : d1 < rs.length := by omega
      have hpow : 2 ^ d1 < 2 ^ rs.length := Nat.pow_lt_pow_right (by decide) hd1r
      refine b_M_readClass_29.mpr ?_
      rw [if_pos (by rw [w32_eq (by omega) (by omega)]; omega), if_neg (by omega), k_figure hw hP2]
      refine b_M_readClass_43.mpr ?_
      rw [k_within]
      refine b_M_readClass_47.mpr ?_
      by_cases hs : 0 ≤ pg.getD (from' + 1) 0 - 48 ∧ pg.getD (from' + 1) 0 - 48 ≤ 9
      · have hk2 := pg_in (k := from' + 1) (pg := pg) (by omega)
        rw [if_neg (fun h => bi_0.mp h hs)]
        refine b_M_readClass_49.mpr ?_
        rw [k_figure hw hP2]
        refine b_M_readClass_53.mpr ?_
        rw [t2, hr.1, w32_s (by omega), w32_eq (by omega) (by omega), k_within]
        refine b_M_readClass_62.mpr ?_
        by_cases hd2 : (d1 : Int) < pg.getD (from' + 1) 0 - 48 ∧ pg.getD (from' + 1) 0 - 48 < (rs.length : Int)
        · obtain ⟨d2, hd2e⟩ : ∃ d2 : Nat, pg.getD (from' + 1) 0 - 48 = (d2 : Int) := ⟨(pg.getD (from' + 1) 0 - 48).toNat, by omega⟩
          have hA3 := hA2.st hk2 (s' := (2, (d1, l), (rs, 2 ^ d1 ||| 2 ^ d2), [], (0, 0, [], []))) (by show (if (d1 : Int) < pg.getD (from' + 1) 0 - 48 ∧ pg.getD (from' + 1) 0 - 48 < (rs.length : Int) then _ else _) = _; rw [if_pos hd2, hd2e, Int.toNat_natCast])
          rw [if_neg (fun h => bi_0.mp h (by omega)), k_figure hw hP2]
          refine b_M_readClass_74.mpr ?_
          rw [t2, hr.1, z2, hd2e]
          refine ⟨⟨by omega, by omega⟩, ⟨by omega, by omega⟩, ?_⟩
          have hp8 : 2 ^ d1 < 256 := pow8 (by omega)
          rw [ior1 hp8 (by omega), w32_s (by omega)]
          refine b_M_readClass_29.mpr ?_
          rw [if_neg (by rw [w32_eq (by omega) (by omega)]; omega)]
          have f3 : frR I (upM I2 260 (rs.length : Int) ((2 ^ d1 ||| 2 ^ d2 : Nat) : Int)) := f2.tr ⟨fun a ha => upM_ne (by omega), fun j _ _ _ _ => by rw [upM_ne (by decide)]⟩
          have hpow2 : 2 ^ d2 < 2 ^ rs.length := Nat.pow_lt_pow_right (by decide) (by omega)
          rw [upM_ne (by decide), t2, hr.1, w32_s (by omega)]
          refine hQ _ (from' + 1 + 1) (f3.tr ⟨fun a ha => upM_ne (by omega), fun j _ _ p3 _ => upM_i p3⟩) (by rw [upM_i (by decide), upM_ne (by decide), t2]) (by rw [upM_i (by decide), upM_ne (by decide), t2]) (Or.inr ⟨by rw [upM_i (by decide), upM_ne (by decide), t2]; exact hb, _, d1, 2, Nat.or_lt_two_pow hpow hpow2, Or.inr rfl, RcM.add (fun c hc => by rw [upM_ne (by decide), upM_i (by omega)]; exact r2 c hc) upM_same (by rw [upM_ne (by decide), upM_same]), hA3, fun h => by omega⟩)
        · rw [if_pos (bi_0.mpr (by omega))]
          refine c_M_broken.mpr ?_
          refine b_M_readClass_68.mpr ?_
          have hno := hA2.no (fun _ => by
            show (if (d1 : Int) < pg.getD (from' + 1) 0 - 48 ∧ pg.getD (from' + 1) 0 - 48 < (rs.length : Int) then _ else stE _ _) = none
            rw [if_neg hd2]
            unfold stE
            rw [if_neg (by omega), if_neg (by omega)])
          refine hQ _ (from' + 1) (f2.tr ⟨fun a ha => upM_ne (by omega), fun j _ p2 _ _ => upM_i p2⟩) (by rw [upM_i (by decide), t2]) (by rw [upM_i (by decide), t2]) (Or.inl ⟨upM_same, by rw [hno], by rw [hno]; show ¬ 1 = 6; decide⟩)
      · rw [if_pos (bi_0.mpr hs), t2, hr.1, w32_s (by omega)]
        refine hQ _ (from' + 1) (f2.tr ⟨fun a ha => upM_ne (by omega), fun j _ _ p3 _ => upM_i p3⟩) (by rw [upM_i (by decide), t2]) (by rw [upM_i (by decide), t2]) (Or.inr ⟨by rw [upM_i (by decide), t2]; exact hb, _, d1, 1, hpow, Or.inl rfl, RcM.add (fun c hc => by rw [upM_ne (by decide)]; exact r2 c hc) upM_same (by rw [upM_ne (by decide)]; exact z2), hA2, fun _ => by omega⟩)
    · rw [if_pos (bi_0.mpr (by omega))]
      refine c_M_broken.mpr ?_
      refine b_M_readClass_68.mpr ?_
      have hno := hA.no (fun _ => by
        show (if pg.getD from' 0 = 45 then _ else if _ then _ else none) = none
        rw [if_neg h45, if_neg hd])
      refine hQ _ from' (f1.tr ⟨fun a ha => upM_ne (by omega), fun j _ p2 _ _ => upM_i p2⟩) (by rw [upM_i (by decide), t1]) (by rw [upM_i (by decide), t1]) (Or.inl ⟨upM_same, by rw [hno], by rw [hno]; show ¬ 0 = 6; decide⟩)
end MRe
