-- ===== the whole state: a pure picture; the reference holds it =====
abbrev IMG : Type := Option ((Nat → Nat) × (Nat → List Nat) × SN)
/-- page; books; classes (how many, right above, above); instances; slots; what was seen; the image -/
abbrev ST : Type := List Int × Nat × (Nat × (Nat → Nat) × (Nat → Nat)) × EN × (Nat → List Nat) × SN × IMG
def sP (s : ST) : List Int := s.1
def sB (s : ST) : Nat := s.2.1
def sC (s : ST) : Nat := s.2.2.1.1
def sR (s : ST) : Nat → Nat := s.2.2.1.2.1
def sA (s : ST) : Nat → Nat := s.2.2.1.2.2
def sE (s : ST) : EN := s.2.2.2.1
def sL (s : ST) : Nat → List Nat := s.2.2.2.2.1
def sN (s : ST) : SN := s.2.2.2.2.2.1
def sI (s : ST) : IMG := s.2.2.2.2.2.2
def setK (E : EN) (kd : Nat → Nat) : EN := (E.1, E.2.1, kd, E.2.2.2)
def okSl (sl : Nat → List Nat) : Prop := ∀ k, k < 4 → sl k = [] ∨ (wfN (sl k) 1 = true ∧ (sl k).length ≤ 9)
def okSn (sn : SN) : Prop := sn.length ≤ 6 ∧ ∀ k, k < sn.length → (sn.getD k (0, 0, false)).2.1 < 4
def wfS (s : ST) : Prop := wfP (sP s) ∧ sB s < 100000 ∧ wfC (sC s) (sR s) (sA s) ∧ wfE (sE s) (sC s) ∧ okSl (sL s) ∧ okSn (sN s) ∧ (¬ sB s = 0 → 1 ≤ sC s) ∧ (sB s = 0 → sC s = 0 ∧ eN (sE s) = 0) ∧ (match sI s with
  | none => True
  | some m => (∀ i, i < eN (sE s) → m.1 i < 5) ∧ okSl m.2.1 ∧ okSn m.2.2)
def ImM (I : Nat → Int → Int) (s : ST) : Prop := (I 243 53 = 0 ∨ (I 243 53 = 1 ∧ I 243 54 ≤ (sB s : Int))) ∧ (match sI s with
  | none => ¬ (I 243 53 = 1 ∧ I 243 54 = (sB s : Int))
  | some m => I 243 53 = 1 ∧ I 243 54 = (sB s : Int) ∧ I 243 55 = (m.2.2.length : Int) ∧ (∀ i : Nat, i < eN (sE s) → I 283 (i : Int) = (m.1 i : Int)) ∧ (∀ k : Nat, k < 4 → I 285 (k : Int) = ((m.2.1 k).length : Int) ∧ ∀ p : Nat, p < (m.2.1 k).length → I 284 ((9 * k + p : Nat) : Int) = cd ((m.2.1 k).getD p 0)) ∧ ∀ k : Nat, k < m.2.2.length → I 286 (k : Int) = ((m.2.2.getD k (0, 0, false)).1 : Int) ∧ I 287 (k : Int) = ((m.2.2.getD k (0, 0, false)).2.1 : Int) ∧ I 288 (k : Int) = bi ((m.2.2.getD k (0, 0, false)).2.2 = true))
def MSt (I : Nat → Int → Int) (s : ST) : Prop := PgM I (sP s) ∧ I 243 0 = (sB s : Int) ∧ ClM I (sC s) (sR s) (sA s) ∧ EnM I (sE s) ∧ SpM I (sE s) ∧ (∀ k : Nat, k < 4 → SlW I k (sL s k)) ∧ SeM I (sN s) ∧ ImM I s
/-- what a call that only tells changes in the reference -/
def frM (I I' : Nat → Int → Int) : Prop := (∀ a, a < 243 ∨ (243 < a ∧ a < 260) ∨ 282 < a → I' a = I a) ∧ ∀ i : Int, i ≠ 21 → i ≠ 22 → i ≠ 23 → i ≠ 24 → i ≠ 34 → i ≠ 45 → i ≠ 46 → i ≠ 50 → I' 243 i = I 243 i
theorem frM.rf {I : Nat → Int → Int} : frM I I := ⟨fun _ _ => rfl, fun _ _ _ _ _ _ _ _ _ => rfl⟩
theorem frM.tr {I I' I2 : Nat → Int → Int} (h : frM I I') (h2 : frM I' I2) : frM I I2 := ⟨fun a ha => by rw [h2.1 a ha, h.1 a ha], fun i p1 p2 p3 p4 p5 p6 p7 p8 => by rw [h2.2 i p1 p2 p3 p4 p5 p6 p7 p8, h.2 i p1 p2 p3 p4 p5 p6 p7 p8]⟩
theorem frR.m {I I' : Nat → Int → Int} (h : frR I I') : frM I I' := ⟨fun a ha => h.1 a (by omega), fun i p1 p2 p3 p4 _ _ _ _ => h.2 i p1 p2 p3 p4⟩
theorem frY.m {I I' : Nat → Int → Int} (h : frY I I') : frM I I' := ⟨fun a ha => h.1 a (by omega), fun i _ _ _ _ p5 _ _ _ => h.2 i p5⟩
theorem frV.m {I I' : Nat → Int → Int} (h : frV I I') : frM I I' := ⟨fun a ha => h.1 a (by omega), fun i _ _ _ _ _ p6 p7 p8 => h.2 i p6 p7 p8⟩
theorem frW.m {I I' : Nat → Int → Int} (h : frW I I') : frM I I' := ⟨fun a ha => h.1 a (by omega) (by omega) (by omega), fun i _ _ _ _ p5 _ _ _ => h.2 i p5⟩
theorem fr1.m {I I' : Nat → Int → Int} {x : Nat} (h : ∀ a, a ≠ x → I' a = I a) (h1 : 260 ≤ x) (h2 : x ≤ 282) : frM I I' := ⟨fun a ha => h a (by omega), fun i _ _ _ _ _ _ _ _ => by rw [h 243 (by omega)]⟩
theorem MSt.fr {I I' : Nat → Int → Int} {s : ST} (h : MSt I s) (f : frM I I') : MSt I' s := by
  obtain ⟨h1, h2, h3, h4, h5, h6, h7, h8⟩ := h
  have g : ∀ a, (243 < a ∧ a < 260) ∨ 282 < a → I' a = I a := fun a ha => f.1 a (by omega)
  have q : ∀ i : Int, i < 21 ∨ 50 < i → I' 243 i = I 243 i := fun i hi => f.2 i (by omega) (by omega) (by omega) (by omega) (by omega) (by omega) (by omega) (by omega)
  refine ⟨⟨by rw [q 19 (by omega)]; exact h1.1, fun k hk => by rw [g 259 (by omega)]; exact h1.2 k hk⟩, by rw [q 0 (by omega)]; exact h2, h3.fr (q 1 (by omega)) (g 244 (by omega)) (g 245 (by omega)), h4.fr (q 4 (by omega)) (fun a p1 p2 => g a (by omega)), h5.fr (g 253 (by omega)), fun k hk => ?_, ⟨by rw [q 15 (by omega)]; exact h7.1, fun k hk => by rw [g 256 (by omega), g 257 (by omega), g 258 (by omega)]; exact h7.2 k hk⟩, ?_⟩
  · have := h6 k hk
    unfold SlW at *
    rw [g 254 (by omega), g 255 (by omega)]; exact this
  · unfold ImM at *
    rw [q 53 (by omega), q 54 (by omega), q 55 (by omega), g 283 (by omega), g 284 (by omega), g 285 (by omega), g 286 (by omega), g 287 (by omega), g 288 (by omega)]
    exact h8
-- what is told
def abN (s : ST) (c w : Nat) : Int := if w = 0 then (sR s c : Int) else if w = 1 then (sA s c : Int) else (cnt (eN (sE s)) (fun i => decide (eO (sE s) i = c)) : Int)
def inN (s : ST) (i w : Nat) : Int :=
  if w = 0 then (eK (sE s) i : Int) else if w = 1 then (eO (sE s) i : Int) else if w = 2 then ((eH (sE s) i).length : Int) else if w = 3 then ((eC (sE s) i).length : Int) else if w = 4 then bi (sndB (sE s) i = true) else if w = 5 then (sors (sN s) i : Int) else if w = 6 then askF (sors (sN s) i) else (lck (sE s) (sC s) (sR s) (sA s) i : Int)
def goN (s : ST) (u : List Nat) (c w : Nat) : Int :=
  if w = 0 then (G (sE s) c u).1 else if ¬ (G (sE s) c u).1 = 1 then -1 else if w = 1 then ((G (sE s) c u).2.1.length : Int) else if w = 2 then (G (sE s) c u).2.2.1 else if w = 3 then (dif (sE s) c u : Int) else if w = 4 then (G (sE s) c u).2.2.2.1 else if w = 5 then (pcn 16 (G (sE s) c u).2.2.2.2 : Int) else (pcn 16 (pln (sA s) (G (sE s) c u).2.2.2.2) : Int)
def ovl (E : EN) (i e : Nat) : Bool := decide (eO E i = eO E e) && decide (¬ eK E i = 2) && decide (¬ eK E e = 2) && decide (uni (eH E i) (eH E e) = some true)
def clh (E : EN) (i e : Nat) : Bool := ovl E i e && ((!spc E i e && !spc E e i) || decide (eK E i = 4) || decide (eK E e = 4))
def prN (E : EN) (i e w : Nat) : Bool := if w = 0 then ovl E i e else if w = 1 then clh E i e else spc E i e
def cn2 (f : Nat → Nat → Bool) : Nat → Nat
  | 0 => 0
  | n + 1 => cn2 f n + cnt n (f n)
def lcs (s : ST) : Nat → Nat
  | 0 => 0
  | n + 1 => lcs s n + pcn 16 (lck (sE s) (sC s) (sR s) (sA s) n)
def dfT (sl : Nat → List Nat) (k : Nat) : Nat → Bool
  | 0 => !(sl k).isEmpty
  | e + 1 => dfT sl k e && decide (¬ sl k = sl e)
def fil (sl : Nat → List Nat) : Nat := cnt 4 (fun k => !(sl k).isEmpty)
def hmN (s : ST) (w : Nat) : Int :=
  if w = 0 then (sC s : Int) else if w = 1 then (eN (sE s) : Int) else if w = 2 then (cnt (eN (sE s)) (fun i => !sndB (sE s) i) : Int) else if w = 3 then (cn2 (ovl (sE s)) (eN (sE s)) : Int) else if w = 4 then (cn2 (clh (sE s)) (eN (sE s)) : Int) else if w = 5 then (lcs s (eN (sE s)) : Int) else if w = 6 then (fil (sL s) : Int) else if w = 7 then (cnt 4 (fun k => dfT (sL s) k k) : Int) else if w = 8 then ((sN s).length : Int) else if w = 9 then ((sP s).length : Int) else (sB s : Int)
/-- of any two heads it is found out -/
def uniOK (E : EN) : Prop := ∀ i e, i < eN E → e < eN E → ∃ b, uni (eH E i) (eH E e) = some b
theorem pln_lt (ab : Nat → Nat) (a : Nat) : pln ab a < 256 := bset_lt8 (by decide) _
section MSx
variable {L : Nat} {R : Nat → Int → Option Nat} {I : Nat → Int → Int} {J : Nat → Int → Int64} {Q : Option MV → MM → Prop} {s : ST}
theorem io_loop {E : EN} {nC c : Nat} (hE : wfE E nC) (hM : EnM I E) (hQ : Q (some (vI (cnt (eN E) (fun i => decide (eO E i = c)) : Int))) (S0 L, R, I, J)) : ∀ d i : Nat, d + i = eN E → wpc 89 5 [vR (some 243), vI (c : Int), vI (cnt i (fun i => decide (eO E i = c)) : Int), vI (i : Int)] [] (0, 0) (S0 L, R, I, J) Q := by
  have h6 := hE.1
  intro d
  induction d with
  | zero =>
    intro i hi
    refine b_M_instancesOf_5.mpr ?_
    rw [hM.1, if_neg (by omega), show i = eN E by omega]
    exact hQ
  | succ d ih =>
    intro i hi
    have hc := cnt_le i (fun i => decide (eO E i = c))
    have h2 : wpc 89 5 [vR (some 243), vI (c : Int), vI ((cnt i (fun i => decide (eO E i = c)) + (if decide (eO E i = c) then 1 else 0) : Nat) : Int), vI ((i + 1 : Nat) : Int)] [] (0, 0) (S0 L, R, I, J) Q := ih (i + 1) (by omega)
    refine b_M_instancesOf_5.mpr ?_
    rw [hM.1, if_pos (by omega), (hM.2 i (by omega)).2.1, w32_s (p := i) (by omega)]
    refine ⟨⟨by omega, by omega⟩, ?_⟩
    by_cases ho : eO E i = c
    · rw [if_pos (by omega), w32_s (by omega)]
      rw [if_pos (decide_eq_true ho)] at h2; exact h2
    · rw [if_neg (by omega), w32_eq (by omega) (by omega)]
      rw [if_neg (by rw [decide_eq_true_eq]; exact ho)] at h2
      rw [Int.add_zero]; exact h2
theorem k_aboutNow (hw : wfS s) (hM : MSt I s) {c w : Nat} (hc : c < sC s) (hQ : Q (some (vI (abN s c w))) (S0 L, R, I, J)) : wpC 90 [vR (some 243), vI (c : Int), vI (w : Int)] (S0 L, R, I, J) Q := by
  obtain ⟨_, _, hC, hE, _⟩ := hw
  obtain ⟨_, _, mC, mE, _⟩ := hM
  have hC4 := hC.1
  refine c_M_aboutNow.mpr ?_
  unfold abN at hQ
  by_cases h0 : w = 0
  · rw [if_pos h0] at hQ
    rw [if_pos (by omega), (mC.2 c hc).1]
    exact ⟨⟨by omega, by omega⟩, b_M_aboutNow_23.mpr hQ⟩
  · rw [if_neg h0] at hQ
    rw [if_neg (by omega)]
    by_cases h1 : w = 1
    · rw [if_pos h1] at hQ
      rw [if_pos (by omega), (mC.2 c hc).2]
      exact ⟨⟨by omega, by omega⟩, b_M_aboutNow_23.mpr hQ⟩
    · rw [if_neg h1] at hQ
      rw [if_neg (by omega)]
      refine c_M_instancesOf.mpr (io_loop hE mE ?_ (eN (sE s)) 0 (by omega))
      exact b_M_aboutNow_23.mpr hQ
theorem k_instanceNow (hw : wfS s) (hM : MSt I s) {i w : Nat} (hi : i < eN (sE s)) (hQ : ∀ I', frM I I' → Q (some (vI (inN s i w))) (S0 L, R, I', J)) : wpC 94 [vR (some 243), vI (i : Int), vI (w : Int)] (S0 L, R, I, J) Q := by
  obtain ⟨_, _, hC, hE, _, hN, _⟩ := hw
  obtain ⟨_, _, mC, mE, mS, _, mN, _⟩ := hM
  have h6 := hE.1
  obtain ⟨e1, e2, e3, e4, _⟩ := mE.2 i hi
  have hQ0 := hQ I frM.rf
  refine c_M_instanceNow.mpr ?_
  unfold inN at hQ hQ0
  by_cases h0 : w = 0
  · rw [if_pos h0] at hQ0
    rw [if_pos (by omega), e1]; exact ⟨⟨by omega, by omega⟩, hQ0⟩
  rw [if_neg h0] at hQ0 hQ
  rw [if_neg (by omega)]
  by_cases h1 : w = 1
  · rw [if_pos h1] at hQ0
    rw [if_pos (by omega), e2]; exact ⟨⟨by omega, by omega⟩, hQ0⟩
  rw [if_neg h1] at hQ0 hQ
  rw [if_neg (by omega)]
  by_cases h2 : w = 2
  · rw [if_pos h2] at hQ0
    rw [if_pos (by omega), e3.1]; exact ⟨⟨by omega, by omega⟩, hQ0⟩
  rw [if_neg h2] at hQ0 hQ
  rw [if_neg (by omega)]
  by_cases h3 : w = 3
  · rw [if_pos h3] at hQ0
    rw [if_pos (by omega), e4]; exact ⟨⟨by omega, by omega⟩, hQ0⟩
  rw [if_neg h3] at hQ0 hQ
  rw [if_neg (by omega)]
  by_cases h4 : w = 4
  · rw [if_pos h4] at hQ0
    rw [if_pos (by omega), k_isSound hE mE hi]
    refine b_M_instanceNow_31.mpr ?_
    by_cases hs : sndB (sE s) i = true
    · rw [if_neg (fun q => bi_0.mp q hs)]; rw [bi_t hs] at hQ0; exact hQ0
    · rw [if_pos (bi_0.mpr hs)]; rw [bi_f hs] at hQ0; exact hQ0
  rw [if_neg h4] at hQ0 hQ
  rw [if_neg (by omega)]
  by_cases h5 : w = 5
  · rw [if_pos h5] at hQ0
    rw [if_pos (by omega)]
    refine k_sortsOf hN.1 mN ?_
    exact b_M_instanceNow_44.mpr hQ0
  rw [if_neg h5] at hQ0 hQ
  rw [if_neg (by omega)]
  by_cases h7 : w = 6
  · rw [if_pos h7] at hQ0
    rw [if_pos (by omega)]
    refine k_askOf hN.1 mN ?_
    exact b_M_instanceNow_50.mpr hQ0
  rw [if_neg h7] at hQ0 hQ
  rw [if_neg (by omega)]
  refine k_lacksOf hE hC mC mE mS hi (fun I' f => ?_)
  exact b_M_instanceNow_56.mpr (hQ I' f.m)
/-- the goals of a type lie ready -/
def LayM (I : Nat → Int → Int) (s : ST) (u : List Nat) : Prop := NowW I u ∧ SzW I u ∧ ∀ q c' : Nat, q < u.length → c' < sC s → RwM I u (sE s) (sC s) c' q
theorem k_goalNow (hw : wfS s) (hM : MSt I s) {u : List Nat} (hu : wfN u 1 = true) (hl : u.length ≤ 9) (hL : LayM I s u) {c w : Nat} (hc : c < sC s) (hQ : ∀ I', (∀ a, a ≠ 278 → I' a = I a) → Q (some (vI (goN s u c w))) (S0 L, R, I', J)) : wpC 112 [vR (some 243), vI (c : Int), vI (w : Int)] (S0 L, R, I, J) Q := by
  obtain ⟨_, _, hC, hE, _, hN, _⟩ := hw
  obtain ⟨_, _, mC, mE, mS, _, mN, _⟩ := hM
  obtain ⟨l1, l2, l3⟩ := hL
  have hC4 := hC.1
  have hpos : 0 < u.length := List.length_pos_iff.mpr (ne_wf1 hu)
  have hG := (l3 0 c hpos hc).root hu
  have e9 : w32 (9 * (c : Int)) = ((9 * c : Nat) : Int) := by rw [w32_eq (by omega) (by omega)]; omega
  have hQ0 := hQ I (fun _ _ => rfl)
  have hnd := G_nd hE 9 c u hu hl hc
  refine c_M_goalNow.mpr ?_
  rw [e9, hG.1]
  unfold goN at hQ hQ0
  by_cases h0 : w = 0
  · rw [if_pos h0] at hQ0
    rw [if_pos (by omega)]; exact ⟨⟨by omega, by omega⟩, hQ0⟩
  rw [if_neg h0] at hQ0 hQ
  rw [if_neg (by omega)]
  refine ⟨⟨by omega, by omega⟩, ?_⟩
  by_cases hs : (G (sE s) c u).1 = 1
  · rw [if_neg (not_not_intro hs)] at hQ0 hQ
    rw [if_pos hs]
    obtain ⟨g4, g5, g6, g7⟩ := hG.2 hs
    by_cases h1 : w = 1
    · rw [if_pos h1] at hQ0
      rw [if_pos (by omega), g4]; exact ⟨⟨by omega, by omega⟩, hQ0⟩
    rw [if_neg h1] at hQ0 hQ
    rw [if_neg (by omega)]
    by_cases h2 : w = 2
    · rw [if_pos h2] at hQ0
      rw [if_pos (by omega), g5]; exact ⟨⟨by omega, by omega⟩, hQ0⟩
    rw [if_neg h2] at hQ0 hQ
    rw [if_neg (by omega)]
    by_cases h3 : w = 3
    · rw [if_pos h3] at hQ
      rw [if_pos (by omega)]
      refine k_differentGoals hE hC4 hu hl hc hs mC.1 l1 l2 l3 (fun I' f => ?_)
      exact b_M_goalNow_42.mpr (hQ I' f)
    rw [if_neg h3] at hQ0 hQ
    rw [if_neg (by omega)]
    by_cases h4 : w = 4
    · rw [if_pos h4] at hQ0
      rw [if_pos (by omega), g6]; exact ⟨⟨by omega, by omega⟩, hQ0⟩
    rw [if_neg h4] at hQ0 hQ
    rw [if_neg (by omega)]
    by_cases h5 : w = 5
    · rw [if_pos h5] at hQ0
      rw [if_pos (by omega), g7, k_size (nd_lt hnd hC4)]
      exact ⟨⟨by omega, by omega⟩, b_M_goalNow_56.mpr hQ0⟩
    rw [if_neg h5] at hQ0 hQ
    rw [if_neg (by omega), g7]
    refine ⟨⟨by omega, by omega⟩, ?_⟩
    refine k_plainOf hC mC hnd ?_
    refine b_M_goalNow_65.mpr ?_
    rw [k_size (pln_lt _ _)]
    exact b_M_goalNow_67.mpr hQ0
  · rw [if_pos hs] at hQ0
    rw [if_neg hs]
    exact hQ0
theorem k_overlap (hw : wfS s) (hM : MSt I s) (hU : uniOK (sE s)) {i e : Nat} (hi : i < eN (sE s)) (he : e < eN (sE s)) (hQ : ∀ I', frM I I' → Q (some (vI (bi (ovl (sE s) i e = true)))) (S0 L, R, I', J)) : wpC 106 [vR (some 243), vI (i : Int), vI (e : Int)] (S0 L, R, I, J) Q := by
  obtain ⟨_, _, hC, hE, _⟩ := hw
  obtain ⟨_, _, mC, mE, _⟩ := hM
  have h6 := hE.1
  obtain ⟨a1, a2, a3, _⟩ := mE.2 i hi
  obtain ⟨b1, b2, b3, _⟩ := mE.2 e he
  have hQ0 := hQ I frM.rf
  refine c_M_overlap.mpr ⟨⟨by omega, by omega⟩, ⟨by omega, by omega⟩, ?_⟩
  rw [a1, a2, b1, b2]
  unfold ovl at hQ hQ0
  by_cases ho : eO (sE s) i = eO (sE s) e
  · rw [if_pos (by omega)]
    refine ⟨⟨by omega, by omega⟩, ?_⟩
    rw [decide_eq_true ho, Bool.true_and] at hQ hQ0
    by_cases h2 : eK (sE s) i = 2
    · rw [if_pos (by omega)]
      rw [bi_f (by rw [decide_eq_false (not_not_intro h2)]; simp)] at hQ0
      exact hQ0
    · rw [if_neg (by omega)]
      refine ⟨⟨by omega, by omega⟩, ?_⟩
      rw [decide_eq_true h2, Bool.true_and] at hQ hQ0
      by_cases h3 : eK (sE s) e = 2
      · rw [if_pos (by omega)]
        rw [bi_f (by rw [decide_eq_false (not_not_intro h3)]; simp)] at hQ0
        exact hQ0
      · rw [if_neg (by omega)]
        rw [decide_eq_true h3, Bool.true_and] at hQ hQ0
        obtain ⟨b, hb⟩ := hU i e hi he
        refine k_areOne (by omega) (by omega) a3 b3 (hE.2 i hi).2.2.2.1 (hE.2 e he).2.2.2.1 hb (fun I' f => ?_)
        have := hQ I' f.m
        refine b_M_overlap_29.mpr ?_
        rw [hb] at this
        cases b with
        | true => rw [if_neg (by rw [bi_t rfl]; decide)]; rw [bi_t (by decide)] at this; exact this
        | false => rw [if_pos (by rw [bi_f (by decide)])]; rw [bi_f (by decide)] at this; exact this
  · rw [if_neg (by omega)]
    rw [bi_f (by rw [decide_eq_false ho]; simp)] at hQ0
    exact hQ0
theorem k_isSpecial (hE : wfE (sE s) (sC s)) (mS : SpM I (sE s)) {i e : Nat} (hi : i < eN (sE s)) (he : e < eN (sE s)) : wpC 107 [vR (some 243), vI (i : Int), vI (e : Int)] (S0 L, R, I, J) Q ↔ Q (some (vI (bi (spc (sE s) i e = true)))) (S0 L, R, I, J) := by
  have h6 := hE.1
  have e1 : w32 (w32 (6 * (i : Int)) + (e : Int)) = ((6 * i + e : Nat) : Int) := by
    rw [w32_eq (z := 6 * (i : Int)) (by omega) (by omega), w32_eq (by omega) (by omega)]; omega
  rw [c_M_isSpecial, e1, mS i e hi he]
  by_cases h : spc (sE s) i e = true
  · rw [if_pos (bi_1.mpr h), bi_t h]
    exact ⟨fun h => h.2, fun h => ⟨⟨by omega, by omega⟩, h⟩⟩
  · rw [if_neg (fun q => h (bi_1.mp q)), bi_f h]
    exact ⟨fun h => h.2, fun h => ⟨⟨by omega, by omega⟩, h⟩⟩
theorem k_clash (hw : wfS s) (hM : MSt I s) (hU : uniOK (sE s)) {i e : Nat} (hi : i < eN (sE s)) (he : e < eN (sE s)) (hQ : ∀ I', frM I I' → Q (some (vI (bi (clh (sE s) i e = true)))) (S0 L, R, I', J)) : wpC 108 [vR (some 243), vI (i : Int), vI (e : Int)] (S0 L, R, I, J) Q := by
  have hE := hw.2.2.2.1
  have h6 := hE.1
  have mS := hM.2.2.2.2.1
  refine c_M_clash.mpr ?_
  rw [k_isSpecial hE mS hi he]
  refine b_M_clash_5.mpr ?_
  have hgo : ∀ z : Int, z = bi ((!spc (sE s) i e && !spc (sE s) e i) = true) → wpc 108 19 [vR (some 243), vI (i : Int), vI (e : Int), vU] [vI z] (0, 0) (S0 L, R, I, J) Q := by
    intro z hz
    refine b_M_clash_19.mpr ?_
    refine k_overlap hw hM hU hi he (fun I' f => ?_)
    have hq := hQ I' f
    have mE := (hM.fr f).2.2.2.1
    refine b_M_clash_25.mpr ?_
    unfold clh at hq
    by_cases ho : ovl (sE s) i e = true
    · rw [if_neg (fun q => bi_0.mp q ho)]
      rw [ho, Bool.true_and] at hq
      by_cases hp : (!spc (sE s) i e && !spc (sE s) e i) = true
      · rw [if_neg (by rw [hz, bi_t hp]; decide)]
        rw [bi_t (by rw [hp]; rfl)] at hq; exact hq
      · rw [if_pos (by rw [hz, bi_f hp])]
        refine ⟨⟨by omega, by omega⟩, ?_⟩
        rw [(mE.2 i hi).1, (mE.2 e he).1]
        rw [Bool.eq_false_iff.mpr hp, Bool.false_or] at hq
        by_cases h4 : eK (sE s) i = 4
        · rw [if_pos (by omega)]
          rw [bi_t (by rw [decide_eq_true h4]; rfl)] at hq; exact hq
        · rw [if_neg (by omega)]
          refine ⟨⟨by omega, by omega⟩, ?_⟩
          rw [decide_eq_false h4, Bool.false_or] at hq
          by_cases h5 : eK (sE s) e = 4
          · rw [if_pos (by omega)]; rw [bi_t (decide_eq_true h5)] at hq; exact hq
          · rw [if_neg (by omega)]; rw [bi_f (by rw [decide_eq_false h5]; decide)] at hq; exact hq
    · rw [if_pos (bi_0.mpr ho)]
      rw [bi_f (by rw [Bool.eq_false_iff.mpr ho]; simp)] at hq; exact hq
  by_cases h1 : spc (sE s) i e = true
  · rw [if_neg (fun q => bi_0.mp q h1)]
    exact hgo 0 (bi_f (by rw [h1]; simp)).symm
  · rw [if_pos (bi_0.mpr h1), k_isSpecial hE mS he hi]
    refine b_M_clash_12.mpr ?_
    by_cases h2 : spc (sE s) e i = true
    · rw [if_neg (fun q => bi_0.mp q h2)]
      exact hgo 0 (bi_f (by rw [h2]; simp)).symm
    · rw [if_pos (bi_0.mpr h2)]
      exact hgo 1 (bi_t (by rw [Bool.eq_false_iff.mpr h1, Bool.eq_false_iff.mpr h2]; rfl)).symm
theorem k_pairNow (hw : wfS s) (hM : MSt I s) (hU : uniOK (sE s)) {i e w : Nat} (hi : i < eN (sE s)) (he : e < eN (sE s)) (hQ : ∀ I', frM I I' → Q (some (vI (bi (prN (sE s) i e w = true)))) (S0 L, R, I', J)) : wpC 109 [vR (some 243), vI (i : Int), vI (e : Int), vI (w : Int)] (S0 L, R, I, J) Q := by
  refine c_M_pairNow.mpr ?_
  unfold prN at hQ
  by_cases h0 : w = 0
  · rw [if_pos (by omega)]
    rw [if_pos h0] at hQ
    refine k_overlap hw hM hU hi he (fun I' f => ?_)
    exact b_M_pairNow_8.mpr (b_M_pairNow_26.mpr ⟨bi_01, hQ I' f⟩)
  · rw [if_neg (by omega)]
    rw [if_neg h0] at hQ
    by_cases h1 : w = 1
    · rw [if_pos (by omega)]
      rw [if_pos h1] at hQ
      refine k_clash hw hM hU hi he (fun I' f => ?_)
      exact b_M_pairNow_19.mpr (b_M_pairNow_26.mpr ⟨bi_01, hQ I' f⟩)
    · rw [if_neg (by omega)]
      rw [if_neg h1] at hQ
      rw [k_isSpecial hw.2.2.2.1 hM.2.2.2.2.1 hi he]
      exact b_M_pairNow_26.mpr ⟨bi_01, hQ I frM.rf⟩
end MSx
