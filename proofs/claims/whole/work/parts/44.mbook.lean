-- ===== the reference takes a book =====
def abr (rt : Nat) (l : List Nat) : Nat → Nat
  | 0 => rt
  | e + 1 => abr rt l e ||| (if rt.testBit e then l.getD e 0 else 0)
def absL (rs : Nat → Nat) : Nat → List Nat
  | 0 => []
  | n + 1 => absL rs n ++ [abr (rs n) (absL rs n) n]
theorem absL_len (rs : Nat → Nat) : ∀ n, (absL rs n).length = n := by
  intro n
  induction n with
  | zero => rfl
  | succ n ih => show (absL rs n ++ [_]).length = _; rw [List.length_append, ih]; rfl
theorem absL_get (rs : Nat → Nat) {c : Nat} : ∀ {n m : Nat}, c < n → n ≤ m → (absL rs m).getD c 0 = (absL rs n).getD c 0 := by
  intro n m hc hm
  induction hm with
  | refl => rfl
  | step hm ih =>
    show (absL rs _ ++ [_]).getD c 0 = _
    rw [getD_app, absL_len, if_pos (Nat.lt_of_lt_of_le hc hm), ih]
theorem abr_lt {rt : Nat} {l : List Nat} {c : Nat} (h : rt < 2 ^ c) (hl : ∀ e, e < c → l.getD e 0 < 2 ^ e) : ∀ e, e ≤ c → abr rt l e < 2 ^ c := by
  intro e
  induction e with
  | zero => intro _; exact h
  | succ e ih =>
    intro he
    refine Nat.or_lt_two_pow (ih (by omega)) ?_
    split
    · exact Nat.lt_of_lt_of_le (hl e (by omega)) (Nat.pow_le_pow_right (by decide) (by omega))
    · exact Nat.two_pow_pos _
theorem absL_lt {rs : Nat → Nat} : ∀ {n : Nat}, (∀ c, c < n → rs c < 2 ^ c) → ∀ c, c < n → (absL rs n).getD c 0 < 2 ^ c := by
  intro n
  induction n with
  | zero => intro _ c hc; omega
  | succ n ih =>
    intro h c hc
    show (absL rs n ++ [_]).getD c 0 < _
    rw [getD_app, absL_len]
    have ih' := ih (fun c hc => h c (by omega))
    by_cases hcn : c < n
    · rw [if_pos hcn]; exact ih' c hcn
    · rw [if_neg hcn, if_pos (by omega), show c = n by omega]
      exact abr_lt (h n (by omega)) ih' n (Nat.le_refl _)
def mkE (ins : List INS) : EN := (ins.length, fun i => (ins.getD i (0, 0, [], [])).2.1, fun i => (ins.getD i (0, 0, [], [])).1, fun i => (ins.getD i (0, 0, [], [])).2.2.1, fun i => (ins.getD i (0, 0, [], [])).2.2.2)
def bkI (s : ST) : List INS := (rdP (sP s)).2.2.2.2.1 ++ [(rdP (sP s)).2.2.2.2.2]
def bkR (s : ST) : List Nat := (rdP (sP s)).2.2.2.1.1
def bkS (s : ST) : ST := ([], sB s + 1, ((bkR s).length, (fun c => (bkR s).getD c 0), (fun c => (absL (fun c => (bkR s).getD c 0) (bkR s).length).getD c 0)), mkE (bkI s), (fun _ => []), [], none)
def q_book (s : ST) : Int × ST := if whlB (sP s) = true then (((bkI s).length : Int), bkS s) else (-103, s)
theorem bk_ok {s : ST} (h : whlB (sP s) = true) : (bkR s).length ≤ 4 ∧ 1 ≤ (bkR s).length ∧ (∀ c, c < (bkR s).length → (bkR s).getD c 0 < 2 ^ c) ∧ (bkI s).length ≤ 6 ∧ ∀ i, i < (bkI s).length → okIns (bkR s).length ((bkI s).getD i (0, 0, [], [])) := by
  have ho := rdP_ok (sP s)
  obtain ⟨o1, o2, o3, o4, o5, o6, o7, o8, o9, o10, o11, o12⟩ := ho
  unfold whlB at h
  rw [Bool.and_eq_true, decide_eq_true_eq, decide_eq_true_eq] at h
  refine ⟨o2, o8 (by rw [h.2]; decide), o3, ?_, fun i hi => ?_⟩
  · unfold bkI
    rw [List.length_append, List.length_singleton]; omega
  · unfold bkI at *
    rw [List.length_append, List.length_singleton] at hi
    rw [getD_app]
    by_cases hil : i < (rdP (sP s)).2.2.2.2.1.length
    · rw [if_pos hil]; exact o5 i hil
    · rw [if_neg hil, if_pos (by omega)]; exact o11 h.2
theorem wfE_mk {n : Nat} {ins : List INS} (h6 : ins.length ≤ 6) (h : ∀ i, i < ins.length → okIns n (ins.getD i (0, 0, [], []))) : wfE (mkE ins) n := by
  refine ⟨h6, fun i hi => ?_⟩
  obtain ⟨k1, k2, k3, k4, k5, k6⟩ := h i hi
  exact ⟨k1, k2, k3, k4, k5, k6⟩
theorem wf_book {s : ST} (hw : wfS s) (h : whlB (sP s) = true) (hb : sB s + 1 < 100000) : wfS (bkS s) := by
  obtain ⟨b1, b2, b3, b4, b5⟩ := bk_ok h
  refine ⟨⟨Nat.zero_le _, fun k hk => absurd hk (by show ¬ k < 0; omega)⟩, hb, ⟨b1, fun c hc => ⟨b3 c hc, absL_lt b3 c hc⟩⟩, wfE_mk b4 b5, fun k _ => Or.inl rfl, ⟨Nat.zero_le _, fun k hk => absurd hk (by show ¬ k < 0; omega)⟩, fun _ => b2, fun h0 => absurd h0 (by show ¬ sB s + 1 = 0; omega), trivial⟩
def InE (I : Nat → Int → Int) (i : Nat) (x : INS) : Prop := I 246 (i : Int) = (x.1 : Int) ∧ I 247 (i : Int) = (x.2.1 : Int) ∧ HdW I i x.2.2.1 ∧ I 250 (i : Int) = (x.2.2.2.length : Int) ∧ ∀ k : Nat, k < x.2.2.2.length → I 251 ((2 * i + k : Nat) : Int) = ((x.2.2.2.getD k (0, 0)).1 : Int) ∧ I 252 ((2 * i + k : Nat) : Int) = ((x.2.2.2.getD k (0, 0)).2 : Int)
def frI (i : Nat) (I I' : Nat → Int → Int) : Prop := (∀ a, a < 246 ∨ 252 < a → I' a = I a) ∧ (∀ (a : Nat) (j : Int), a ≠ 248 → a ≠ 251 → a ≠ 252 → j ≠ (i : Int) → I' a j = I a j) ∧ (∀ j : Int, j < ((5 * i : Nat) : Int) ∨ ((5 * i + 5 : Nat) : Int) ≤ j → I' 248 j = I 248 j) ∧ ∀ (a : Nat) (j : Int), a ≠ 248 → a < 251 ∨ j < ((2 * i : Nat) : Int) ∨ ((2 * i + 2 : Nat) : Int) ≤ j → (a = 251 ∨ a = 252) → I' a j = I a j
theorem frI.tr {i : Nat} {I I' I2 : Nat → Int → Int} (h : frI i I I') (h2 : frI i I' I2) : frI i I I2 := ⟨fun a ha => by rw [h2.1 a ha, h.1 a ha], fun a j p1 p2 p3 p4 => by rw [h2.2.1 a j p1 p2 p3 p4, h.2.1 a j p1 p2 p3 p4], fun j hj => by rw [h2.2.2.1 j hj, h.2.2.1 j hj], fun a j p1 p2 p3 => by rw [h2.2.2.2 a j p1 p2 p3, h.2.2.2 a j p1 p2 p3]⟩
theorem InE.fr {I I' : Nat → Int → Int} {i j : Nat} {x : INS} (h : InE I j x) (f : frI i I I') (hij : j ≠ i) (hl : x.2.2.1.length ≤ 5) (hc : x.2.2.2.length ≤ 2) : InE I' j x := by
  obtain ⟨h1, h2, h3, h4, h5⟩ := h
  refine ⟨by rw [f.2.1 246 _ (by decide) (by decide) (by decide) (by omega)]; exact h1, by rw [f.2.1 247 _ (by decide) (by decide) (by decide) (by omega)]; exact h2, ⟨by rw [f.2.1 249 _ (by decide) (by decide) (by decide) (by omega)]; exact h3.1, fun k hk => by rw [f.2.2.1 _ (by omega)]; exact h3.2 k hk⟩, by rw [f.2.1 250 _ (by decide) (by decide) (by decide) (by omega)]; exact h4, fun k hk => ?_⟩
  rw [f.2.2.2 251 _ (by decide) (by omega) (Or.inl rfl), f.2.2.2 252 _ (by decide) (by omega) (Or.inr rfl)]
  exact h5 k hk
section MBk
variable {L : Nat} {R : Nat → Int → Option Nat} {I : Nat → Int → Int} {J : Nat → Int → Int64} {Q : Option MV → MM → Prop} {s : ST}
theorem ti_h {pg : List Int} (hw : wfP pg) {i hp : Nat} {h : List Nat} (hi : i < 6) (hl : h.length ≤ 5) (hpl : hp + h.length ≤ pg.length) (hh : ∀ k, k < h.length → pg.getD (hp + k) 0 = cd (h.getD k 0)) : ∀ (d k : Nat) {I : Nat → Int → Int}, d + k = h.length → PgM I pg → I 249 (i : Int) = (h.length : Int) → I 263 (i : Int) = (hp : Int) → (∀ q : Nat, q < k → I 248 ((5 * i + q : Nat) : Int) = cd (h.getD q 0)) → (∀ I', frI i I I' → (∀ a, a ≠ 248 → I' a = I a) → HdW I' i h → wpc 63 65 [vR (some 243), vI (i : Int), vI 0, vU] [] (0, 0) (S0 L, R, upM I' 250 (i : Int) (I' 265 (i : Int)), J) Q) → wpc 63 27 [vR (some 243), vI (i : Int), vI (k : Int), vU] [] (0, 0) (S0 L, R, I, J) Q := by
  have h84 := hw.1
  intro d
  induction d with
  | zero =>
    intro k I hd hP h9 h3 hq hQ
    refine b_M_takeInstance_27.mpr ⟨⟨by omega, by omega⟩, ?_⟩
    rw [h9, if_neg (by omega)]
    exact ⟨⟨by omega, by omega⟩, ⟨by omega, by omega⟩, hQ I ⟨fun _ _ => rfl, fun _ _ _ _ _ _ => rfl, fun _ _ => rfl, fun _ _ _ _ _ => rfl⟩ (fun _ _ => rfl) ⟨h9, fun q hq2 => hq q (by omega)⟩⟩
  | succ d ih =>
    intro k I hd hP h9 h3 hq hQ
    refine b_M_takeInstance_27.mpr ⟨⟨by omega, by omega⟩, ?_⟩
    rw [h9, if_pos (by omega), h3]
    refine ⟨⟨by omega, by omega⟩, ?_⟩
    have e1 : w32 ((hp : Int) + (k : Int)) = ((hp + k : Nat) : Int) := by rw [w32_eq (by omega) (by omega)]; omega
    have e2 : w32 (w32 (5 * (i : Int)) + (k : Int)) = ((5 * i + k : Nat) : Int) := by
      rw [w32_eq (z := 5 * (i : Int)) (by omega) (by omega), w32_eq (by omega) (by omega)]; omega
    rw [e1, e2, k_at hw hP, hh k (by omega)]
    refine b_M_takeInstance_50.mpr ⟨⟨by omega, by omega⟩, ?_⟩
    rw [w32_s (by omega)]
    have f1 : frI i I (upM I 248 ((5 * i + k : Nat) : Int) (cd (h.getD k 0))) := ⟨fun a ha => upM_ne (by omega), fun a j p1 _ _ _ => by rw [upM_ne p1], fun j hj => upM_i (by omega), fun a j p1 _ _ => by rw [upM_ne p1]⟩
    refine ih (k + 1) (by omega) ⟨by rw [upM_ne (by decide)]; exact hP.1, fun j hj => by rw [upM_ne (by decide)]; exact hP.2 j hj⟩ (by rw [upM_ne (by decide)]; exact h9) (by rw [upM_ne (by decide)]; exact h3) (fun q hq2 => ?_) (fun I' f2 g2 h2 => hQ I' (f1.tr f2) (fun a ha => by rw [g2 a ha, upM_ne ha]) h2)
    by_cases hqk : q = k
    · rw [hqk, upM_same]
    · rw [upM_i (by omega)]; exact hq q (by omega)
theorem ti_c {pg : List Int} (hw : wfP pg) {i : Nat} {cs : List (Nat × Nat)} (hi : i < 6) (hl : cs.length ≤ 2) (hcs : ∀ k, k < cs.length → (cs.getD k (0, 0)).1 < 4 ∧ (cs.getD k (0, 0)).2 < 2) : ∀ (d k : Nat) {I : Nat → Int → Int}, d + k = cs.length → PgM I pg → I 250 (i : Int) = (cs.length : Int) → (∀ k, k < cs.length → ∃ cp : Nat, I 266 ((2 * i + k : Nat) : Int) = (cp : Int) ∧ cp + 1 < pg.length ∧ pg.getD cp 0 = 48 + ((cs.getD k (0, 0)).1 : Int) ∧ pg.getD (cp + 1) 0 = 120 + ((cs.getD k (0, 0)).2 : Int)) → (∀ q : Nat, q < k → I 251 ((2 * i + q : Nat) : Int) = ((cs.getD q (0, 0)).1 : Int) ∧ I 252 ((2 * i + q : Nat) : Int) = ((cs.getD q (0, 0)).2 : Int)) → (∀ I', frI i I I' → (∀ a, a ≠ 251 → a ≠ 252 → I' a = I a) → (∀ q : Nat, q < cs.length → I' 251 ((2 * i + q : Nat) : Int) = ((cs.getD q (0, 0)).1 : Int) ∧ I' 252 ((2 * i + q : Nat) : Int) = ((cs.getD q (0, 0)).2 : Int)) → Q none (S0 L, R, I', J)) → wpc 63 65 [vR (some 243), vI (i : Int), vI (k : Int), vU] [] (0, 0) (S0 L, R, I, J) Q := by
  have h84 := hw.1
  intro d
  induction d with
  | zero =>
    intro k I hd hP h0 hc hq hQ
    refine b_M_takeInstance_65.mpr ⟨⟨by omega, by omega⟩, ?_⟩
    rw [h0, if_neg (by omega)]
    exact hQ I ⟨fun _ _ => rfl, fun _ _ _ _ _ _ => rfl, fun _ _ => rfl, fun _ _ _ _ _ => rfl⟩ (fun _ _ _ => rfl) (fun q hq2 => hq q (by omega))
  | succ d ih =>
    intro k I hd hP h0 hc hq hQ
    have e2 : w32 (w32 (2 * (i : Int)) + (k : Int)) = ((2 * i + k : Nat) : Int) := by
      rw [w32_eq (z := 2 * (i : Int)) (by omega) (by omega), w32_eq (by omega) (by omega)]; omega
    obtain ⟨cp, c1, c2, c3, c4⟩ := hc k (by omega)
    obtain ⟨v1, v2⟩ := hcs k (by omega)
    refine b_M_takeInstance_65.mpr ⟨⟨by omega, by omega⟩, ?_⟩
    rw [h0, if_pos (by omega), e2, c1, k_figure hw hP, c3]
    refine ⟨⟨by omega, by omega⟩, ?_⟩
    refine b_M_takeInstance_92.mpr ⟨⟨by omega, by omega⟩, ?_⟩
    have e3 : 48 + ((cs.getD k (0, 0)).1 : Int) - 48 = ((cs.getD k (0, 0)).1 : Int) := by omega
    have hP1 : PgM (upM I 251 ((2 * i + k : Nat) : Int) ((cs.getD k (0, 0)).1 : Int)) pg := ⟨by rw [upM_ne (by decide)]; exact hP.1, fun j hj => by rw [upM_ne (by decide)]; exact hP.2 j hj⟩
    rw [e3, w32_s (by omega), k_at hw hP1, c4, e2]
    refine b_M_takeInstance_106.mpr ⟨⟨by omega, by omega⟩, ?_⟩
    have e4 : w32 (120 + ((cs.getD k (0, 0)).2 : Int) - 120) = ((cs.getD k (0, 0)).2 : Int) := by rw [w32_eq (by omega) (by omega)]; omega
    rw [e4, w32_s (by omega)]
    have f1 : frI i I (upM (upM I 251 ((2 * i + k : Nat) : Int) ((cs.getD k (0, 0)).1 : Int)) 252 ((2 * i + k : Nat) : Int) ((cs.getD k (0, 0)).2 : Int)) := ⟨fun a ha => by rw [upM_ne (by omega), upM_ne (by omega)], fun a j _ p2 p3 _ => by rw [upM_ne p3, upM_ne p2], fun j hj => by rw [upM_ne (by decide), upM_ne (by decide)], fun a j _ p2 p3 => by rw [upM_oi (by omega), upM_oi (by omega)]⟩
    have g1 : ∀ a, a ≠ 251 → a ≠ 252 → (upM (upM I 251 ((2 * i + k : Nat) : Int) ((cs.getD k (0, 0)).1 : Int)) 252 ((2 * i + k : Nat) : Int) ((cs.getD k (0, 0)).2 : Int)) a = I a := fun a p1 p2 => by rw [upM_ne p2, upM_ne p1]
    refine ih (k + 1) (by omega) ⟨by rw [g1 243 (by decide) (by decide)]; exact hP.1, fun j hj => by rw [g1 259 (by decide) (by decide)]; exact hP.2 j hj⟩ (by rw [g1 250 (by decide) (by decide)]; exact h0) (fun j hj => by rw [g1 266 (by decide) (by decide)]; exact hc j hj) (fun q hq2 => ?_) (fun I' f2 g2 h2 => hQ I' (f1.tr f2) (fun a p1 p2 => by rw [g2 a p1 p2, g1 a p1 p2]) h2)
    rw [upM_ne (a := 252) (b := 251) (by decide)]
    by_cases hqk : q = k
    · rw [hqk, upM_same, upM_same]; exact ⟨rfl, rfl⟩
    · rw [upM_i (by omega), upM_i (by omega), upM_ne (by decide)]; exact hq q (by omega)
theorem k_takeInstance {pg : List Int} (hw : wfP pg) (hP : PgM I pg) {i n : Nat} {x : INS} (hi : i < 6) (hn : n ≤ 4) (hx : InM I pg i x) (ok : okIns n x) (hQ : ∀ I', frI i I I' → InE I' i x → Q none (S0 L, R, I', J)) : wpC 63 [vR (some 243), vI (i : Int)] (S0 L, R, I, J) Q := by
  obtain ⟨x1, x2, x3, ⟨hp, x4, x5, x6⟩, x7, x8⟩ := hx
  obtain ⟨o1, o2, o3, o4, o5, o6⟩ := ok
  refine c_M_takeInstance.mpr ⟨⟨by omega, by omega⟩, ⟨by omega, by omega⟩, ⟨by omega, by omega⟩, ⟨by omega, by omega⟩, ⟨by omega, by omega⟩, ⟨by omega, by omega⟩, ?_⟩
  rw [upM_ne (a := 247) (b := 264) (by decide), upM_ne (a := 246) (b := 264) (by decide), upM_ne (a := 246) (b := 262) (by decide), x1, x2, x3]
  have g1 : ∀ a, a ≠ 246 → a ≠ 247 → a ≠ 249 → (upM (upM (upM I 246 (i : Int) (x.1 : Int)) 247 (i : Int) (x.2.1 : Int)) 249 (i : Int) (x.2.2.1.length : Int)) a = I a := fun a p1 p2 p3 => by rw [upM_ne p3, upM_ne p2, upM_ne p1]
  have f1 : frI i I (upM (upM (upM I 246 (i : Int) (x.1 : Int)) 247 (i : Int) (x.2.1 : Int)) 249 (i : Int) (x.2.2.1.length : Int)) := ⟨fun a ha => g1 a (by omega) (by omega) (by omega), fun a j _ _ _ p4 => by rw [upM_oi p4, upM_oi p4, upM_oi p4], fun j hj => by rw [g1 248 (by decide) (by decide) (by decide)], fun a j _ _ p3 => by rw [g1 a (by omega) (by omega) (by omega)]⟩
  have v1 : (upM (upM (upM I 246 (i : Int) (x.1 : Int)) 247 (i : Int) (x.2.1 : Int)) 249 (i : Int) (x.2.2.1.length : Int)) 246 (i : Int) = (x.1 : Int) ∧ (upM (upM (upM I 246 (i : Int) (x.1 : Int)) 247 (i : Int) (x.2.1 : Int)) 249 (i : Int) (x.2.2.1.length : Int)) 247 (i : Int) = (x.2.1 : Int) ∧ (upM (upM (upM I 246 (i : Int) (x.1 : Int)) 247 (i : Int) (x.2.1 : Int)) 249 (i : Int) (x.2.2.1.length : Int)) 249 (i : Int) = (x.2.2.1.length : Int) := ⟨by rw [upM_ne (by decide), upM_ne (by decide), upM_same], by rw [upM_ne (by decide), upM_same], upM_same⟩
  generalize (upM (upM (upM I 246 (i : Int) (x.1 : Int)) 247 (i : Int) (x.2.1 : Int)) 249 (i : Int) (x.2.2.1.length : Int)) = I1 at *
  refine ti_h hw hi o4 x5 x6 x.2.2.1.length 0 (by omega) ⟨by rw [g1 243 (by decide) (by decide) (by decide)]; exact hP.1, fun j hj => by rw [g1 259 (by decide) (by decide) (by decide)]; exact hP.2 j hj⟩ v1.2.2 (by rw [g1 263 (by decide) (by decide) (by decide)]; exact x4) (fun q hq => by omega) (fun I2 f2 g2 h2 => ?_)
  rw [g2 265 (by decide), g1 265 (by decide) (by decide) (by decide), x7]
  have f3 : frI i I2 (upM I2 250 (i : Int) (x.2.2.2.length : Int)) := ⟨fun a ha => upM_ne (by omega), fun a j _ _ _ p4 => upM_oi p4, fun j hj => by rw [upM_ne (by decide)], fun a j _ _ p3 => by rw [upM_ne (by omega)]⟩
  refine ti_c hw hi o5 (fun k hk => ⟨by have := (o6 k hk).1; omega, (o6 k hk).2.1⟩) x.2.2.2.length 0 (by omega) ⟨by rw [upM_ne (by decide), g2 243 (by decide), g1 243 (by decide) (by decide) (by decide)]; exact hP.1, fun j hj => by rw [upM_ne (by decide), g2 259 (by decide), g1 259 (by decide) (by decide) (by decide)]; exact hP.2 j hj⟩ upM_same (fun k hk => by rw [upM_ne (by decide), g2 266 (by decide), g1 266 (by decide) (by decide) (by decide)]; exact x8 k hk) (fun q hq => by omega) (fun I4 f4 g4 h4 => ?_)
  refine hQ I4 (((f1.tr f2).tr f3).tr f4) ⟨?_, ?_, ?_, ?_, h4⟩
  · rw [g4 246 (by decide) (by decide), upM_ne (by decide), g2 246 (by decide)]; exact v1.1
  · rw [g4 247 (by decide) (by decide), upM_ne (by decide), g2 247 (by decide)]; exact v1.2.1
  · unfold HdW at *
    rw [g4 248 (by decide) (by decide), g4 249 (by decide) (by decide), upM_ne (by decide), upM_ne (by decide)]; exact h2
  · rw [g4 250 (by decide) (by decide), upM_same]
theorem k_spFit {E : EN} {nC : Nat} (hE : wfE E nC) (hM : EnM I E) {i e : Nat} (hi : i < eN E) (he : e < eN E) (hn : NowW I (eH E i)) (hs : SzW I (eH E i)) (hQ : ∀ I', (∀ a, a ≠ 269 → I' a = I a) → Q (some (vI (bi (fitB E e (eH E i) = true)))) (S0 L, R, I', J)) : wpC 68 [vR (some 243), vI (e : Int), vI 0] (S0 L, R, I, J) Q := by
  have h6 := hE.1
  obtain ⟨_, _, hw1, hl1, _⟩ := hE.2 i hi
  obtain ⟨_, _, hw2, hl2, _⟩ := hE.2 e he
  refine k_fitsAt (p := 0) (by omega) hl2 hw2 hw1 (by omega) (List.length_pos_iff.mpr (ne_wf1 hw1)) (hM.2 e he).2.2.1 hn hs (fun I' f => ?_)
  have hq := hQ I' f
  unfold fitB at hq
  rw [sub_all hw1]
  cases hm : mtc (eH E e) (eH E i) [] [] with
  | none => rw [hm, bi_f (by decide)] at hq; exact hq
  | some ab => intro _; rw [hm, bi_t (c := (some ab).isSome = true) rfl] at hq; exact hq
/-- what the comparing of heads changes -/
def frX (I I' : Nat → Int → Int) : Prop := (∀ a, a ≠ 243 → a ≠ 253 → a ≠ 267 → a ≠ 268 → a ≠ 269 → I' a = I a) ∧ ∀ j : Int, j ≠ 34 → I' 243 j = I 243 j
theorem frX.tr {I I' I2 : Nat → Int → Int} (h : frX I I') (h2 : frX I' I2) : frX I I2 := ⟨fun a p1 p2 p3 p4 p5 => by rw [h2.1 a p1 p2 p3 p4 p5, h.1 a p1 p2 p3 p4 p5], fun j hj => by rw [h2.2 j hj, h.2 j hj]⟩
theorem frX.en {I I' : Nat → Int → Int} {E : EN} (h : frX I I') (hM : EnM I E) : EnM I' E := hM.fr (h.2 4 (by decide)) (fun a h3 h4 => h.1 a (by omega) (by omega) (by omega) (by omega) (by omega))
theorem frW.x {I I' : Nat → Int → Int} (h : frW I I') : frX I I' := ⟨fun a p1 _ p3 p4 _ => h.1 a p1 p3 p4, h.2⟩
theorem fr9.x {I I' : Nat → Int → Int} (h : ∀ a, a ≠ 269 → I' a = I a) : frX I I' := ⟨fun a _ _ _ _ p5 => h a p5, fun j _ => by rw [h 243 (by decide)]⟩
theorem ls_row {E : EN} {nC : Nat} (hE : wfE E nC) : ∀ (d i e d2 : Nat) {I : Nat → Int → Int}, d + i = eN E → d2 + e = eN E → (i < eN E ∨ e = 0) → EnM I E → (∀ i' e' : Nat, i' < eN E → e' < eN E → (i' < i ∨ (i' = i ∧ e' < e)) → I 253 ((6 * i' + e' : Nat) : Int) = bi (spc E i' e' = true)) → (∀ I', frX I I' → SpM I' E → Q none (S0 L, R, I', J)) → (if i < eN E then wpc 69 11 [vR (some 243), vI (i : Int), vI (e : Int), vU] [] (0, 0) (S0 L, R, I, J) Q else wpc 69 3 [vR (some 243), vI (i : Int), vU, vU] [] (0, 0) (S0 L, R, I, J) Q) := by
  have h6 := hE.1
  intro d
  induction d with
  | zero =>
    intro i e d2 I hi _ _ hM hs hQ
    rw [if_neg (by omega)]
    refine b_M_laySpecial_3.mpr ?_
    rw [hM.1, if_neg (by omega)]
    exact hQ I ⟨fun _ _ _ _ _ _ => rfl, fun _ _ => rfl⟩ (fun i' e' h1 h2 => hs i' e' h1 h2 (Or.inl (by omega)))
  | succ d ih =>
    intro i e d2
    induction d2 generalizing e with
    | zero =>
      intro I hi he _ hM hs hQ
      rw [if_pos (by omega)]
      refine b_M_laySpecial_11.mpr ?_
      rw [hM.1, if_neg (by omega), w32_s (by omega)]
      have := ih (i + 1) 0 (eN E) (by omega) (by omega) (Or.inr rfl) hM (fun i' e' h1 h2 h3 => hs i' e' h1 h2 (by omega)) hQ
      by_cases hin : i + 1 < eN E
      · rw [if_pos hin] at this
        refine b_M_laySpecial_3.mpr ?_
        rw [hM.1, if_pos (by omega)]
        exact this
      · rw [if_neg hin] at this
        exact this
    | succ d2 ih2 =>
      intro I hi he hie hM hs hQ
      have hi2 : i < eN E := by omega
      have he2 : e < eN E := by omega
      obtain ⟨_, _, hw1, hl1, _⟩ := hE.2 i hi2
      obtain ⟨_, _, hw2, hl2, _⟩ := hE.2 e he2
      rw [if_pos hi2]
      refine b_M_laySpecial_11.mpr ?_
      rw [hM.1, if_pos (by omega)]
      refine k_layHead (by omega) hw1 hl1 (hM.2 i hi2).2.2.1 (fun I1 f1 n1 s1 => ?_)
      have x1 := f1.x
      refine b_M_laySpecial_20.mpr ?_
      refine k_spFit hE (x1.en hM) hi2 he2 n1 s1 (fun I2 f2 => ?_)
      have x2 := x1.tr (fr9.x f2)
      refine b_M_laySpecial_25.mpr ?_
      refine k_layHead (by omega) hw2 hl2 ((x2.en hM).2 e he2).2.2.1 (fun I3 f3 n3 s3 => ?_)
      have x3 := x2.tr f3.x
      refine b_M_laySpecial_30.mpr ?_
      have e1 : w32 (w32 (6 * (i : Int)) + (e : Int)) = ((6 * i + e : Nat) : Int) := by
        rw [w32_eq (z := 6 * (i : Int)) (by omega) (by omega), w32_eq (by omega) (by omega)]; omega
      have hgo : ∀ (I4 : Nat → Int → Int) (z : Int), frX I I4 → I4 253 = I 253 → z = bi (spc E i e = true) → wpc 69 11 [vR (some 243), vI (i : Int), vI ((e + 1 : Nat) : Int), vU] [] (0, 0) (S0 L, R, upM I4 253 ((6 * i + e : Nat) : Int) z, J) Q := by
        intro I4 z x4 h53 hz
        have x5 : frX I (upM I4 253 ((6 * i + e : Nat) : Int) z) := x4.tr ⟨fun a _ p2 _ _ _ => upM_ne p2, fun j _ => by rw [upM_ne (by decide)]⟩
        have := ih2 (e + 1) hi (by omega) (Or.inl hi2) (x5.en hM) (fun i' e' h1 h2 h3 => ?_) (fun I' f h => hQ I' (x5.tr f) h)
        · rw [if_pos hi2] at this; exact this
        · by_cases hx : i' = i ∧ e' = e
          · rw [hx.1, hx.2, upM_same]; exact hz
          · rw [upM_i (by omega), h53]; exact hs i' e' h1 h2 (by omega)
      have h53 : I3 253 = I 253 := by rw [f3.1 253 (by decide) (by decide) (by decide), f2 253 (by decide), f1.1 253 (by decide) (by decide) (by decide)]
      rw [e1, w32_s (by omega)]
      by_cases hb : fitB E e (eH E i) = true
      · rw [if_neg (fun q => bi_0.mp q hb)]
        refine k_spFit hE (x3.en hM) he2 hi2 n3 s3 (fun I4 f4 => ?_)
        have x4 := x3.tr (fr9.x f4)
        have h54 : I4 253 = I 253 := by rw [f4 253 (by decide), h53]
        refine b_M_laySpecial_45.mpr ?_
        rw [w32_s (by omega)]
        by_cases hc : fitB E i (eH E e) = true
        · rw [if_neg (fun q => bi_0.mp q hc)]
          exact ⟨⟨by omega, by omega⟩, hgo I4 0 x4 h54 (bi_f (by unfold spc; rw [hc]; simp)).symm⟩
        · rw [if_pos (bi_0.mpr hc)]
          exact ⟨⟨by omega, by omega⟩, hgo I4 1 x4 h54 (bi_t (by unfold spc; rw [hb, Bool.eq_false_iff.mpr hc]; rfl)).symm⟩
      · rw [if_pos (bi_0.mpr hb)]
        exact ⟨⟨by omega, by omega⟩, hgo I3 0 x3 h53 (bi_f (by unfold spc; rw [Bool.eq_false_iff.mpr hb]; simp)).symm⟩
theorem k_laySpecial {E : EN} {nC : Nat} (hE : wfE E nC) (hM : EnM I E) (hQ : ∀ I', frX I I' → SpM I' E → Q none (S0 L, R, I', J)) : wpC 69 [vR (some 243)] (S0 L, R, I, J) Q := by
  refine c_M_laySpecial.mpr ?_
  have := ls_row (L := L) (R := R) (J := J) (Q := Q) hE (eN E) 0 0 (eN E) (by omega) (by omega) (Or.inr rfl) hM (fun i' e' h1 h2 h3 => by omega) hQ
  by_cases h0 : 0 < eN E
  · rw [if_pos h0] at this
    refine b_M_laySpecial_3.mpr ?_
    rw [hM.1, if_pos (by omega)]
    exact this
  · rw [if_neg h0] at this
    exact this
/-- classes are taken -/
def frKc (I I' : Nat → Int → Int) : Prop := ∀ a, a ≠ 244 → a ≠ 245 → I' a = I a
theorem bc_in {rs : List Nat} (h4 : rs.length ≤ 4) (hb : ∀ c, c < rs.length → rs.getD c 0 < 2 ^ c) {c : Nat} (hc : c < rs.length) : ∀ (d e : Nat) {I : Nat → Int → Int}, d + e = c → RcM I rs → (∀ e' : Nat, e' < c → I 245 (e' : Int) = ((absL (fun c => rs.getD c 0) c).getD e' 0 : Int)) → I 245 (c : Int) = (abr (rs.getD c 0) (absL (fun c => rs.getD c 0) c) e : Int) → (∀ I', (∀ a, a ≠ 245 → I' a = I a) → (∀ j : Int, j ≠ (c : Int) → I' 245 j = I 245 j) → I' 245 (c : Int) = (abr (rs.getD c 0) (absL (fun c => rs.getD c 0) c) c : Int) → wpc 62 18 [vR (some 243), vI ((c + 1 : Nat) : Int), vU] [] (0, 0) (S0 L, R, I', J) Q) → wpc 62 42 [vR (some 243), vI (c : Int), vI (e : Int)] [] (0, 0) (S0 L, R, I, J) Q := by
  have hlt := absL_lt (rs := fun c => rs.getD c 0) (n := c) (fun c' h => hb c' (by omega))
  have hrl : ∀ e, e ≤ c → abr (rs.getD c 0) (absL (fun c => rs.getD c 0) c) e < 256 := fun e he => pow16 (by omega) (abr_lt (hb c hc) hlt e he)
  intro d
  induction d with
  | zero =>
    intro e I hd hR h5 hce hQ
    refine b_M_book_42.mpr ?_
    rw [if_neg (by omega), w32_s (by omega)]
    have : e = c := by omega
    subst this
    exact hQ I (fun _ _ => rfl) (fun _ _ => rfl) hce
  | succ d ih =>
    intro e I hd hR h5 hce hQ
    refine b_M_book_42.mpr ?_
    rw [if_pos (by omega), hR.2 c hc, hce, k_isIn (pow16 (by omega) (hb c hc)) (by omega)]
    refine ⟨⟨by omega, by omega⟩, ⟨by omega, by omega⟩, ?_⟩
    have hgo : ∀ z : Int, z = (abr (rs.getD c 0) (absL (fun c => rs.getD c 0) c) (e + 1) : Int) → wpc 62 42 [vR (some 243), vI (c : Int), vI ((e + 1 : Nat) : Int)] [] (0, 0) (S0 L, R, upM I 245 (c : Int) z, J) Q := by
      intro z hz
      refine ih (e + 1) (by omega) (hR.fr (by rw [upM_ne (by decide)]) (fun c' _ => by rw [upM_ne (by decide)])) (fun e' he' => by rw [upM_i (by omega)]; exact h5 e' he') (by rw [upM_same]; exact hz) (fun I' f1 f2 f3 => hQ I' (fun a ha => by rw [f1 a ha, upM_ne ha]) (fun j hj => by rw [f2 j hj, upM_i hj]) f3)
    have he0 : abr (rs.getD c 0) (absL (fun c => rs.getD c 0) c) (e + 1) = abr (rs.getD c 0) (absL (fun c => rs.getD c 0) c) e ||| (if (rs.getD c 0).testBit e then (absL (fun c => rs.getD c 0) c).getD e 0 else 0) := rfl
    have h1 := hrl e (by omega)
    refine b_M_book_58.mpr ?_
    rw [w32_s (by omega)]
    by_cases ht : (rs.getD c 0).testBit e = true
    · rw [if_neg (fun q => bi_0.mp q ht), h5 e (by omega)]
      refine ⟨⟨by omega, by omega⟩, ⟨by omega, by omega⟩, hgo _ ?_⟩
      rw [he0, if_pos ht]
      exact ior_nat (by omega) (by have := pow16 (c := e) (by omega) (hlt e (by omega)); omega)
    · rw [if_pos (bi_0.mpr ht)]
      refine ⟨⟨by omega, by omega⟩, hgo _ ?_⟩
      rw [he0, if_neg ht, Nat.or_zero]
      exact ior0 h1
theorem bc_out {rs : List Nat} (h4 : rs.length ≤ 4) (hb : ∀ c, c < rs.length → rs.getD c 0 < 2 ^ c) : ∀ (d c : Nat) {I : Nat → Int → Int}, d + c = rs.length → I 243 1 = (rs.length : Int) → RcM I rs → (∀ e' : Nat, e' < c → I 244 (e' : Int) = (rs.getD e' 0 : Int) ∧ I 245 (e' : Int) = ((absL (fun c => rs.getD c 0) c).getD e' 0 : Int)) → (∀ I', frKc I I' → ClM I' rs.length (fun c => rs.getD c 0) (fun c => (absL (fun c => rs.getD c 0) rs.length).getD c 0) → wpc 62 83 [vR (some 243), vI 0, vU] [] (0, 0) (S0 L, R, upM I' 243 4 (I' 243 24), J) Q) → wpc 62 18 [vR (some 243), vI (c : Int), vU] [] (0, 0) (S0 L, R, I, J) Q := by
  intro d
  induction d with
  | zero =>
    intro c I hd h1 hR hq hQ
    refine b_M_book_18.mpr ?_
    rw [h1, if_neg (by omega)]
    have : c = rs.length := by omega
    subst this
    exact hQ I (fun _ _ _ => rfl) ⟨h1, hq⟩
  | succ d ih =>
    intro c I hd h1 hR hq hQ
    have hc : c < rs.length := by omega
    refine b_M_book_18.mpr ?_
    rw [h1, if_pos (by omega), upM_ne (a := 244) (b := 260) (by decide), hR.2 c hc]
    refine ⟨⟨by omega, by omega⟩, ⟨by omega, by omega⟩, ⟨by omega, by omega⟩, ⟨by omega, by omega⟩, ?_⟩
    have g1 : ∀ a, a ≠ 244 → a ≠ 245 → (upM (upM I 244 (c : Int) (rs.getD c 0 : Int)) 245 (c : Int) (rs.getD c 0 : Int)) a = I a := fun a p1 p2 => by rw [upM_ne p2, upM_ne p1]
    refine bc_in h4 hb hc c 0 (by omega) (hR.fr (by rw [g1 243 (by decide) (by decide)]) (fun c' _ => by rw [g1 260 (by decide) (by decide)])) (fun e' he' => by rw [upM_i (by omega), upM_ne (by decide)]; exact (hq e' he').2) upM_same (fun I' f1 f2 f3 => ?_)
    refine ih (c + 1) (by omega) (by rw [f1 243 (by decide), g1 243 (by decide) (by decide)]; exact h1) (hR.fr (by rw [f1 243 (by decide), g1 243 (by decide) (by decide)]) (fun c' _ => by rw [f1 260 (by decide), g1 260 (by decide) (by decide)])) (fun e' he' => ?_) (fun I2 f4 h4 => hQ I2 (fun a p1 p2 => by rw [f4 a p1 p2, f1 a p2, g1 a p1 p2]) h4)
    have e0 : (absL (fun c => rs.getD c 0) (c + 1)).getD e' 0 = if e' < c then (absL (fun c => rs.getD c 0) c).getD e' 0 else if e' = c then abr (rs.getD c 0) (absL (fun c => rs.getD c 0) c) c else 0 := by
      show (absL (fun c => rs.getD c 0) c ++ [_]).getD e' 0 = _
      rw [getD_app, absL_len]
    rw [e0, f1 244 (by decide), upM_ne (a := 245) (b := 244) (by decide)]
    by_cases hec : e' < c
    · rw [if_pos hec, upM_i (by omega), f2 _ (by omega), upM_i (by omega), upM_ne (by decide)]; exact hq e' hec
    · rw [if_neg hec, if_pos (by omega), show e' = c by omega, upM_same]
      exact ⟨rfl, f3⟩
theorem bi_loop {pg : List Int} (hw : wfP pg) {ins : List INS} {n : Nat} (h6 : ins.length ≤ 6) (hn : n ≤ 4) (ok : ∀ i, i < ins.length → okIns n (ins.getD i (0, 0, [], []))) : ∀ (d i : Nat) {I : Nat → Int → Int}, d + i = ins.length → I 243 4 = (ins.length : Int) → PgM I pg → (∀ j, j < ins.length → InM I pg j (ins.getD j (0, 0, [], []))) → (∀ j, j < i → InE I j (ins.getD j (0, 0, [], []))) → (∀ I', (∀ a, a < 246 ∨ 252 < a → I' a = I a) → EnM I' (mkE ins) → wpC 69 [vR (some 243)] (S0 L, R, I', J) (fun v M2 => wpc 62 98 [vR (some 243), vU, vU] (v.toList ++ []) (0, 0) M2 Q)) → wpc 62 83 [vR (some 243), vI (i : Int), vU] [] (0, 0) (S0 L, R, I, J) Q := by
  intro d
  induction d with
  | zero =>
    intro i I hd h4 hP hx hi hQ
    refine b_M_book_83.mpr ?_
    rw [h4, if_neg (by omega)]
    exact hQ I (fun _ _ => rfl) ⟨h4, fun j hj => hi j (by have : j < ins.length := hj; omega)⟩
  | succ d ih =>
    intro i I hd h4 hP hx hi hQ
    refine b_M_book_83.mpr ?_
    rw [h4, if_pos (by omega)]
    refine k_takeInstance hw hP (by omega) hn (hx i (by omega)) (ok i (by omega)) (fun I' f1 g1 => ?_)
    refine b_M_book_92.mpr ?_
    rw [w32_s (by omega)]
    refine ih (i + 1) (by omega) (by rw [f1.1 243 (by omega)]; exact h4) ⟨by rw [f1.1 243 (by omega)]; exact hP.1, fun j hj => by rw [f1.1 259 (by omega)]; exact hP.2 j hj⟩ (fun j hj => (hx j hj).fr (fun a _ _ => by rw [f1.1 a (by omega)]) (fun k _ => by rw [f1.1 266 (by omega)])) (fun j hj => ?_) (fun I2 f2 g2 => hQ I2 (fun a ha => by rw [f2 a ha, f1.1 a ha]) g2)
    by_cases hji : j = i
    · rw [hji]; exact g1
    · have hj6 : j < ins.length := by omega
      exact (hi j (by omega)).fr f1 hji (ok j hj6).2.2.2.1 (ok j hj6).2.2.2.2.1
theorem bs_loop : ∀ (d k : Nat) {I : Nat → Int → Int}, d + k = 4 → (∀ q : Nat, q < k → I 255 (q : Int) = 0) → (∀ I', (∀ a, a ≠ 255 → I' a = I a) → (∀ q : Nat, q < 4 → I' 255 (q : Int) = 0) → Q (some (vI ((upM (upM (upM I' 243 0 (w32 (I' 243 0 + 1))) 243 15 0) 243 19 0) 243 4))) (S0 L, R, upM (upM (upM I' 243 0 (w32 (I' 243 0 + 1))) 243 15 0) 243 19 0, J)) → wpc 62 101 [vR (some 243), vI (k : Int), vU] [] (0, 0) (S0 L, R, I, J) Q := by
  intro d
  induction d with
  | zero =>
    intro k I hd hq hQ
    refine b_M_book_101.mpr ?_
    rw [if_neg (by omega)]
    exact hQ I (fun _ _ => rfl) (fun q h => hq q (by omega))
  | succ d ih =>
    intro k I hd hq hQ
    refine b_M_book_101.mpr ?_
    rw [if_pos (by omega), w32_s (by omega)]
    refine ⟨⟨by omega, by omega⟩, ih (k + 1) (by omega) (fun q h => ?_) (fun I' f1 h1 => hQ I' (fun a ha => by rw [f1 a ha, upM_ne ha]) h1)⟩
    by_cases hqk : q = k
    · rw [hqk, upM_same]
    · rw [upM_i (by omega)]; exact hq q (by omega)
theorem m_book (hw : wfS s) (hM : MSt I s) (hQ : mpost L R I J (vI (q_book s).1) (q_book s).2 Q) : wpC 62 [vR (some 243)] (S0 L, R, I, J) Q := by
  have hB := hw.2.1
  refine c_M_book.mpr ?_
  refine k_read hw.1 hM.1 (fun I1 f1 h21 h3 => ?_)
  refine b_M_book_3.mpr ?_
  unfold q_book at hQ
  rw [h21]
  by_cases hwh : whlB (sP s) = true
  · rw [if_pos hwh] at hQ
    rw [if_neg (fun q => bi_0.mp q hwh)]
    obtain ⟨b1, b2, b3, b4, b5⟩ := bk_ok hwh
    obtain ⟨rs, r, d, l, xs, x, e1, hR, hI⟩ := h3 hwh
    have eR : bkR s = rs := by unfold bkR; rw [e1]
    have eI : bkI s = xs ++ [x] := by unfold bkI; rw [e1]
    rw [eR] at b1 b2 b3 b5
    rw [eI] at b4 b5
    rw [hR.1]
    have g2 : ∀ a, a ≠ 243 → (upM I1 243 1 (rs.length : Int)) a = I1 a := fun a ha => upM_ne ha
    have hM1 := hM.fr f1.m
    refine bc_out b1 b3 rs.length 0 (by omega) upM_same (hR.fr (by rw [upM_i (by decide)]) (fun c _ => by rw [g2 260 (by decide)])) (fun e' he' => by omega) (fun I3 f3 hC => ?_)
    have h24 : I3 243 24 = ((xs ++ [x]).length : Int) := by rw [f3 243 (by decide) (by decide), upM_i (by decide)]; exact hI.1
    rw [h24]
    have g4 : ∀ a, a ≠ 243 → a ≠ 244 → a ≠ 245 → (upM I3 243 4 ((xs ++ [x]).length : Int)) a = I1 a := fun a p1 p2 p3 => by rw [upM_ne p1, f3 a p2 p3, g2 a p1]
    have q4 : ∀ j : Int, j ≠ 4 → j ≠ 1 → (upM I3 243 4 ((xs ++ [x]).length : Int)) 243 j = I1 243 j := fun j p1 p2 => by rw [upM_i p1, f3 243 (by decide) (by decide), upM_i p2]
    refine bi_loop hw.1 b4 b1 b5 (xs ++ [x]).length 0 (by omega) upM_same ⟨by rw [q4 19 (by decide) (by decide)]; exact hM1.1.1, fun k hk => by rw [g4 259 (by decide) (by decide) (by decide)]; exact hM1.1.2 k hk⟩ (fun j hj => (hI.2 j hj).fr (fun a _ _ => by rw [g4 a (by omega) (by omega) (by omega)]) (fun k _ => by rw [g4 266 (by decide) (by decide) (by decide)])) (fun j hj => by omega) (fun I5 f5 hE5 => ?_)
    refine k_laySpecial (wfE_mk b4 b5) hE5 (fun I6 f6 hS6 => ?_)
    refine b_M_book_98.mpr ?_
    refine bs_loop 4 0 rfl (fun q h => by omega) (fun I7 f7 h7 => ?_)
    have A : ∀ a, (243 < a ∧ a < 244) ∨ (245 < a ∧ a < 246) ∨ (253 < a ∧ a < 255) ∨ (255 < a ∧ a < 260) ∨ 282 < a ∨ a < 243 → (upM (upM (upM I7 243 0 (w32 (I7 243 0 + 1))) 243 15 0) 243 19 0) a = I a := fun a ha => by
      rw [upM_ne (by omega), upM_ne (by omega), upM_ne (by omega), f7 a (by omega), f6.1 a (by omega) (by omega) (by omega) (by omega) (by omega), f5 a (by omega), g4 a (by omega) (by omega) (by omega), f1.1 a (by omega)]
    have A43 : ∀ j : Int, j ≠ 34 → I7 243 j = upM I3 243 4 ((xs ++ [x]).length : Int) 243 j := fun j hj => by rw [f7 243 (by decide), f6.2 j hj, f5 243 (by omega)]
    have h70 : I7 243 0 = (sB s : Int) := by rw [A43 0 (by decide), q4 0 (by decide) (by decide)]; exact hM1.2.1
    have h74 : I7 243 4 = ((xs ++ [x]).length : Int) := by rw [A43 4 (by decide), upM_same]
    rw [h70, w32_s (by omega), upM_i (by decide), upM_i (by decide), upM_i (by decide), h74]
    rw [h70, w32_s (by omega)] at A
    rw [eI] at hQ
    have q8 : ∀ j : Int, j ≠ 0 → j ≠ 15 → j ≠ 19 → (upM (upM (upM I7 243 0 ((sB s + 1 : Nat) : Int)) 243 15 0) 243 19 0) 243 j = I7 243 j := fun j p1 p2 p3 => by rw [upM_i p3, upM_i p2, upM_i p1]
    have g8 : ∀ a, a ≠ 243 → (upM (upM (upM I7 243 0 ((sB s + 1 : Nat) : Int)) 243 15 0) 243 19 0) a = I7 a := fun a p1 => by rw [upM_ne p1, upM_ne p1, upM_ne p1]
    refine hQ _ _ ?_ (fun a ha => A a (by omega)) (fun _ _ => rfl)
    refine ⟨⟨upM_same, fun k hk => absurd hk (by show ¬ k < 0; omega)⟩, ?_, ?_, ?_, ?_, fun k hk => ?_, ⟨?_, fun k hk => absurd hk (by show ¬ k < 0; omega)⟩, ?_⟩
    · rw [upM_i (by decide), upM_i (by decide), upM_same]; rfl
    · show ClM _ (bkR s).length (fun c => (bkR s).getD c 0) (fun c => (absL (fun c => (bkR s).getD c 0) (bkR s).length).getD c 0)
      rw [eR]
      refine hC.fr ?_ ?_ ?_
      · rw [q8 1 (by decide) (by decide) (by decide), A43 1 (by decide), upM_i (by decide)]
      · rw [g8 244 (by decide), f7 244 (by decide), f6.1 244 (by decide) (by decide) (by decide) (by decide) (by decide), f5 244 (by omega), upM_ne (by decide)]
      · rw [g8 245 (by decide), f7 245 (by decide), f6.1 245 (by decide) (by decide) (by decide) (by decide) (by decide), f5 245 (by omega), upM_ne (by decide)]
    · show EnM _ (mkE (bkI s))
      rw [eI]
      refine hE5.fr ?_ (fun a p1 p2 => ?_)
      · rw [q8 4 (by decide) (by decide) (by decide), f7 243 (by decide), f6.2 4 (by decide)]
      · rw [g8 a (by omega), f7 a (by omega), f6.1 a (by omega) (by omega) (by omega) (by omega) (by omega)]
    · show SpM _ (mkE (bkI s))
      rw [eI]
      exact hS6.fr (by rw [g8 253 (by decide), f7 253 (by decide)])
    · exact ⟨by rw [g8 255 (by decide)]; exact h7 k hk, fun p hp => absurd hp (by show ¬ p < 0; omega)⟩
    · rw [upM_i (by decide), upM_same]; rfl
    · obtain ⟨i1, i2⟩ := hM.2.2.2.2.2.2.2
      have r53 : ∀ j : Int, 50 < j → (upM (upM (upM I7 243 0 ((sB s + 1 : Nat) : Int)) 243 15 0) 243 19 0) 243 j = I 243 j := fun j hj => by
        rw [q8 j (by omega) (by omega) (by omega), A43 j (by omega), q4 j (by omega) (by omega), f1.2 j (by omega) (by omega) (by omega) (by omega)]
      refine ⟨?_, ?_⟩
      · rw [r53 53 (by decide), r53 54 (by decide)]
        rcases i1 with h | h
        · exact Or.inl h
        · refine Or.inr ⟨h.1, ?_⟩
          show I 243 54 ≤ ((sB s + 1 : Nat) : Int)
          omega
      · show ¬ ((upM (upM (upM I7 243 0 ((sB s + 1 : Nat) : Int)) 243 15 0) 243 19 0) 243 53 = 1 ∧ (upM (upM (upM I7 243 0 ((sB s + 1 : Nat) : Int)) 243 15 0) 243 19 0) 243 54 = ((sB s + 1 : Nat) : Int))
        rw [r53 53 (by decide), r53 54 (by decide)]
        rcases i1 with h | h
        · exact fun q => by omega
        · exact fun q => by omega
  · rw [if_neg hwh] at hQ
    rw [if_pos (bi_0.mpr hwh)]
    exact hQ.t hM f1.m
end MBk
