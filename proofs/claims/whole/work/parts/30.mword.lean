-- ===== the reference: letters, the type that is looked at =====
theorem upM_same {α : Type} {I : Nat → Int → α} {a : Nat} {i : Int} {z : α} : upM I a i z a i = z := by
  unfold upM upr; rw [if_pos rfl, if_pos rfl]
theorem upM_i {α : Type} {I : Nat → Int → α} {a : Nat} {i i' : Int} {z : α} (h : i' ≠ i) : upM I a i z a i' = I a i' := by
  unfold upM upr; rw [if_pos rfl, if_neg h]
theorem w32_s {p : Nat} (h : p < 100000) : w32 ((p : Int) + 1) = ((p + 1 : Nat) : Int) := by
  rw [w32_eq (by omega) (by omega)]; omega
theorem w32_p {p : Nat} (h : p < 100000) : w32 (((p + 1 : Nat) : Int) + (-1)) = (p : Int) := by
  rw [w32_eq (by omega) (by omega)]; omega
/-- the letter of a sign, the sign of a letter -/
def cd (s : Nat) : Int := if s = 0 then 105 else if s = 1 then 98 else if s = 2 then 108 else if s = 3 then 112 else if s = 4 then 120 else 121
def sg (c : Int) : Int := if c = 105 then 0 else if c = 98 then 1 else if c = 108 then 2 else if c = 112 then 3 else if c = 120 then 4 else if c = 121 then 5 else -1
theorem lt6 {s : Nat} (h : s < 6) : s = 0 ∨ s = 1 ∨ s = 2 ∨ s = 3 ∨ s = 4 ∨ s = 5 := by omega
theorem sg_cd {s : Nat} (h : s < 6) : sg (cd s) = (s : Int) := by
  rcases lt6 h with rfl | rfl | rfl | rfl | rfl | rfl <;> decide
theorem cd_inj {s t : Nat} (hs : s < 6) (ht : t < 6) : cd s = cd t ↔ s = t := by
  constructor
  · intro h
    have h2 := congrArg sg h
    rw [sg_cd hs, sg_cd ht] at h2
    omega
  · intro h; rw [h]
theorem cd_r (s : Nat) : 98 ≤ cd s ∧ cd s ≤ 121 := by
  unfold cd
  repeat' split
  all_goals omega
theorem cd_var {s : Nat} (hs : s < 6) (h4 : 4 ≤ s) : cd s = 116 + (s : Int) := by
  have : s = 4 ∨ s = 5 := by omega
  rcases this with rfl | rfl <;> decide
def wnt (c : Int) : Int := if c = 98 then 0 else if c = 105 then 0 else if c = 108 then 1 else if c = 112 then 2 else if c = 120 then 0 else if c = 121 then 0 else -1
theorem wnt_cd {s : Nat} (h : s < 6) : wnt (cd s) = (pts s : Int) := by
  rcases lt6 h with rfl | rfl | rfl | rfl | rfl | rfl <;> decide
section MW
variable {L : Nat} {R : Nat → Int → Option Nat} {I : Nat → Int → Int} {J : Nat → Int → Int64} {Q : Option MV → MM → Prop}
theorem k_wants (c : Int) : wpC 47 [vI c] (S0 L, R, I, J) Q ↔ Q (some (vI (wnt c))) (S0 L, R, I, J) := by
  rw [c_M_wants]
  unfold wnt
  repeat' split
  all_goals exact Iff.rfl
theorem k_isVariable (c : Int) : wpC 46 [vI c] (S0 L, R, I, J) Q ↔ Q (some (vI (bi (c = 120 ∨ c = 121)))) (S0 L, R, I, J) := by
  rw [c_M_isVariable]
  by_cases h1 : c = 120
  · rw [if_pos h1, bi_t (Or.inl h1)]
  · by_cases h2 : c = 121
    · rw [if_neg h1, if_pos h2, bi_t (Or.inr h2)]
    · rw [if_neg h1, if_neg h2, bi_f (by omega)]
theorem var_cd {s : Nat} (h : s < 6) : (cd s = 120 ∨ cd s = 121) ↔ 4 ≤ s := by
  rcases lt6 h with rfl | rfl | rfl | rfl | rfl | rfl <;> decide
theorem k_isIn {a k : Nat} (ha : a < 256) (hk : k < 16) : wpC 44 [vI (a : Int), vI (k : Int)] (S0 L, R, I, J) Q ↔ Q (some (vI (bi (a.testBit k = true)))) (S0 L, R, I, J) := by
  rw [c_M_isIn, ishr_256 k hk a ha]
  cases h : a.testBit k
  · rw [if_neg (by decide), bi_f (by decide)]
  · rw [if_pos (by decide), bi_t rfl]
/-- the row that is looked at, its sizes -/
def NowW (I : Nat → Int → Int) (w : List Nat) : Prop := I 243 34 = (w.length : Int) ∧ ∀ p : Nat, p < w.length → I 267 (p : Int) = cd (w.getD p 0)
def SzW (I : Nat → Int → Int) (w : List Nat) : Prop := ∀ p : Nat, p < w.length → I 268 (p : Int) = (tl (w.drop p) 1 : Int)
theorem wf_lt6 {l : List Nat} {k : Nat} (h : wfN l k = true) {p : Nat} (hp : p < l.length) : l.getD p 0 < 6 := by
  obtain ⟨m, hm⟩ := wf_at h hp
  rw [drop_get hp] at hm
  exact (wf_cons.mp hm).1
theorem NowW.fr {I I' : Nat → Int → Int} {w : List Nat} (h : NowW I w) (h1 : I' 243 34 = I 243 34) (h2 : I' 267 = I 267) : NowW I' w := by
  refine ⟨by rw [h1]; exact h.1, fun p hp => ?_⟩
  rw [h2]; exact h.2 p hp
theorem SzW.fr {I I' : Nat → Int → Int} {w : List Nat} (h : SzW I w) (h2 : I' 268 = I 268) : SzW I' w := fun p hp => by rw [h2]; exact h p hp
theorem ls_in {w : List Nat} (hw : wfN w 1 = true) (hl : w.length ≤ 9) (hn : NowW I w) {p : Nat} (hp : p < w.length) (hs : ∀ q : Nat, p < q → q < w.length → I 268 (q : Int) = (tl (w.drop q) 1 : Int)) (hQ : wpc 64 6 [vR (some 243), vI ((p : Int) + (-1)), vU, vU] [] (0, 0) (S0 L, R, upM I 268 (p : Int) (tl (w.drop p) 1 : Int), J) Q) : ∀ d j : Nat, d + j = pts (w.getD p 0) → wpc 64 16 [vR (some 243), vI (p : Int), vI ((p + 1 + tl (w.drop (p + 1)) j : Nat) : Int), vI (j : Int)] [] (0, 0) (S0 L, R, I, J) Q := by
  have h6 := wf_lt6 hw hp
  have hp2 := pts_le (w.getD p 0)
  intro d
  induction d with
  | zero =>
    intro j hj
    refine b_M_laySizes_16.mpr ⟨⟨by omega, by omega⟩, ?_⟩
    rw [hn.2 p hp, k_wants, wnt_cd h6]
    refine b_M_laySizes_23.mpr ?_
    rw [if_neg (by omega)]
    refine ⟨⟨by omega, by omega⟩, ?_⟩
    have e1 : j = pts (w.getD p 0) := by omega
    have e2 := en_eq hp
    have e3 := en_le (w := w) (p := p) (by omega)
    rw [← e1] at e2
    rw [← e2, w32_eq (by omega) (by omega), w32_eq (by unfold en at *; omega) (by omega)]
    have e4 : ((en w p : Nat) : Int) - (p : Int) = (tl (w.drop p) 1 : Int) := by unfold en; omega
    rw [e4]
    exact hQ
  | succ d ih =>
    intro j hj
    refine b_M_laySizes_16.mpr ⟨⟨by omega, by omega⟩, ?_⟩
    rw [hn.2 p hp, k_wants, wnt_cd h6]
    refine b_M_laySizes_23.mpr ?_
    rw [if_pos (by omega)]
    have h1 := parts_in hw hp (j := j) (by omega)
    refine ⟨⟨by omega, by omega⟩, ?_⟩
    have e1 := en_chain (w := w) (p := p + 1) j
    have e3 := en_le (w := w) (p := p + 1 + tl (w.drop (p + 1)) j) (by omega)
    rw [hs _ (by omega) h1, w32_eq (by omega) (by unfold en at e3; omega), w32_s (by omega)]
    have e2 : ((p + 1 + tl (w.drop (p + 1)) j : Nat) : Int) + (tl (w.drop (p + 1 + tl (w.drop (p + 1)) j)) 1 : Int) = ((p + 1 + tl (w.drop (p + 1)) (j + 1) : Nat) : Int) := by
      rw [e1]; unfold en; omega
    rw [e2]
    exact ih (j + 1) (by omega)
theorem ls_out {w : List Nat} (hw : wfN w 1 = true) (hl : w.length ≤ 9) : ∀ (p : Nat) {I : Nat → Int → Int}, p ≤ w.length → NowW I w → (∀ q : Nat, p ≤ q → q < w.length → I 268 (q : Int) = (tl (w.drop q) 1 : Int)) → (∀ I', (∀ a, a ≠ 268 → I' a = I a) → SzW I' w → Q none (S0 L, R, I', J)) → wpc 64 6 [vR (some 243), vI ((p : Int) + (-1)), vU, vU] [] (0, 0) (S0 L, R, I, J) Q := by
  intro p
  induction p with
  | zero =>
    intro I _ hn hs hQ
    refine b_M_laySizes_6.mpr ?_
    rw [if_pos (by omega)]
    exact hQ I (fun a _ => rfl) (fun q hq => hs q (by omega) hq)
  | succ p ih =>
    intro I hp hn hs hQ
    refine b_M_laySizes_6.mpr ?_
    have e0 : ((p + 1 : Nat) : Int) + (-1) = (p : Int) := by omega
    rw [if_neg (by omega), e0, w32_s (by omega)]
    have h0 := ls_in (Q := Q) (R := R) (J := J) (L := L) hw hl hn (p := p) (by omega) (fun q hq hq2 => hs q (by omega) hq2) ?_ (pts (w.getD p 0)) 0 (by omega)
    · rw [tl_zero, Nat.add_zero] at h0
      exact h0
    · refine ih (by omega) (hn.fr (by rw [upM_ne (by decide)]) (by rw [upM_ne (by decide)])) (fun q hq hq2 => ?_) (fun I' h1 h2 => hQ I' (fun a ha => by rw [h1 a ha, upM_ne ha]) h2)
      by_cases hqp : q = p
      · subst hqp; rw [upM_same]
      · rw [upM_i (by omega)]; exact hs q (by omega) hq2
theorem k_laySizes {w : List Nat} (hw : wfN w 1 = true) (hl : w.length ≤ 9) (hn : NowW I w) (hQ : ∀ I', (∀ a, a ≠ 268 → I' a = I a) → SzW I' w → Q none (S0 L, R, I', J)) : wpC 64 [vR (some 243)] (S0 L, R, I, J) Q := by
  refine c_M_laySizes.mpr ?_
  have e : w32 (I 243 34 - 1) = ((w.length : Nat) : Int) + (-1) := by rw [hn.1, w32_eq (by omega) (by omega)]; omega
  rw [e]
  exact ls_out hw hl w.length (Nat.le_refl _) hn (fun q h1 h2 => by omega) hQ
/-- the letters of a head, of a slot -/
def HdW (I : Nat → Int → Int) (i : Nat) (h : List Nat) : Prop := I 249 (i : Int) = (h.length : Int) ∧ ∀ k : Nat, k < h.length → I 248 ((5 * i + k : Nat) : Int) = cd (h.getD k 0)
def SlW (I : Nat → Int → Int) (k : Nat) (w : List Nat) : Prop := I 255 (k : Int) = (w.length : Int) ∧ ∀ p : Nat, p < w.length → I 254 ((9 * k + p : Nat) : Int) = cd (w.getD p 0)
theorem lh_loop {i : Nat} {w : List Nat} (hi : i < 6) (hl : w.length ≤ 5) : ∀ (d k : Nat) {I : Nat → Int → Int}, d + k = w.length → HdW I i w → I 243 34 = (w.length : Int) → (∀ q : Nat, q < k → I 267 (q : Int) = cd (w.getD q 0)) → (∀ I', (∀ a, a ≠ 267 → I' a = I a) → NowW I' w → wpC 64 [vR (some 243)] (S0 L, R, I', J) (fun v M2 => wpc 65 32 [vU, vU, vU] (v.toList ++ []) (0, 0) M2 Q)) → wpc 65 9 [vR (some 243), vI (i : Int), vI (k : Int)] [] (0, 0) (S0 L, R, I, J) Q := by
  intro d
  induction d with
  | zero =>
    intro k I hk hh h34 hq hQ
    refine b_M_layHead_9.mpr ?_
    rw [if_neg (by omega)]
    exact hQ I (fun a _ => rfl) ⟨h34, fun p hp => hq p (by omega)⟩
  | succ d ih =>
    intro k I hk hh h34 hq hQ
    refine b_M_layHead_9.mpr ?_
    have e1 : w32 (w32 (5 * (i : Int)) + (k : Int)) = ((5 * i + k : Nat) : Int) := by
      rw [w32_eq (z := 5 * (i : Int)) (by omega) (by omega), w32_eq (by omega) (by omega)]; omega
    rw [if_pos (by omega), e1]
    refine ⟨⟨by omega, by omega⟩, ⟨by omega, by omega⟩, ?_⟩
    rw [hh.2 k (by omega), w32_s (by omega)]
    refine ih (k + 1) (by omega) ⟨by rw [upM_ne (by decide)]; exact hh.1, fun q hq2 => by rw [upM_ne (by decide)]; exact hh.2 q hq2⟩ (by rw [upM_ne (by decide)]; exact h34) (fun q hq2 => ?_) (fun I' h1 h2 => hQ I' (fun a ha => by rw [h1 a ha, upM_ne ha]) h2)
    by_cases hqk : q = k
    · subst hqk; rw [upM_same]
    · rw [upM_i (by omega)]; exact hq q (by omega)
/-- what laying a row changes -/
def frW (I I' : Nat → Int → Int) : Prop := (∀ a, a ≠ 243 → a ≠ 267 → a ≠ 268 → I' a = I a) ∧ ∀ i : Int, i ≠ 34 → I' 243 i = I 243 i
theorem k_layHead {i : Nat} {w : List Nat} (hi : i < 6) (hw : wfN w 1 = true) (hl : w.length ≤ 5) (hh : HdW I i w) (hQ : ∀ I', frW I I' → NowW I' w → SzW I' w → Q none (S0 L, R, I', J)) : wpC 65 [vR (some 243), vI (i : Int)] (S0 L, R, I, J) Q := by
  refine c_M_layHead.mpr ⟨⟨by omega, by omega⟩, ?_⟩
  refine lh_loop hi hl w.length 0 (by omega) ⟨by rw [upM_ne (by decide)]; exact hh.1, fun q hq2 => by rw [upM_ne (by decide)]; exact hh.2 q hq2⟩ (by rw [upM_same]; exact hh.1) (fun q hq => by omega) (fun I1 h1 h2 => ?_)
  refine k_laySizes hw (by omega) h2 (fun I2 h3 h4 => ?_)
  refine b_M_layHead_32.mpr (hQ I2 ⟨fun a ha hb hc => by rw [h3 a hc, h1 a hb, upM_ne ha], fun j hj => by rw [h3 243 (by decide), h1 243 (by decide), upM_i hj]⟩ (h2.fr (by rw [h3 243 (by decide)]) (by rw [h3 267 (by decide)])) h4)
theorem lS_loop {i : Nat} {w : List Nat} (hi : i < 4) (hl : w.length ≤ 9) : ∀ (d k : Nat) {I : Nat → Int → Int}, d + k = w.length → SlW I i w → I 243 34 = (w.length : Int) → (∀ q : Nat, q < k → I 267 (q : Int) = cd (w.getD q 0)) → (∀ I', (∀ a, a ≠ 267 → I' a = I a) → NowW I' w → wpC 64 [vR (some 243)] (S0 L, R, I', J) (fun v M2 => wpc 66 32 [vU, vU, vU] (v.toList ++ []) (0, 0) M2 Q)) → wpc 66 9 [vR (some 243), vI (i : Int), vI (k : Int)] [] (0, 0) (S0 L, R, I, J) Q := by
  intro d
  induction d with
  | zero =>
    intro k I hk hh h34 hq hQ
    refine b_M_laySlot_9.mpr ?_
    rw [if_neg (by omega)]
    exact hQ I (fun a _ => rfl) ⟨h34, fun p hp => hq p (by omega)⟩
  | succ d ih =>
    intro k I hk hh h34 hq hQ
    refine b_M_laySlot_9.mpr ?_
    have e1 : w32 (w32 (9 * (i : Int)) + (k : Int)) = ((9 * i + k : Nat) : Int) := by
      rw [w32_eq (z := 9 * (i : Int)) (by omega) (by omega), w32_eq (by omega) (by omega)]; omega
    rw [if_pos (by omega), e1]
    refine ⟨⟨by omega, by omega⟩, ⟨by omega, by omega⟩, ?_⟩
    rw [hh.2 k (by omega), w32_s (by omega)]
    refine ih (k + 1) (by omega) ⟨by rw [upM_ne (by decide)]; exact hh.1, fun q hq2 => by rw [upM_ne (by decide)]; exact hh.2 q hq2⟩ (by rw [upM_ne (by decide)]; exact h34) (fun q hq2 => ?_) (fun I' h1 h2 => hQ I' (fun a ha => by rw [h1 a ha, upM_ne ha]) h2)
    by_cases hqk : q = k
    · subst hqk; rw [upM_same]
    · rw [upM_i (by omega)]; exact hq q (by omega)
theorem k_laySlot {i : Nat} {w : List Nat} (hi : i < 4) (hw : wfN w 1 = true) (hl : w.length ≤ 9) (hh : SlW I i w) (hQ : ∀ I', frW I I' → NowW I' w → SzW I' w → Q none (S0 L, R, I', J)) : wpC 66 [vR (some 243), vI (i : Int)] (S0 L, R, I, J) Q := by
  refine c_M_laySlot.mpr ⟨⟨by omega, by omega⟩, ?_⟩
  refine lS_loop hi hl w.length 0 (by omega) ⟨by rw [upM_ne (by decide)]; exact hh.1, fun q hq2 => by rw [upM_ne (by decide)]; exact hh.2 q hq2⟩ (by rw [upM_same]; exact hh.1) (fun q hq => by omega) (fun I1 h1 h2 => ?_)
  refine k_laySizes hw (by omega) h2 (fun I2 h3 h4 => ?_)
  refine b_M_laySlot_32.mpr (hQ I2 ⟨fun a ha hb hc => by rw [h3 a hc, h1 a hb, upM_ne ha], fun j hj => by rw [h3 243 (by decide), h1 243 (by decide), upM_i hj]⟩ (h2.fr (by rw [h3 243 (by decide)]) (by rw [h3 267 (by decide)])) h4)
theorem sa_no {p q : Nat} {k : Int} (hp : p < 9) : Q (some (vI 0)) (S0 L, R, I, J) → wpc 67 19 [vR (some 243), vI (p : Int), vI (q : Int), vI 0, vI k] [] (0, 0) (S0 L, R, I, J) Q := by
  intro h
  refine b_M_isSameAt_19.mpr ⟨⟨by omega, by omega⟩, ?_⟩
  split
  · rw [if_pos rfl]; exact ⟨Or.inl rfl, h⟩
  · exact ⟨Or.inl rfl, h⟩
theorem sa_loop {w : List Nat} (hw : wfN w 1 = true) (hl : w.length ≤ 9) (hn : NowW I w) (hs : SzW I w) {p q : Nat} (hp : p < w.length) (hq : q < w.length) (ht : tl (w.drop p) 1 = tl (w.drop q) 1) (hQ : Q (some (vI (bi (sub w p = sub w q)))) (S0 L, R, I, J)) : ∀ (d k : Nat), d + k = tl (w.drop p) 1 → (∀ i, i < k → w.getD (p + i) 0 = w.getD (q + i) 0) → wpc 67 19 [vR (some 243), vI (p : Int), vI (q : Int), vI 1, vI (k : Int)] [] (0, 0) (S0 L, R, I, J) Q := by
  have hp2 := en_le (w := w) (p := p) (by omega)
  have hq2 := en_le (w := w) (p := q) (by omega)
  unfold en at hp2 hq2
  intro d
  induction d with
  | zero =>
    intro k hk hi
    refine b_M_isSameAt_19.mpr ⟨⟨by omega, by omega⟩, ?_⟩
    rw [hs p hp, if_neg (by omega)]
    rw [bi_t (same_iff.mpr ⟨ht, fun i h => hi i (by omega)⟩)] at hQ
    exact ⟨Or.inr rfl, hQ⟩
  | succ d ih =>
    intro k hk hi
    refine b_M_isSameAt_19.mpr ⟨⟨by omega, by omega⟩, ?_⟩
    rw [hs p hp, if_pos (by omega), if_neg (by decide), w32_eq (by omega) (by omega), w32_eq (by omega) (by omega)]
    refine ⟨⟨by omega, by omega⟩, ⟨by omega, by omega⟩, ?_⟩
    have e1 : (p : Int) + (k : Int) = ((p + k : Nat) : Int) := by omega
    have e2 : (q : Int) + (k : Int) = ((q + k : Nat) : Int) := by omega
    rw [e1, e2, hn.2 _ (by omega), hn.2 _ (by omega), w32_s (by omega)]
    by_cases he : w.getD (p + k) 0 = w.getD (q + k) 0
    · rw [if_pos (by rw [he])]
      refine ih (k + 1) (by omega) (fun i h => ?_)
      by_cases hik : i = k
      · rw [hik]; exact he
      · exact hi i (by omega)
    · rw [if_neg (fun h => he ((cd_inj (wf_lt6 hw (by omega)) (wf_lt6 hw (by omega))).mp h))]
      rw [bi_f (fun h => he ((same_iff.mp h).2 k (by omega)))] at hQ
      exact sa_no (by omega) hQ
theorem k_isSameAt {w : List Nat} (hw : wfN w 1 = true) (hl : w.length ≤ 9) (hn : NowW I w) (hs : SzW I w) {p q : Nat} (hp : p < w.length) (hq : q < w.length) (hQ : Q (some (vI (bi (sub w p = sub w q)))) (S0 L, R, I, J)) : wpC 67 [vR (some 243), vI (p : Int), vI (q : Int)] (S0 L, R, I, J) Q := by
  refine c_M_isSameAt.mpr ⟨⟨by omega, by omega⟩, ⟨by omega, by omega⟩, ?_⟩
  rw [hs p hp, hs q hq]
  by_cases ht : tl (w.drop p) 1 = tl (w.drop q) 1
  · rw [if_pos (by rw [ht])]
    exact sa_loop hw hl hn hs hp hq ht hQ (tl (w.drop p) 1) 0 (by omega) (fun i h => by omega)
  · rw [if_neg (fun h => ht (by omega))]
    rw [bi_f (fun h => ht (same_iff.mp h).1)] at hQ
    exact sa_no (by omega) hQ
-- ===== a head is laid on the row that is looked at =====
/-- what the two places hold: nothing yet, or where what was put begins -/
def BdW (I : Nat → Int → Int) (w : List Nat) (lo : Nat) (a b : List Nat) : Prop := (if a = [] then I 269 0 = -1 else ∃ p : Nat, lo ≤ p ∧ p < w.length ∧ I 269 0 = (p : Int) ∧ sub w p = a) ∧ (if b = [] then I 269 1 = -1 else ∃ p : Nat, lo ≤ p ∧ p < w.length ∧ I 269 1 = (p : Int) ∧ sub w p = b)
theorem fa_end {i : Nat} {h w : List Nat} (hi : i < 6) (hh : HdW I i h) {p : Int} (hQ : Q (some (vI 1)) (S0 L, R, I, J)) : wpc 68 15 [vR (some 243), vI (i : Int), vU, vI p, vI (h.length : Int), vU, vU] [] (0, 0) (S0 L, R, I, J) Q := by
  refine b_M_fitsAt_15.mpr ⟨⟨by omega, by omega⟩, ?_⟩
  rw [hh.1, if_neg (by omega)]
  exact hQ
theorem fa_loop {i lo : Nat} {h w : List Nat} (hi : i < 6) (hh5 : h.length ≤ 5) (h6 : ∀ k, k < h.length → h.getD k 0 < 6) (hw : wfN w 1 = true) (hl : w.length ≤ 9) : ∀ (d k : Nat) {I : Nat → Int → Int} (p : Nat) (a b : List Nat), d + k = h.length → lo ≤ p → (∃ m, wfN (h.drop k) m = true ∧ ∃ m2, wfN (w.drop p) (m + m2) = true) → HdW I i h → NowW I w → SzW I w → BdW I w lo a b → (∀ I', (∀ x, x ≠ 269 → I' x = I x) → (match mtc (h.drop k) (w.drop p) a b with
      | none => Q (some (vI 0)) (S0 L, R, I', J)
      | some (a', b') => BdW I' w lo a' b' → Q (some (vI 1)) (S0 L, R, I', J))) → wpc 68 15 [vR (some 243), vI (i : Int), vU, vI (p : Int), vI (k : Int), vU, vU] [] (0, 0) (S0 L, R, I, J) Q := by
  intro d
  induction d with
  | zero =>
    intro k I p a b hk _ _ hh hn hs hb hQ
    have e : k = h.length := by omega
    subst e
    refine fa_end (w := w) hi hh ?_
    have := hQ I (fun _ _ => rfl)
    rw [List.drop_length] at this
    exact this hb
  | succ d ih =>
    intro k I p a b hk hlo hm hh hn hs hb hQ
    obtain ⟨m, hm, m2, hm2⟩ := hm
    have hk2 : k < h.length := by omega
    rw [drop_get hk2] at hm
    cases m with
    | zero => exact absurd hm (by simp [wfN])
    | succ m =>
    obtain ⟨hs6, hm⟩ := wf_cons.mp hm
    have hpl : p < w.length := by
      rw [show m + 1 + m2 = (m + m2) + 1 by omega] at hm2
      obtain ⟨s, r, hsr, _⟩ := wf_pos hm2
      have h4 := congrArg List.length hsr
      rw [List.length_drop, List.length_cons] at h4
      omega
    have hp6 := wf_lt6 hw hpl
    rw [show m + 1 + m2 = (m + m2) + 1 by omega, drop_get hpl] at hm2
    have hm2' := (wf_cons.mp hm2).2
    refine b_M_fitsAt_15.mpr ⟨⟨by omega, by omega⟩, ?_⟩
    have e1 : w32 (w32 (5 * (i : Int)) + (k : Int)) = ((5 * i + k : Nat) : Int) := by
      rw [w32_eq (z := 5 * (i : Int)) (by omega) (by omega), w32_eq (by omega) (by omega)]; omega
    rw [hh.1, if_pos (by omega), e1, hh.2 k hk2]
    refine ⟨⟨by omega, by omega⟩, ?_⟩
    rw [k_isVariable]
    refine b_M_fitsAt_34.mpr ?_
    rw [drop_get hk2] at hQ
    generalize hse : h.getD k 0 = s at *
    by_cases h4 : s < 4
    · rw [if_pos (bi_0.mpr (fun h => by have := (var_cd hs6).mp h; omega)), hn.2 p hpl]
      refine ⟨⟨by omega, by omega⟩, ?_⟩
      by_cases hc : w.getD p 0 = s
      · rw [if_pos (by rw [hc]), w32_s (by omega), w32_s (by omega)]
        refine ih (k + 1) (p + 1) a b (by omega) (by omega) ⟨_, hm, m2, ?_⟩ hh hn hs hb (fun I' h1 => ?_)
        · rw [← hc, show m + pts (w.getD p 0) + m2 = m + m2 + pts (w.getD p 0) by omega]; exact hm2'
        · have := hQ I' h1
          unfold mtc at this
          rw [if_pos h4, drop_get hpl] at this
          simp only [hc, if_true] at this
          exact this
      · rw [if_neg (fun h => hc ((cd_inj hp6 hs6).mp h))]
        have := hQ I (fun _ _ => rfl)
        unfold mtc at this
        rw [if_pos h4, drop_get hpl] at this
        simp only [hc, if_false] at this
        exact this
    · rw [pts_var (by omega), Nat.add_zero] at hm
      have hen := en_le (w := w) (p := p) (by omega)
      have hm3 : wfN (w.drop (en w p)) (m + m2) = true := by
        have := (wf_split (w.drop p) 1 (m + m2) (by rw [drop_get hpl, Nat.add_comm 1 (m + m2)]; exact hm2)).2
        rw [List.drop_drop] at this
        exact this
      have et : (w.drop p).take (tl (w.drop p) 1) = sub w p := rfl
      have ed : (w.drop p).drop (tl (w.drop p) 1) = w.drop (en w p) := by rw [List.drop_drop]; rfl
      have hv : cd s - 120 = ((s - 4 : Nat) : Int) := by rw [cd_var hs6 (by omega)]; omega
      rw [if_neg (fun h => bi_0.mp h ((var_cd hs6).mpr (by omega))), w32_eq (z := cd s - 120) (by omega) (by omega), hv]
      refine ⟨⟨by omega, by omega⟩, ?_⟩
      -- the step that puts the place
      have hgo : ∀ a' b' : List Nat, BdW (upM I 269 ((s - 4 : Nat) : Int) (p : Int)) w lo a' b' → mtc (s :: h.drop (k + 1)) (w.drop p) a b = mtc (h.drop (k + 1)) (w.drop (en w p)) a' b' → wpc 68 73 [vR (some 243), vI (i : Int), vU, vI (p : Int), vI (k : Int), vU, vI ((s - 4 : Nat) : Int)] [] (0, 0) (S0 L, R, I, J) Q := by
        intro a' b' hb' he
        refine b_M_fitsAt_73.mpr ⟨⟨by omega, by omega⟩, ⟨by omega, by omega⟩, ?_⟩
        rw [upM_ne (b := 268) (by decide), hs p hpl, w32_s (by omega), w32_eq (by omega) (by unfold en at hen; omega)]
        have e5 : (p : Int) + (tl (w.drop p) 1 : Int) = ((en w p : Nat) : Int) := by unfold en; omega
        rw [e5]
        refine ih (k + 1) (en w p) a' b' (by omega) (by unfold en; omega) ⟨m, hm, m2, hm3⟩ ⟨by rw [upM_ne (by decide)]; exact hh.1, fun q hq2 => by rw [upM_ne (by decide)]; exact hh.2 q hq2⟩ (hn.fr (by rw [upM_ne (by decide)]) (by rw [upM_ne (by decide)])) (hs.fr (by rw [upM_ne (by decide)])) hb' (fun I' h1 => ?_)
        rw [← he]
        exact hQ I' (fun x hx => by rw [h1 x hx, upM_ne hx])
      have hsne : sub w p ≠ [] := sub_ne hw hpl
      by_cases h5 : s = 4
      · subst h5
        by_cases ha : a = []
        · subst ha
          rw [if_pos (by have := hb.1; rw [if_pos rfl] at this; exact this)]
          refine hgo (sub w p) b ⟨?_, ?_⟩ ?_
          · rw [if_neg hsne]; exact ⟨p, hlo, hpl, upM_same, rfl⟩
          · have := hb.2; rw [upM_i (by decide)]; exact this
          · conv => lhs; unfold mtc
            rw [if_neg h4, if_pos rfl, if_pos rfl, et, ed]
        · have hba := hb.1
          rw [if_neg ha] at hba
          obtain ⟨p0, hlo0, hp0, hI0, hs0⟩ := hba
          rw [show ((4 - 4 : Nat) : Int) = 0 from rfl, hI0, if_neg (by omega)]
          refine ⟨⟨by omega, by omega⟩, ?_⟩
          refine k_isSameAt hw hl hn hs hp0 hpl ?_
          refine b_M_fitsAt_68.mpr ?_
          by_cases he : sub w p0 = sub w p
          · rw [if_neg (fun h => bi_0.mp h he)]
            refine hgo a b ⟨?_, ?_⟩ ?_
            · rw [if_neg ha]; exact ⟨p, hlo, hpl, upM_same, by rw [← he]; exact hs0⟩
            · have := hb.2; rw [upM_i (by decide)]; exact this
            · conv => lhs; unfold mtc
              rw [if_neg h4, if_pos rfl, if_neg ha, et, ed, if_pos (by rw [← hs0]; exact he)]
          · rw [if_pos (bi_0.mpr he)]
            have := hQ I (fun _ _ => rfl)
            unfold mtc at this
            rw [if_neg h4, if_pos rfl, if_neg ha, et, if_neg (by rw [← hs0]; exact he)] at this
            exact this
      · have h5' : s = 5 := by omega
        subst h5'
        by_cases ha : b = []
        · subst ha
          rw [if_pos (by have := hb.2; rw [if_pos rfl] at this; exact this)]
          refine hgo a (sub w p) ⟨?_, ?_⟩ ?_
          · have := hb.1; rw [upM_i (by decide)]; exact this
          · rw [if_neg hsne]; exact ⟨p, hlo, hpl, upM_same, rfl⟩
          · conv => lhs; unfold mtc
            rw [if_neg h4, if_neg h5, if_pos rfl, et, ed]
        · have hba := hb.2
          rw [if_neg ha] at hba
          obtain ⟨p0, hlo0, hp0, hI0, hs0⟩ := hba
          rw [show ((5 - 4 : Nat) : Int) = 1 from rfl, hI0, if_neg (by omega)]
          refine ⟨⟨by omega, by omega⟩, ?_⟩
          refine k_isSameAt hw hl hn hs hp0 hpl ?_
          refine b_M_fitsAt_68.mpr ?_
          by_cases he : sub w p0 = sub w p
          · rw [if_neg (fun h => bi_0.mp h he)]
            refine hgo a b ⟨?_, ?_⟩ ?_
            · have := hb.1; rw [upM_i (by decide)]; exact this
            · rw [if_neg ha]; exact ⟨p, hlo, hpl, upM_same, by rw [← he]; exact hs0⟩
            · conv => lhs; unfold mtc
              rw [if_neg h4, if_neg h5, if_neg ha, et, ed, if_pos (by rw [← hs0]; exact he)]
          · rw [if_pos (bi_0.mpr he)]
            have := hQ I (fun _ _ => rfl)
            unfold mtc at this
            rw [if_neg h4, if_neg h5, if_neg ha, et, if_neg (by rw [← hs0]; exact he)] at this
            exact this
theorem k_fitsAt {i p : Nat} {h w : List Nat} (hi : i < 6) (hh5 : h.length ≤ 5) (hhw : wfN h 1 = true) (hw : wfN w 1 = true) (hl : w.length ≤ 9) (hp : p < w.length) (hh : HdW I i h) (hn : NowW I w) (hs : SzW I w) (hQ : ∀ I', (∀ x, x ≠ 269 → I' x = I x) → (match mtc h (sub w p) [] [] with
      | none => Q (some (vI 0)) (S0 L, R, I', J)
      | some (a', b') => BdW I' w p a' b' → Q (some (vI 1)) (S0 L, R, I', J))) : wpC 68 [vR (some 243), vI (i : Int), vI (p : Int)] (S0 L, R, I, J) Q := by
  refine c_M_fitsAt.mpr ?_
  have f1 : ∀ x, x ≠ 269 → (upM (upM I 269 0 (-1)) 269 1 (-1)) x = I x := fun x hx => by rw [upM_ne hx, upM_ne hx]
  obtain ⟨m, hm⟩ := wf_at hw hp
  refine fa_loop hi hh5 (fun k hk => wf_lt6 hhw hk) hw hl h.length 0 p [] [] (by omega) (Nat.le_refl _) ⟨1, by rw [List.drop_zero]; exact hhw, m, by rw [Nat.add_comm]; exact hm⟩ ⟨by rw [f1 _ (by decide)]; exact hh.1, fun q hq2 => by rw [f1 _ (by decide)]; exact hh.2 q hq2⟩ (hn.fr (by rw [f1 _ (by decide)]) (f1 _ (by decide))) (hs.fr (f1 _ (by decide))) ⟨?_, ?_⟩ (fun I' h1 => ?_)
  · rw [if_pos rfl, upM_i (by decide), upM_same]
  · rw [if_pos rfl, upM_same]
  · rw [List.drop_zero, mtc_sub hhw hw hp]
    exact hQ I' (fun x hx => by rw [h1 x hx, f1 x hx])
end MW
