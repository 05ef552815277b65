-- ===== what a book says of goals: a pure picture =====
/-- how many instances; class, kind, head, conditions (class, variable) of each -/
abbrev EN : Type := Nat × (Nat → Nat) × (Nat → Nat) × (Nat → List Nat) × (Nat → List (Nat × Nat))
def eN (E : EN) : Nat := E.1
def eO (E : EN) : Nat → Nat := E.2.1
def eK (E : EN) : Nat → Nat := E.2.2.1
def eH (E : EN) : Nat → List Nat := E.2.2.2.1
def eC (E : EN) : Nat → List (Nat × Nat) := E.2.2.2.2
def fitB (E : EN) (i : Nat) (u : List Nat) : Bool := (mtc (eH E i) u [] []).isSome
def sndB (E : EN) (i : Nat) : Bool := (eC E i).isEmpty || decide ((eH E i).getD 0 0 < 4)
def mnF (E : EN) (c : Nat) (u : List Nat) (i : Nat) : Bool := decide (eO E i = c) && decide (¬ eK E i = 2) && sndB E i && fitB E i u
def mnt (E : EN) (c : Nat) (u : List Nat) : Nat := bset (eN E) (mnF E c u)
def spc (E : EN) (i e : Nat) : Bool := fitB E e (eH E i) && !fitB E i (eH E e)
def rnk (E : EN) (i : Nat) : Nat := if eK E i = 3 ∨ eK E i = 4 then 0 else if eK E i = 1 then 2 else 1
def rkF (E : EN) (m r i : Nat) : Bool := m.testBit i && decide (rnk E i = r)
def ofR (E : EN) (m r : Nat) : Nat := bset (eN E) (rkF E m r)
def soleB (E : EN) (m : Nat) : Nat → Bool
  | 0 => false
  | n + 1 => soleB E m n || (m.testBit n && decide (eK E n = 4))
def bstI (E : EN) (m i : Nat) : Nat → Bool
  | 0 => m.testBit i
  | e + 1 => bstI E m i e && (decide (e = i) || !m.testBit e || spc E i e)
def bst (E : EN) (m : Nat) : Nat → Int
  | 0 => -1
  | n + 1 => if bstI E m n (eN E) = true then (n : Int) else bst E m n
def grp (E : EN) (m : Nat) : Nat := if ofR E m 0 = 0 then (if ofR E m 1 = 0 then ofR E m 2 else ofR E m 1) else ofR E m 0
def tks (E : EN) (m : Nat) : Int :=
  if m = 0 then -1
  else if 1 < pcn 16 m ∧ soleB E m (eN E) = true then -2
  else if bst E (grp E m) (eN E) = -1 then -2 else bst E (grp E m) (eN E)
def wfE (E : EN) (nC : Nat) : Prop := eN E ≤ 6 ∧ ∀ i, i < eN E → eK E i < 5 ∧ eO E i < nC ∧ wfN (eH E i) 1 = true ∧ (eH E i).length ≤ 5 ∧ (eC E i).length ≤ 2 ∧ ∀ k, k < (eC E i).length → ((eC E i).getD k (0, 0)).1 < nC ∧ ((eC E i).getD k (0, 0)).2 < 2 ∧ (((eC E i).getD k (0, 0)).2 + 4) ∈ eH E i
theorem bst_r (E : EN) (m n : Nat) : bst E m n = -1 ∨ ∃ i : Nat, i < n ∧ bst E m n = (i : Int) ∧ bstI E m i (eN E) = true := by
  induction n with
  | zero => exact Or.inl rfl
  | succ n ih =>
    unfold bst
    split
    · rename_i h
      exact Or.inr ⟨n, by omega, rfl, h⟩
    · rcases ih with h | ⟨i, h1, h2⟩
      · exact Or.inl h
      · exact Or.inr ⟨i, by omega, h2⟩
theorem bstI_in {E : EN} {m i : Nat} : ∀ {e : Nat}, bstI E m i e = true → m.testBit i = true := by
  intro e
  induction e with
  | zero => intro h; exact h
  | succ e ih => intro h; unfold bstI at h; rw [Bool.and_eq_true] at h; exact ih h.1
theorem grp_sub {E : EN} {m k : Nat} (h : (grp E m).testBit k = true) : m.testBit k = true := by
  unfold grp at h
  have hr : ∀ r, (ofR E m r).testBit k = true → m.testBit k = true := by
    intro r hr
    unfold ofR at hr
    rw [bset_bit] at hr
    unfold rkF at hr
    simp only [Bool.and_eq_true] at hr
    exact hr.2.1
  split at h
  · split at h
    · exact hr _ h
    · exact hr _ h
  · exact hr _ h
/-- what is taken is meant -/
theorem tks_r (E : EN) (m : Nat) : tks E m = -1 ∨ tks E m = -2 ∨ ∃ i : Nat, i < eN E ∧ tks E m = (i : Int) ∧ m.testBit i = true := by
  unfold tks
  split
  · exact Or.inl rfl
  · split
    · exact Or.inr (Or.inl rfl)
    · split
      · exact Or.inr (Or.inl rfl)
      · rcases bst_r E (grp E m) (eN E) with h | ⟨i, h1, h2, h3⟩
        · contradiction
        · exact Or.inr (Or.inr ⟨i, h1, h2, grp_sub (bstI_in h3)⟩)
-- ===== the reference holds it =====
def EnM (I : Nat → Int → Int) (E : EN) : Prop := I 243 4 = (eN E : Int) ∧ ∀ i : Nat, i < eN E → I 246 (i : Int) = (eK E i : Int) ∧ I 247 (i : Int) = (eO E i : Int) ∧ HdW I i (eH E i) ∧ I 250 (i : Int) = ((eC E i).length : Int) ∧ ∀ k : Nat, k < (eC E i).length → I 251 ((2 * i + k : Nat) : Int) = (((eC E i).getD k (0, 0)).1 : Int) ∧ I 252 ((2 * i + k : Nat) : Int) = (((eC E i).getD k (0, 0)).2 : Int)
def SpM (I : Nat → Int → Int) (E : EN) : Prop := ∀ i e : Nat, i < eN E → e < eN E → I 253 ((6 * i + e : Nat) : Int) = bi (spc E i e = true)
theorem EnM.fr {I I' : Nat → Int → Int} {E : EN} (h : EnM I E) (h1 : I' 243 4 = I 243 4) (h2 : ∀ a, 246 ≤ a → a ≤ 252 → I' a = I a) : EnM I' E := by
  refine ⟨by rw [h1]; exact h.1, fun i hi => ?_⟩
  unfold HdW
  rw [h2 246 (by decide) (by decide), h2 247 (by decide) (by decide), h2 248 (by decide) (by decide), h2 249 (by decide) (by decide), h2 250 (by decide) (by decide), h2 251 (by decide) (by decide), h2 252 (by decide) (by decide)]
  exact h.2 i hi
theorem SpM.fr {I I' : Nat → Int → Int} {E : EN} (h : SpM I E) (h2 : I' 253 = I 253) : SpM I' E := fun i e hi he => by rw [h2]; exact h i e hi he
theorem EnM.f9 {I I' : Nat → Int → Int} {E : EN} (h : EnM I E) (h2 : ∀ x, x ≠ 269 → I' x = I x) : EnM I' E := h.fr (by rw [h2 243 (by decide)]) (fun a h3 h4 => h2 a (by omega))
theorem bset_t {n : Nat} {f : Nat → Bool} (h : f n = true) : bset (n + 1) f = bset n f ||| 2 ^ n := by
  show (bset n f ||| (if f n then 2 ^ n else 0)) = _
  rw [if_pos h]
theorem bset_f {n : Nat} {f : Nat → Bool} (h : f n = false) : bset (n + 1) f = bset n f := by
  show (bset n f ||| (if f n then 2 ^ n else 0)) = _
  rw [if_neg (by rw [h]; decide), Nat.or_zero]
section MG
variable {L : Nat} {R : Nat → Int → Option Nat} {I : Nat → Int → Int} {J : Nat → Int → Int64} {Q : Option MV → MM → Prop} {E : EN} {nC : Nat}
theorem sz_loop {a : Nat} (ha : a < 256) : ∀ (d k : Nat), d + k = 16 → (wpc 45 5 [vI (a : Int), vI (pcn k a : Int), vI (k : Int)] [] (0, 0) (S0 L, R, I, J) Q ↔ Q (some (vI (pcn 16 a : Int))) (S0 L, R, I, J)) := by
  intro d
  induction d with
  | zero =>
    intro k hk
    rw [b_M_size_5, if_neg (by omega), show k = 16 by omega]
  | succ d ih =>
    intro k hk
    have := pcn_le k a
    rw [b_M_size_5, if_pos (by omega), ishr_256 k (by omega) a ha, w32_s (by omega), ← ih (k + 1) (by omega)]
    have e : w32 ((pcn k a : Int) + if a.testBit k = true then 1 else 0) = (pcn (k + 1) a : Int) := by
      show _ = ((pcn k a + (if a.testBit k then 1 else 0) : Nat) : Int)
      cases a.testBit k
      · rw [if_neg (by decide), if_neg (by decide), w32_eq (by omega) (by omega)]; omega
      · rw [if_pos rfl, if_pos rfl, w32_eq (by omega) (by omega)]; omega
    rw [e]
theorem k_size {a : Nat} (ha : a < 256) : wpC 45 [vI (a : Int)] (S0 L, R, I, J) Q ↔ Q (some (vI (pcn 16 a : Int))) (S0 L, R, I, J) := c_M_size.trans (sz_loop ha 16 0 rfl)
theorem k_isSound (hE : wfE E nC) (h : EnM I E) {i : Nat} (hi : i < eN E) : wpC 70 [vR (some 243), vI (i : Int)] (S0 L, R, I, J) Q ↔ Q (some (vI (bi (sndB E i = true)))) (S0 L, R, I, J) := by
  have h6 := hE.1
  obtain ⟨_, _, hw, hl, hc, _⟩ := hE.2 i hi
  obtain ⟨_, _, hh, hcl, _⟩ := h.2 i hi
  have hne : 0 < (eH E i).length := by
    obtain ⟨s, r, hsr, _⟩ := wf_pos hw
    rw [hsr]; simp
  rw [c_M_isSound, hcl, hh.1, w32_eq (by omega) (by omega)]
  have e0 : (5 * (i : Int)) = ((5 * i + 0 : Nat) : Int) := by omega
  rw [e0, hh.2 0 hne, k_isVariable]
  by_cases h0 : (eC E i).length = 0
  · have hs : sndB E i = true := by unfold sndB; rw [List.isEmpty_iff.mpr (List.length_eq_zero_iff.mp h0)]; rfl
    rw [if_pos (by omega), bi_t hs]
    exact ⟨fun h => h.2, fun h => ⟨⟨by omega, by omega⟩, h⟩⟩
  · have hs : sndB E i = decide ((eH E i).getD 0 0 < 4) := by
      unfold sndB
      rw [show (eC E i).isEmpty = false from Bool.eq_false_iff.mpr (fun h => h0 (by rw [List.isEmpty_iff.mp h]; rfl))]; rfl
    rw [if_neg (by omega), hs]
    by_cases h1 : (eH E i).length ≤ 1
    · rw [if_pos (by omega)]
      have e2 : ∀ s0 : Int, wpc 70 21 [vU, vU] ((some (vI s0)).toList ++ []) (0, 0) (S0 L, R, I, J) Q ↔ if s0 = 0 then Q (some (vI 1)) (S0 L, R, I, J) else Q (some (vI 0)) (S0 L, R, I, J) := fun s0 => b_M_isSound_21
      rw [e2]
      by_cases h4 : (eH E i).getD 0 0 < 4
      · rw [if_pos (bi_0.mpr (fun h => by have := (var_cd (wf_lt6 hw hne)).mp h; omega)), bi_t (decide_eq_true h4)]
        exact ⟨fun h => h.2.2.2, fun h => ⟨⟨by omega, by omega⟩, ⟨by omega, by omega⟩, ⟨by omega, by omega⟩, h⟩⟩
      · rw [if_neg (fun h => bi_0.mp h ((var_cd (wf_lt6 hw hne)).mpr (by omega))), bi_f (by rw [decide_eq_true_eq]; exact h4)]
        exact ⟨fun h => h.2.2.2, fun h => ⟨⟨by omega, by omega⟩, ⟨by omega, by omega⟩, ⟨by omega, by omega⟩, h⟩⟩
    · rw [if_neg (by omega)]
      have h4 : (eH E i).getD 0 0 < 4 := by
        obtain ⟨s, r, hsr, hs6, hr⟩ := wf_pos hw
        rw [hsr]
        show s < 4
        refine Nat.lt_of_not_le (fun h4 => ?_)
        rw [pts_var h4] at hr
        have := wf_zero hr
        rw [hsr, this] at h1
        simp at h1
      rw [bi_t (decide_eq_true h4)]
      exact ⟨fun h => h.2.2, fun h => ⟨⟨by omega, by omega⟩, ⟨by omega, by omega⟩, h⟩⟩
theorem mf_loop (hE : wfE E nC) {w : List Nat} (hw : wfN w 1 = true) (hl : w.length ≤ 9) {c p : Nat} (hp : p < w.length) : ∀ (d i : Nat) {I : Nat → Int → Int}, d + i = eN E → EnM I E → NowW I w → SzW I w → (∀ I', (∀ x, x ≠ 269 → I' x = I x) → Q (some (vI (mnt E c (sub w p) : Int))) (S0 L, R, I', J)) → wpc 71 5 [vR (some 243), vI (c : Int), vI (p : Int), vI ((bset i (mnF E c (sub w p)) : Nat) : Int), vI (i : Int), vU] [] (0, 0) (S0 L, R, I, J) Q := by
  intro d
  have h6 := hE.1
  induction d with
  | zero =>
    intro i I hi hM hn hs hQ
    refine b_M_meantFor_5.mpr ?_
    rw [hM.1, if_neg (by omega)]
    have := hQ I (fun _ _ => rfl)
    unfold mnt at this
    rw [show i = eN E by omega]
    exact this
  | succ d ih =>
    intro i I hi hM hn hs hQ
    have hi2 : i < eN E := by omega
    obtain ⟨hk, ho, hh, _, _⟩ := hM.2 i hi2
    obtain ⟨hk5, hoc, hhw, hhl, _⟩ := hE.2 i hi2
    have h8 := bset_lt8 (n := i) (by omega) (mnF E c (sub w p))
    have hno : mnF E c (sub w p) i = false → ∀ {I' : Nat → Int → Int}, (∀ x, x ≠ 269 → I' x = I x) → wpc 71 5 [vR (some 243), vI (c : Int), vI (p : Int), vI (ior ((bset i (mnF E c (sub w p)) : Nat) : Int) 0), vI (w32 ((i : Int) + 1)), vU] [] (0, 0) (S0 L, R, I', J) Q := by
      intro hf I' h1
      rw [ior0 h8, w32_s (by omega), ← bset_f hf]
      exact ih (i + 1) (by omega) (hM.f9 h1) (hn.fr (by rw [h1 243 (by decide)]) (h1 267 (by decide))) (hs.fr (h1 268 (by decide))) (fun I2 h2 => hQ I2 (fun x hx => by rw [h2 x hx, h1 x hx]))
    have hyes : mnF E c (sub w p) i = true → ∀ {I' : Nat → Int → Int}, (∀ x, x ≠ 269 → I' x = I x) → wpc 71 5 [vR (some 243), vI (c : Int), vI (p : Int), vI (ior ((bset i (mnF E c (sub w p)) : Nat) : Int) (ishl 1 (i : Int))), vI (w32 ((i : Int) + 1)), vU] [] (0, 0) (S0 L, R, I', J) Q := by
      intro hf I' h1
      rw [ior1 h8 (by omega), w32_s (by omega), ← bset_t hf]
      exact ih (i + 1) (by omega) (hM.f9 h1) (hn.fr (by rw [h1 243 (by decide)]) (h1 267 (by decide))) (hs.fr (h1 268 (by decide))) (fun I2 h2 => hQ I2 (fun x hx => by rw [h2 x hx, h1 x hx]))
    refine b_M_meantFor_5.mpr ?_
    rw [hM.1, if_pos (by omega)]
    refine ⟨⟨by omega, by omega⟩, ?_⟩
    rw [ho]
    by_cases hc : eO E i = c
    · rw [if_pos (by rw [hc])]
      refine ⟨⟨by omega, by omega⟩, ?_⟩
      rw [hk]
      by_cases hk2 : eK E i = 2
      · rw [if_pos (by omega), if_pos rfl]
        exact hno (by unfold mnF; rw [decide_eq_false (not_not_intro hk2), Bool.and_false]; rfl) (fun _ _ => rfl)
      · rw [if_neg (by omega), k_isSound hE hM hi2]
        refine b_M_meantFor_28.mpr ?_
        by_cases hsd : sndB E i = true
        · rw [if_neg (fun h => bi_0.mp h hsd)]
          refine k_fitsAt (by omega) hhl hhw hw hl hp hh hn hs (fun I' h1 => ?_)
          cases hmt : mtc (eH E i) (sub w p) [] [] with
          | none =>
            refine b_M_meantFor_35.mpr ?_
            rw [if_pos rfl, if_pos rfl]
            exact hno (by unfold mnF fitB; rw [hmt]; exact Bool.and_false _) h1
          | some ab =>
            intro _
            refine b_M_meantFor_35.mpr ?_
            rw [if_neg (by decide), if_neg (by decide)]
            exact hyes (by unfold mnF fitB; rw [hmt, hsd, decide_eq_true hc, decide_eq_true hk2]; rfl) h1
        · rw [if_pos (bi_0.mpr hsd), if_pos rfl]
          exact hno (by unfold mnF; rw [Bool.eq_false_iff.mpr hsd, Bool.and_false]; rfl) (fun _ _ => rfl)
    · rw [if_neg (by omega), if_pos rfl]
      exact hno (by unfold mnF; rw [decide_eq_false hc]; rfl) (fun _ _ => rfl)
theorem k_meantFor (hE : wfE E nC) {w : List Nat} (hw : wfN w 1 = true) (hl : w.length ≤ 9) {c p : Nat} (hp : p < w.length) (hM : EnM I E) (hn : NowW I w) (hs : SzW I w) (hQ : ∀ I', (∀ x, x ≠ 269 → I' x = I x) → Q (some (vI (mnt E c (sub w p) : Int))) (S0 L, R, I', J)) : wpC 71 [vR (some 243), vI (c : Int), vI (p : Int)] (S0 L, R, I, J) Q :=
  c_M_meantFor.mpr (mf_loop hE hw hl hp (eN E) 0 (by omega) hM hn hs hQ)
theorem or_loop (hE : wfE E nC) (hM : EnM I E) {m r : Nat} (hm : m < 256) : ∀ (d i : Nat), d + i = eN E → Q (some (vI (ofR E m r : Int))) (S0 L, R, I, J) → wpc 72 5 [vR (some 243), vI (m : Int), vI (r : Int), vI ((bset i (rkF E m r) : Nat) : Int), vI (i : Int), vU] [] (0, 0) (S0 L, R, I, J) Q := by
  intro d
  have h6 := hE.1
  induction d with
  | zero =>
    intro i hi hQ
    refine b_M_ofRank_5.mpr ?_
    rw [hM.1, if_neg (by omega), show i = eN E by omega]
    exact hQ
  | succ d ih =>
    intro i hi hQ
    have hi2 : i < eN E := by omega
    obtain ⟨hk, _⟩ := hM.2 i hi2
    have h8 := bset_lt8 (n := i) (by omega) (rkF E m r)
    have h2 : wpc 72 39 [vR (some 243), vI (m : Int), vI (r : Int), vI ((bset i (rkF E m r) : Nat) : Int), vI (i : Int), vU] [vI ((rnk E i : Nat) : Int)] (0, 0) (S0 L, R, I, J) Q := by
      refine b_M_ofRank_39.mpr ?_
      rw [k_isIn hm (by omega)]
      refine b_M_ofRank_45.mpr ?_
      by_cases hb : m.testBit i = true
      · rw [if_neg (fun h => bi_0.mp h hb)]
        by_cases hr : rnk E i = r
        · rw [if_pos (by omega), ior1 h8 (by omega), w32_s (by omega), ← bset_t (f := rkF E m r) (by unfold rkF; rw [hb, decide_eq_true hr]; rfl)]
          exact ih (i + 1) (by omega) hQ
        · rw [if_neg (by omega), ior0 h8, w32_s (by omega), ← bset_f (f := rkF E m r) (by unfold rkF; rw [decide_eq_false hr, Bool.and_false])]
          exact ih (i + 1) (by omega) hQ
      · rw [if_pos (bi_0.mpr hb), ior0 h8, w32_s (by omega), ← bset_f (f := rkF E m r) (by unfold rkF; rw [Bool.eq_false_iff.mpr hb]; rfl)]
        exact ih (i + 1) (by omega) hQ
    refine b_M_ofRank_5.mpr ?_
    rw [hM.1, if_pos (by omega), hk]
    refine ⟨⟨by omega, by omega⟩, ?_⟩
    unfold rnk at h2
    by_cases h3 : eK E i = 3
    · rw [if_pos (by omega)]; rw [if_pos (by omega)] at h2; exact h2
    · rw [if_neg (by omega)]
      refine ⟨⟨by omega, by omega⟩, ?_⟩
      by_cases h4 : eK E i = 4
      · rw [if_pos (by omega)]; rw [if_pos (by omega)] at h2; exact h2
      · rw [if_neg (by omega)]
        refine ⟨⟨by omega, by omega⟩, ?_⟩
        rw [if_neg (by omega)] at h2
        by_cases h1 : eK E i = 1
        · rw [if_pos (by omega)]; rw [if_pos h1] at h2; exact h2
        · rw [if_neg (by omega)]; rw [if_neg h1] at h2; exact h2
theorem k_ofRank (hE : wfE E nC) (hM : EnM I E) {m r : Nat} (hm : m < 256) (hQ : Q (some (vI (ofR E m r : Int))) (S0 L, R, I, J)) : wpC 72 [vR (some 243), vI (m : Int), vI (r : Int)] (S0 L, R, I, J) Q :=
  c_M_ofRank.mpr (or_loop hE hM hm (eN E) 0 (by omega) hQ)
theorem os_loop (hE : wfE E nC) (hM : EnM I E) {m : Nat} (hm : m < 256) : ∀ (d i : Nat), d + i = eN E → Q (some (vI (bi (soleB E m (eN E) = true)))) (S0 L, R, I, J) → wpc 73 5 [vR (some 243), vI (m : Int), vI (bi (soleB E m i = true)), vI (i : Int)] [] (0, 0) (S0 L, R, I, J) Q := by
  intro d
  have h6 := hE.1
  induction d with
  | zero =>
    intro i hi hQ
    refine b_M_isOneSole_5.mpr ?_
    rw [hM.1, if_neg (by omega), show i = eN E by omega]
    exact ⟨bi_01, hQ⟩
  | succ d ih =>
    intro i hi hQ
    have hi2 : i < eN E := by omega
    obtain ⟨hk, _⟩ := hM.2 i hi2
    have h2 := ih (i + 1) (by omega) hQ
    refine b_M_isOneSole_5.mpr ?_
    rw [hM.1, if_pos (by omega), w32_s (by omega)]
    have e : soleB E m (i + 1) = (soleB E m i || (m.testBit i && decide (eK E i = 4))) := rfl
    rw [e] at h2
    by_cases h1 : soleB E m i = true
    · rw [if_neg (fun h => bi_0.mp h h1)]
      rw [bi_t (by rw [h1]; rfl)] at h2
      exact h2
    · rw [if_pos (bi_0.mpr h1), k_isIn hm (by omega)]
      refine b_M_isOneSole_17.mpr ?_
      rw [Bool.eq_false_iff.mpr h1, Bool.false_or] at h2
      rw [w32_s (by omega)]
      by_cases hb : m.testBit i = true
      · rw [if_neg (fun h => bi_0.mp h hb), hk]
        refine ⟨⟨by omega, by omega⟩, ?_⟩
        by_cases h4 : eK E i = 4
        · rw [if_pos (by omega)]
          rw [bi_t (by rw [hb, decide_eq_true h4]; rfl)] at h2; exact h2
        · rw [if_neg (by omega)]
          rw [bi_f (by rw [decide_eq_false h4, Bool.and_false]; decide)] at h2; exact h2
      · rw [if_pos (bi_0.mpr hb)]
        rw [bi_f (by rw [Bool.eq_false_iff.mpr hb, Bool.false_and]; decide)] at h2; exact h2
theorem k_isOneSole (hE : wfE E nC) (hM : EnM I E) {m : Nat} (hm : m < 256) (hQ : Q (some (vI (bi (soleB E m (eN E) = true)))) (S0 L, R, I, J)) : wpC 73 [vR (some 243), vI (m : Int)] (S0 L, R, I, J) Q := by
  refine c_M_isOneSole.mpr ?_
  have := os_loop hE hM hm (eN E) 0 (by omega) hQ
  rw [bi_f (by unfold soleB; decide)] at this
  exact this
theorem ms_in (hE : wfE E nC) (hM : EnM I E) (hS : SpM I E) {m i : Nat} (hm : m < 256) (hi : i < eN E) {z : Int} (hQ : wpc 74 5 [vR (some 243), vI (m : Int), vI (if bstI E m i (eN E) = true then (i : Int) else z), vI ((i + 1 : Nat) : Int), vU, vU] [] (0, 0) (S0 L, R, I, J) Q) : ∀ (d e : Nat), d + e = eN E → wpc 74 18 [vR (some 243), vI (m : Int), vI z, vI (i : Int), vI (bi (bstI E m i e = true)), vI (e : Int)] [] (0, 0) (S0 L, R, I, J) Q := by
  intro d
  have h6 := hE.1
  induction d with
  | zero =>
    intro e he
    refine b_M_mostSpecial_18.mpr ?_
    rw [hM.1, if_neg (by omega), show e = eN E by omega, w32_s (by omega)]
    by_cases h1 : bstI E m i (eN E) = true
    · rw [if_neg (fun h => bi_0.mp h h1)]
      rw [if_pos h1] at hQ
      exact hQ
    · rw [if_pos (bi_0.mpr h1)]
      rw [if_neg h1] at hQ
      exact hQ
  | succ d ih =>
    intro e he
    have h2 := ih (e + 1) (by omega)
    have e0 : bstI E m i (e + 1) = (bstI E m i e && (decide (e = i) || !m.testBit e || spc E i e)) := rfl
    rw [e0] at h2
    refine b_M_mostSpecial_18.mpr ?_
    rw [hM.1, if_pos (by omega), w32_s (by omega)]
    by_cases h1 : bstI E m i e = true
    · rw [if_neg (fun h => bi_0.mp h h1)]
      rw [h1, Bool.true_and] at h2
      by_cases hei : e = i
      · rw [if_pos (by omega)]
        rw [bi_t (by rw [decide_eq_true hei]; rfl)] at h2
        exact h2
      · rw [if_neg (by omega), k_isIn hm (by omega)]
        rw [decide_eq_false hei, Bool.false_or] at h2
        refine b_M_mostSpecial_34.mpr ?_
        rw [w32_s (by omega)]
        by_cases hb : m.testBit e = true
        · rw [if_neg (fun h => bi_0.mp h hb)]
          have e1 : w32 (w32 (6 * (i : Int)) + (e : Int)) = ((6 * i + e : Nat) : Int) := by
            rw [w32_eq (z := 6 * (i : Int)) (by omega) (by omega), w32_eq (by omega) (by omega)]; omega
          rw [e1]
          refine ⟨⟨by omega, by omega⟩, ?_⟩
          rw [hS i e hi (by omega)]
          rw [hb] at h2
          by_cases hsp : spc E i e = true
          · rw [if_pos (bi_1.mpr hsp)]
            rw [bi_t (by rw [hsp]; rfl)] at h2; exact h2
          · rw [if_neg (fun h => hsp (bi_1.mp h))]
            rw [bi_f (by rw [Bool.eq_false_iff.mpr hsp]; decide)] at h2; exact h2
        · rw [if_pos (bi_0.mpr hb)]
          rw [bi_t (by rw [Bool.eq_false_iff.mpr hb]; rfl)] at h2; exact h2
    · rw [if_pos (bi_0.mpr h1)]
      rw [bi_f (by rw [Bool.eq_false_iff.mpr h1]; simp)] at h2
      exact h2
theorem ms_out (hE : wfE E nC) (hM : EnM I E) (hS : SpM I E) {m : Nat} (hm : m < 256) : ∀ (d i : Nat), d + i = eN E → Q (some (vI (bst E m (eN E)))) (S0 L, R, I, J) → wpc 74 5 [vR (some 243), vI (m : Int), vI (bst E m i), vI (i : Int), vU, vU] [] (0, 0) (S0 L, R, I, J) Q := by
  intro d
  have h6 := hE.1
  induction d with
  | zero =>
    intro i hi hQ
    refine b_M_mostSpecial_5.mpr ?_
    rw [hM.1, if_neg (by omega), show i = eN E by omega]
    exact hQ
  | succ d ih =>
    intro i hi hQ
    refine b_M_mostSpecial_5.mpr ?_
    rw [hM.1, if_pos (by omega), k_isIn hm (by omega)]
    refine b_M_mostSpecial_14.mpr ?_
    exact ms_in hE hM hS hm (by omega) (ih (i + 1) (by omega) hQ) (eN E) 0 (by omega)
theorem k_mostSpecial (hE : wfE E nC) (hM : EnM I E) (hS : SpM I E) {m : Nat} (hm : m < 256) (hQ : Q (some (vI (bst E m (eN E)))) (S0 L, R, I, J)) : wpC 74 [vR (some 243), vI (m : Int)] (S0 L, R, I, J) Q :=
  c_M_mostSpecial.mpr (ms_out hE hM hS hm (eN E) 0 (by omega) hQ)
theorem ofR_lt (hE : wfE E nC) (m r : Nat) : ofR E m r < 256 := bset_lt8 (by have := hE.1; omega) _
theorem mnt_lt (hE : wfE E nC) (c : Nat) (u : List Nat) : mnt E c u < 256 := bset_lt8 (by have := hE.1; omega) _
theorem k_takes (hE : wfE E nC) {w : List Nat} (hw : wfN w 1 = true) (hl : w.length ≤ 9) {c p : Nat} (hp : p < w.length) (hM : EnM I E) (hS : SpM I E) (hn : NowW I w) (hs : SzW I w) (hQ : ∀ I', (∀ x, x ≠ 269 → I' x = I x) → Q (some (vI (tks E (mnt E c (sub w p))))) (S0 L, R, I', J)) : wpC 75 [vR (some 243), vI (c : Int), vI (p : Int)] (S0 L, R, I, J) Q := by
  refine c_M_takes.mpr ?_
  refine k_meantFor hE hw hl hp hM hn hs (fun I' h1 => ?_)
  have hM' := hM.f9 h1
  have hS' := hS.fr (h1 253 (by decide))
  have hQ' := hQ I' h1
  have hm := mnt_lt hE c (sub w p)
  generalize mnt E c (sub w p) = m at *
  unfold tks at hQ'
  refine b_M_takes_5.mpr ?_
  by_cases h0 : m = 0
  · rw [if_pos (by omega)]
    rw [if_pos h0] at hQ'
    exact hQ'
  · rw [if_neg (by omega), k_size hm]
    rw [if_neg h0] at hQ'
    refine b_M_takes_15.mpr ?_
    have hend : (if bst E (grp E m) (eN E) = -1 then Q (some (vI (-2))) (S0 L, R, I', J) else Q (some (vI (bst E (grp E m) (eN E)))) (S0 L, R, I', J)) → wpc 75 32 [vR (some 243), vU, vU, vI (m : Int), vI 0, vI 0] [] (0, 0) (S0 L, R, I', J) Q := by
      intro hq
      have hfin : wpc 75 48 [vR (some 243), vU, vU, vU, vI ((grp E m : Nat) : Int), vU] [] (0, 0) (S0 L, R, I', J) Q := by
        refine b_M_takes_48.mpr ?_
        have hg : grp E m < 256 := by
          unfold grp
          split
          · split
            · exact ofR_lt hE _ _
            · exact ofR_lt hE _ _
          · exact ofR_lt hE _ _
        refine k_mostSpecial hE hM' hS' hg ?_
        refine b_M_takes_52.mpr ?_
        exact hq
      unfold grp at hfin
      refine b_M_takes_32.mpr ?_
      rw [if_pos (by decide), if_pos rfl]
      refine k_ofRank hE hM' hm (r := 0) ?_
      refine b_M_takes_44.mpr ?_
      refine b_M_takes_32.mpr ?_
      rw [if_pos (by decide)]
      by_cases g0 : ofR E m 0 = 0
      · rw [if_pos (by omega)]
        rw [if_pos g0] at hfin
        refine k_ofRank hE hM' hm (r := 1) ?_
        refine b_M_takes_44.mpr ?_
        refine b_M_takes_32.mpr ?_
        rw [if_pos (by decide)]
        by_cases g1 : ofR E m 1 = 0
        · rw [if_pos (by omega)]
          rw [if_pos g1] at hfin
          refine k_ofRank hE hM' hm (r := 2) ?_
          refine b_M_takes_44.mpr ?_
          refine b_M_takes_32.mpr ?_
          rw [if_neg (by decide)]
          exact hfin
        · rw [if_neg (by omega)]
          rw [if_neg g1] at hfin
          exact hfin
      · rw [if_neg (by omega)]
        rw [if_neg g0] at hfin
        exact hfin
    by_cases h1 : 1 < pcn 16 m
    · rw [if_neg (by omega)]
      refine k_isOneSole hE hM' hm ?_
      refine b_M_takes_22.mpr ?_
      by_cases hso : soleB E m (eN E) = true
      · rw [if_neg (fun h => bi_0.mp h hso)]
        rw [if_pos ⟨h1, hso⟩] at hQ'
        exact hQ'
      · rw [if_pos (bi_0.mpr hso)]
        rw [if_neg (fun h => hso h.2)] at hQ'
        refine hend ?_
        by_cases hb : bst E (grp E m) (eN E) = -1
        · rw [if_pos hb] at hQ' ⊢; exact hQ'
        · rw [if_neg hb] at hQ' ⊢; exact hQ'
    · rw [if_pos (by omega)]
      rw [if_neg (fun h => h1 h.1)] at hQ'
      refine hend ?_
      by_cases hb : bst E (grp E m) (eN E) = -1
      · rw [if_pos hb] at hQ' ⊢; exact hQ'
      · rw [if_neg hb] at hQ' ⊢; exact hQ'
end MG
