-- ===== the reference: what is told of goals, of what was seen =====
def cnt : Nat → (Nat → Bool) → Nat
  | 0, _ => 0
  | n + 1, f => cnt n f + (if f n then 1 else 0)
theorem cnt_le (n : Nat) (f : Nat → Bool) : cnt n f ≤ n := by
  induction n with
  | zero => exact Nat.le_refl _
  | succ n ih => unfold cnt; split <;> omega
theorem cnt_ext {n : Nat} {f g : Nat → Bool} (h : ∀ k, k < n → f k = g k) : cnt n f = cnt n g := by
  induction n with
  | zero => rfl
  | succ n ih =>
    show cnt n f + (if f n then 1 else 0) = cnt n g + (if g n then 1 else 0)
    rw [ih (fun k hk => h k (by omega)), h n (by omega)]
theorem pcn_cnt (n a : Nat) : pcn n a = cnt n (fun k => a.testBit k) := by
  induction n with
  | zero => rfl
  | succ n ih =>
    show pcn n a + (if a.testBit n then 1 else 0) = cnt n (fun k => a.testBit k) + (if a.testBit n then 1 else 0)
    rw [ih]
theorem cnt_cut {n m : Nat} {f : Nat → Bool} (hm : n ≤ m) (h : ∀ k, n ≤ k → k < m → f k = false) : cnt m f = cnt n f := by
  induction m with
  | zero => rw [show n = 0 by omega]
  | succ m ih =>
    by_cases hn : n = m + 1
    · rw [hn]
    · show cnt m f + (if f m then 1 else 0) = _
      rw [ih (by omega) (fun k h1 h2 => h k h1 (by omega)), h m (by omega) (by omega), if_neg (by decide), Nat.add_zero]
theorem pcn_bset {n m : Nat} (hm : n ≤ m) (f : Nat → Bool) : pcn m (bset n f) = cnt n f := by
  rw [pcn_cnt, cnt_cut hm (fun k h1 _ => by rw [bset_bit, decide_eq_false (by omega), Bool.false_and])]
  exact cnt_ext (fun k hk => by rw [bset_bit, decide_eq_true hk, Bool.true_and])
/-- needs, in a plain form -/
def plnF (ab : Nat → Nat) (a k : Nat) : Nat → Bool
  | 0 => a.testBit k
  | e + 1 => plnF ab a k e && !(a.testBit e && decide (e % 2 = k % 2) && (ab (e / 2)).testBit (k / 2))
def pln (ab : Nat → Nat) (a : Nat) : Nat := bset 8 (fun k => plnF ab a k 8)
/-- whether a need is given by an instance's conditions -/
def gvn (E : EN) (ab : Nat → Nat) (i need : Nat) : Nat → Bool
  | 0 => false
  | k + 1 => gvn E ab i need k || (decide (((eC E i).getD k (0, 0)).2 = need % 2) && (decide (((eC E i).getD k (0, 0)).1 = need / 2) || (ab ((eC E i).getD k (0, 0)).1).testBit (need / 2)))
def lckA (E : EN) (ab : Nat → Nat) (i a : Nat) : Nat → Bool
  | 0 => true
  | n + 1 => lckA E ab i a n && (!a.testBit n || gvn E ab i n (eC E i).length)
def lckF (E : EN) (rt ab : Nat → Nat) (i c : Nat) : Bool := (rt (eO E i)).testBit c && !(decide ((G E c (eH E i)).1 = 1) && lckA E ab i (G E c (eH E i)).2.2.2.2 8)
def lck (E : EN) (nC : Nat) (rt ab : Nat → Nat) (i : Nat) : Nat := bset nC (lckF E rt ab i)
abbrev SN : Type := List (Nat × Nat × Bool)
def cldB (kind what : Nat) : Bool :=
  if what = 0 then decide (kind = 3) else if what = 1 then decide (¬ kind = 2) else if what = 2 then (decide (kind = 0) || decide (kind = 3)) else (decide (kind = 0) || decide (kind = 4))
def sorB (sn : SN) (i kind : Nat) : Nat → Bool
  | 0 => true
  | k + 1 => sorB sn i kind k && (decide (¬ (sn.getD k (0, 0, false)).1 = i) || (cldB kind (sn.getD k (0, 0, false)).2.1 == (sn.getD k (0, 0, false)).2.2))
def sors (sn : SN) (i : Nat) : Nat := bset 5 (fun kind => sorB sn i kind sn.length)
def askY (b what : Nat) : Nat → Nat
  | 0 => 0
  | k + 1 => askY b what k + (if b.testBit k && cldB k what then 1 else 0)
def askW (b what : Nat) : Int := if (askY b what 5 : Int) ≤ (pcn 16 b : Int) - (askY b what 5 : Int) then (pcn 16 b : Int) - (askY b what 5 : Int) else (askY b what 5 : Int)
def askL (b : Nat) : Nat → Int × Int
  | 0 => (-1, 268435456)
  | n + 1 => if askW b n < (askL b n).2 then ((n : Int), askW b n) else askL b n
def askF (b : Nat) : Int := if b = 0 then -1 else (askL b 4).1
def ClM (I : Nat → Int → Int) (nC : Nat) (rt ab : Nat → Nat) : Prop := I 243 1 = (nC : Int) ∧ ∀ c : Nat, c < nC → I 244 (c : Int) = (rt c : Int) ∧ I 245 (c : Int) = (ab c : Int)
def SeM (I : Nat → Int → Int) (sn : SN) : Prop := I 243 15 = (sn.length : Int) ∧ ∀ k : Nat, k < sn.length → I 256 (k : Int) = ((sn.getD k (0, 0, false)).1 : Int) ∧ I 257 (k : Int) = ((sn.getD k (0, 0, false)).2.1 : Int) ∧ I 258 (k : Int) = bi ((sn.getD k (0, 0, false)).2.2 = true)
def wfC (nC : Nat) (rt ab : Nat → Nat) : Prop := nC ≤ 4 ∧ ∀ c, c < nC → rt c < 2 ^ c ∧ ab c < 2 ^ c
theorem pow16 {c x : Nat} (hc : c < 4) (h : x < 2 ^ c) : x < 256 := Nat.lt_of_lt_of_le h (Nat.le_trans (Nat.pow_le_pow_right (by decide) (Nat.le_of_lt hc)) (by decide : 2 ^ 4 ≤ 256))
theorem ClM.fr {I I' : Nat → Int → Int} {nC : Nat} {rt ab : Nat → Nat} (h : ClM I nC rt ab) (h1 : I' 243 1 = I 243 1) (h2 : I' 244 = I 244) (h3 : I' 245 = I 245) : ClM I' nC rt ab := by
  refine ⟨by rw [h1]; exact h.1, fun c hc => ?_⟩
  rw [h2, h3]; exact h.2 c hc
/-- needs are of classes that there are -/
theorem nod_nd {E : EN} {nC n c : Nat} (hc : c < nC) {u : List Nat} (hu6 : u.getD 0 0 < 6) {vs : List GV} (hv : ∀ v, v ∈ vs → v.2.2.2.2 < 2 ^ (2 * nC)) : (nodV E c u vs).2.2.2.2 < 2 ^ (2 * nC) := by
  have hp : 0 < 2 ^ (2 * nC) := Nat.two_pow_pos _
  have hj : ∀ (a b : GV) (t : Int), a.2.2.2.2 < 2 ^ (2 * nC) → b.2.2.2.2 < 2 ^ (2 * nC) → (jn a t b).2.2.2.2 < 2 ^ (2 * nC) := by
    intro a b t ha hb
    unfold jn
    split
    · split
      · exact Nat.or_lt_two_pow ha hb
      · exact ha
    · exact ha
  unfold nodV
  split
  · exact Nat.pow_lt_pow_right (by decide) (by omega)
  · split
    · exact hp
    · show (jns _ vs).2.2.2.2 < _
      match vs, hv with
      | [], _ => exact hp
      | [v], hv => exact hj _ _ _ hp (hv v (by simp))
      | v :: v2 :: r, hv => exact hj _ _ _ (hj _ _ _ hp (hv v (by simp))) (hv v2 (by simp))
theorem G_nd {E : EN} {nC : Nat} (hE : wfE E nC) : ∀ (n c : Nat) (u : List Nat), wfN u 1 = true → u.length ≤ n → c < nC → (G E c u).2.2.2.2 < 2 ^ (2 * nC) := by
  intro n
  induction n with
  | zero =>
    intro c u hu hn _
    exact absurd (List.length_eq_zero_iff.mp (by omega)) (ne_wf1 hu)
  | succ n ih =>
    intro c u hu hn hc
    rw [G_eq hE hu]
    refine nod_nd (n := n) hc (wf_lt6 hu (List.length_pos_iff.mpr (ne_wf1 hu))) (fun v hv => ?_)
    obtain ⟨k, hk, hkv⟩ := List.mem_map.mp hv
    obtain ⟨h1, h2, h3⟩ := chl_ok hE hu hk
    rw [← hkv]
    exact ih k.1 k.2 h2 (by omega) h1
theorem nd_bit {a nC e : Nat} (ha : a < 2 ^ (2 * nC)) (he : a.testBit e = true) : e / 2 < nC := by
  refine Nat.lt_of_not_le (fun h => ?_)
  rw [Nat.testBit_lt_two_pow (Nat.lt_of_lt_of_le ha (Nat.pow_le_pow_right (by decide) (by omega)))] at he
  exact absurd he (by decide)
theorem nd_lt {a nC : Nat} (ha : a < 2 ^ (2 * nC)) (hC : nC ≤ 4) : a < 256 := Nat.lt_of_lt_of_le ha (Nat.pow_le_pow_right (by decide) (by omega) : 2 ^ (2 * nC) ≤ 2 ^ 8)
section MMo
variable {L : Nat} {R : Nat → Int → Option Nat} {I : Nat → Int → Int} {J : Nat → Int → Int64} {Q : Option MV → MM → Prop} {E : EN} {nC : Nat} {rt ab : Nat → Nat}
theorem k_isClass (hC : nC ≤ 4) (h : I 243 1 = (nC : Int)) (i : Int) : wpC 85 [vR (some 243), vI i] (S0 L, R, I, J) Q ↔ Q (some (vI (bi (0 ≤ i ∧ i < (nC : Int))))) (S0 L, R, I, J) := by
  rw [c_M_isClass, k_within, h, w32_eq (by omega) (by omega)]
  refine b_M_isClass_8.trans ?_
  rw [bi_cong (show (0 ≤ i ∧ i ≤ (nC : Int) - 1) ↔ (0 ≤ i ∧ i < (nC : Int)) by omega)]
  exact ⟨fun h => h.2, fun h => ⟨bi_01, h⟩⟩
theorem k_isInst (hE : wfE E nC) (h : EnM I E) (i : Int) : wpC 86 [vR (some 243), vI i] (S0 L, R, I, J) Q ↔ Q (some (vI (bi (0 ≤ i ∧ i < (eN E : Int))))) (S0 L, R, I, J) := by
  have h6 := hE.1
  rw [k_isInstance i (by rw [h.1]; omega), h.1]
theorem k_isFilled {sl : Nat → List Nat} (h : ∀ k, k < 4 → SlW I k (sl k)) (i : Int) : wpC 87 [vR (some 243), vI i] (S0 L, R, I, J) Q ↔ Q (some (vI (bi ((0 ≤ i ∧ i < 4) ∧ ¬ sl i.toNat = [])))) (S0 L, R, I, J) := by
  rw [c_M_isFilled, k_within]
  refine b_M_isFilled_5.trans ?_
  by_cases hi : 0 ≤ i ∧ i ≤ 3
  · rw [if_neg (fun h => bi_0.mp h hi)]
    obtain ⟨n, hn⟩ : ∃ n : Nat, i = (n : Int) := ⟨i.toNat, by omega⟩
    subst hn
    rw [(h n (by omega)).1, Int.toNat_natCast]
    by_cases hs : sl n = []
    · rw [if_pos (by rw [hs]; decide), bi_f (fun q => q.2 hs)]
      exact ⟨fun h => h.2, fun h => ⟨⟨by omega, by omega⟩, h⟩⟩
    · have : 0 < (sl n).length := List.length_pos_iff.mpr hs
      rw [if_neg (by omega), bi_t ⟨by omega, hs⟩]
      exact ⟨fun h => h.2, fun h => ⟨⟨by omega, by omega⟩, h⟩⟩
  · rw [if_pos (bi_0.mpr hi), bi_f (fun q => hi (by omega))]
theorem pl_in (hC : wfC nC rt ab) (hI : ClM I nC rt ab) {a k z : Nat} (ha : a < 2 ^ (2 * nC)) (hk : k < 8) (hQ : wpc 83 5 [vR (some 243), vI (a : Int), vI (if plnF ab a k 8 = true then ior (z : Int) (ishl 1 (k : Int)) else ior (z : Int) 0), vI ((k + 1 : Nat) : Int), vU, vU] [] (0, 0) (S0 L, R, I, J) Q) : ∀ d e : Nat, d + e = 8 → wpc 83 17 [vR (some 243), vI (a : Int), vI (z : Int), vI (k : Int), vI (bi (plnF ab a k e = true)), vI (e : Int)] [] (0, 0) (S0 L, R, I, J) Q := by
  have ha8 := nd_lt ha hC.1
  intro d
  induction d with
  | zero =>
    intro e he
    have he8 : e = 8 := by omega
    subst he8
    refine b_M_plainOf_17.mpr ?_
    rw [if_neg (by decide), w32_s (by omega)]
    by_cases h : plnF ab a k 8 = true
    · rw [if_neg (fun h2 => bi_0.mp h2 h)]
      rw [if_pos h] at hQ; exact hQ
    · rw [if_pos (bi_0.mpr h)]
      rw [if_neg h] at hQ; exact hQ
  | succ d ih =>
    intro e he
    have h2 := ih (e + 1) (by omega)
    have e0 : plnF ab a k (e + 1) = (plnF ab a k e && !(a.testBit e && decide (e % 2 = k % 2) && (ab (e / 2)).testBit (k / 2))) := rfl
    rw [e0] at h2
    refine b_M_plainOf_17.mpr ?_
    rw [if_pos (by omega), w32_s (by omega)]
    by_cases h : plnF ab a k e = true
    · rw [if_neg (fun h2 => bi_0.mp h2 h), k_isIn ha8 (by omega)]
      rw [h, Bool.true_and] at h2
      refine b_M_plainOf_28.mpr ?_
      rw [w32_s (by omega)]
      by_cases hb : a.testBit e = true
      · rw [if_neg (fun h2 => bi_0.mp h2 hb)]
        have hec := nd_bit ha hb
        have hC4 := hC.1
        have t1 : (e : Int).tmod 2 = ((e % 2 : Nat) : Int) := rfl
        have t2 : (k : Int).tmod 2 = ((k % 2 : Nat) : Int) := rfl
        have t3 : (e : Int).tdiv 2 = ((e / 2 : Nat) : Int) := rfl
        have t4 : (k : Int).tdiv 2 = ((k / 2 : Nat) : Int) := rfl
        rw [t1, t2, t3, t4, w32_eq (z := ((e / 2 : Nat) : Int)) (by omega) (by omega), w32_eq (z := ((k / 2 : Nat) : Int)) (by omega) (by omega)]
        rw [hb, Bool.true_and] at h2
        by_cases hm : e % 2 = k % 2
        · rw [if_pos (by omega)]
          refine ⟨⟨by omega, by omega⟩, ?_⟩
          rw [(hI.2 _ hec).2, k_isIn (pow16 (by omega) (hC.2 _ hec).2) (by omega)]
          refine b_M_plainOf_49.mpr ?_
          rw [w32_s (by omega)]
          rw [decide_eq_true hm, Bool.true_and] at h2
          by_cases hc : (ab (e / 2)).testBit (k / 2) = true
          · rw [if_neg (fun h2 => bi_0.mp h2 hc)]
            rw [bi_f (by rw [hc]; decide)] at h2; exact h2
          · rw [if_pos (bi_0.mpr hc)]
            rw [bi_t (by rw [Bool.eq_false_iff.mpr hc]; rfl)] at h2; exact h2
        · rw [if_neg (by omega)]
          rw [bi_t (by rw [decide_eq_false hm, Bool.false_and]; rfl)] at h2; exact h2
      · rw [if_pos (bi_0.mpr hb)]
        rw [bi_t (by rw [Bool.eq_false_iff.mpr hb, Bool.false_and, Bool.false_and]; rfl)] at h2; exact h2
    · rw [if_pos (bi_0.mpr h)]
      rw [bi_f (by rw [Bool.eq_false_iff.mpr h, Bool.false_and]; decide)] at h2
      exact h2
theorem pl_out (hC : wfC nC rt ab) (hI : ClM I nC rt ab) {a : Nat} (ha : a < 2 ^ (2 * nC)) (hQ : Q (some (vI (pln ab a : Int))) (S0 L, R, I, J)) : ∀ d k : Nat, d + k = 8 → wpc 83 5 [vR (some 243), vI (a : Int), vI ((bset k (fun k => plnF ab a k 8) : Nat) : Int), vI (k : Int), vU, vU] [] (0, 0) (S0 L, R, I, J) Q := by
  have ha8 := nd_lt ha hC.1
  intro d
  induction d with
  | zero =>
    intro k hk
    refine b_M_plainOf_5.mpr ?_
    rw [if_neg (by omega), show k = 8 by omega]
    exact hQ
  | succ d ih =>
    intro k hk
    refine b_M_plainOf_5.mpr ?_
    rw [if_pos (by omega), k_isIn ha8 (by omega)]
    refine b_M_plainOf_13.mpr ?_
    refine pl_in hC hI ha (by omega) ?_ 8 0 rfl
    have h8 := bset_lt8 (n := k) (by omega) (fun k => plnF ab a k 8)
    have := ih (k + 1) (by omega)
    by_cases h : plnF ab a k 8 = true
    · rw [if_pos h, ior1 h8 (by omega), ← bset_t (f := fun k => plnF ab a k 8) h]; exact this
    · rw [if_neg h, ior0 h8, ← bset_f (f := fun k => plnF ab a k 8) (Bool.eq_false_iff.mpr h)]; exact this
theorem k_plainOf (hC : wfC nC rt ab) (hI : ClM I nC rt ab) {a : Nat} (ha : a < 2 ^ (2 * nC)) (hQ : Q (some (vI (pln ab a : Int))) (S0 L, R, I, J)) : wpC 83 [vR (some 243), vI (a : Int)] (S0 L, R, I, J) Q := c_M_plainOf.mpr (pl_out hC hI ha hQ 8 0 rfl)
theorem ig_loop (hE : wfE E nC) (hC : wfC nC rt ab) (hI : ClM I nC rt ab) (hM : EnM I E) {i need : Nat} (hi : i < eN E) (hn : need < 8) (hQ : Q (some (vI (bi (gvn E ab i need (eC E i).length = true)))) (S0 L, R, I, J)) : ∀ d k : Nat, d + k = (eC E i).length → wpc 92 5 [vR (some 243), vI (i : Int), vI (need : Int), vI (bi (gvn E ab i need k = true)), vI (k : Int), vU, vU] [] (0, 0) (S0 L, R, I, J) Q := by
  have h6 := hE.1
  obtain ⟨_, _, _, hcl, hck⟩ := hM.2 i hi
  obtain ⟨_, _, _, _, hc2, hcs⟩ := hE.2 i hi
  intro d
  induction d with
  | zero =>
    intro k hk
    refine b_M_isGiven_5.mpr ⟨⟨by omega, by omega⟩, ?_⟩
    rw [hcl, if_neg (by omega), show k = (eC E i).length by omega]
    exact ⟨bi_01, hQ⟩
  | succ d ih =>
    intro k hk
    have h2 := ih (k + 1) (by omega)
    have e0 : gvn E ab i need (k + 1) = (gvn E ab i need k || (decide (((eC E i).getD k (0, 0)).2 = need % 2) && (decide (((eC E i).getD k (0, 0)).1 = need / 2) || (ab ((eC E i).getD k (0, 0)).1).testBit (need / 2)))) := rfl
    rw [e0] at h2
    obtain ⟨q1, q2⟩ := hck k (by omega)
    obtain ⟨s1, s2, _⟩ := hcs k (by omega)
    have hC4 := hC.1
    generalize (eC E i).getD k (0, 0) = cv at *
    have e1 : w32 (w32 (2 * (i : Int)) + (k : Int)) = ((2 * i + k : Nat) : Int) := by
      rw [w32_eq (z := 2 * (i : Int)) (by omega) (by omega), w32_eq (by omega) (by omega)]; omega
    have t1 : (need : Int).tmod 2 = ((need % 2 : Nat) : Int) := rfl
    have t3 : (need : Int).tdiv 2 = ((need / 2 : Nat) : Int) := rfl
    refine b_M_isGiven_5.mpr ⟨⟨by omega, by omega⟩, ?_⟩
    rw [hcl, if_pos (by omega), e1, t1, t3, q1, q2, w32_s (by omega), w32_eq (z := ((need / 2 : Nat) : Int)) (by omega) (by omega)]
    refine ⟨⟨by omega, by omega⟩, ?_⟩
    by_cases hc : cv.1 = need / 2
    · rw [if_pos (by omega)]
      rw [decide_eq_true hc, Bool.true_or, Bool.and_true] at h2
      by_cases hg : gvn E ab i need k = true
      · rw [if_neg (fun h2 => bi_0.mp h2 hg)]
        rw [bi_t (by rw [hg]; rfl)] at h2; exact h2
      · rw [if_pos (bi_0.mpr hg)]
        refine ⟨⟨by omega, by omega⟩, ?_⟩
        rw [Bool.eq_false_iff.mpr hg, Bool.false_or] at h2
        by_cases hv : cv.2 = need % 2
        · rw [if_pos (by omega), if_neg (by decide)]
          rw [bi_t (decide_eq_true hv)] at h2; exact h2
        · rw [if_neg (by omega)]
          rw [bi_f (by rw [decide_eq_false hv]; decide)] at h2; exact h2
    · rw [if_neg (by omega)]
      refine ⟨⟨by omega, by omega⟩, ?_⟩
      rw [(hI.2 _ s1).2, k_isIn (pow16 (by omega) (hC.2 _ s1).2) (by omega)]
      refine b_M_isGiven_36.mpr ?_
      rw [e1, t1, q2, w32_s (by omega)]
      rw [decide_eq_false hc, Bool.false_or] at h2
      by_cases hb : (ab cv.1).testBit (need / 2) = true
      · rw [if_neg (fun h2 => bi_0.mp h2 hb)]
        rw [hb, Bool.and_true] at h2
        by_cases hg : gvn E ab i need k = true
        · rw [if_neg (fun h2 => bi_0.mp h2 hg)]
          rw [bi_t (by rw [hg]; rfl)] at h2; exact h2
        · rw [if_pos (bi_0.mpr hg)]
          refine ⟨⟨by omega, by omega⟩, ?_⟩
          rw [Bool.eq_false_iff.mpr hg, Bool.false_or] at h2
          by_cases hv : cv.2 = need % 2
          · rw [if_pos (by omega), if_neg (by decide)]
            rw [bi_t (decide_eq_true hv)] at h2; exact h2
          · rw [if_neg (by omega)]
            rw [bi_f (by rw [decide_eq_false hv]; decide)] at h2; exact h2
      · rw [if_pos (bi_0.mpr hb)]
        rw [Bool.eq_false_iff.mpr hb, Bool.and_false, Bool.or_false] at h2
        by_cases hg : gvn E ab i need k = true
        · rw [if_neg (fun h2 => bi_0.mp h2 hg)]
          rw [bi_t hg] at h2; exact h2
        · rw [if_pos (bi_0.mpr hg)]
          refine ⟨⟨by omega, by omega⟩, ?_⟩
          rw [bi_f hg] at h2
          by_cases hv : cv.2 = need % 2
          · rw [if_pos (by omega), if_pos rfl]; exact h2
          · rw [if_neg (by omega)]; exact h2
theorem k_isGiven (hE : wfE E nC) (hC : wfC nC rt ab) (hI : ClM I nC rt ab) (hM : EnM I E) {i need : Nat} (hi : i < eN E) (hn : need < 8) (hQ : Q (some (vI (bi (gvn E ab i need (eC E i).length = true)))) (S0 L, R, I, J)) : wpC 92 [vR (some 243), vI (i : Int), vI (need : Int)] (S0 L, R, I, J) Q := by
  refine c_M_isGiven.mpr ?_
  have := ig_loop hE hC hI hM hi hn hQ (eC E i).length 0 (by omega)
  rw [bi_f (by unfold gvn; decide)] at this
  exact this
/-- the goal of a whole type -/
theorem RwM.root {w : List Nat} (hw : wfN w 1 = true) {c : Nat} (h : RwM I w E nC c 0) : GvM I (9 * c) (G E c w) := by
  have := h.1
  rw [sub_all hw, Nat.add_zero] at this
  exact this
theorem lk_in (hE : wfE E nC) (hC : wfC nC rt ab) (hI : ClM I nC rt ab) (hM : EnM I E) {i c a : Nat} (hi : i < eN E) (hc : c < nC) (ha : a < 2 ^ (2 * nC)) {z : Int} (hQ : wpc 93 69 [vR (some 243), vI (i : Int), vI z, vI (c : Int), vU, vI (bi (lckA E ab i a 8 = true)), vU] [] (0, 0) (S0 L, R, I, J) Q) (h77 : I 277 ((9 * c : Nat) : Int) = (a : Int)) : ∀ d n : Nat, d + n = 8 → wpc 93 37 [vR (some 243), vI (i : Int), vI z, vI (c : Int), vI ((9 * c : Nat) : Int), vI (bi (lckA E ab i a n = true)), vI (n : Int)] [] (0, 0) (S0 L, R, I, J) Q := by
  have ha8 := nd_lt ha hC.1
  have hC4 := hC.1
  have hmono : ∀ n m : Nat, lckA E ab i a n = false → n ≤ m → lckA E ab i a m = false := by
    intro n m hf hm
    induction hm with
    | refl => exact hf
    | step _ ih => show (lckA E ab i a _ && _) = false; rw [ih]; rfl
  intro d
  induction d with
  | zero =>
    intro n hn
    refine b_M_lacksOf_37.mpr ?_
    rw [if_neg (by omega), show n = 8 by omega]
    exact hQ
  | succ d ih =>
    intro n hn
    have h2 := ih (n + 1) (by omega)
    have e0 : lckA E ab i a (n + 1) = (lckA E ab i a n && (!a.testBit n || gvn E ab i n (eC E i).length)) := rfl
    rw [e0] at h2
    refine b_M_lacksOf_37.mpr ?_
    rw [if_pos (by omega)]
    by_cases h : lckA E ab i a n = true
    · rw [if_neg (fun h2 => bi_0.mp h2 h), h77]
      rw [h, Bool.true_and] at h2
      refine ⟨⟨by omega, by omega⟩, ?_⟩
      rw [k_isIn ha8 (by omega)]
      refine b_M_lacksOf_51.mpr ?_
      rw [w32_s (by omega)]
      by_cases hb : a.testBit n = true
      · rw [if_neg (fun h2 => bi_0.mp h2 hb)]
        rw [hb] at h2
        refine k_isGiven hE hC hI hM hi (by omega) ?_
        refine b_M_lacksOf_58.mpr ?_
        rw [w32_s (by omega)]
        by_cases hg : gvn E ab i n (eC E i).length = true
        · rw [if_neg (fun h2 => bi_0.mp h2 hg)]
          rw [bi_t (by rw [hg]; rfl)] at h2; exact h2
        · rw [if_pos (bi_0.mpr hg)]
          rw [bi_f (by rw [Bool.eq_false_iff.mpr hg]; decide)] at h2; exact h2
      · rw [if_pos (bi_0.mpr hb)]
        rw [bi_t (by rw [Bool.eq_false_iff.mpr hb]; rfl)] at h2; exact h2
    · rw [if_pos (bi_0.mpr h), bi_f h]
      rw [bi_f (by rw [hmono n 8 (Bool.eq_false_iff.mpr h) (by omega)]; decide)] at hQ
      exact hQ
theorem lk_out (hE : wfE E nC) (hC : wfC nC rt ab) (hI : ClM I nC rt ab) (hM : EnM I E) {i : Nat} (hi : i < eN E) (hT : ∀ c : Nat, c < nC → GvM I (9 * c) (G E c (eH E i))) (hQ : Q (some (vI (lck E nC rt ab i : Int))) (S0 L, R, I, J)) : ∀ d c : Nat, d + c = nC → wpc 93 12 [vR (some 243), vI (i : Int), vI ((bset c (lckF E rt ab i) : Nat) : Int), vI (c : Int), vU, vU, vU] [] (0, 0) (S0 L, R, I, J) Q := by
  have hC4 := hC.1
  have h6 := hE.1
  obtain ⟨_, ho, hhw, hhl, _⟩ := hE.2 i hi
  obtain ⟨_, ho2, _⟩ := hM.2 i hi
  intro d
  induction d with
  | zero =>
    intro c hc
    refine b_M_lacksOf_12.mpr ?_
    rw [hI.1, if_neg (by omega), show c = nC by omega]
    exact hQ
  | succ d ih =>
    intro c hc
    have h8 := bset_lt8 (n := c) (by omega) (lckF E rt ab i)
    have e9 : w32 (9 * (c : Int)) = ((9 * c : Nat) : Int) := by rw [w32_eq (by omega) (by omega)]; omega
    have hnx := ih (c + 1) (by omega)
    have hG := hT c (by omega)
    have hnd := G_nd hE 5 c (eH E i) hhw hhl (by omega)
    -- the end of one class
    have hend : ∀ x : Bool, lckF E rt ab i c = ((rt (eO E i)).testBit c && !x) → wpc 93 69 [vR (some 243), vI (i : Int), vI ((bset c (lckF E rt ab i) : Nat) : Int), vI (c : Int), vU, vI (bi (x = true)), vU] [] (0, 0) (S0 L, R, I, J) Q := by
      intro x hx
      refine b_M_lacksOf_69.mpr ⟨⟨by omega, by omega⟩, ?_⟩
      rw [ho2]
      refine ⟨⟨by omega, by omega⟩, ?_⟩
      rw [(hI.2 _ ho).1, k_isIn (pow16 (by omega) (hC.2 _ ho).1) (by omega)]
      refine b_M_lacksOf_80.mpr ?_
      rw [ior0 h8, ior1 h8 (by omega), w32_s (by omega)]
      by_cases hb : (rt (eO E i)).testBit c = true
      · rw [if_neg (fun h2 => bi_0.mp h2 hb)]
        rw [hb, Bool.true_and] at hx
        cases x with
        | true =>
          rw [if_neg (by rw [bi_t rfl]; decide)]
          rw [bset_f (by rw [hx]; rfl)] at hnx; exact hnx
        | false =>
          rw [if_pos (by rw [bi_f (by decide)])]
          rw [bset_t (by rw [hx]; rfl)] at hnx; exact hnx
      · rw [if_pos (bi_0.mpr hb)]
        rw [bset_f (by rw [hx, Bool.eq_false_iff.mpr hb]; rfl)] at hnx; exact hnx
    refine b_M_lacksOf_12.mpr ?_
    rw [hI.1, if_pos (by omega), e9, hG.1]
    refine ⟨⟨by omega, by omega⟩, ?_⟩
    by_cases hs : (G E c (eH E i)).1 = 1
    · rw [if_pos hs]
      refine lk_in hE hC hI hM hi (by omega) hnd (hend _ ?_) (hG.2 hs).2.2.2 8 0 rfl
      unfold lckF
      rw [decide_eq_true hs, Bool.true_and]
    · rw [if_neg hs]
      refine b_M_lacksOf_37.mpr ?_
      rw [if_pos (by decide), if_pos rfl]
      have := hend false (by unfold lckF; rw [decide_eq_false hs, Bool.false_and])
      rw [bi_f (by decide)] at this
      exact this
/-- what laying a type and its goals changes -/
def frY (I I' : Nat → Int → Int) : Prop := (∀ a, a < 243 ∨ (243 < a ∧ a < 267) ∨ 277 < a → I' a = I a) ∧ ∀ i : Int, i ≠ 34 → I' 243 i = I 243 i
theorem frWT {I I1 I2 : Nat → Int → Int} (h1 : frW I I1) (h2 : frT I1 I2) : frY I I2 := ⟨fun a ha => by rw [h2 a (by omega), h1.1 a (by omega) (by omega) (by omega)], fun i hi => by rw [h2 243 (by omega), h1.2 i hi]⟩
theorem frW.en {I I' : Nat → Int → Int} (h : frW I I') (hM : EnM I E) : EnM I' E := hM.fr (h.2 4 (by decide)) (fun a h3 h4 => h.1 a (by omega) (by omega) (by omega))
theorem frY.en {I I' : Nat → Int → Int} (h : frY I I') (hM : EnM I E) : EnM I' E := hM.fr (h.2 4 (by decide)) (fun a h3 h4 => h.1 a (by omega))
theorem frY.cl {I I' : Nat → Int → Int} (h : frY I I') (hM : ClM I nC rt ab) : ClM I' nC rt ab := hM.fr (h.2 1 (by decide)) (h.1 244 (by omega)) (h.1 245 (by omega))
theorem k_lacksOf (hE : wfE E nC) (hC : wfC nC rt ab) (hI : ClM I nC rt ab) (hM : EnM I E) (hS : SpM I E) {i : Nat} (hi : i < eN E) (hQ : ∀ I', frY I I' → Q (some (vI (lck E nC rt ab i : Int))) (S0 L, R, I', J)) : wpC 93 [vR (some 243), vI (i : Int)] (S0 L, R, I, J) Q := by
  have h6 := hE.1
  obtain ⟨_, _, hhw, hhl, _⟩ := hE.2 i hi
  have hpos : 0 < (eH E i).length := List.length_pos_iff.mpr (ne_wf1 hhw)
  refine c_M_lacksOf.mpr ?_
  refine k_layHead (by omega) hhw hhl (hM.2 i hi).2.2.1 (fun I1 f1 n1 s1 => ?_)
  refine b_M_lacksOf_4.mpr ?_
  refine k_layGoals hE hC.1 hhw (by omega) (by rw [f1.2 1 (by decide)]; exact hI.1) (f1.en hM) (hS.fr (f1.1 253 (by decide) (by decide) (by decide))) n1 s1 (fun I2 f2 hT => ?_)
  have f := frWT f1 f2
  refine b_M_lacksOf_7.mpr ?_
  exact lk_out hE hC (f.cl hI) (f.en hM) hi (fun c hc => (hT 0 c hpos hc).root hhw) (hQ I2 f) nC 0 (by omega)
theorem k_could {kind what : Nat} : wpC 116 [vI (kind : Int), vI (what : Int)] (S0 L, R, I, J) Q ↔ Q (some (vI (bi (cldB kind what = true)))) (S0 L, R, I, J) := by
  rw [c_M_could]
  unfold cldB
  by_cases h0 : what = 0
  · rw [if_pos (by omega), if_pos h0]
    by_cases hk : kind = 3
    · rw [if_pos (by omega), bi_t (decide_eq_true hk)]
    · rw [if_neg (by omega), bi_f (by rw [decide_eq_false hk]; decide)]
  · rw [if_neg (by omega), if_neg h0]
    by_cases h1 : what = 1
    · rw [if_pos (by omega), if_pos h1]
      by_cases hk : kind = 2
      · rw [if_pos (by omega), bi_f (by rw [decide_eq_false (not_not_intro hk)]; decide)]
      · rw [if_neg (by omega), bi_t (decide_eq_true hk)]
    · rw [if_neg (by omega), if_neg h1]
      by_cases h2 : what = 2
      · rw [if_pos (by omega), if_pos h2]
        by_cases hk : kind = 0
        · rw [if_pos (by omega), bi_t (by rw [decide_eq_true hk]; rfl)]
        · rw [if_neg (by omega)]
          by_cases hk3 : kind = 3
          · rw [if_pos (by omega), bi_t (by rw [decide_eq_true hk3, Bool.or_true])]
          · rw [if_neg (by omega), bi_f (by rw [decide_eq_false hk, decide_eq_false hk3]; decide)]
      · rw [if_neg (by omega), if_neg h2]
        by_cases hk : kind = 0
        · rw [if_pos (by omega), bi_t (by rw [decide_eq_true hk]; rfl)]
        · rw [if_neg (by omega)]
          by_cases hk3 : kind = 4
          · rw [if_pos (by omega), bi_t (by rw [decide_eq_true hk3, Bool.or_true])]
          · rw [if_neg (by omega), bi_f (by rw [decide_eq_false hk, decide_eq_false hk3]; decide)]
theorem so_in {sn : SN} (hl : sn.length ≤ 6) (hS : SeM I sn) {i kind z : Nat} (hk : kind < 5) (hQ : wpc 119 5 [vR (some 243), vI (i : Int), vI (if sorB sn i kind sn.length = true then ior (z : Int) (ishl 1 (kind : Int)) else ior (z : Int) 0), vI ((kind + 1 : Nat) : Int), vU, vU] [] (0, 0) (S0 L, R, I, J) Q) : ∀ d k : Nat, d + k = sn.length → wpc 119 14 [vR (some 243), vI (i : Int), vI (z : Int), vI (kind : Int), vI (bi (sorB sn i kind k = true)), vI (k : Int)] [] (0, 0) (S0 L, R, I, J) Q := by
  intro d
  induction d with
  | zero =>
    intro k hk2
    refine b_M_sortsOf_14.mpr ?_
    rw [hS.1, if_neg (by omega), show k = sn.length by omega, w32_s (by omega)]
    by_cases h : sorB sn i kind sn.length = true
    · rw [if_neg (fun h2 => bi_0.mp h2 h)]
      rw [if_pos h] at hQ; exact hQ
    · rw [if_pos (bi_0.mpr h)]
      rw [if_neg h] at hQ; exact hQ
  | succ d ih =>
    intro k hk2
    have h2 := ih (k + 1) (by omega)
    obtain ⟨s1, s2, s3⟩ := hS.2 k (by omega)
    have e0 : sorB sn i kind (k + 1) = (sorB sn i kind k && (decide (¬ (sn.getD k (0, 0, false)).1 = i) || (cldB kind (sn.getD k (0, 0, false)).2.1 == (sn.getD k (0, 0, false)).2.2))) := rfl
    rw [e0] at h2
    generalize sn.getD k (0, 0, false) = sk at *
    refine b_M_sortsOf_14.mpr ?_
    rw [hS.1, if_pos (by omega), w32_s (by omega)]
    by_cases h : sorB sn i kind k = true
    · rw [if_neg (fun h2 => bi_0.mp h2 h), s1, s2]
      rw [h, Bool.true_and] at h2
      refine ⟨⟨by omega, by omega⟩, ?_⟩
      by_cases he : sk.1 = i
      · rw [if_pos (by omega)]
        refine ⟨⟨by omega, by omega⟩, ?_⟩
        rw [k_could]
        refine b_M_sortsOf_36.mpr ⟨⟨by omega, by omega⟩, ?_⟩
        rw [s3, w32_s (by omega)]
        rw [decide_eq_false (not_not_intro he), Bool.false_or] at h2
        by_cases hso : sk.2.2 = true
        · rw [if_pos (bi_1.mpr hso)]
          rw [hso] at h2
          by_cases hcl : cldB kind sk.2.1 = true
          · rw [if_pos (bi_1.mpr hcl)]
            rw [bi_t (by rw [hcl]; rfl)] at h2; exact h2
          · rw [if_neg (fun h => hcl (bi_1.mp h))]
            rw [bi_f (by rw [Bool.eq_false_iff.mpr hcl]; decide)] at h2; exact h2
        · rw [if_neg (fun h => hso (bi_1.mp h))]
          rw [Bool.eq_false_iff.mpr hso] at h2
          by_cases hcl : cldB kind sk.2.1 = true
          · rw [if_neg (fun h => bi_0.mp h hcl)]
            rw [bi_f (by rw [hcl]; decide)] at h2; exact h2
          · rw [if_pos (bi_0.mpr hcl)]
            rw [bi_t (by rw [Bool.eq_false_iff.mpr hcl]; rfl)] at h2; exact h2
      · rw [if_neg (by omega)]
        rw [bi_t (by rw [decide_eq_true he]; rfl)] at h2; exact h2
    · rw [if_pos (bi_0.mpr h)]
      rw [bi_f (by rw [Bool.eq_false_iff.mpr h, Bool.false_and]; decide)] at h2; exact h2
theorem so_out {sn : SN} (hl : sn.length ≤ 6) (hS : SeM I sn) {i : Nat} (hQ : Q (some (vI (sors sn i : Int))) (S0 L, R, I, J)) : ∀ d k : Nat, d + k = 5 → wpc 119 5 [vR (some 243), vI (i : Int), vI ((bset k (fun kind => sorB sn i kind sn.length) : Nat) : Int), vI (k : Int), vU, vU] [] (0, 0) (S0 L, R, I, J) Q := by
  intro d
  induction d with
  | zero =>
    intro k hk
    refine b_M_sortsOf_5.mpr ?_
    rw [if_neg (by omega), show k = 5 by omega]
    exact hQ
  | succ d ih =>
    intro k hk
    refine b_M_sortsOf_5.mpr ?_
    rw [if_pos (by omega)]
    have h8 := bset_lt8 (n := k) (by omega) (fun kind => sorB sn i kind sn.length)
    have := ih (k + 1) (by omega)
    have hin := so_in (R := R) (J := J) (L := L) (Q := Q) hl hS (i := i) (kind := k) (z := bset k (fun kind => sorB sn i kind sn.length)) (by omega) ?_ sn.length 0 (by omega)
    · rw [bi_t (by unfold sorB; rfl)] at hin; exact hin
    · by_cases h : sorB sn i k sn.length = true
      · rw [if_pos h, ior1 h8 (by omega), ← bset_t (f := fun kind => sorB sn i kind sn.length) h]; exact this
      · rw [if_neg h, ior0 h8, ← bset_f (f := fun kind => sorB sn i kind sn.length) (Bool.eq_false_iff.mpr h)]; exact this
theorem k_sortsOf {sn : SN} (hl : sn.length ≤ 6) (hS : SeM I sn) {i : Nat} (hQ : Q (some (vI (sors sn i : Int))) (S0 L, R, I, J)) : wpC 119 [vR (some 243), vI (i : Int)] (S0 L, R, I, J) Q := c_M_sortsOf.mpr (so_out hl hS hQ 5 0 rfl)
theorem askY_le (b what : Nat) : ∀ n, askY b what n ≤ n := by
  intro n
  induction n with
  | zero => exact Nat.le_refl _
  | succ n ih => show askY b what n + (if _ then 1 else 0) ≤ _; split <;> omega
theorem ak_in {b what : Nat} (hb : b < 256) {x3 x4 : Int} (hQ : wpc 120 66 [vU, vU, vI (b : Int), vI x3, vI x4, vI (what : Int), vU, vU, vU] [vI (askW b what)] (0, 0) (S0 L, R, I, J) Q) : ∀ d k : Nat, d + k = 5 → wpc 120 24 [vU, vU, vI (b : Int), vI x3, vI x4, vI (what : Int), vI (askY b what k : Int), vI (k : Int), vU] [] (0, 0) (S0 L, R, I, J) Q := by
  intro d
  induction d with
  | zero =>
    intro k hk
    have hk5 : k = 5 := by omega
    subst hk5
    refine b_M_askOf_24.mpr ?_
    rw [if_neg (by decide), k_size hb]
    refine b_M_askOf_54.mpr ?_
    have h1 := pcn_le 16 b
    have h2 := askY_le b what 5
    rw [w32_eq (by omega) (by omega)]
    unfold askW at hQ
    split
    · rename_i h; rw [if_pos h] at hQ; exact hQ
    · rename_i h; rw [if_neg h] at hQ; exact hQ
  | succ d ih =>
    intro k hk
    have h2 := askY_le b what k
    have h3 : wpc 120 24 [vU, vU, vI (b : Int), vI x3, vI x4, vI (what : Int), vI ((askY b what k + (if b.testBit k && cldB k what then 1 else 0) : Nat) : Int), vI ((k + 1 : Nat) : Int), vU] [] (0, 0) (S0 L, R, I, J) Q := ih (k + 1) (by omega)
    have h0 : b.testBit k = false ∨ cldB k what = false → wpc 120 46 [vU, vU, vI (b : Int), vI x3, vI x4, vI (what : Int), vU, vI (k : Int), vU] [vI 0, vI (askY b what k : Int)] (0, 0) (S0 L, R, I, J) Q := by
      intro h
      refine b_M_askOf_46.mpr ?_
      rw [w32_s (by omega), w32_eq (by omega) (by omega)]
      rw [if_neg (by rcases h with h | h <;> rw [h] <;> simp)] at h3
      rw [Nat.add_zero] at h3
      rw [Int.add_zero]; exact h3
    refine b_M_askOf_24.mpr ?_
    rw [if_pos (by omega), k_isIn hb (by omega)]
    refine b_M_askOf_33.mpr ?_
    by_cases hbk : b.testBit k = true
    · rw [if_neg (fun h => bi_0.mp h hbk), k_could]
      refine b_M_askOf_39.mpr ?_
      by_cases hc : cldB k what = true
      · rw [if_neg (fun h => bi_0.mp h hc)]
        refine b_M_askOf_46.mpr ?_
        rw [w32_s (by omega), w32_eq (by omega) (by omega)]
        rw [if_pos (by rw [hbk, hc]; rfl)] at h3
        exact h3
      · rw [if_pos (bi_0.mpr hc)]
        exact h0 (Or.inr (Bool.eq_false_iff.mpr hc))
    · rw [if_pos (bi_0.mpr hbk)]
      exact h0 (Or.inl (Bool.eq_false_iff.mpr hbk))
theorem ak_out {b : Nat} (hb : b < 256) (hb0 : ¬ b = 0) (hQ : Q (some (vI (askL b 4).1)) (S0 L, R, I, J)) : ∀ d n : Nat, d + n = 4 → wpc 120 12 [vU, vU, vI (b : Int), vI (askL b n).1, vI (askL b n).2, vI (n : Int), vU, vU, vU] [] (0, 0) (S0 L, R, I, J) Q := by
  intro d
  induction d with
  | zero =>
    intro n hn
    refine b_M_askOf_12.mpr ?_
    rw [if_neg (by omega), show n = 4 by omega]
    exact hQ
  | succ d ih =>
    intro n hn
    have h3 := ih (n + 1) (by omega)
    have e : askL b (n + 1) = if askW b n < (askL b n).2 then ((n : Int), askW b n) else askL b n := rfl
    rw [e] at h3
    refine b_M_askOf_12.mpr ?_
    rw [if_pos (by omega), if_neg (by omega)]
    refine ak_in hb ?_ 5 0 rfl
    refine b_M_askOf_66.mpr ?_
    by_cases h : askW b n < (askL b n).2
    · rw [if_pos h]
      refine b_M_askOf_76.mpr ?_
      rw [if_pos h, w32_s (by omega)]
      rw [if_pos h] at h3; exact h3
    · rw [if_neg h]
      refine b_M_askOf_76.mpr ?_
      rw [if_neg h, w32_s (by omega)]
      rw [if_neg h] at h3; exact h3
theorem k_askOf {sn : SN} (hl : sn.length ≤ 6) (hS : SeM I sn) {i : Nat} (hQ : Q (some (vI (askF (sors sn i)))) (S0 L, R, I, J)) : wpC 120 [vR (some 243), vI (i : Int)] (S0 L, R, I, J) Q := by
  refine c_M_askOf.mpr ?_
  refine k_sortsOf hl hS ?_
  refine b_M_askOf_4.mpr ?_
  have hb : sors sn i < 256 := bset_lt8 (by decide) _
  generalize sors sn i = b at *
  unfold askF at hQ
  by_cases h0 : b = 0
  · rw [if_pos h0] at hQ
    refine b_M_askOf_12.mpr ?_
    rw [if_pos (by decide), if_pos (by omega)]
    exact hQ
  · rw [if_neg h0] at hQ
    exact ak_out hb h0 hQ 4 0 rfl
end MMo
