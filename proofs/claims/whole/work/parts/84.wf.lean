-- ===== every call keeps the state well formed =====
theorem wf_setP {s : ST} (hw : wfS s) {pg : List Int} (hp : wfP pg) : wfS (setP s pg) := ⟨hp, hw.2⟩
theorem wf_nil : wfP [] := ⟨Nat.zero_le _, fun k hk => absurd hk (by simp)⟩
theorem wf_letter {s : ST} (hw : wfS s) (c : Int) : wfS (q_letter s c).2 := by
  unfold q_letter
  by_cases h1 : 32 ≤ c ∧ c ≤ 126
  · rw [if_neg (not_not_intro h1)]
    by_cases h2 : (sP s).length = 84
    · rw [if_pos h2]; exact hw
    · rw [if_neg h2]
      have h84 := hw.1.1
      refine wf_setP hw ⟨by rw [List.length_append, List.length_singleton]; omega, fun k hk => ?_⟩
      rw [List.length_append, List.length_singleton] at hk
      rw [getD_app]
      by_cases hkl : k < (sP s).length
      · rw [if_pos hkl]; exact hw.1.2 k hkl
      · rw [if_neg hkl, if_pos (by omega)]; exact h1
  · rw [if_pos h1]; exact hw
theorem wf_blank {s : ST} (hw : wfS s) : wfS (q_blank s).2 := wf_setP hw wf_nil
theorem wf_book2 {s : ST} (hw : wfS s) (hb : sB s + 1 < 100000) : wfS (q_book s).2 := by
  unfold q_book
  by_cases h : whlB (sP s) = true
  · rw [if_pos h]; exact wf_book hw h hb
  · rw [if_neg h]; exact hw
theorem wf_type {s : ST} (hw : wfS s) (k : Int) : wfS (q_type s k).2 := by
  unfold q_type
  by_cases h1 : 0 ≤ k ∧ k ≤ 3
  · rw [if_neg (not_not_intro h1)]
    by_cases h2 : sB s = 0
    · rw [if_pos h2]; exact hw
    · rw [if_neg h2]
      by_cases h3 : tyL (sP s) 1 = true
      · rw [if_neg (not_not_intro h3)]
        by_cases h4 : 9 < (sP s).length
        · rw [if_pos h4]; exact hw
        · rw [if_neg h4]
          obtain ⟨w1, w2, w3, w4, w5, w6, w7, w8, w9⟩ := hw
          refine ⟨wf_nil, w2, w3, w4, fun j hj => ?_, w6, w7, w8, w9⟩
          show (if j = k.toNat then toW (sP s) else sL s j) = [] ∨ (wfN (if j = k.toNat then toW (sP s) else sL s j) 1 = true ∧ (if j = k.toNat then toW (sP s) else sL s j).length ≤ 9)
          by_cases hj2 : j = k.toNat
          · rw [if_pos hj2]
            exact Or.inr ⟨(ty_wf (sP s) 1 h3).1, by unfold toW; rw [List.length_map]; omega⟩
          · rw [if_neg hj2]; exact w5 j hj
      · rw [if_pos h3]; exact hw
  · rw [if_pos h1]; exact hw
theorem wfE_setK {E : EN} {nC : Nat} {kd : Nat → Nat} (hE : wfE E nC) (hk : ∀ i, i < eN E → kd i < 5) : wfE (setK E kd) nC := ⟨hE.1, fun i hi => ⟨hk i hi, (hE.2 i hi).2⟩⟩
theorem wf_change {s : ST} (hw : wfS s) (i k : Int) : wfS (q_change s i k).2 := by
  unfold q_change
  by_cases h1 : 0 ≤ i ∧ i < (eN (sE s) : Int)
  · rw [if_neg (not_not_intro h1)]
    by_cases h2 : 0 ≤ k ∧ k ≤ 4
    · rw [if_neg (not_not_intro h2)]
      obtain ⟨w1, w2, w3, w4, w5, w6, w7, w8, w9⟩ := hw
      refine ⟨w1, w2, w3, wfE_setK w4 (fun j hj => ?_), w5, w6, w7, w8, w9⟩
      show (if j = i.toNat then k.toNat else eK (sE s) j) < 5
      by_cases hj2 : j = i.toNat
      · rw [if_pos hj2]; omega
      · rw [if_neg hj2]; exact (w4.2 j hj).1
    · rw [if_pos h2]; exact hw
  · rw [if_pos h1]; exact hw
theorem wf_setN {s : ST} (hw : wfS s) {sn : SN} (h : okSn sn) : wfS (setN s sn) := by
  obtain ⟨w1, w2, w3, w4, w5, w6, w7, w8, w9⟩ := hw
  exact ⟨w1, w2, w3, w4, w5, h, w7, w8, w9⟩
theorem wf_see {s : ST} (hw : wfS s) (i w z : Int) : wfS (q_see s i w z).2 := by
  unfold q_see
  by_cases h1 : 0 ≤ i ∧ i < (eN (sE s) : Int)
  · rw [if_neg (not_not_intro h1)]
    by_cases h2 : 0 ≤ w ∧ w ≤ 3
    · rw [if_neg (not_not_intro h2)]
      by_cases h3 : (sN s).length = 6
      · rw [if_pos h3]; exact hw
      · rw [if_neg h3]
        have h6 := hw.2.2.2.2.2.1
        have h66 := h6.1
        refine wf_setN hw ⟨by rw [List.length_append, List.length_singleton]; omega, fun k hk => ?_⟩
        rw [List.length_append, List.length_singleton] at hk
        rw [getD_app]
        by_cases hkl : k < (sN s).length
        · rw [if_pos hkl]; exact h6.2 k hkl
        · rw [if_neg hkl, if_pos (by omega)]; show w.toNat < 4; omega
    · rw [if_pos h2]; exact hw
  · rw [if_pos h1]; exact hw
theorem wf_forget {s : ST} (hw : wfS s) : wfS (q_forget s).2 := wf_setN hw ⟨Nat.zero_le _, fun k hk => absurd hk (by simp)⟩
theorem wf_image {s : ST} (hw : wfS s) : wfS (q_image s).2 := by
  unfold q_image
  by_cases h : sB s = 0
  · rw [if_pos h]; exact hw
  · rw [if_neg h]
    obtain ⟨w1, w2, w3, w4, w5, w6, w7, w8, w9⟩ := hw
    exact ⟨w1, w2, w3, w4, w5, w6, w7, w8, fun i hi => (w4.2 i hi).1, w5, w6⟩
theorem wf_restore {s : ST} (hw : wfS s) : wfS (q_restore s).2 := by
  unfold q_restore
  have hi := hw.2.2.2.2.2.2.2.2
  cases hm : sI s with
  | none => exact hw
  | some m =>
    rw [hm] at hi
    obtain ⟨w1, w2, w3, w4, w5, w6, w7, w8, w9⟩ := hw
    refine ⟨w1, w2, w3, wfE_setK w4 hi.1, hi.2.1, hi.2.2, w7, w8, ?_⟩
    show (match sI s with
      | none => True
      | some m => (∀ i, i < eN (sE s) → m.1 i < 5) ∧ okSl m.2.1 ∧ okSn m.2.2)
    rw [hm]; exact hi
/-- books read -/
theorem sB_all {s : ST} : (∀ c, sB (q_letter s c).2 = sB s) ∧ sB (q_blank s).2 = sB s ∧ sB (q_book s).2 ≤ sB s + 1 ∧ (∀ k, sB (q_type s k).2 = sB s) ∧ (∀ i k, sB (q_change s i k).2 = sB s) ∧ (∀ i w z, sB (q_see s i w z).2 = sB s) ∧ sB (q_forget s).2 = sB s ∧ sB (q_image s).2 = sB s ∧ sB (q_restore s).2 = sB s := by
  refine ⟨fun c => ?_, rfl, ?_, fun k => ?_, fun i k => ?_, fun i w z => ?_, rfl, ?_, ?_⟩
  · unfold q_letter; split
    · rfl
    · split <;> rfl
  · unfold q_book; split
    · exact Nat.le_refl _
    · exact Nat.le_succ _
  · unfold q_type; split
    · rfl
    · split
      · rfl
      · split
        · rfl
        · split <;> rfl
  · unfold q_change; split
    · rfl
    · split <;> rfl
  · unfold q_see; split
    · rfl
    · split
      · rfl
      · split <;> rfl
  · unfold q_image; split <;> rfl
  · unfold q_restore; split <;> rfl
-- ===== each side's state under what the other one does =====
theorem MSt.hi {I I' : Nat → Int → Int} {s : ST} (h : MSt I s) (f : ∀ a, 243 ≤ a → I' a = I a) : MSt I' s := by
  obtain ⟨h1, h2, h3, h4, h5, h6, h7, h8⟩ := h
  refine ⟨⟨by rw [f 243 (by omega)]; exact h1.1, fun k hk => by rw [f 259 (by omega)]; exact h1.2 k hk⟩, by rw [f 243 (by omega)]; exact h2, h3.fr (by rw [f 243 (by omega)]) (f 244 (by omega)) (f 245 (by omega)), h4.fr (by rw [f 243 (by omega)]) (fun a p1 p2 => f a (by omega)), h5.fr (f 253 (by omega)), fun k hk => ?_, ?_, ?_⟩
  · have := h6 k hk
    unfold SlW at *
    rw [f 254 (by omega), f 255 (by omega)]; exact this
  · unfold SeM at *
    rw [f 243 (by omega), f 256 (by omega), f 257 (by omega), f 258 (by omega)]; exact h7
  · unfold ImM at *
    rw [f 243 (by omega), f 283 (by omega), f 284 (by omega), f 285 (by omega), f 286 (by omega), f 287 (by omega), f 288 (by omega)]
    exact h8
theorem CSt.lo {R : Nat → Int → Option Nat} {I I' : Nat → Int → Int} {s : ST} (h : CSt R I s) (hw : wfS s) (f : ∀ a, a < 243 → I' a = I a) : CSt R I' s := by
  obtain ⟨b, d, hb, hC⟩ := h
  obtain ⟨r1, r2, r3, r4, r5⟩ := hb.r
  exact ⟨b, d, hb, hC.fr hw rfl (fun a ha => f a (by omega))⟩
def st0 : ST := ([], 0, (0, fun _ => 0, fun _ => 0), (0, fun _ => 0, fun _ => 0, fun _ => [], fun _ => []), fun _ => [], [], none)
theorem wf_st0 : wfS st0 := ⟨wf_nil, by decide, ⟨by decide, fun c hc => absurd hc (Nat.not_lt_zero c)⟩, ⟨by decide, fun i hi => absurd hi (Nat.not_lt_zero i)⟩, fun k _ => Or.inl rfl, ⟨by decide, fun k hk => absurd hk (Nat.not_lt_zero k)⟩, fun h => absurd rfl h, fun _ => ⟨rfl, rfl⟩, trivial⟩
theorem CSt_st0 {R : Nat → Int → Option Nat} {I : Nat → Int → Int} (h2 : R 3 2 = some 5) (h3 : R 3 3 = some 55) (hz : ∀ a, 3 ≤ a → ∀ i : Int, I a i = 0) (hT : StI I) : CSt R I st0 := by
  refine ⟨5, 55, Or.inl ⟨rfl, rfl⟩, h2, h3, ⟨hz 5 (by omega) 0, fun c hc => absurd hc (Nat.not_lt_zero c), hz 5 (by omega) 4, hz 5 (by omega) 6, fun i hi => absurd hi (Nat.not_lt_zero i)⟩, ⟨hz 3 (by omega) 1, fun k hk => absurd hk (Nat.not_lt_zero k)⟩, hz 3 (by omega) 4, ⟨fun i hi => absurd hi (Nat.not_lt_zero i), fun k hk => ⟨⟨hz _ (by omega) 3, fun p hp => absurd hp (Nat.not_lt_zero p)⟩, fun p hp => absurd hp (Nat.not_lt_zero p)⟩, hz 114 (by omega) 2, fun k hk => absurd hk (Nat.not_lt_zero k)⟩, hz 3 (by omega) 9, hT⟩
theorem MSt_st0 {I : Nat → Int → Int} (hz : ∀ a, 3 ≤ a → ∀ i : Int, I a i = 0) : MSt I st0 := by
  refine ⟨⟨hz 243 (by omega) 19, fun k hk => absurd hk (Nat.not_lt_zero k)⟩, hz 243 (by omega) 0, ⟨hz 243 (by omega) 1, fun c hc => absurd hc (Nat.not_lt_zero c)⟩, ⟨hz 243 (by omega) 4, fun i hi => absurd hi (Nat.not_lt_zero i)⟩, fun i e hi => absurd hi (Nat.not_lt_zero i), fun k hk => ⟨hz 255 (by omega) _, fun p hp => absurd hp (Nat.not_lt_zero p)⟩, ⟨hz 243 (by omega) 15, fun k hk => absurd hk (Nat.not_lt_zero k)⟩, Or.inl (hz 243 (by omega) 53), fun q => ?_⟩
  have h1 := q.1
  rw [hz 243 (by omega) 53] at h1
  exact absurd h1 (by decide)
