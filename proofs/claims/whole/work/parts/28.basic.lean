-- ===== words for answers =====
def bi (c : Prop) [Decidable c] : Int := if c then 1 else 0
theorem bi_0 {c : Prop} [Decidable c] : bi c = 0 ↔ ¬ c := by unfold bi; split <;> simp_all
theorem bi_1 {c : Prop} [Decidable c] : bi c = 1 ↔ c := by unfold bi; split <;> simp_all
theorem bi_t {c : Prop} [Decidable c] (h : c) : bi c = 1 := if_pos h
theorem bi_f {c : Prop} [Decidable c] (h : ¬ c) : bi c = 0 := if_neg h
theorem bi_01 {c : Prop} [Decidable c] : bi c = 0 ∨ bi c = 1 := by unfold bi; split <;> simp
theorem bi_r {c : Prop} [Decidable c] : 0 ≤ bi c ∧ bi c ≤ 1 := by unfold bi; split <;> omega
theorem bi_cong {c d : Prop} [Decidable c] [Decidable d] (h : c ↔ d) : bi c = bi d := by
  by_cases hd : d
  · rw [bi_t (h.mpr hd), bi_t hd]
  · rw [bi_f (fun q => hd (h.mp q)), bi_f hd]
section MB
variable {L : Nat} {R : Nat → Int → Option Nat} {I : Nat → Int → Int} {J : Nat → Int → Int64} {Q : Option MV → MM → Prop}
theorem k_within (v lo hi : Int) : wpC 43 [vI v, vI lo, vI hi] (S0 L, R, I, J) Q ↔ Q (some (vI (bi (lo ≤ v ∧ v ≤ hi)))) (S0 L, R, I, J) := by
  rw [c_M_within]
  by_cases h1 : v < lo
  · rw [if_pos h1, bi_f (by omega)]
  · rw [if_neg h1]
    by_cases h2 : v ≤ hi
    · rw [if_pos h2, bi_t (by omega)]
    · rw [if_neg h2, bi_f (by omega)]
theorem k_isInstance (i : Int) (h : 0 ≤ I 243 4 ∧ I 243 4 ≤ 6) : wpC 86 [vR (some 243), vI i] (S0 L, R, I, J) Q ↔ Q (some (vI (bi (0 ≤ i ∧ i < I 243 4)))) (S0 L, R, I, J) := by
  rw [c_M_isInstance, k_within, w32_eq (by omega) (by omega)]
  simp only [Option.toList_some, List.cons_append, List.nil_append]
  rw [b_M_isInstance_8]
  rw [bi_cong (show (0 ≤ i ∧ i ≤ I 243 4 - 1) ↔ (0 ≤ i ∧ i < I 243 4) by omega)]
  simp only [bi_01, true_and]
end MB
