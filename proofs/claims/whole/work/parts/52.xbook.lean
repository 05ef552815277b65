-- ===== the class: a settled book is asked =====
theorem b_numEnd {L : Nat} {R : Nat → Int → Option Nat} {I : Nat → Int → Int} {J : Nat → Int → Int64} {Q : Option MV → MM → Prop} {x3 x4 : Int} {a5 : Option Nat} : wpc 176 54 [vU, vU, vU, vI x3, vI x4, vR a5, vU] [] (0, 0) (S0 L, R, I, J) Q ↔ if a5 = none then Q (some (vI (-101))) (S0 L, R, I, J) else wpc 176 7 [vU, vU, vR a5, vI x3, vI (w32 (x4 + 1)), vU, vU] [] (0, 0) (S0 L, R, I, J) Q := Iff.trans (w_st (j' := 56) (ls' := [vU, vU, vU, vI x3, vI x4, vR a5, vU]) (st' := [vR a5]) 2 rfl) <| Iff.trans (w_ifnonnull rfl) <| w_ite (fun _ => Iff.trans (w_st (j' := 59) (ls' := [vU, vU, vU, vU, vU, vU, vU]) (st' := [vI (-101)]) 2 rfl) <| (w_iret rfl)) (fun _ => Iff.trans (w_st (j' := 7) (ls' := [vU, vU, vR a5, vI x3, vI (w32 (x4 + 1)), vU, vU]) (st' := []) 6 rfl) <| Iff.rfl)
section XBk
variable {L : Nat} {R : Nat → Int → Option Nat} {I : Nat → Int → Int} {J : Nat → Int → Int64} {Q : Option MV → MM → Prop} {E : EN} {nC : Nat} {rt ab : Nat → Nat}
/-- the end of the search for a part: none is left, or one is found -/
theorem b_num20 {a2 : Nat} {x3 x4 x6 : Int} {a5 : Option Nat} (ha2 : isGo a2) (h : ¬ x6 < I a2 7 ∨ ¬ a5 = none) : wpc 176 20 [vU, vU, vR (some a2), vI x3, vI x4, vR a5, vI x6] [] (0, 0) (S0 L, R, I, J) Q ↔ if a5 = none then Q (some (vI (-101))) (S0 L, R, I, J) else wpc 176 7 [vU, vU, vR a5, vI x3, vI (w32 (x4 + 1)), vU, vU] [] (0, 0) (S0 L, R, I, J) Q := by
  refine Iff.trans (w_st (j' := 22) (ls' := [vU, vU, vR (some a2), vI x3, vI x4, vR a5, vI x6]) (st' := [vR (some a2), vI x6]) 2 rfl) <| Iff.trans (w_gI rfl (Or.inl rfl) (kd_Go ha2)) <| Iff.trans (w_st (j' := 23) (ls' := [vU, vU, vR (some a2), vI x3, vI x4, vR a5, vI x6]) (st' := [vI (I a2 7), vI x6]) 0 rfl) <| Iff.trans (w_cge rfl) ?_
  by_cases h6 : x6 < I a2 7
  · rw [if_pos h6]
    have h5 : ¬ a5 = none := by
      rcases h with h | h
      · exact absurd h6 h
      · exact h
    refine Iff.trans (w_st (j' := 26) (ls' := [vU, vU, vR (some a2), vI x3, vI x4, vR a5, vI x6]) (st' := [vR a5]) 2 rfl) <| Iff.trans (w_ifnonnull rfl) ?_
    rw [if_neg h5]
    refine Iff.trans (w_st (j' := 56) (ls' := [vU, vU, vU, vI x3, vI x4, vR a5, vU]) (st' := [vR a5]) 2 rfl) <| Iff.trans (w_ifnonnull rfl) <| w_ite (fun _ => Iff.trans (w_st (j' := 59) (ls' := [vU, vU, vU, vU, vU, vU, vU]) (st' := [vI (-101)]) 2 rfl) <| (w_iret rfl)) (fun _ => Iff.trans (w_st (j' := 7) (ls' := [vU, vU, vR a5, vI x3, vI (w32 (x4 + 1)), vU, vU]) (st' := []) 6 rfl) <| Iff.rfl)
  · rw [if_neg h6]
    refine Iff.trans (w_st (j' := 56) (ls' := [vU, vU, vU, vI x3, vI x4, vR a5, vU]) (st' := [vR a5]) 2 rfl) <| Iff.trans (w_ifnonnull rfl) <| w_ite (fun _ => Iff.trans (w_st (j' := 59) (ls' := [vU, vU, vU, vU, vU, vU, vU]) (st' := [vI (-101)]) 2 rfl) <| (w_iret rfl)) (fun _ => Iff.trans (w_st (j' := 7) (ls' := [vU, vU, vR a5, vI x3, vI (w32 (x4 + 1)), vU, vU]) (st' := []) 6 rfl) <| Iff.rfl)
theorem x_bitCount {n : Nat} (hn : n < 256) : wpC 221 [vI (n : Int)] (S0 L, R, I, J) Q ↔ Q (some (vI (pcn 16 n : Int))) (S0 L, R, I, J) := by
  refine c_Integer_bitCount.trans ?_
  refine iff_of_eq (congrArg (fun z => Q (some (vI z)) (S0 L, R, I, J)) ?_)
  revert hn
  revert n
  decide +kernel
theorem x_max (x y : Int) : wpC 223 [vI x, vI y] (S0 L, R, I, J) Q ↔ Q (some (vI (if x < y then y else x))) (S0 L, R, I, J) := by
  rw [c_Math_max]
  split <;> exact Iff.rfl
end XBk
