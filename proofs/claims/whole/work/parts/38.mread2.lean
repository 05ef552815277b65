-- ===== what a reading holds =====
def okIns (n : Nat) (x : INS) : Prop := x.1 < 5 ∧ x.2.1 < n ∧ wfN x.2.2.1 1 = true ∧ x.2.2.1.length ≤ 5 ∧ x.2.2.2.length ≤ 2 ∧ ∀ k, k < x.2.2.2.length → (x.2.2.2.getD k (0, 0)).1 < n ∧ (x.2.2.2.getD k (0, 0)).2 < 2 ∧ ((x.2.2.2.getD k (0, 0)).2 + 4) ∈ x.2.2.1
def pfx (h : List Nat) (k : Nat) : Prop := ∀ t, wfN t k = true → wfN (h ++ t) 1 = true
def ins0 : INS := (0, 0, [], [])
def okPS (s : PS) : Prop := s.1 ≤ 7 ∧ s.2.2.1.1.length ≤ 4 ∧ (∀ c, c < s.2.2.1.1.length → s.2.2.1.1.getD c 0 < 2 ^ c) ∧ s.2.2.2.1.length ≤ 5 ∧ (∀ i, i < s.2.2.2.1.length → okIns s.2.2.1.1.length (s.2.2.2.1.getD i (0, 0, [], []))) ∧
  (s.1 = 0 → s.2.2.1.1.length ≤ 3 ∧ s.2.2.2.1 = []) ∧ (s.1 = 1 ∨ s.1 = 2 → s.2.2.1.1.length ≤ 3 ∧ s.2.2.1.2 < 2 ^ s.2.2.1.1.length ∧ s.2.2.2.1 = []) ∧ (3 ≤ s.1 → 1 ≤ s.2.2.1.1.length) ∧
  (s.1 = 4 → s.2.2.2.2.1 < 5) ∧ (s.1 = 5 → s.2.2.2.2.1 < 5 ∧ s.2.2.2.2.2.1 < s.2.2.1.1.length ∧ pfx s.2.2.2.2.2.2.1 s.2.1.2 ∧ 1 ≤ s.2.1.2 ∧ s.2.2.2.2.2.2.1.length + s.2.1.2 ≤ 5) ∧
  (s.1 = 6 → okIns s.2.2.1.1.length s.2.2.2.2) ∧ (s.1 = 7 → okIns s.2.2.1.1.length s.2.2.2.2 ∧ s.2.1.1 < s.2.2.1.1.length ∧ s.2.2.2.2.2.2.2.length < 2)
theorem sg_r (c : Int) : sg c = -1 ∨ (0 ≤ sg c ∧ sg c < 6) := by
  unfold sg
  repeat' split
  all_goals omega
theorem kdF_r (c : Int) : kdF c = -1 ∨ (0 ≤ kdF c ∧ kdF c < 5) := by
  unfold kdF
  repeat' split
  all_goals omega
theorem ok_ps0 : okPS ps0 := by
  unfold okPS ps0
  simp
theorem stE_ok {s s' : PS} {c : Int} (h : okPS s) (h12 : s.1 = 1 ∨ s.1 = 2) (hs : stE s c = some s') : okPS s' := by
  obtain ⟨o1, o2, o3, o4, o5, o6, o7, o8, o9, o10, o11, o12⟩ := h
  obtain ⟨p1, p2, p3⟩ := o7 h12
  have hall : ∀ c, c < (s.2.2.1.1 ++ [s.2.2.1.2]).length → (s.2.2.1.1 ++ [s.2.2.1.2]).getD c 0 < 2 ^ c := by
    intro c hc
    rw [List.length_append, List.length_singleton] at hc
    rw [getD_app]
    by_cases h1 : c < s.2.2.1.1.length
    · rw [if_pos h1]; exact o3 c h1
    · rw [if_neg h1, if_pos (by omega), show c = s.2.2.1.1.length by omega]; exact p2
  unfold stE at hs
  split at hs
  · cases hs
    refine ⟨by show 3 ≤ 7; decide, ?_, hall, o4, ?_, fun h => absurd h (by show ¬ 3 = 0; decide), fun h => absurd h (by show ¬ (3 = 1 ∨ 3 = 2); decide), fun _ => ?_, fun h => absurd h (by show ¬ 3 = 4; decide), fun h => absurd h (by show ¬ 3 = 5; decide), fun h => absurd h (by show ¬ 3 = 6; decide), fun h => absurd h (by show ¬ 3 = 7; decide)⟩
    · show (s.2.2.1.1 ++ [s.2.2.1.2]).length ≤ 4
      rw [List.length_append, List.length_singleton]; omega
    · intro i hi
      exfalso
      have hi2 : i < s.2.2.2.1.length := hi
      rw [p3] at hi2
      exact absurd hi2 (by simp)
    · show 1 ≤ (s.2.2.1.1 ++ [s.2.2.1.2]).length
      rw [List.length_append, List.length_singleton]; omega
  · split at hs
    · rename_i hc
      cases hs
      refine ⟨by show 0 ≤ 7; decide, ?_, hall, o4, ?_, fun _ => ⟨?_, p3⟩, fun h => absurd h (by show ¬ (0 = 1 ∨ 0 = 2); decide), fun h => absurd h (by show ¬ 3 ≤ 0; decide), fun h => absurd h (by show ¬ 0 = 4; decide), fun h => absurd h (by show ¬ 0 = 5; decide), fun h => absurd h (by show ¬ 0 = 6; decide), fun h => absurd h (by show ¬ 0 = 7; decide)⟩
      · show (s.2.2.1.1 ++ [s.2.2.1.2]).length ≤ 4
        rw [List.length_append, List.length_singleton]; omega
      · intro i hi
        exfalso
        have hi2 : i < s.2.2.2.1.length := hi
        rw [p3] at hi2
        exact absurd hi2 (by simp)
      · show (s.2.2.1.1 ++ [s.2.2.1.2]).length ≤ 3
        rw [List.length_append, List.length_singleton]; omega
    · exact absurd hs (by simp)
theorem pfx_nil : pfx [] 1 := fun t h => h
theorem pfx_st {h : List Nat} {k s : Nat} (hp : pfx h (k + 1)) (hs : s < 6) : pfx (h ++ [s]) (k + pts s) := by
  intro t ht
  rw [List.append_assoc]
  exact hp (s :: t) (wf_cons.mpr ⟨hs, ht⟩)
theorem pfx_end {h : List Nat} (hp : pfx h 0) : wfN h 1 = true := by
  have := hp [] rfl
  rw [List.append_nil] at this
  exact this
theorem stp_ok {s s' : PS} {c : Int} (h : okPS s) (hs : stp s c = some s') : okPS s' := by
  obtain ⟨st, ⟨d, l⟩, ⟨rs, r⟩, xs, ⟨kd, ow, hd, cs⟩⟩ := s
  have h7 : st ≤ 7 := h.1
  have hst : st = 0 ∨ st = 1 ∨ st = 2 ∨ st = 3 ∨ st = 4 ∨ st = 5 ∨ st = 6 ∨ st = 7 := by omega
  have h0 := h
  obtain ⟨o1, o2, o3, o4, o5, o6, o7, o8, o9, o10, o11, o12⟩ := h
  simp only at o1 o2 o3 o4 o5 o6 o7 o8 o9 o10 o11 o12
  rcases hst with rfl | rfl | rfl | rfl | rfl | rfl | rfl | rfl
  · obtain ⟨p1, p2⟩ := o6 rfl
    have hs' : (if c = 45 then some ((2, (d, l), (rs, 0), xs, (kd, ow, hd, cs)) : PS) else if 48 ≤ c ∧ c - 48 < (rs.length : Int) then some (1, ((c - 48).toNat, l), (rs, 2 ^ (c - 48).toNat), xs, (kd, ow, hd, cs)) else none) = some s' := hs
    split at hs'
    · cases hs'
      exact ⟨by simp, o2, o3, o4, o5, by simp, fun _ => ⟨p1, Nat.two_pow_pos _, p2⟩, by simp, by simp, by simp, by simp, by simp⟩
    · split at hs'
      · rename_i hc
        cases hs'
        exact ⟨by simp, o2, o3, o4, o5, by simp, fun _ => ⟨p1, Nat.pow_lt_pow_right (by decide) (by show (c - 48).toNat < rs.length; omega), p2⟩, by simp, by simp, by simp, by simp, by simp⟩
      · exact absurd hs' (by simp)
  · obtain ⟨p1, p2, p3⟩ := o7 (Or.inl rfl)
    have hs' : (if (d : Int) < c - 48 ∧ c - 48 < (rs.length : Int) then some ((2, (d, l), (rs, r ||| 2 ^ (c - 48).toNat), xs, (kd, ow, hd, cs)) : PS) else stE (1, (d, l), (rs, r), xs, (kd, ow, hd, cs)) c) = some s' := hs
    split at hs'
    · rename_i hc
      cases hs'
      exact ⟨by simp, o2, o3, o4, o5, by simp, fun _ => ⟨p1, Nat.or_lt_two_pow p2 (Nat.pow_lt_pow_right (by decide) (by show (c - 48).toNat < rs.length; omega)), p3⟩, by simp, by simp, by simp, by simp, by simp⟩
    · exact stE_ok h0 (Or.inl rfl) hs'
  · exact stE_ok h0 (Or.inr rfl) hs
  · have hs' : (if kdF c = -1 then none else some ((4, (d, l), (rs, r), xs, ((kdF c).toNat, 0, [], [])) : PS)) = some s' := hs
    have hr := kdF_r c
    split at hs'
    · exact absurd hs' (by simp)
    · cases hs'
      exact ⟨by simp, o2, o3, o4, o5, by simp, by simp, fun _ => o8 (by decide), fun _ => by show (kdF c).toNat < 5; omega, by simp, by simp, by simp⟩
  · have hs' : (if 48 ≤ c ∧ c - 48 < (rs.length : Int) then some ((5, (d, 1), (rs, r), xs, (kd, (c - 48).toNat, [], [])) : PS) else none) = some s' := hs
    split at hs'
    · cases hs'
      exact ⟨by simp, o2, o3, o4, o5, by simp, by simp, fun _ => o8 (by decide), by simp, fun _ => ⟨o9 rfl, by show (c - 48).toNat < rs.length; omega, pfx_nil, by simp, by simp⟩, by simp, by simp⟩
    · exact absurd hs' (by simp)
  · obtain ⟨p1, p2, p3, p4, p5⟩ := o10 rfl
    have hr := sg_r c
    have hs' : (if sg c = -1 then none else if 5 < hd.length + l + pts (sg c).toNat then none else some (((if l + pts (sg c).toNat = 1 then 6 else 5), (d, l + pts (sg c).toNat - 1), (rs, r), xs, (kd, ow, hd ++ [(sg c).toNat], [])) : PS)) = some s' := hs
    split at hs'
    · exact absurd hs' (by simp)
    · split at hs'
      · exact absurd hs' (by simp)
      · rename_i g1 g2
        cases hs'
        have hp := pfx_st (h := hd) (k := l - 1) (s := (sg c).toNat) (by rw [show l - 1 + 1 = l by omega]; exact p3) (by omega)
        rw [show l - 1 + pts (sg c).toNat = l + pts (sg c).toNat - 1 by omega] at hp
        by_cases hl1 : l + pts (sg c).toNat = 1
        · rw [if_pos hl1]
          refine ⟨by simp, o2, o3, o4, o5, by simp, by simp, fun _ => o8 (by decide), by simp, by simp, fun _ => ⟨p1, p2, ?_, ?_, by simp, by simp⟩, by simp⟩
          · rw [show l + pts (sg c).toNat - 1 = 0 by omega] at hp
            exact pfx_end hp
          · show (hd ++ [(sg c).toNat]).length ≤ 5
            rw [List.length_append, List.length_singleton]; omega
        · rw [if_neg hl1]
          refine ⟨by simp, o2, o3, o4, o5, by simp, by simp, fun _ => o8 (by decide), by simp, fun _ => ⟨p1, p2, hp, ?_, ?_⟩, by simp, by simp⟩
          · show 1 ≤ l + pts (sg c).toNat - 1; omega
          · show (hd ++ [(sg c).toNat]).length + (l + pts (sg c).toNat - 1) ≤ 5
            rw [List.length_append, List.length_singleton]; omega
  · have hk := o11 rfl
    have hs' : (if 48 ≤ c ∧ c - 48 < (rs.length : Int) ∧ cs.length < 2 ∧ (4 ∈ hd ∨ 5 ∈ hd) then some ((7, ((c - 48).toNat, l), (rs, r), xs, (kd, ow, hd, cs)) : PS) else if c = 44 ∧ xs.length < 5 then some (3, (d, l), (rs, r), xs ++ [(kd, ow, hd, cs)], (0, 0, [], [])) else none) = some s' := hs
    split at hs'
    · rename_i hc
      cases hs'
      exact ⟨by simp, o2, o3, o4, o5, by simp, by simp, fun _ => o8 (by decide), by simp, by simp, by simp, fun _ => ⟨hk, by show (c - 48).toNat < rs.length; omega, hc.2.2.1⟩⟩
    · split at hs'
      · rename_i hc
        cases hs'
        refine ⟨by simp, o2, o3, ?_, ?_, by simp, by simp, fun _ => o8 (by decide), by simp, by simp, by simp, by simp⟩
        · show (xs ++ [(kd, ow, hd, cs)]).length ≤ 5
          rw [List.length_append, List.length_singleton]; omega
        · intro i hi
          have hi2 : i < (xs ++ [(kd, ow, hd, cs)]).length := hi
          rw [List.length_append, List.length_singleton] at hi2
          show okIns rs.length ((xs ++ [(kd, ow, hd, cs)]).getD i (0, 0, [], []))
          rw [getD_app]
          by_cases h1 : i < xs.length
          · rw [if_pos h1]; exact o5 i h1
          · rw [if_neg h1, if_pos (by omega)]; exact hk
      · exact absurd hs' (by simp)
  · obtain ⟨hk, hd1, hc2⟩ := o12 rfl
    have hr := sg_r c
    have hs' : (if 4 ≤ sg c ∧ (sg c).toNat ∈ hd then some ((6, (d, l), (rs, r), xs, (kd, ow, hd, cs ++ [(d, (sg c).toNat - 4)])) : PS) else none) = some s' := hs
    split at hs'
    · rename_i hc
      cases hs'
      obtain ⟨k1, k2, k3, k4, k5, k6⟩ := hk
      refine ⟨by simp, o2, o3, o4, o5, by simp, by simp, fun _ => o8 (by decide), by simp, by simp, fun _ => ⟨k1, k2, k3, k4, ?_, ?_⟩, by simp⟩
      · show (cs ++ [(d, (sg c).toNat - 4)]).length ≤ 2
        rw [List.length_append, List.length_singleton]
        have : cs.length < 2 := hc2
        omega
      · intro k hkk
        have hkk2 : k < (cs ++ [(d, (sg c).toNat - 4)]).length := hkk
        rw [List.length_append, List.length_singleton] at hkk2
        show ((cs ++ [(d, (sg c).toNat - 4)]).getD k (0, 0)).1 < rs.length ∧ ((cs ++ [(d, (sg c).toNat - 4)]).getD k (0, 0)).2 < 2 ∧ (((cs ++ [(d, (sg c).toNat - 4)]).getD k (0, 0)).2 + 4) ∈ hd
        rw [getD_app]
        by_cases h1 : k < cs.length
        · rw [if_pos h1]; exact k6 k h1
        · rw [if_neg h1, if_pos (by omega)]
          refine ⟨hd1, by show (sg c).toNat - 4 < 2; omega, ?_⟩
          show (sg c).toNat - 4 + 4 ∈ hd
          rw [show (sg c).toNat - 4 + 4 = (sg c).toNat by omega]
          exact hc.2
    · exact absurd hs' (by simp)
theorem run_ok : ∀ (l : List Int) (s : PS), okPS s → okPS (runP s l).2 := by
  intro l
  induction l with
  | nil => intro s h; exact h
  | cons c l ih =>
    intro s h
    unfold runP
    cases hs : stp s c with
    | none => exact h
    | some s' => exact ih s' (stp_ok h hs)
theorem rdP_ok (pg : List Int) : okPS (rdP pg).2 := run_ok pg ps0 ok_ps0
