-- ===== the reference reads conditions, instances, a book =====
def CsM (I : Nat → Int → Int) (pg : List Int) (i : Nat) (cs : List (Nat × Nat)) : Prop := I 265 (i : Int) = (cs.length : Int) ∧ ∀ k, k < cs.length → ∃ cp : Nat, I 266 ((2 * i + k : Nat) : Int) = (cp : Int) ∧ cp + 1 < pg.length ∧ pg.getD cp 0 = 48 + ((cs.getD k (0, 0)).1 : Int) ∧ pg.getD (cp + 1) 0 = 120 + ((cs.getD k (0, 0)).2 : Int)
def frC (i : Nat) (I I' : Nat → Int → Int) : Prop := (∀ a, a ≠ 243 → a ≠ 265 → a ≠ 266 → I' a = I a) ∧ (∀ j : Int, j ≠ 22 → I' 243 j = I 243 j) ∧ (∀ j : Int, j ≠ (i : Int) → I' 265 j = I 265 j) ∧ ∀ j : Int, j < ((2 * i : Nat) : Int) → I' 266 j = I 266 j
theorem frC.tr {i : Nat} {I I' I2 : Nat → Int → Int} (h : frC i I I') (h2 : frC i I' I2) : frC i I I2 := ⟨fun a p1 p2 p3 => by rw [h2.1 a p1 p2 p3, h.1 a p1 p2 p3], fun j hj => by rw [h2.2.1 j hj, h.2.1 j hj], fun j hj => by rw [h2.2.2.1 j hj, h.2.2.1 j hj], fun j hj => by rw [h2.2.2.2 j hj, h.2.2.2 j hj]⟩
theorem frC.fr {i : Nat} {I I' : Nat → Int → Int} (h : frC i I I') : frR I I' := ⟨fun a ha => h.1 a (by omega) (by omega) (by omega), fun j _ p2 _ _ => h.2.1 j p2⟩
section MRg
variable {L : Nat} {R : Nat → Int → Option Nat} {I : Nat → Int → Int} {J : Nat → Int → Int64} {Q : Option MV → MM → Prop} {pg : List Int}
theorem NhM.fr {I' : Nat → Int → Int} {i : Nat} {h : List Nat} (hN : NhM I pg i h) (h1 : I' 263 = I 263) (h2 : I' 264 = I 264) : NhM I' pg i h := by
  unfold NhM at *
  rw [h1, h2]; exact hN
theorem k_kindBy (c : Int) : wpC 50 [vI c] (S0 L, R, I, J) Q ↔ Q (some (vI (kdF c))) (S0 L, R, I, J) := by
  rw [c_M_kindBy]
  unfold kdF
  repeat' split
  all_goals exact Iff.rfl
/-- conditions are read: broken; or as far as they go -/
def rdcQ (L : Nat) (R : Nat → Int → Option Nat) (J : Nat → Int → Int64) (I : Nat → Int → Int) (pg : List Int) (i : Nat) (rs : List Nat) (r : Nat) (xs : List INS) (kd ow : Nat) (h : List Nat) (Q : Option MV → MM → Prop) : Prop := ∀ (I' : Nat → Int → Int) (k : Nat), frC i I I' →
  ((I' 243 22 = 1 ∧ (rdP pg).1 = k ∧ whlB pg = false) ∨ (I' 243 22 = 0 ∧ ∃ (cs : List (Nat × Nat)) (d l : Nat), CsM I' pg i cs ∧ AtS pg k (6, (d, l), (rs, r), xs, (kd, ow, h, cs)) ∧ okPS (6, (d, l), (rs, r), xs, (kd, ow, h, cs)) ∧ ¬ (48 ≤ pg.getD k 0 ∧ pg.getD k 0 - 48 < (rs.length : Int) ∧ cs.length < 2 ∧ (4 ∈ h ∨ 5 ∈ h)))) → Q (some (vI (k : Int))) (S0 L, R, I', J)
theorem rdc_loop (hw : wfP pg) {i kd ow : Nat} {rs : List Nat} {r : Nat} {xs : List INS} {h : List Nat} (hi : i < 6) : ∀ (n : Nat) {I : Nat → Int → Int} (k d l : Nat) (cs : List (Nat × Nat)), cs.length + n = 2 → PgM I pg → I 243 22 = 0 → I 243 23 = (rs.length : Int) → NhM I pg i h → CsM I pg i cs → AtS pg k (6, (d, l), (rs, r), xs, (kd, ow, h, cs)) → okPS (6, (d, l), (rs, r), xs, (kd, ow, h, cs)) → rdcQ L R J I pg i rs r xs kd ow h Q → wpc 58 28 [vR (some 243), vU, vI (i : Int), vI (k : Int), vI (bi (4 ∈ h ∨ 5 ∈ h))] [] (0, 0) (S0 L, R, I, J) Q := by
  have h84 := hw.1
  have rfC : ∀ I0 : Nat → Int → Int, frC i I0 I0 := fun I0 => ⟨fun _ _ _ _ => rfl, fun _ _ => rfl, fun _ _ => rfl, fun _ _ => rfl⟩
  intro n
  induction n with
  | zero =>
    intro I k d l cs hn hP hb hc hN hC hA ho hQ
    refine b_M_readConditions_28.mpr ⟨⟨by omega, by omega⟩, ?_⟩
    rw [hC.1, if_neg (by omega)]
    exact hQ I k (rfC I) (Or.inr ⟨hb, cs, d, l, hC, hA, ho, fun q => by omega⟩)
  | succ n ih =>
    intro I k d l cs hn hP hb hc hN hC hA ho hQ
    have hkl := hA.1
    have hok := ho.2.2.2.2.2.2.2.2.2.2.1 rfl
    have hhw : wfN h 1 = true := hok.2.2.1
    have hrs4 : rs.length ≤ 4 := ho.2.1
    have pr := pg_r hw k
    have pr1 := pg_r hw (k + 1)
    refine b_M_readConditions_28.mpr ⟨⟨by omega, by omega⟩, ?_⟩
    rw [hC.1, if_pos (by omega)]
    by_cases hv : 4 ∈ h ∨ 5 ∈ h
    · rw [if_neg (fun q => bi_0.mp q hv), k_figure hw hP]
      refine b_M_readConditions_42.mpr ?_
      rw [k_within]
      refine b_M_readConditions_46.mpr ?_
      by_cases h9 : 0 ≤ pg.getD k 0 - 48 ∧ pg.getD k 0 - 48 ≤ 9
      · have hk := pg_in (k := k) (pg := pg) (by omega)
        rw [if_neg (fun q => bi_0.mp q h9), k_figure hw hP]
        refine b_M_readConditions_52.mpr ?_
        rw [hc]
        have hst : stp (6, (d, l), (rs, r), xs, (kd, ow, h, cs)) (pg.getD k 0) = (if 48 ≤ pg.getD k 0 ∧ pg.getD k 0 - 48 < (rs.length : Int) ∧ cs.length < 2 ∧ (4 ∈ h ∨ 5 ∈ h) then some (7, ((pg.getD k 0 - 48).toNat, l), (rs, r), xs, (kd, ow, h, cs)) else if pg.getD k 0 = 44 ∧ xs.length < 5 then some (3, (d, l), (rs, r), xs ++ [(kd, ow, h, cs)], (0, 0, [], [])) else none) := rfl
        by_cases hcl : pg.getD k 0 - 48 < (rs.length : Int)
        · rw [if_pos ⟨by omega, hcl, by omega, hv⟩] at hst
          obtain ⟨hA2, ho2⟩ := at_ok ho hA hk hst
          rw [if_pos hcl, w32_s (by omega), k_at hw hP]
          refine b_M_readConditions_68.mpr ?_
          rw [k_isVariable]
          refine b_M_readConditions_70.mpr ?_
          have hst2 : ∀ c : Int, stp (7, ((pg.getD k 0 - 48).toNat, l), (rs, r), xs, (kd, ow, h, cs)) c = (if 4 ≤ sg c ∧ (sg c).toNat ∈ h then some (6, ((pg.getD k 0 - 48).toNat, l), (rs, r), xs, (kd, ow, h, cs ++ [((pg.getD k 0 - 48).toNat, (sg c).toNat - 4)])) else none) := fun c => rfl
          have hbrk : ¬ (4 ≤ sg (pg.getD (k + 1) 0) ∧ (sg (pg.getD (k + 1) 0)).toNat ∈ h) → wpc 58 84 [vR (some 243), vU, vU, vI (k : Int), vU] [] (0, 0) (S0 L, R, I, J) Q := by
            intro hno
            have hrd := hA2.no (fun _ => by rw [hst2, if_neg hno])
            refine b_M_readConditions_84.mpr ?_
            rw [w32_s (by omega)]
            refine c_M_broken.mpr ?_
            refine b_M_readConditions_90.mpr ?_
            exact hQ _ (k + 1) ⟨fun a p1 _ _ => upM_ne p1, fun j hj => upM_i hj, fun j _ => by rw [upM_ne (by decide)], fun j _ => by rw [upM_ne (by decide)]⟩ (Or.inl ⟨upM_same, by rw [hrd], whl_no hrd (Or.inl (by show ¬ 7 = 6; decide))⟩)
          by_cases hvar : pg.getD (k + 1) 0 = 120 ∨ pg.getD (k + 1) 0 = 121
          · have hsv : ∃ s : Nat, (s = 4 ∨ s = 5) ∧ pg.getD (k + 1) 0 = cd s ∧ sg (pg.getD (k + 1) 0) = (s : Int) := by
              rcases hvar with h1 | h1
              · exact ⟨4, Or.inl rfl, by rw [h1]; rfl, by rw [h1]; rfl⟩
              · exact ⟨5, Or.inr rfl, by rw [h1]; rfl, by rw [h1]; rfl⟩
            obtain ⟨s, hs45, hcs, hsg⟩ := hsv
            rw [if_neg (fun q => bi_0.mp q hvar), w32_s (by omega), k_at hw hP]
            refine b_M_readConditions_80.mpr ?_
            rw [hcs]
            refine k_isInHead hw hP hi hhw (by omega) hN ?_
            refine b_M_readConditions_82.mpr ?_
            by_cases hin : s ∈ h
            · rw [if_neg (fun q => bi_0.mp q hin), hC.1]
              have e1 : w32 (w32 (2 * (i : Int)) + (cs.length : Int)) = ((2 * i + cs.length : Nat) : Int) := by
                rw [w32_eq (z := 2 * (i : Int)) (by omega) (by omega), w32_eq (by omega) (by omega)]; omega
              rw [e1, upM_ne (b := 265) (by decide), hC.1, w32_s (by omega)]
              refine ⟨⟨by omega, by omega⟩, ⟨by omega, by omega⟩, ⟨by omega, by omega⟩, ⟨by omega, by omega⟩, ?_⟩
              have hk2 := pg_in (k := k + 1) (pg := pg) (by omega)
              have hcond : 4 ≤ sg (pg.getD (k + 1) 0) ∧ (sg (pg.getD (k + 1) 0)).toNat ∈ h := by
                rw [hsg]; exact ⟨by omega, by rw [Int.toNat_natCast]; exact hin⟩
              obtain ⟨hA3, ho3⟩ := at_ok ho2 hA2 hk2 (by rw [hst2, if_pos hcond])
              rw [hsg, Int.toNat_natCast] at hA3 ho3
              have e2 : w32 ((k : Int) + 2) = ((k + 1 + 1 : Nat) : Int) := by rw [w32_eq (by omega) (by omega)]; omega
              rw [e2]
              have f1 : frC i I (upM (upM I 266 ((2 * i + cs.length : Nat) : Int) (k : Int)) 265 (i : Int) ((cs.length + 1 : Nat) : Int)) := ⟨fun a p1 p2 p3 => by rw [upM_ne p2, upM_ne p3], fun j _ => by rw [upM_ne (by decide), upM_ne (by decide)], fun j hj => by rw [upM_i hj, upM_ne (by decide)], fun j hj => by rw [upM_ne (by decide), upM_i (by omega)]⟩
              refine ih (k + 1 + 1) _ l (cs ++ [((pg.getD k 0 - 48).toNat, s - 4)]) (by rw [List.length_append, List.length_singleton]; omega) (hP.fr f1.fr) (by rw [upM_ne (by decide), upM_ne (by decide)]; exact hb) (by rw [upM_ne (by decide), upM_ne (by decide)]; exact hc) (hN.fr (f1.1 263 (by decide) (by decide) (by decide)) (f1.1 264 (by decide) (by decide) (by decide))) ⟨by rw [upM_same, List.length_append, List.length_singleton], fun j hj => ?_⟩ hA3 ho3 (fun I' k' f2 h2 => hQ I' k' (f1.tr f2) h2)
              rw [List.length_append, List.length_singleton] at hj
              rw [getD_app, upM_ne (by decide)]
              by_cases hjc : j < cs.length
              · rw [if_pos hjc, upM_i (by omega)]
                exact hC.2 j hjc
              · rw [if_neg hjc, if_pos (by omega)]
                refine ⟨k, by rw [show j = cs.length by omega, upM_same], hk2, ?_, ?_⟩
                · show pg.getD k 0 = 48 + ((pg.getD k 0 - 48).toNat : Int); omega
                · show pg.getD (k + 1) 0 = 120 + ((s - 4 : Nat) : Int)
                  rw [hcs, cd_var (by omega) (by omega)]; omega
            · rw [if_pos (bi_0.mpr hin)]
              exact hbrk (fun q => hin (by have := q.2; rw [hsg, Int.toNat_natCast] at this; exact this))
          · rw [if_pos (bi_0.mpr hvar)]
            refine hbrk (fun q => hvar ?_)
            have hq := q.1
            unfold sg at hq
            repeat' split at hq
            all_goals omega
        · rw [if_neg (by omega), if_neg (by omega)] at hst
          have hrd := hA.no (fun _ => hst)
          rw [if_neg hcl]
          refine c_M_broken.mpr ?_
          refine b_M_readConditions_60.mpr ?_
          exact hQ _ k ⟨fun a p1 _ _ => upM_ne p1, fun j hj => upM_i hj, fun j _ => by rw [upM_ne (by decide)], fun j _ => by rw [upM_ne (by decide)]⟩ (Or.inl ⟨upM_same, by rw [hrd], whl_no hrd (Or.inr (by omega))⟩)
      · rw [if_pos (bi_0.mpr h9)]
        exact hQ I k (rfC I) (Or.inr ⟨hb, cs, d, l, hC, hA, ho, fun q => by omega⟩)
    · rw [if_pos (bi_0.mpr hv)]
      exact hQ I k (rfC I) (Or.inr ⟨hb, cs, d, l, hC, hA, ho, fun q => hv q.2.2.2⟩)
theorem k_readConditions (hw : wfP pg) (hP : PgM I pg) {i k d kd ow : Nat} {rs : List Nat} {r : Nat} {xs : List INS} {h : List Nat} (hi : i < 6) (hb : I 243 22 = 0) (hc : I 243 23 = (rs.length : Int)) (hN : NhM I pg i h) (hA : AtS pg k (6, (d, 0), (rs, r), xs, (kd, ow, h, []))) (ho : okPS (6, (d, 0), (rs, r), xs, (kd, ow, h, []))) (hQ : rdcQ L R J I pg i rs r xs kd ow h Q) : wpC 58 [vR (some 243), vI (k : Int), vI (i : Int)] (S0 L, R, I, J) Q := by
  have hok := ho.2.2.2.2.2.2.2.2.2.2.1 rfl
  have hhw : wfN h 1 = true := hok.2.2.1
  refine c_M_readConditions.mpr ⟨⟨by omega, by omega⟩, ?_⟩
  have f1 : frC i I (upM I 265 (i : Int) 0) := ⟨fun a p1 p2 p3 => upM_ne p2, fun j _ => by rw [upM_ne (by decide)], fun j hj => upM_i hj, fun j _ => by rw [upM_ne (by decide)]⟩
  have hP1 := hP.fr f1.fr
  have hN1 : NhM (upM I 265 (i : Int) 0) pg i h := hN.fr (upM_ne (by decide)) (upM_ne (by decide))
  have hgo := rdc_loop (L := L) (R := R) (J := J) (Q := Q) hw hi 2 k d 0 [] rfl hP1 (by rw [upM_ne (by decide)]; exact hb) (by rw [upM_ne (by decide)]; exact hc) hN1 ⟨upM_same, fun j hj => absurd hj (by simp)⟩ hA ho (fun I' k' f2 h2 => hQ I' k' (f1.tr f2) h2)
  refine k_isInHead (s := 4) hw hP1 hi hhw (by decide) hN1 ?_
  refine b_M_readConditions_12.mpr ?_
  by_cases h4 : 4 ∈ h
  · rw [if_neg (fun q => bi_0.mp q h4)]
    rw [bi_t (Or.inl h4)] at hgo
    exact hgo
  · rw [if_pos (bi_0.mpr h4)]
    refine k_isInHead (s := 5) hw hP1 hi hhw (by decide) hN1 ?_
    refine b_M_readConditions_19.mpr ?_
    by_cases h5 : 5 ∈ h
    · rw [if_neg (fun q => bi_0.mp q h5)]
      rw [bi_t (Or.inr h5)] at hgo
      exact hgo
    · rw [if_pos (bi_0.mpr h5)]
      rw [bi_f (fun q => q.elim h4 h5)] at hgo
      exact hgo
/-- an instance is read: broken; or an instance more -/
def riQ (L : Nat) (R : Nat → Int → Option Nat) (J : Nat → Int → Int64) (I : Nat → Int → Int) (pg : List Int) (rs : List Nat) (r : Nat) (xs : List INS) (Q : Option MV → MM → Prop) : Prop := ∀ (I' : Nat → Int → Int) (k : Nat), frR I I' → I' 243 23 = I 243 23 → I' 260 = I 260 →
  ((I' 243 22 = 1 ∧ (rdP pg).1 = k ∧ whlB pg = false) ∨ (I' 243 22 = 0 ∧ ∃ (x : INS) (d l : Nat), RiM I' pg (xs ++ [x]) ∧ AtS pg k (6, (d, l), (rs, r), xs, x) ∧ okPS (6, (d, l), (rs, r), xs, x) ∧ ¬ (48 ≤ pg.getD k 0 ∧ pg.getD k 0 - 48 < (rs.length : Int) ∧ x.2.2.2.length < 2 ∧ (4 ∈ x.2.2.1 ∨ 5 ∈ x.2.2.1)))) → Q (some (vI (k : Int))) (S0 L, R, I', J)
theorem InM.fr {I' : Nat → Int → Int} {i : Nat} {x : INS} (h : InM I pg i x) (h1 : ∀ a : Nat, 261 ≤ a → a ≤ 265 → I' a (i : Int) = I a (i : Int)) (h2 : ∀ k : Nat, k < x.2.2.2.length → I' 266 ((2 * i + k : Nat) : Int) = I 266 ((2 * i + k : Nat) : Int)) : InM I' pg i x := by
  obtain ⟨a1, a2, a3, a4, a5, a6⟩ := h
  refine ⟨by rw [h1 261 (by decide) (by decide)]; exact a1, by rw [h1 262 (by decide) (by decide)]; exact a2, by rw [h1 264 (by decide) (by decide)]; exact a3, by rw [h1 263 (by decide) (by decide)]; exact a4, by rw [h1 265 (by decide) (by decide)]; exact a5, fun k hk => ?_⟩
  rw [h2 k hk]; exact a6 k hk
theorem k_readInstance (hw : wfP pg) (hP : PgM I pg) {from' d l : Nat} {rs : List Nat} {r : Nat} {xs : List INS} {x0 : INS} (hb : I 243 22 = 0) (hc : I 243 23 = (rs.length : Int)) (hR : RiM I pg xs) (hA : AtS pg from' (3, (d, l), (rs, r), xs, x0)) (ho : okPS (3, (d, l), (rs, r), xs, x0)) (hQ : riQ L R J I pg rs r xs Q) : wpC 59 [vR (some 243), vI (from' : Int)] (S0 L, R, I, J) Q := by
  have h84 := hw.1
  have hfl := hA.1
  have hx5 : xs.length ≤ 5 := ho.2.2.2.1
  have hrs4 : rs.length ≤ 4 := ho.2.1
  have hrs1 : 1 ≤ rs.length := ho.2.2.2.2.2.2.2.1 (Nat.le_refl 3)
  have pr1 := pg_r hw (from' + 1)
  refine c_M_readInstance.mpr ?_
  rw [k_at hw hP, hR.1]
  refine b_M_readInstance_10.mpr ?_
  rw [k_kindBy]
  refine b_M_readInstance_12.mpr ⟨⟨by omega, by omega⟩, ⟨by omega, by omega⟩, ?_⟩
  rw [upM_same]
  -- the rows of the instance that is read
  have up : ∀ (I0 : Nat → Int → Int) (a : Nat) (z : Int), 261 ≤ a → a ≤ 264 → frR I0 (upM I0 a (xs.length : Int) z) := fun I0 a z h1 h2 => ⟨fun b hb => upM_ne (by omega), fun j _ _ _ _ => by rw [upM_ne (by omega)]⟩
  have f1 := up I 261 (kdF (pg.getD from' 0)) (by decide) (by decide)
  have hkr := kdF_r (pg.getD from' 0)
  have hst : stp (3, (d, l), (rs, r), xs, x0) (pg.getD from' 0) = (if kdF (pg.getD from' 0) = -1 then none else some (4, (d, l), (rs, r), xs, ((kdF (pg.getD from' 0)).toNat, 0, [], []))) := rfl
  by_cases hk1 : kdF (pg.getD from' 0) = -1
  · rw [if_pos hk1] at hst ⊢
    have hrd := hA.no (fun _ => hst)
    refine c_M_broken.mpr ?_
    refine b_M_readInstance_24.mpr ?_
    exact hQ _ from' (f1.tr ⟨fun a ha => upM_ne (by omega), fun j _ p2 _ _ => upM_i p2⟩) (by rw [upM_i (by decide), upM_ne (by decide)]) (by rw [upM_ne (by decide), upM_ne (by decide)]) (Or.inl ⟨upM_same, by rw [hrd], whl_no hrd (Or.inl (by show ¬ 3 = 6; decide))⟩)
  rw [if_neg hk1] at hst ⊢
  have hk : from' < pg.length := pg_in (fun h0 => hk1 (by rw [h0]; rfl))
  obtain ⟨hA2, ho2⟩ := at_ok ho hA hk hst
  have g1 : upM I 261 (xs.length : Int) (kdF (pg.getD from' 0)) 261 (xs.length : Int) = (((kdF (pg.getD from' 0)).toNat : Nat) : Int) := by rw [upM_same]; omega
  have v1 : (upM I 261 (xs.length : Int) (kdF (pg.getD from' 0))) 243 = I 243 := upM_ne (by decide)
  have w1 : ∀ (a : Nat) (j : Int), a ≠ 261 ∨ j ≠ (xs.length : Int) → (upM I 261 (xs.length : Int) (kdF (pg.getD from' 0))) a j = I a j := fun a j h => by
    by_cases ha : a = 261
    · exact upM_oi (by omega)
    · rw [upM_ne ha]
  generalize (upM I 261 (xs.length : Int) (kdF (pg.getD from' 0))) = I1 at *
  have hP1 := hP.fr f1
  rw [w32_s (by omega), k_figure hw hP1]
  refine b_M_readInstance_35.mpr ⟨⟨by omega, by omega⟩, ⟨by omega, by omega⟩, ?_⟩
  rw [upM_same, upM_ne (by decide), v1, hc, w32_eq (by omega) (by omega), k_within]
  refine b_M_readInstance_47.mpr ?_
  have f2 := f1.tr (up I1 262 (pg.getD (from' + 1) 0 - 48) (by decide) (by decide))
  have hst2 : stp (4, (d, l), (rs, r), xs, ((kdF (pg.getD from' 0)).toNat, 0, [], [])) (pg.getD (from' + 1) 0) = (if 48 ≤ pg.getD (from' + 1) 0 ∧ pg.getD (from' + 1) 0 - 48 < (rs.length : Int) then some (5, (d, 1), (rs, r), xs, ((kdF (pg.getD from' 0)).toNat, (pg.getD (from' + 1) 0 - 48).toNat, [], [])) else none) := rfl
  by_cases hcl : 48 ≤ pg.getD (from' + 1) 0 ∧ pg.getD (from' + 1) 0 - 48 < (rs.length : Int)
  · rw [if_pos hcl] at hst2
    have hk2 := pg_in (k := from' + 1) (pg := pg) (by omega)
    obtain ⟨hA3, ho3⟩ := at_ok ho2 hA2 hk2 hst2
    obtain ⟨ow, how⟩ : ∃ ow : Nat, pg.getD (from' + 1) 0 - 48 = (ow : Int) := ⟨(pg.getD (from' + 1) 0 - 48).toNat, by omega⟩
    rw [how, Int.toNat_natCast] at hA3 ho3
    rw [if_neg (fun q => bi_0.mp q (by omega)), how]
    rw [how] at f2
    have v2 : (upM I1 262 (xs.length : Int) (ow : Int)) 243 = I 243 := by rw [upM_ne (by decide), v1]
    have g2 : (upM I1 262 (xs.length : Int) (ow : Int)) 262 (xs.length : Int) = (ow : Int) := upM_same
    have g21 : (upM I1 262 (xs.length : Int) (ow : Int)) 261 (xs.length : Int) = (((kdF (pg.getD from' 0)).toNat : Nat) : Int) := by rw [upM_ne (by decide)]; exact g1
    have w2 : ∀ (a : Nat) (j : Int), (a ≠ 261 ∧ a ≠ 262) ∨ j ≠ (xs.length : Int) → (upM I1 262 (xs.length : Int) (ow : Int)) a j = I a j := fun a j h => by
      by_cases ha : a = 262
      · rw [upM_oi (by omega), w1 a j (by omega)]
      · rw [upM_ne ha, w1 a j (by omega)]
    generalize (upM I1 262 (xs.length : Int) (ow : Int)) = I2 at *
    have hP2 := hP.fr f2
    have e2 : w32 ((from' : Int) + 2) = ((from' + 1 + 1 : Nat) : Int) := by rw [w32_eq (by omega) (by omega)]; omega
    rw [e2]
    -- one instance more
    have hcnt : ∀ (I0 : Nat → Int → Int), (I0 243 24 = (xs.length : Int)) → w32 (I0 243 24 + 1) = ((xs.length + 1 : Nat) : Int) := fun I0 h => by rw [h, w32_s (by omega)]
    refine k_readHead hw hP2 (i := xs.length) (by omega) hA3 ho3 (fun k h1 h2 => ?_) (fun h hA4 ho4 hh => ?_)
    · refine b_M_readInstance_64.mpr ?_
      rw [upM_same, if_neg (by decide)]
      exact hQ _ k ((f2.tr ⟨fun a ha => upM_ne (by omega), fun j _ p2 _ _ => upM_i p2⟩).tr ⟨fun a ha => upM_ne (by omega), fun j _ _ _ p4 => upM_i p4⟩) (by rw [upM_i (by decide), upM_i (by decide), v2]) (by rw [upM_ne (by decide), upM_ne (by decide)]; funext j; exact w2 260 j (by omega)) (Or.inl ⟨by rw [upM_i (by decide), upM_same], h1, h2⟩)
    · have f3 := (f2.tr (up I2 263 ((from' + 1 + 1 : Nat) : Int) (by decide) (by decide))).tr (up _ 264 (h.length : Int) (by decide) (by decide))
      have v3 : (upM (upM I2 263 (xs.length : Int) ((from' + 1 + 1 : Nat) : Int)) 264 (xs.length : Int) (h.length : Int)) 243 = I 243 := by rw [upM_ne (by decide), upM_ne (by decide), v2]
      have hN3 : NhM (upM (upM I2 263 (xs.length : Int) ((from' + 1 + 1 : Nat) : Int)) 264 (xs.length : Int) (h.length : Int)) pg xs.length h := ⟨upM_same, from' + 1 + 1, by rw [upM_ne (by decide), upM_same], hA4.1, hh⟩
      have g3 : (upM (upM I2 263 (xs.length : Int) ((from' + 1 + 1 : Nat) : Int)) 264 (xs.length : Int) (h.length : Int)) 261 (xs.length : Int) = (((kdF (pg.getD from' 0)).toNat : Nat) : Int) ∧ (upM (upM I2 263 (xs.length : Int) ((from' + 1 + 1 : Nat) : Int)) 264 (xs.length : Int) (h.length : Int)) 262 (xs.length : Int) = (ow : Int) := ⟨by rw [upM_ne (by decide), upM_ne (by decide)]; exact g21, by rw [upM_ne (by decide), upM_ne (by decide)]; exact g2⟩
      have w3 : ∀ (a : Nat) (j : Int), (a < 261 ∨ 264 < a) ∨ j ≠ (xs.length : Int) → (upM (upM I2 263 (xs.length : Int) ((from' + 1 + 1 : Nat) : Int)) 264 (xs.length : Int) (h.length : Int)) a j = I a j := fun a j hh => by
        by_cases hj : j = (xs.length : Int)
        · rw [upM_ne (by omega), upM_ne (by omega), w2 a j (by omega)]
        · rw [upM_oi hj, upM_oi hj, w2 a j (Or.inr hj)]
      generalize (upM (upM I2 263 (xs.length : Int) ((from' + 1 + 1 : Nat) : Int)) 264 (xs.length : Int) (h.length : Int)) = I3 at *
      have hP3 := hP.fr f3
      refine b_M_readInstance_64.mpr ?_
      rw [v3, hb, if_pos rfl]
      refine k_readConditions hw hP3 (by omega) (by rw [v3]; exact hb) (by rw [v3]; exact hc) hN3 hA4 ho4 (fun I4 k f4 h4 => ?_)
      refine b_M_readInstance_74.mpr ?_
      have h24 : I4 243 24 = (xs.length : Int) := by rw [f4.2.1 24 (by decide), v3]; exact hR.1
      rw [hcnt I4 h24]
      have f5 : frR I (upM I4 243 24 ((xs.length + 1 : Nat) : Int)) := (f3.tr f4.fr).tr ⟨fun a ha => upM_ne (by omega), fun j _ _ _ p4 => upM_i p4⟩
      refine hQ _ k f5 (by rw [upM_i (by decide), f4.2.1 23 (by decide), v3]) (by rw [upM_ne (by decide), f4.1 260 (by decide) (by decide) (by decide)]; funext j; exact w3 260 j (by omega)) ?_
      rcases h4 with ⟨q1, q2⟩ | ⟨q1, cs, d', l', q2, q3, q4, q5⟩
      · exact Or.inl ⟨by rw [upM_i (by decide)]; exact q1, q2⟩
      · refine Or.inr ⟨by rw [upM_i (by decide)]; exact q1, ((kdF (pg.getD from' 0)).toNat, ow, h, cs), d', l', ⟨by rw [upM_same, List.length_append, List.length_singleton], fun i hi => ?_⟩, q3, q4, q5⟩
        rw [List.length_append, List.length_singleton] at hi
        rw [getD_app]
        by_cases hil : i < xs.length
        · rw [if_pos hil]
          have hcs2 := (ho.2.2.2.2.1 i hil).2.2.2.2.1
          simp only at hcs2
          refine (hR.2 i hil).fr (fun a h1 h2 => ?_) (fun j hj => ?_)
          · rw [upM_ne (by omega)]
            by_cases ha : a = 265
            · subst ha
              rw [f4.2.2.1 _ (by omega), w3 265 _ (by omega)]
            · rw [f4.1 a (by omega) ha (by omega), w3 a _ (by omega)]
          · rw [upM_ne (by decide), f4.2.2.2 _ (by omega), w3 266 _ (by omega)]
        · rw [if_neg hil, if_pos (by omega), show i = xs.length by omega]
          obtain ⟨n1, n2⟩ := hN3
          refine ⟨?_, ?_, ?_, ?_, ?_, ?_⟩
          · rw [upM_ne (by decide), f4.1 261 (by decide) (by decide) (by decide)]; exact g3.1
          · rw [upM_ne (by decide), f4.1 262 (by decide) (by decide) (by decide)]; exact g3.2
          · rw [upM_ne (by decide), f4.1 264 (by decide) (by decide) (by decide)]; exact n1
          · rw [upM_ne (by decide), f4.1 263 (by decide) (by decide) (by decide)]; exact n2
          · rw [upM_ne (by decide)]; exact q2.1
          · intro j hj
            rw [upM_ne (by decide)]; exact q2.2 j hj
  · rw [if_neg hcl] at hst2
    have hrd := hA2.no (fun _ => hst2)
    rw [if_pos (bi_0.mpr (by omega)), w32_s (by omega)]
    refine c_M_broken.mpr ?_
    refine b_M_readInstance_55.mpr ?_
    refine hQ _ (from' + 1) (f2.tr ⟨fun a ha => upM_ne (by omega), fun j _ p2 _ _ => upM_i p2⟩) (by rw [upM_i (by decide), upM_ne (by decide), v1]) (by rw [upM_ne (by decide), upM_ne (by decide)]; funext j; exact w1 260 j (by omega)) (Or.inl ⟨upM_same, by rw [hrd], whl_no hrd (Or.inl (by show ¬ 4 = 6; decide))⟩)
def rdQ (L : Nat) (R : Nat → Int → Option Nat) (J : Nat → Int → Int64) (I : Nat → Int → Int) (pg : List Int) (Q : Option MV → MM → Prop) : Prop := ∀ I' : Nat → Int → Int, frR I I' → I' 243 21 = bi (whlB pg = true) → (whlB pg = true → ∃ (rs : List Nat) (r d l : Nat) (xs : List INS) (x : INS), (rdP pg).2 = (6, (d, l), (rs, r), xs, x) ∧ RcM I' rs ∧ RiM I' pg (xs ++ [x])) → Q (some (vI ((rdP pg).1 : Int))) (S0 L, R, I', J)
theorem rd_brk {k : Nat} (hb : I 243 22 = 1) (h : (rdP pg).1 = k ∧ whlB pg = false) (hQ : rdQ L R J I pg Q) : wpc 60 38 [vR (some 243), vI (k : Int)] [] (0, 0) (S0 L, R, I, J) Q := by
  refine b_M_read_38.mpr ?_
  rw [hb, if_neg (by decide), if_neg (by decide)]
  have := hQ (upM I 243 21 0) ⟨fun a ha => upM_ne (by omega), fun j p1 _ _ _ => upM_i p1⟩ (by rw [upM_same, bi_f (by rw [h.2]; decide)]) (fun q => by rw [h.2] at q; exact absurd q (by decide))
  rw [h.1] at this
  exact this
theorem rd_loop (hw : wfP pg) : ∀ (n : Nat) {I : Nat → Int → Int} (k d l : Nat) (rs : List Nat) (r : Nat) (xs : List INS) (x : INS), xs.length + n = 6 → PgM I pg → I 243 22 = 0 → RcM I rs → RiM I pg (xs ++ [x]) → AtS pg k (6, (d, l), (rs, r), xs, x) → okPS (6, (d, l), (rs, r), xs, x) → ¬ (48 ≤ pg.getD k 0 ∧ pg.getD k 0 - 48 < (rs.length : Int) ∧ x.2.2.2.length < 2 ∧ (4 ∈ x.2.2.1 ∨ 5 ∈ x.2.2.1)) → rdQ L R J I pg Q → wpc 60 38 [vR (some 243), vI (k : Int)] [] (0, 0) (S0 L, R, I, J) Q := by
  have h84 := hw.1
  intro n
  induction n with
  | zero =>
    intro I k d l rs r xs x hn _ _ _ _ _ ho
    have := ho.2.2.2.1
    simp only at this
    omega
  | succ n ih =>
    intro I k d l rs r xs x hn hP hb hr hR hA ho hno hQ
    have hx5 : xs.length ≤ 5 := ho.2.2.2.1
    have h24 : I 243 24 = ((xs.length + 1 : Nat) : Int) := by rw [hR.1, List.length_append]; rfl
    have hst : stp (6, (d, l), (rs, r), xs, x) (pg.getD k 0) = (if 48 ≤ pg.getD k 0 ∧ pg.getD k 0 - 48 < (rs.length : Int) ∧ x.2.2.2.length < 2 ∧ (4 ∈ x.2.2.1 ∨ 5 ∈ x.2.2.1) then some (7, ((pg.getD k 0 - 48).toNat, l), (rs, r), xs, x) else if pg.getD k 0 = 44 ∧ xs.length < 5 then some (3, (d, l), (rs, r), xs ++ [x], (0, 0, [], [])) else none) := rfl
    rw [if_neg hno] at hst
    have hend : ¬ (pg.getD k 0 = 44 ∧ xs.length < 5) → (if k = pg.length then Q (some (vI (k : Int))) (S0 L, R, upM I 243 21 1, J) else Q (some (vI (k : Int))) (S0 L, R, upM I 243 21 0, J)) := by
      intro h
      rw [if_neg h] at hst
      have hrd := hA.no (fun _ => hst)
      have f1 : ∀ z : Int, frR I (upM I 243 21 z) := fun z => ⟨fun a ha => upM_ne (by omega), fun j p1 _ _ _ => upM_i p1⟩
      have e1 : (rdP pg).1 = k := by rw [hrd]
      by_cases hk : k = pg.length
      · rw [if_pos hk]
        have hwh : whlB pg = true := by
          unfold whlB
          rw [hrd]
          show (decide (k = pg.length) && decide (6 = 6)) = true
          rw [decide_eq_true hk]; rfl
        have := hQ (upM I 243 21 1) (f1 1) (by rw [upM_same, bi_t hwh]) (fun _ => ⟨rs, r, d, l, xs, x, by rw [hrd], hr.fr (by rw [upM_i (by decide)]) (fun c _ => by rw [upM_ne (by decide)]), ⟨by rw [upM_i (by decide)]; exact hR.1, fun i hi => (hR.2 i hi).fr (fun a _ _ => by rw [upM_ne (by omega)]) (fun j _ => by rw [upM_ne (by decide)])⟩⟩)
        rw [e1] at this
        exact this
      · rw [if_neg hk]
        have hwh := whl_no hrd (Or.inr hk)
        have := hQ (upM I 243 21 0) (f1 0) (by rw [upM_same, bi_f (by rw [hwh]; decide)]) (fun q => by rw [hwh] at q; exact absurd q (by decide))
        rw [e1] at this
        exact this
    have hend2 : ¬ (pg.getD k 0 = 44 ∧ xs.length < 5) → (if (k : Int) = I 243 19 then Q (some (vI (k : Int))) (S0 L, R, upM I 243 21 1, J) else Q (some (vI (k : Int))) (S0 L, R, upM I 243 21 0, J)) := by
      intro h
      have := hend h
      rw [hP.1]
      by_cases hk : k = pg.length
      · rw [if_pos hk] at this; rw [if_pos (by omega)]; exact this
      · rw [if_neg hk] at this; rw [if_neg (by omega)]; exact this
    refine b_M_read_38.mpr ?_
    rw [hb, if_pos rfl, h24]
    by_cases h5 : xs.length < 5
    · rw [if_pos (by omega), k_at hw hP]
      refine b_M_read_51.mpr ?_
      by_cases h44 : pg.getD k 0 = 44
      · have hk := pg_in (k := k) (pg := pg) (by omega)
        rw [if_pos ⟨h44, h5⟩] at hst
        obtain ⟨hA2, ho2⟩ := at_ok ho hA hk hst
        rw [if_pos h44, w32_s (by omega)]
        refine k_readInstance hw hP hb hr.1 hR hA2 ho2 (fun I' k' f1 g1 g2 h => ?_)
        refine b_M_read_60.mpr ?_
        rcases h with ⟨q1, q2⟩ | ⟨q1, x', d', l', q2, q3, q4, q5⟩
        · exact rd_brk q1 q2 (fun I2 f2 h2 h3 => hQ I2 (f1.tr f2) h2 h3)
        · exact ih k' d' l' rs r (xs ++ [x]) x' (by rw [List.length_append, List.length_singleton]; omega) (hP.fr f1) q1 (hr.fr g1 (fun c _ => by rw [g2])) q2 q3 q4 q5 (fun I2 f2 h2 h3 => hQ I2 (f1.tr f2) h2 h3)
      · rw [if_neg h44, hb, if_pos rfl]
        exact hend2 (fun q => h44 q.1)
    · rw [if_neg (by omega), if_pos rfl]
      exact hend2 (fun q => h5 q.2)
theorem k_read (hw : wfP pg) (hP : PgM I pg) (hQ : rdQ L R J I pg Q) : wpC 60 [vR (some 243)] (S0 L, R, I, J) Q := by
  have h84 := hw.1
  refine c_M_read.mpr ?_
  have f1 : frR I (upM (upM (upM (upM I 243 21 0) 243 22 0) 243 23 0) 243 24 0) := ⟨fun a ha => by rw [upM_ne (by omega), upM_ne (by omega), upM_ne (by omega), upM_ne (by omega)], fun j p1 p2 p3 p4 => by rw [upM_i p4, upM_i p3, upM_i p2, upM_i p1]⟩
  have z22 : (upM (upM (upM (upM I 243 21 0) 243 22 0) 243 23 0) 243 24 0) 243 22 = 0 := by rw [upM_i (by decide), upM_i (by decide), upM_same]
  have z23 : (upM (upM (upM (upM I 243 21 0) 243 22 0) 243 23 0) 243 24 0) 243 23 = 0 := by rw [upM_i (by decide), upM_same]
  have z24 : (upM (upM (upM (upM I 243 21 0) 243 22 0) 243 23 0) 243 24 0) 243 24 = 0 := upM_same
  have z21 : (upM (upM (upM (upM I 243 21 0) 243 22 0) 243 23 0) 243 24 0) 243 21 = 0 := by rw [upM_i (by decide), upM_i (by decide), upM_i (by decide), upM_same]
  generalize (upM (upM (upM (upM I 243 21 0) 243 22 0) 243 23 0) 243 24 0) = I1 at *
  have hP1 := hP.fr f1
  refine k_readClasses hw hP1 z22 z23 (fun I2 k f2 g24 g21 h => ?_)
  refine b_M_read_15.mpr ?_
  have hout : (rdP pg).1 = k → whlB pg = false → Q (some (vI (k : Int))) (S0 L, R, I2, J) := by
    intro h1 h2
    have := hQ I2 (f1.tr f2) (by rw [g21, z21, bi_f (by rw [h2]; decide)]) (fun q => by rw [h2] at q; exact absurd q (by decide))
    rw [h1] at this
    exact this
  rcases h with ⟨q1, q2, q3⟩ | ⟨q1, rs, r, d, l, st, q2, q3, q4, q5, q6, q7⟩
  · rw [q1, if_neg (by decide)]
    exact hout q2 q3
  · rw [q1, if_pos rfl, k_at hw (hP1.fr f2)]
    refine b_M_read_24.mpr ?_
    have hl3 : rs.length ≤ 3 := (q5.2.2.2.2.2.2.1 q2).1
    have hkl := q4.1
    have hst : stp (st, (d, l), (rs, r), [], (0, 0, [], [])) (pg.getD k 0) = (if pg.getD k 0 = 59 then some (3, (d, l), (rs ++ [r], 0), [], (0, 0, [], [])) else if pg.getD k 0 = 44 ∧ rs.length < 3 then some (0, (d, l), (rs ++ [r], 0), [], (0, 0, [], [])) else none) := by
      rw [stE_12 q2 q6 hl3]; rfl
    by_cases h59 : pg.getD k 0 = 59
    · rw [if_pos h59] at hst
      have hk := pg_in (k := k) (pg := pg) (by omega)
      obtain ⟨hA2, ho2⟩ := at_ok q5 q4 hk hst
      rw [if_pos h59, w32_s (by omega)]
      refine k_readInstance (xs := []) hw (hP1.fr f2) q1 q3.1 ⟨by rw [g24]; exact z24, fun i hi => absurd hi (by simp)⟩ hA2 ho2 (fun I3 k3 f3 e1 e2 h3 => ?_)
      refine b_M_read_36.mpr ?_
      rcases h3 with ⟨p1, p2⟩ | ⟨p1, x, d', l', p2, p3, p4, p5⟩
      · exact rd_brk p1 p2 (fun I4 f4 h4 h5 => hQ I4 ((f1.tr f2).tr (f3.tr f4)) h4 h5)
      · exact rd_loop hw 6 k3 d' l' (rs ++ [r]) 0 [] x rfl (hP1.fr (f2.tr f3)) p1 (q3.fr e1 (fun c _ => by rw [e2])) p2 p3 p4 p5 (fun I4 f4 h4 h5 => hQ I4 ((f1.tr f2).tr (f3.tr f4)) h4 h5)
    · rw [if_neg h59, if_neg (fun q => by have := q7 q.1; omega)] at hst
      have hrd := q4.no (fun _ => hst)
      rw [if_neg h59]
      exact hout (by rw [hrd]) (whl_no hrd (Or.inl (by show ¬ st = 6; omega)))
end MRg
