-- ===== the calls: a pure picture, and the reference's answers =====
def setP (s : ST) (p : List Int) : ST := (p, s.2)
def q_letter (s : ST) (c : Int) : Int × ST := if ¬ (32 ≤ c ∧ c ≤ 126) then (-102, s) else if (sP s).length = 84 then (-104, s) else (((sP s).length : Int) + 1, setP s (sP s ++ [c]))
def q_blank (s : ST) : Int × ST := (((sP s).length : Int), setP s [])
def q_fault (s : ST) : Int × ST := (((rdP (sP s)).1 : Int), s)
def q_about (s : ST) (c w : Int) : Int × ST := (if ¬ (0 ≤ c ∧ c < (sC s : Int)) then -101 else if ¬ (0 ≤ w ∧ w ≤ 2) then -102 else abN s c.toNat w.toNat, s)
def q_inst (s : ST) (i w : Int) : Int × ST := (if ¬ (0 ≤ i ∧ i < (eN (sE s) : Int)) then -101 else if ¬ (0 ≤ w ∧ w ≤ 7) then -102 else inN s i.toNat w.toNat, s)
def q_as (s : ST) (i k : Int) : Int × ST := (if ¬ (0 ≤ i ∧ i < (eN (sE s) : Int)) then -101 else if ¬ (0 ≤ k ∧ k ≤ 4) then -102 else if k = 0 ∨ (eK (sE s) i.toNat : Int) = k ∨ (k = 3 ∧ eK (sE s) i.toNat = 4) then i else -1, s)
def setEK (s : ST) (kd : Nat → Nat) : ST := (s.1, s.2.1, s.2.2.1, setK (sE s) kd, s.2.2.2.2)
def q_change (s : ST) (i k : Int) : Int × ST := if ¬ (0 ≤ i ∧ i < (eN (sE s) : Int)) then (-101, s) else if ¬ (0 ≤ k ∧ k ≤ 4) then (-102, s) else ((eK (sE s) i.toNat : Int), setEK s (fun j => if j = i.toNat then k.toNat else eK (sE s) j))
def q_pair (s : ST) (i e w : Int) : Int × ST := (if ¬ (0 ≤ i ∧ i < (eN (sE s) : Int)) then -101 else if ¬ (0 ≤ e ∧ e < (eN (sE s) : Int)) then -101 else if i = e then -101 else if ¬ (0 ≤ w ∧ w ≤ 2) then -102 else bi (prN (sE s) i.toNat e.toNat w.toNat = true), s)
def filB (s : ST) (k : Int) : Prop := (0 ≤ k ∧ k < 4) ∧ ¬ sL s k.toNat = []
def q_fits (s : ST) (i k : Int) : Int × ST := (if ¬ (0 ≤ i ∧ i < (eN (sE s) : Int)) then -101 else if ¬ ((0 ≤ k ∧ k < 4) ∧ ¬ sL s k.toNat = []) then -101 else bi (fitB (sE s) i.toNat (sL s k.toNat) = true), s)
def q_goal (s : ST) (c k w : Int) : Int × ST := (if ¬ (0 ≤ c ∧ c < (sC s : Int)) then -101 else if ¬ ((0 ≤ k ∧ k < 4) ∧ ¬ sL s k.toNat = []) then -101 else if ¬ (0 ≤ w ∧ w ≤ 6) then -102 else goN s (sL s k.toNat) c.toNat w.toNat, s)
def q_entry (s : ST) (c k p : Int) : Int × ST := (if ¬ (0 ≤ c ∧ c < (sC s : Int)) then -101 else if ¬ ((0 ≤ k ∧ k < 4) ∧ ¬ sL s k.toNat = []) then -101 else if ¬ (G (sE s) c.toNat (sL s k.toNat)).1 = 1 then -101 else if ¬ (0 ≤ p ∧ p < ((G (sE s) c.toNat (sL s k.toNat)).2.1.length : Int)) then -101 else (G (sE s) c.toNat (sL s k.toNat)).2.1.getD p.toNat 0, s)
def ndN (s : ST) (c : Nat) (u : List Nat) : Nat := if (G (sE s) c u).1 = 1 then (G (sE s) c u).2.2.2.2 else 0
def q_need (s : ST) (c k n v : Int) : Int × ST := (if ¬ (0 ≤ c ∧ c < (sC s : Int)) then -101 else if ¬ ((0 ≤ k ∧ k < 4) ∧ ¬ sL s k.toNat = []) then -101 else if ¬ (0 ≤ n ∧ n < (sC s : Int)) then -102 else if ¬ (0 ≤ v ∧ v ≤ 1) then -102 else if (pln (sA s) (ndN s c.toNat (sL s k.toNat))).testBit (2 * n.toNat + v.toNat) = true then 2 else if (ndN s c.toNat (sL s k.toNat)).testBit (2 * n.toNat + v.toNat) = true then 1 else 0, s)
def setN (s : ST) (sn : SN) : ST := (s.1, s.2.1, s.2.2.1, s.2.2.2.1, s.2.2.2.2.1, sn, s.2.2.2.2.2.2)
def q_see (s : ST) (i w z : Int) : Int × ST := if ¬ (0 ≤ i ∧ i < (eN (sE s) : Int)) then (-101, s) else if ¬ (0 ≤ w ∧ w ≤ 3) then (-102, s) else if (sN s).length = 6 then (-104, s) else (((sN s).length : Int) + 1, setN s (sN s ++ [(i.toNat, w.toNat, decide (¬ z = 0))]))
def q_forget (s : ST) : Int × ST := (((sN s).length : Int), setN s [])
def q_count (s : ST) (w : Int) : Int × ST := (if ¬ (0 ≤ w ∧ w ≤ 10) then -102 else hmN s w.toNat, s)
def mpost (L : Nat) (R : Nat → Int → Option Nat) (I : Nat → Int → Int) (J : Nat → Int → Int64) (z : MV) (s' : ST) (Q : Option MV → MM → Prop) : Prop := ∀ I' J', MSt I' s' → (∀ a, a < 243 → I' a = I a) → (∀ a, a < 243 → J' a = J a) → Q (some z) (S0 L, R, I', J')
section MPb
variable {L : Nat} {R : Nat → Int → Option Nat} {I : Nat → Int → Int} {J : Nat → Int → Int64} {Q : Option MV → MM → Prop} {s : ST}
theorem mpost.t {z : MV} {I' : Nat → Int → Int} (h : mpost L R I J z s Q) (hM : MSt I s) (f : frM I I') : Q (some z) (S0 L, R, I', J) := h I' J (hM.fr f) (fun a ha => f.1 a (by omega)) (fun _ _ => rfl)
theorem ib8_id {c : Int} (h : 32 ≤ c ∧ c ≤ 126) : ib8 c = c := by
  have key : ∀ n : Nat, n < 127 → ib8 (n : Int) = (n : Int) := by decide +kernel
  obtain ⟨n, hn⟩ : ∃ n : Nat, c = (n : Int) := ⟨c.toNat, by omega⟩
  rw [hn]; exact key n (by omega)
theorem m_letter (hw : wfS s) (hM : MSt I s) {c : Int} (hQ : mpost L R I J (vI (q_letter s c).1) (q_letter s c).2 Q) : wpC 48 [vR (some 243), vI c] (S0 L, R, I, J) Q := by
  have h84 := hw.1.1
  have mP := hM.1
  refine c_M_letter.mpr ?_
  rw [k_within]
  refine b_M_letter_5.mpr ?_
  unfold q_letter at hQ
  by_cases hc : 32 ≤ c ∧ c ≤ 126
  · rw [if_neg (not_not_intro hc)] at hQ
    rw [if_neg (fun q => bi_0.mp q hc), mP.1]
    by_cases hl : (sP s).length = 84
    · rw [if_pos hl] at hQ
      rw [if_pos (by omega)]
      exact hQ.t hM frM.rf
    · rw [if_neg hl] at hQ
      rw [if_neg (by omega), ib8_id hc, ib8_id hc, upM_same, upM_ne (by decide), mP.1, w32_s (by omega)]
      refine ⟨⟨by omega, by omega⟩, ?_⟩
      have e1 : ((sP s).length : Int) + 1 = (((sP s).length + 1 : Nat) : Int) := by omega
      rw [e1] at hQ
      refine hQ _ _ ?_ (fun a ha => by rw [upM_ne (by omega), upM_ne (by omega)]) (fun _ _ => rfl)
      obtain ⟨h1, h2, h3, h4, h5, h6, h7, h8⟩ := hM
      have g : ∀ a, a ≠ 243 → a ≠ 259 → (upM (upM I 259 ((sP s).length : Int) c) 243 19 (((sP s).length + 1 : Nat) : Int)) a = I a := fun a p1 p2 => by rw [upM_ne p1, upM_ne p2]
      have q : ∀ j : Int, j ≠ 19 → (upM (upM I 259 ((sP s).length : Int) c) 243 19 (((sP s).length + 1 : Nat) : Int)) 243 j = I 243 j := fun j hj => by rw [upM_i hj, upM_ne (by decide)]
      refine ⟨⟨?_, fun k hk => ?_⟩, by rw [q 0 (by decide)]; exact h2, h3.fr (q 1 (by decide)) (g 244 (by decide) (by decide)) (g 245 (by decide) (by decide)), h4.fr (q 4 (by decide)) (fun a p1 p2 => g a (by omega) (by omega)), h5.fr (g 253 (by decide) (by decide)), fun k hk => ?_, ⟨by rw [q 15 (by decide)]; exact h7.1, fun k hk => by rw [g 256 (by decide) (by decide), g 257 (by decide) (by decide), g 258 (by decide) (by decide)]; exact h7.2 k hk⟩, ?_⟩
      · rw [upM_same]
        show _ = ((sP s ++ [c]).length : Int)
        rw [List.length_append, List.length_singleton]
      · have hk2 : k < (sP s ++ [c]).length := hk
        rw [List.length_append, List.length_singleton] at hk2
        show _ = (sP s ++ [c]).getD k 0
        rw [getD_app, upM_ne (by decide)]
        by_cases hkl : k < (sP s).length
        · rw [if_pos hkl, upM_i (by omega)]; exact h1.2 k hkl
        · rw [if_neg hkl, if_pos (by omega), show k = (sP s).length by omega, upM_same]
      · have := h6 k hk
        unfold SlW at *
        rw [g 254 (by decide) (by decide), g 255 (by decide) (by decide)]; exact this
      · unfold ImM at *
        rw [q 53 (by decide), q 54 (by decide), q 55 (by decide), g 283 (by decide) (by decide), g 284 (by decide) (by decide), g 285 (by decide) (by decide), g 286 (by decide) (by decide), g 287 (by decide) (by decide), g 288 (by decide) (by decide)]
        exact h8
  · rw [if_pos hc] at hQ
    rw [if_pos (bi_0.mpr hc)]
    exact hQ.t hM frM.rf
theorem MSt.page0 (hM : MSt I s) : MSt (upM I 243 19 0) (setP s []) := by
  obtain ⟨h1, h2, h3, h4, h5, h6, h7, h8⟩ := hM
  have g : ∀ a, a ≠ 243 → (upM I 243 19 0) a = I a := fun a p1 => upM_ne p1
  have q : ∀ j : Int, j ≠ 19 → (upM I 243 19 0) 243 j = I 243 j := fun j hj => upM_i hj
  refine ⟨⟨upM_same, fun k hk => absurd hk (by show ¬ k < 0; omega)⟩, by rw [q 0 (by decide)]; exact h2, h3.fr (q 1 (by decide)) (g 244 (by decide)) (g 245 (by decide)), h4.fr (q 4 (by decide)) (fun a p1 p2 => g a (by omega)), h5.fr (g 253 (by decide)), fun k hk => ?_, ⟨by rw [q 15 (by decide)]; exact h7.1, fun k hk => by rw [g 256 (by decide), g 257 (by decide), g 258 (by decide)]; exact h7.2 k hk⟩, ?_⟩
  · have := h6 k hk
    unfold SlW at *
    rw [g 254 (by decide), g 255 (by decide)]; exact this
  · unfold ImM at *
    rw [q 53 (by decide), q 54 (by decide), q 55 (by decide), g 283 (by decide), g 284 (by decide), g 285 (by decide), g 286 (by decide), g 287 (by decide), g 288 (by decide)]
    exact h8
theorem m_blank (hM : MSt I s) (hQ : mpost L R I J (vI (q_blank s).1) (q_blank s).2 Q) : wpC 49 [vR (some 243)] (S0 L, R, I, J) Q := by
  refine c_M_blank.mpr ?_
  rw [hM.1.1]
  exact hQ _ _ hM.page0 (fun a ha => upM_ne (by omega)) (fun _ _ => rfl)
theorem m_fault (hw : wfS s) (hM : MSt I s) (hQ : mpost L R I J (vI (q_fault s).1) (q_fault s).2 Q) : wpC 61 [vR (some 243)] (S0 L, R, I, J) Q := by
  refine c_M_fault.mpr ?_
  refine k_read hw.1 hM.1 (fun I' f _ _ => ?_)
  exact b_M_fault_3.mpr (hQ.t hM f.m)
theorem nat_of {z : Int} (h : 0 ≤ z) : ∃ n : Nat, z = (n : Int) := ⟨z.toNat, by omega⟩
theorem m_about (hw : wfS s) (hM : MSt I s) {c w : Int} (hQ : mpost L R I J (vI (q_about s c w).1) (q_about s c w).2 Q) : wpC 91 [vR (some 243), vI c, vI w] (S0 L, R, I, J) Q := by
  unfold q_about at hQ
  refine c_M_about.mpr ?_
  rw [k_isClass hw.2.2.1.1 hM.2.2.1.1]
  refine b_M_about_4.mpr ?_
  by_cases hc : 0 ≤ c ∧ c < (sC s : Int)
  · rw [if_neg (not_not_intro hc)] at hQ
    rw [if_neg (fun q => bi_0.mp q hc), k_within]
    refine b_M_about_14.mpr ?_
    by_cases h2 : 0 ≤ w ∧ w ≤ 2
    · rw [if_neg (not_not_intro h2)] at hQ
      rw [if_neg (fun q => bi_0.mp q h2)]
      obtain ⟨c', rfl⟩ := nat_of hc.1
      obtain ⟨w', rfl⟩ := nat_of h2.1
      rw [Int.toNat_natCast, Int.toNat_natCast] at hQ
      refine k_aboutNow hw hM (by omega) ?_
      exact b_M_about_21.mpr (hQ.t hM frM.rf)
    · rw [if_pos h2] at hQ
      rw [if_pos (bi_0.mpr h2)]
      exact hQ.t hM frM.rf
  · rw [if_pos hc] at hQ
    rw [if_pos (bi_0.mpr hc)]
    exact hQ.t hM frM.rf
theorem m_inst (hw : wfS s) (hM : MSt I s) {i w : Int} (hQ : mpost L R I J (vI (q_inst s i w).1) (q_inst s i w).2 Q) : wpC 95 [vR (some 243), vI i, vI w] (S0 L, R, I, J) Q := by
  unfold q_inst at hQ
  refine c_M_instance.mpr ?_
  rw [k_isInst hw.2.2.2.1 hM.2.2.2.1]
  refine b_M_instance_4.mpr ?_
  by_cases hc : 0 ≤ i ∧ i < (eN (sE s) : Int)
  · rw [if_neg (not_not_intro hc)] at hQ
    rw [if_neg (fun q => bi_0.mp q hc), k_within]
    refine b_M_instance_14.mpr ?_
    by_cases h2 : 0 ≤ w ∧ w ≤ 7
    · rw [if_neg (not_not_intro h2)] at hQ
      rw [if_neg (fun q => bi_0.mp q h2)]
      obtain ⟨i', rfl⟩ := nat_of hc.1
      obtain ⟨w', rfl⟩ := nat_of h2.1
      rw [Int.toNat_natCast, Int.toNat_natCast] at hQ
      refine k_instanceNow hw hM (by omega) (fun I' f => ?_)
      exact b_M_instance_21.mpr (hQ.t hM f)
    · rw [if_pos h2] at hQ
      rw [if_pos (bi_0.mpr h2)]
      exact hQ.t hM frM.rf
  · rw [if_pos hc] at hQ
    rw [if_pos (bi_0.mpr hc)]
    exact hQ.t hM frM.rf
theorem m_as (hw : wfS s) (hM : MSt I s) {i k : Int} (hQ : mpost L R I J (vI (q_as s i k).1) (q_as s i k).2 Q) : wpC 96 [vR (some 243), vI i, vI k] (S0 L, R, I, J) Q := by
  have h6 := hw.2.2.2.1.1
  unfold q_as at hQ
  refine c_M_as.mpr ?_
  rw [k_isInst hw.2.2.2.1 hM.2.2.2.1]
  refine b_M_as_4.mpr ?_
  by_cases hc : 0 ≤ i ∧ i < (eN (sE s) : Int)
  · rw [if_neg (not_not_intro hc)] at hQ
    rw [if_neg (fun q => bi_0.mp q hc), k_within]
    refine b_M_as_14.mpr ?_
    by_cases h2 : 0 ≤ k ∧ k ≤ 4
    · rw [if_neg (not_not_intro h2)] at hQ
      rw [if_neg (fun q => bi_0.mp q h2)]
      refine ⟨⟨by omega, by omega⟩, ?_⟩
      obtain ⟨i', rfl⟩ := nat_of hc.1
      rw [Int.toNat_natCast] at hQ
      rw [(hM.2.2.2.1.2 i' (by omega)).1]
      by_cases k0 : k = 0
      · rw [if_pos k0]; rw [if_pos (Or.inl k0)] at hQ; exact hQ.t hM frM.rf
      · rw [if_neg k0]
        by_cases k1 : (eK (sE s) i' : Int) = k
        · rw [if_pos k1]; rw [if_pos (Or.inr (Or.inl k1))] at hQ; exact hQ.t hM frM.rf
        · rw [if_neg k1]
          by_cases k3 : k = 3
          · rw [if_pos k3]
            by_cases k4 : (eK (sE s) i' : Int) = 4
            · rw [if_pos k4]; rw [if_pos (Or.inr (Or.inr ⟨k3, by omega⟩))] at hQ; exact hQ.t hM frM.rf
            · rw [if_neg k4]; rw [if_neg (by omega)] at hQ; exact hQ.t hM frM.rf
          · rw [if_neg k3]; rw [if_neg (by omega)] at hQ; exact hQ.t hM frM.rf
    · rw [if_pos h2] at hQ
      rw [if_pos (bi_0.mpr h2)]
      exact hQ.t hM frM.rf
  · rw [if_pos hc] at hQ
    rw [if_pos (bi_0.mpr hc)]
    exact hQ.t hM frM.rf
theorem mtc_setK {E : EN} {kd : Nat → Nat} : fitB (setK E kd) = fitB E := rfl
theorem spc_setK {E : EN} {kd : Nat → Nat} : spc (setK E kd) = spc E := rfl
theorem m_change (hw : wfS s) (hM : MSt I s) {i k : Int} (hQ : mpost L R I J (vI (q_change s i k).1) (q_change s i k).2 Q) : wpC 97 [vR (some 243), vI i, vI k] (S0 L, R, I, J) Q := by
  have h6 := hw.2.2.2.1.1
  unfold q_change at hQ
  refine c_M_change.mpr ?_
  rw [k_isInst hw.2.2.2.1 hM.2.2.2.1]
  refine b_M_change_4.mpr ?_
  by_cases hc : 0 ≤ i ∧ i < (eN (sE s) : Int)
  · rw [if_neg (not_not_intro hc)] at hQ
    rw [if_neg (fun q => bi_0.mp q hc), k_within]
    refine b_M_change_14.mpr ?_
    by_cases h2 : 0 ≤ k ∧ k ≤ 4
    · rw [if_neg (not_not_intro h2)] at hQ
      rw [if_neg (fun q => bi_0.mp q h2)]
      refine ⟨⟨by omega, by omega⟩, ⟨by omega, by omega⟩, ?_⟩
      obtain ⟨i', rfl⟩ := nat_of hc.1
      obtain ⟨k', rfl⟩ := nat_of h2.1
      rw [Int.toNat_natCast, Int.toNat_natCast] at hQ
      rw [(hM.2.2.2.1.2 i' (by omega)).1]
      refine hQ _ _ ?_ (fun a ha => upM_ne (by omega)) (fun _ _ => rfl)
      obtain ⟨h1, h2, h3, h4, h5, h6, h7, h8⟩ := hM
      have g : ∀ a, a ≠ 246 → (upM I 246 (i' : Int) (k' : Int)) a = I a := fun a p1 => upM_ne p1
      refine ⟨⟨by rw [g 243 (by decide)]; exact h1.1, fun k hk => by rw [g 259 (by decide)]; exact h1.2 k hk⟩, by rw [g 243 (by decide)]; exact h2, h3.fr (by rw [g 243 (by decide)]) (g 244 (by decide)) (g 245 (by decide)), ⟨by rw [g 243 (by decide)]; exact h4.1, fun j hj => ?_⟩, ?_, fun k hk => ?_, ⟨by rw [g 243 (by decide)]; exact h7.1, fun k hk => by rw [g 256 (by decide), g 257 (by decide), g 258 (by decide)]; exact h7.2 k hk⟩, ?_⟩
      · obtain ⟨e1, e2⟩ := h4.2 j hj
        unfold HdW at *
        rw [g 247 (by decide), g 248 (by decide), g 249 (by decide), g 250 (by decide), g 251 (by decide), g 252 (by decide)]
        refine ⟨?_, e2⟩
        show upM I 246 (i' : Int) (k' : Int) 246 (j : Int) = ((if j = i' then k' else eK (sE s) j : Nat) : Int)
        by_cases hji : j = i'
        · rw [if_pos hji, hji, upM_same]
        · rw [if_neg hji, upM_i (by omega)]; exact e1
      · show SpM _ (setK (sE s) _)
        exact SpM.fr h5 (g 253 (by decide))
      · have := h6 k hk
        unfold SlW at *
        rw [g 254 (by decide), g 255 (by decide)]; exact this
      · unfold ImM at *
        rw [g 243 (by decide), g 283 (by decide), g 284 (by decide), g 285 (by decide), g 286 (by decide), g 287 (by decide), g 288 (by decide)]
        exact h8
    · rw [if_pos h2] at hQ
      rw [if_pos (bi_0.mpr h2)]
      exact hQ.t hM frM.rf
  · rw [if_pos hc] at hQ
    rw [if_pos (bi_0.mpr hc)]
    exact hQ.t hM frM.rf
theorem m_pair (hw : wfS s) (hM : MSt I s) (hU : uniOK (sE s)) {i e w : Int} (hQ : mpost L R I J (vI (q_pair s i e w).1) (q_pair s i e w).2 Q) : wpC 110 [vR (some 243), vI i, vI e, vI w] (S0 L, R, I, J) Q := by
  unfold q_pair at hQ
  refine c_M_pair.mpr ?_
  rw [k_isInst hw.2.2.2.1 hM.2.2.2.1]
  refine b_M_pair_4.mpr ?_
  by_cases hc : 0 ≤ i ∧ i < (eN (sE s) : Int)
  · rw [if_neg (not_not_intro hc)] at hQ
    rw [if_neg (fun q => bi_0.mp q hc), k_isInst hw.2.2.2.1 hM.2.2.2.1]
    refine b_M_pair_10.mpr ?_
    by_cases hd : 0 ≤ e ∧ e < (eN (sE s) : Int)
    · rw [if_neg (not_not_intro hd)] at hQ
      rw [if_neg (fun q => bi_0.mp q hd)]
      by_cases hie : i = e
      · rw [if_pos hie] at hQ ⊢
        exact hQ.t hM frM.rf
      · rw [if_neg hie] at hQ ⊢
        rw [k_within]
        refine b_M_pair_24.mpr ?_
        by_cases h2 : 0 ≤ w ∧ w ≤ 2
        · rw [if_neg (not_not_intro h2)] at hQ
          rw [if_neg (fun q => bi_0.mp q h2)]
          obtain ⟨i', rfl⟩ := nat_of hc.1
          obtain ⟨e', rfl⟩ := nat_of hd.1
          obtain ⟨w', rfl⟩ := nat_of h2.1
          rw [Int.toNat_natCast, Int.toNat_natCast, Int.toNat_natCast] at hQ
          refine k_pairNow hw hM hU (by omega) (by omega) (fun I' f => ?_)
          refine b_M_pair_35.mpr ?_
          have := hQ.t hM f
          by_cases hp : prN (sE s) i' e' w' = true
          · rw [if_neg (fun q => bi_0.mp q hp)]; rw [bi_t hp] at this; exact this
          · rw [if_pos (bi_0.mpr hp)]; rw [bi_f hp] at this; exact this
        · rw [if_pos h2] at hQ
          rw [if_pos (bi_0.mpr h2)]
          exact hQ.t hM frM.rf
    · rw [if_pos hd] at hQ
      rw [if_pos (bi_0.mpr hd)]
      exact hQ.t hM frM.rf
  · rw [if_pos hc] at hQ
    rw [if_pos (bi_0.mpr hc)]
    exact hQ.t hM frM.rf
theorem okS_ne (hw : wfS s) {k : Nat} (hk : k < 4) (hne : ¬ sL s k = []) : wfN (sL s k) 1 = true ∧ (sL s k).length ≤ 9 := by
  rcases hw.2.2.2.2.1 k hk with h | h
  · exact absurd h hne
  · exact h
theorem m_fits (hw : wfS s) (hM : MSt I s) {i k : Int} (hQ : mpost L R I J (vI (q_fits s i k).1) (q_fits s i k).2 Q) : wpC 111 [vR (some 243), vI i, vI k] (S0 L, R, I, J) Q := by
  have h6 := hw.2.2.2.1.1
  unfold q_fits at hQ
  refine c_M_fits.mpr ?_
  rw [k_isInst hw.2.2.2.1 hM.2.2.2.1]
  refine b_M_fits_4.mpr ?_
  by_cases hc : 0 ≤ i ∧ i < (eN (sE s) : Int)
  · rw [if_neg (not_not_intro hc)] at hQ
    rw [if_neg (fun q => bi_0.mp q hc), k_isFilled hM.2.2.2.2.2.1]
    refine b_M_fits_10.mpr ?_
    by_cases hd : (0 ≤ k ∧ k < 4) ∧ ¬ sL s k.toNat = []
    · rw [if_neg (not_not_intro hd)] at hQ
      rw [if_neg (fun q => bi_0.mp q hd)]
      obtain ⟨i', rfl⟩ := nat_of hc.1
      obtain ⟨k', rfl⟩ := nat_of hd.1.1
      rw [Int.toNat_natCast, Int.toNat_natCast] at hQ
      rw [Int.toNat_natCast] at hd
      obtain ⟨hu, hl⟩ := okS_ne hw (k := k') (by omega) hd.2
      refine k_laySlot (by omega) hu hl (hM.2.2.2.2.2.1 k' (by omega)) (fun I1 f1 n1 s1 => ?_)
      refine b_M_fits_19.mpr ?_
      have hi' : i' < eN (sE s) := by omega
      obtain ⟨_, _, hhw, hhl, _⟩ := hw.2.2.2.1.2 i' hi'
      have hpos : 0 < (sL s k').length := List.length_pos_iff.mpr hd.2
      refine k_fitsAt (p := 0) (by omega) hhl hhw hu hl hpos ((f1.en hM.2.2.2.1).2 i' hi').2.2.1 n1 s1 (fun I2 f2 => ?_)
      rw [sub_all hu]
      have hq := hQ.t hM (f1.m.tr (fr1.m f2 (by decide) (by decide)))
      unfold fitB at hq
      cases hm : mtc (eH (sE s) i') (sL s k') [] [] with
      | none =>
        simp only
        refine b_M_fits_24.mpr ?_
        rw [if_pos rfl]
        rw [hm, bi_f (by decide)] at hq; exact hq
      | some ab =>
        simp only
        intro _
        refine b_M_fits_24.mpr ?_
        rw [if_neg (by decide)]
        rw [hm, bi_t (c := (some ab).isSome = true) rfl] at hq; exact hq
    · rw [if_pos hd] at hQ
      rw [if_pos (bi_0.mpr hd)]
      exact hQ.t hM frM.rf
  · rw [if_pos hc] at hQ
    rw [if_pos (bi_0.mpr hc)]
    exact hQ.t hM frM.rf
/-- a slot's type and its goals are laid -/
theorem k_layAll (hw : wfS s) (hM : MSt I s) {k : Nat} (hk : k < 4) (hne : ¬ sL s k = []) {Q1 : Option MV → MM → Prop} {kk jj : Nat} {ls : List MV} (hrow : ∀ I', wpC 79 [vR (some 243)] (S0 L, R, I', J) Q1 → wpc kk jj ls [] (0, 0) (S0 L, R, I', J) Q) (hQ : ∀ I', frY I I' → LayM I' s (sL s k) → Q1 none (S0 L, R, I', J)) : wpC 66 [vR (some 243), vI (k : Int)] (S0 L, R, I, J) (fun v M2 => wpc kk jj ls (v.toList ++ []) (0, 0) M2 Q) := by
  obtain ⟨hu, hl⟩ := okS_ne hw hk hne
  obtain ⟨_, _, mC, mE, mS, mL, _⟩ := hM
  refine k_laySlot hk hu hl (mL k hk) (fun I1 f1 n1 s1 => ?_)
  refine hrow I1 ?_
  refine k_layGoals hw.2.2.2.1 hw.2.2.1.1 hu hl (by rw [f1.2 1 (by decide)]; exact mC.1) (f1.en mE) (mS.fr (f1.1 253 (by decide) (by decide) (by decide))) n1 s1 (fun I2 f2 hT => ?_)
  exact hQ I2 (frWT f1 f2) ⟨n1.fr (by rw [f2 243 (by omega)]) (f2 267 (by omega)), s1.fr (f2 268 (by omega)), hT⟩
theorem m_goal (hw : wfS s) (hM : MSt I s) {c k w : Int} (hQ : mpost L R I J (vI (q_goal s c k w).1) (q_goal s c k w).2 Q) : wpC 113 [vR (some 243), vI c, vI k, vI w] (S0 L, R, I, J) Q := by
  unfold q_goal at hQ
  refine c_M_goal.mpr ?_
  rw [k_isClass hw.2.2.1.1 hM.2.2.1.1]
  refine b_M_goal_4.mpr ?_
  by_cases hc : 0 ≤ c ∧ c < (sC s : Int)
  · rw [if_neg (not_not_intro hc)] at hQ
    rw [if_neg (fun q => bi_0.mp q hc), k_isFilled hM.2.2.2.2.2.1]
    refine b_M_goal_10.mpr ?_
    by_cases hd : (0 ≤ k ∧ k < 4) ∧ ¬ sL s k.toNat = []
    · rw [if_neg (not_not_intro hd)] at hQ
      rw [if_neg (fun q => bi_0.mp q hd), k_within]
      refine b_M_goal_20.mpr ?_
      by_cases h2 : 0 ≤ w ∧ w ≤ 6
      · rw [if_neg (not_not_intro h2)] at hQ
        rw [if_neg (fun q => bi_0.mp q h2)]
        obtain ⟨c', rfl⟩ := nat_of hc.1
        obtain ⟨k', rfl⟩ := nat_of hd.1.1
        obtain ⟨w', rfl⟩ := nat_of h2.1
        rw [Int.toNat_natCast, Int.toNat_natCast, Int.toNat_natCast] at hQ
        rw [Int.toNat_natCast] at hd
        obtain ⟨hu, hl⟩ := okS_ne hw (k := k') (by omega) hd.2
        refine k_layAll hw hM (by omega) hd.2 (fun I' h => b_M_goal_29.mpr h) (fun I1 f1 hL => ?_)
        refine b_M_goal_32.mpr ?_
        refine k_goalNow hw (hM.fr f1.m) hu hl hL (by omega) (fun I2 f2 => ?_)
        exact b_M_goal_37.mpr (hQ.t hM (f1.m.tr (fr1.m f2 (by decide) (by decide))))
      · rw [if_pos h2] at hQ
        rw [if_pos (bi_0.mpr h2)]
        exact hQ.t hM frM.rf
    · rw [if_pos hd] at hQ
      rw [if_pos (bi_0.mpr hd)]
      exact hQ.t hM frM.rf
  · rw [if_pos hc] at hQ
    rw [if_pos (bi_0.mpr hc)]
    exact hQ.t hM frM.rf
theorem m_entry (hw : wfS s) (hM : MSt I s) {c k p : Int} (hQ : mpost L R I J (vI (q_entry s c k p).1) (q_entry s c k p).2 Q) : wpC 114 [vR (some 243), vI c, vI k, vI p] (S0 L, R, I, J) Q := by
  have hC4 := hw.2.2.1.1
  unfold q_entry at hQ
  refine c_M_entry.mpr ?_
  rw [k_isClass hw.2.2.1.1 hM.2.2.1.1]
  refine b_M_entry_4.mpr ?_
  by_cases hc : 0 ≤ c ∧ c < (sC s : Int)
  · rw [if_neg (not_not_intro hc)] at hQ
    rw [if_neg (fun q => bi_0.mp q hc), k_isFilled hM.2.2.2.2.2.1]
    refine b_M_entry_10.mpr ?_
    by_cases hd : (0 ≤ k ∧ k < 4) ∧ ¬ sL s k.toNat = []
    · rw [if_neg (not_not_intro hd)] at hQ
      rw [if_neg (fun q => bi_0.mp q hd)]
      obtain ⟨c', rfl⟩ := nat_of hc.1
      obtain ⟨k', rfl⟩ := nat_of hd.1.1
      rw [Int.toNat_natCast, Int.toNat_natCast] at hQ
      rw [Int.toNat_natCast] at hd
      obtain ⟨hu, hl⟩ := okS_ne hw (k := k') (by omega) hd.2
      refine k_layAll hw hM (by omega) hd.2 (fun I' h => b_M_entry_19.mpr h) (fun I1 f1 hL => ?_)
      refine b_M_entry_22.mpr ?_
      have e9 : w32 (9 * (c' : Int)) = ((9 * c' : Nat) : Int) := by rw [w32_eq (by omega) (by omega)]; omega
      have hpos : 0 < (sL s k').length := List.length_pos_iff.mpr hd.2
      have hG := (hL.2.2 0 c' hpos (by omega)).root hu
      have hq := hQ.t hM f1.m
      rw [e9, hG.1]
      refine ⟨⟨by omega, by omega⟩, ?_⟩
      by_cases h1 : (G (sE s) c' (sL s k')).1 = 1
      · rw [if_neg (not_not_intro h1)] at hq
        have hb : ((G (sE s) c' (sL s k')).2.1.length : Int) + 1 ≤ 512 := (G_ok hw.2.2.2.1 hC4 9 c' _ hu hl (by omega)).2.1
        rw [if_pos h1, (hG.2 h1).1, w32_eq (by omega) (by omega), k_within]
        refine ⟨⟨by omega, by omega⟩, ?_⟩
        refine b_M_entry_43.mpr ?_
        by_cases hp : 0 ≤ p ∧ p < ((G (sE s) c' (sL s k')).2.1.length : Int)
        · rw [if_neg (not_not_intro hp)] at hq
          obtain ⟨p', rfl⟩ := nat_of hp.1
          rw [Int.toNat_natCast] at hq
          rw [if_neg (fun q => bi_0.mp q (by omega))]
          refine k_entryAt hw.2.2.2.1 hC4 hu hl hL.2.2 (by omega) h1 (by omega) ?_
          exact b_M_entry_50.mpr hq
        · rw [if_pos hp] at hq
          rw [if_pos (bi_0.mpr (by omega))]
          exact hq
      · rw [if_pos h1] at hq
        rw [if_neg h1]
        exact hq
    · rw [if_pos hd] at hQ
      rw [if_pos (bi_0.mpr hd)]
      exact hQ.t hM frM.rf
  · rw [if_pos hc] at hQ
    rw [if_pos (bi_0.mpr hc)]
    exact hQ.t hM frM.rf
theorem m_need (hw : wfS s) (hM : MSt I s) {c k n v : Int} (hQ : mpost L R I J (vI (q_need s c k n v).1) (q_need s c k n v).2 Q) : wpC 115 [vR (some 243), vI c, vI k, vI n, vI v] (S0 L, R, I, J) Q := by
  have hC4 := hw.2.2.1.1
  unfold q_need at hQ
  refine c_M_need.mpr ?_
  rw [k_isClass hw.2.2.1.1 hM.2.2.1.1]
  refine b_M_need_4.mpr ?_
  by_cases hc : 0 ≤ c ∧ c < (sC s : Int)
  · rw [if_neg (not_not_intro hc)] at hQ
    rw [if_neg (fun q => bi_0.mp q hc), k_isFilled hM.2.2.2.2.2.1]
    refine b_M_need_10.mpr ?_
    by_cases hd : (0 ≤ k ∧ k < 4) ∧ ¬ sL s k.toNat = []
    · rw [if_neg (not_not_intro hd)] at hQ
      rw [if_neg (fun q => bi_0.mp q hd), k_isClass hw.2.2.1.1 hM.2.2.1.1]
      refine b_M_need_19.mpr ?_
      by_cases hn : 0 ≤ n ∧ n < (sC s : Int)
      · rw [if_neg (not_not_intro hn)] at hQ
        rw [if_neg (fun q => bi_0.mp q hn), k_within]
        refine b_M_need_26.mpr ?_
        by_cases hv : 0 ≤ v ∧ v ≤ 1
        · rw [if_neg (not_not_intro hv)] at hQ
          rw [if_neg (fun q => bi_0.mp q hv)]
          obtain ⟨c', rfl⟩ := nat_of hc.1
          obtain ⟨k', rfl⟩ := nat_of hd.1.1
          obtain ⟨n', rfl⟩ := nat_of hn.1
          obtain ⟨v', rfl⟩ := nat_of hv.1
          rw [Int.toNat_natCast, Int.toNat_natCast, Int.toNat_natCast, Int.toNat_natCast] at hQ
          rw [Int.toNat_natCast] at hd
          obtain ⟨hu, hl⟩ := okS_ne hw (k := k') (by omega) hd.2
          refine k_layAll hw hM (by omega) hd.2 (fun I' h => b_M_need_35.mpr h) (fun I1 f1 hL => ?_)
          refine b_M_need_38.mpr ?_
          have e9 : w32 (9 * (c' : Int)) = ((9 * c' : Nat) : Int) := by rw [w32_eq (by omega) (by omega)]; omega
          have hpos : 0 < (sL s k').length := List.length_pos_iff.mpr hd.2
          have hG := (hL.2.2 0 c' hpos (by omega)).root hu
          have hnd := G_nd hw.2.2.2.1 9 c' _ hu hl (show c' < sC s by omega)
          have hq := hQ.t hM f1.m
          have e3 : w32 (w32 (2 * (n' : Int)) + (v' : Int)) = ((2 * n' + v' : Nat) : Int) := by
            rw [w32_eq (z := 2 * (n' : Int)) (by omega) (by omega), w32_eq (by omega) (by omega)]; omega
          have hend : ∀ a : Nat, a = ndN s c' (sL s k') → a < 2 ^ (2 * sC s) → wpc 115 57 [vR (some 243), vU, vU, vI (n' : Int), vI (v' : Int), vU, vU, vU] [vI (a : Int)] (0, 0) (S0 L, R, I1, J) Q := by
            intro a ha hal
            rw [← ha] at hq
            refine b_M_need_57.mpr ?_
            rw [e3]
            refine k_plainOf hw.2.2.1 (f1.cl hM.2.2.1) hal ?_
            refine b_M_need_68.mpr ?_
            rw [k_isIn (pln_lt _ _) (by omega)]
            refine b_M_need_71.mpr ?_
            by_cases hp : (pln (sA s) a).testBit (2 * n' + v') = true
            · rw [if_neg (fun q => bi_0.mp q hp)]
              rw [if_pos hp] at hq; exact hq
            · rw [if_pos (bi_0.mpr hp), k_isIn (nd_lt hal hC4) (by omega)]
              rw [if_neg hp] at hq
              refine b_M_need_80.mpr ?_
              by_cases hb : a.testBit (2 * n' + v') = true
              · rw [if_neg (fun q => bi_0.mp q hb)]
                rw [if_pos hb] at hq; exact hq
              · rw [if_pos (bi_0.mpr hb)]
                rw [if_neg hb] at hq; exact hq
          rw [e9, hG.1]
          refine ⟨⟨by omega, by omega⟩, ?_⟩
          by_cases h1 : (G (sE s) c' (sL s k')).1 = 1
          · rw [if_pos h1, (hG.2 h1).2.2.2]
            exact ⟨⟨by omega, by omega⟩, hend _ (by unfold ndN; rw [if_pos h1]) hnd⟩
          · rw [if_neg h1]
            exact hend 0 (by unfold ndN; rw [if_neg h1]) (Nat.two_pow_pos _)
        · rw [if_pos hv] at hQ
          rw [if_pos (bi_0.mpr hv)]
          exact hQ.t hM frM.rf
      · rw [if_pos hn] at hQ
        rw [if_pos (bi_0.mpr hn)]
        exact hQ.t hM frM.rf
    · rw [if_pos hd] at hQ
      rw [if_pos (bi_0.mpr hd)]
      exact hQ.t hM frM.rf
  · rw [if_pos hc] at hQ
    rw [if_pos (bi_0.mpr hc)]
    exact hQ.t hM frM.rf
end MPb
