-- ===== the class: two heads are laid side by side; whether they can be one =====
section XMf
variable {L : Nat} {R : Nat → Int → Option Nat} {I : Nat → Int → Int} {J : Nat → Int → Int64} {Q : Option MV → MM → Prop} {h1 h2 : List Nat}
def NdD (I : Nat → Int → Int) (h1 h2 : List Nat) (P : Nat → Prop) : Prop := ∀ n : Nat, n < 10 → (P n → I 107 (n : Int) = (cS h1 h2 n : Int) ∧ I 109 (n : Int) = pNd (cF h1 h2 n) ∧ I 110 (n : Int) = pNd (cP h1 h2 n)) ∧ (¬ P n → I 107 (n : Int) = 0 ∧ I 109 (n : Int) = -1 ∧ I 110 (n : Int) = -1)
theorem NdD.fr {I' : Nat → Int → Int} {P : Nat → Prop} (h : NdD I h1 h2 P) (f1 : I' 107 = I 107) (f2 : I' 109 = I 109) (f3 : I' 110 = I 110) : NdD I' h1 h2 P := fun n hn => by rw [f1, f2, f3]; exact h n hn
theorem cQ_len (h : List Nat) (off : Nat) : ∀ p : Nat, (cQ h off p).length ≤ p := by
  intro p
  induction p with
  | zero => exact Nat.le_refl _
  | succ p ih =>
    unfold cQ
    rw [List.length_append]
    split
    · rw [List.length_nil]; omega
    · rw [List.length_singleton]; omega
theorem ld_loop {a off : Nat} {h : List Nat} {q0 : List (Nat × Nat)} {P0 : Nat → Prop} (ha : isSh a) (haa : a + 3 < 106 ∨ 113 < a) (hw : wfN h 1 = true) (hl : h.length ≤ 5) (ho : off ≤ 5) (hx : ∀ p, p < h.length → uL h1 h2 (off + p) = h.getD p 0 ∧ cP h1 h2 (off + p) = if 1 < pts (h.getD p 0) then off + en h (p + 1) else 15) (h0 : ∀ n, off ≤ n → n < off + h.length → ¬ P0 n) (hq0 : q0.length ≤ 10) : ∀ (d p t : Nat) {I : Nat → Int → Int}, d + p = h.length → StI I → ShS I a h → NdD I h1 h2 (fun n => P0 n ∨ (off ≤ n ∧ n < off + p)) → QuM I (q0 ++ cQ h off p) 0 t → (∀ I' t', frN I I' → I' 108 = I 108 → NdD I' h1 h2 (fun n => P0 n ∨ (off ≤ n ∧ n < off + h.length)) → QuM I' (q0 ++ cQ h off h.length) 0 t' → Q none (S0 L, R, I', J)) → wpc 179 3 [vR (some 106), vR (some a), vI (off : Int), vI (p : Int), vU, vU] [] (0, 0) (S0 L, R, I, J) Q := by
  intro d
  induction d with
  | zero =>
    intro p t I hd hT hS hN hq hQ
    refine (b_Meeting_load_3 ha).mpr ?_
    rw [hS.1.1, if_neg (by omega)]
    have : p = h.length := by omega
    subst this
    exact hQ I t frN.rf rfl hN hq
  | succ d ih =>
    intro p t I hd hT hS hN hq hQ
    have hp : p < h.length := by omega
    obtain ⟨x1, x2⟩ := hx p hp
    have h6 : h.getD p 0 < 6 := by
      obtain ⟨m, hm⟩ := wf_at hw hp
      rw [drop_get hp] at hm
      exact (wf_cons.mp hm).1
    have hcs : cS h1 h2 (off + p) = h.getD p 0 := by unfold cS; rw [x1, if_pos h6]
    have hcf : cF h1 h2 (off + p) = if 0 < pts (h.getD p 0) then off + p + 1 else 15 := by
      unfold cF; rw [x1]
      by_cases hz : 0 < pts (h.getD p 0)
      · rw [if_pos ⟨h6, hz⟩, if_pos hz]
      · rw [if_neg (fun q => hz q.2), if_neg hz]
    have hno : ¬ (P0 (off + p) ∨ (off ≤ off + p ∧ off + p < off + p)) := fun q => q.elim (h0 _ (by omega) (by omega)) (fun q => by omega)
    obtain ⟨i1, i2, i3⟩ := (hN (off + p) (by omega)).2 hno
    have hlq := hq.2.1
    rw [List.length_append] at hlq
    have hcl := cQ_len h off p
    refine (b_Meeting_load_3 ha).mpr ?_
    rw [hS.1.1, if_pos (by omega), hS.1.2 p hp, w32_eq (by omega) (by omega)]
    refine ⟨⟨by omega, by omega⟩, ⟨by omega, by omega⟩, ?_⟩
    rw [show ((off : Int) + (p : Int)) = ((off + p : Nat) : Int) by omega]
    have T1 : StI (upM I 107 ((off + p : Nat) : Int) (h.getD p 0 : Int)) := by
      obtain ⟨t1, t2⟩ := hT
      exact ⟨fun s hs => by rw [upM_ne (by decide)]; exact t1 s hs, by rw [upM_ne (by decide)]; exact t2⟩
    refine (x_partsOf T1 h6).mpr ?_
    refine (b_Meeting_load_25 ha).mpr ?_
    -- the second half, whatever 109 has got
    have rest : ∀ {I2 : Nat → Int → Int}, (∀ b, b ≠ 107 → b ≠ 109 → I2 b = I b) → (∀ n : Int, n ≠ ((off + p : Nat) : Int) → I2 107 n = I 107 n ∧ I2 109 n = I 109 n) → I2 107 ((off + p : Nat) : Int) = (cS h1 h2 (off + p) : Int) → I2 109 ((off + p : Nat) : Int) = pNd (cF h1 h2 (off + p)) → wpc 179 35 [vR (some 106), vR (some a), vI (off : Int), vI (p : Int), vI ((off + p : Nat) : Int), vI (h.getD p 0 : Int)] [] (0, 0) (S0 L, R, I2, J) Q := by
      intro I2 g1 g2 g3 g4
      have T2 : StI I2 := by
        obtain ⟨t1, t2⟩ := hT
        exact ⟨fun s hs => by rw [g1 2 (by decide) (by decide)]; exact t1 s hs, by rw [g1 1 (by decide) (by decide)]; exact t2⟩
      have S2 : ShS I2 a h := hS.fr (by rw [g1 a (by omega) (by omega)]) (g1 _ (by omega) (by omega)) (g1 _ (by omega) (by omega)) (g1 _ (by omega) (by omega))
      refine (b_Meeting_load_35 ha).mpr ?_
      refine (x_partsOf T2 h6).mpr ?_
      refine (b_Meeting_load_38 ha).mpr ?_
      -- behind the second part
      have fin : ∀ {I3 : Nat → Int → Int}, (∀ b, b ≠ 110 → I3 b = I2 b) → (∀ n : Int, n ≠ ((off + p : Nat) : Int) → I3 110 n = I2 110 n) → I3 110 ((off + p : Nat) : Int) = pNd (cP h1 h2 (off + p)) → (if I3 (a + 3) (p : Int) = (p : Int) then wpc 179 71 [vR (some 106), vR (some a), vI (off : Int), vI (p : Int), vU, vU] [] (0, 0) (S0 L, R, I3, J) Q else (0 ≤ (p : Int) ∧ (p : Int) < 9) ∧ (wpC 180 [vR (some 106), vI (w32 ((off : Int) + (I3 (a + 3) (p : Int)))), vI ((off + p : Nat) : Int)] (S0 L, R, I3, J) (fun v M2 => wpc 179 71 [vR (some 106), vR (some a), vI (off : Int), vI (p : Int), vU, vU] (v.toList ++ []) (0, 0) M2 Q))) := by
        intro I3 k1 k2 k3
        have S3 : ShS I3 a h := S2.fr (by rw [k1 a (by omega)]) (k1 _ (by omega)) (k1 _ (by omega)) (k1 _ (by omega))
        have T3 : StI I3 := by
          obtain ⟨t1, t2⟩ := T2
          exact ⟨fun s hs => by rw [k1 2 (by decide)]; exact t1 s hs, by rw [k1 1 (by decide)]; exact t2⟩
        have F3 : frN I I3 := ⟨fun b hb => by rw [k1 b (by omega), g1 b (by omega) (by omega)], fun j _ => by rw [k1 106 (by decide), g1 106 (by decide) (by decide)]⟩
        have q3 : QuM I3 (q0 ++ cQ h off p) 0 t := hq.fr (by rw [k1 106 (by decide), g1 106 (by decide) (by decide)]) (by rw [k1 112 (by decide), g1 112 (by decide) (by decide)]) (by rw [k1 113 (by decide), g1 113 (by decide) (by decide)])
        have N3 : NdD I3 h1 h2 (fun n => P0 n ∨ (off ≤ n ∧ n < off + (p + 1))) := by
          intro n hn
          by_cases hnp : n = off + p
          · subst hnp
            refine ⟨fun _ => ⟨?_, ?_, k3⟩, fun q => absurd (Or.inr ⟨by omega, by omega⟩) q⟩
            · rw [k1 107 (by decide)]; exact g3
            · rw [k1 109 (by decide)]; exact g4
          · have hni : (n : Int) ≠ ((off + p : Nat) : Int) := by omega
            rw [k1 107 (by decide), k1 109 (by decide), (g2 _ hni).1, (g2 _ hni).2, k2 _ hni, g1 110 (by decide) (by decide)]
            refine ⟨fun q => (hN n hn).1 ?_, fun q => (hN n hn).2 ?_⟩
            · rcases q with q | q
              · exact Or.inl q
              · exact Or.inr ⟨q.1, by omega⟩
            · intro q'
              apply q
              rcases q' with q' | q'
              · exact Or.inl q'
              · exact Or.inr ⟨q'.1, by omega⟩
        rw [(S3.2 p hp).2]
        have hf := (fsP_ok h p).1
        by_cases he : fsP h p = p
        · rw [if_pos (by omega)]
          refine (b_Meeting_load_71 ha).mpr ?_
          rw [w32_s (by omega)]
          refine ih (p + 1) t (by omega) T3 S3 N3 ?_ (fun I' t' f1 f2 n1 q1 => hQ I' t' (F3.tr f1) (by rw [f2, k1 108 (by decide), g1 108 (by decide) (by decide)]) n1 q1)
          show QuM I3 (q0 ++ (cQ h off p ++ (if fsP h p = p then [] else [(off + fsP h p, off + p)]))) 0 t
          rw [if_pos he, List.append_nil]
          exact q3
        · rw [if_neg (by omega), w32_eq (by omega) (by omega), show ((off : Int) + (fsP h p : Int)) = ((off + fsP h p : Nat) : Int) by omega]
          refine ⟨⟨by omega, by omega⟩, ?_⟩
          have e1 : ((off + fsP h p : Nat) : Int) = pNd (off + fsP h p) := by unfold pNd; rw [if_pos (by omega)]
          have e2 : ((off + p : Nat) : Int) = pNd (off + p) := by unfold pNd; rw [if_pos (by omega)]
          rw [e1, e2]
          refine x_expect q3 (by omega) (fun I4 f4 q4 => ?_)
          refine (b_Meeting_load_71 ha).mpr ?_
          rw [w32_s (by omega)]
          have hc : cNew (off + fsP h p) (off + p) = [(off + fsP h p, off + p)] := by unfold cNew; rw [if_pos ⟨by omega, by omega⟩]
          refine ih (p + 1) (t + 1) (by omega) ?_ (S3.fr ?_ (f4.1 _ (by omega) (by omega) (by omega)) (f4.1 _ (by omega) (by omega) (by omega)) (f4.1 _ (by omega) (by omega) (by omega))) (N3.fr (f4.1 107 (by decide) (by decide) (by decide)) (f4.1 109 (by decide) (by decide) (by decide)) (f4.1 110 (by decide) (by decide) (by decide))) ?_ (fun I' t' f1 f2 n1 q1 => hQ I' t' ((F3.tr f4.n).tr f1) (by rw [f2, f4.1 108 (by decide) (by decide) (by decide), k1 108 (by decide), g1 108 (by decide) (by decide)]) n1 q1)
          · obtain ⟨t1, t2⟩ := T3
            exact ⟨fun s hs => by rw [f4.1 2 (by decide) (by decide) (by decide)]; exact t1 s hs, by rw [f4.1 1 (by decide) (by decide) (by decide)]; exact t2⟩
          · rw [f4.1 a (by omega) (by omega) (by omega)]
          · show QuM I4 (q0 ++ (cQ h off p ++ (if fsP h p = p then [] else [(off + fsP h p, off + p)]))) 0 (t + 1)
            rw [if_neg he, ← List.append_assoc]
            rw [hc] at q4
            exact q4
      by_cases h1p : 1 < pts (h.getD p 0)
      · rw [if_neg (by omega), w32_s (by omega)]
        have hin : p + 1 < h.length := by
          have := parts_in (j := 0) hw hp (by omega)
          rw [tl_zero] at this
          exact this
        have hen := en_le (w := h) (p := p + 1) (by omega)
        have hlt : p + 1 < en h (p + 1) := en_gt hin
        -- the part behind the first part is still within
        have hen2 : en h (p + 1) < h.length := by
          have := parts_in (j := 1) hw hp h1p
          have e : p + 1 + tl (h.drop (p + 1)) 1 = en h (p + 1) := rfl
          omega
        refine (x_endOf ha S2.1 (by omega) hin).mpr ?_
        rw [(S2.2 (p + 1) hin).1]
        refine (b_Meeting_load_51 ha).mpr ⟨⟨by omega, by omega⟩, ⟨by omega, by omega⟩, ?_⟩
        rw [w32_eq (by omega) (by omega)]
        refine fin (fun b hb => upM_ne hb) (fun n hn => upM_i hn) ?_
        rw [upM_same, x2, if_pos h1p]
        unfold pNd
        rw [if_pos (by omega)]
        omega
      · rw [if_pos (by omega)]
        refine ⟨⟨by omega, by omega⟩, ?_⟩
        refine fin (fun b hb => rfl) (fun n hn => rfl) ?_
        rw [x2, if_neg h1p, g1 110 (by decide) (by decide), i3]
        rfl
    by_cases hz : 0 < pts (h.getD p 0)
    · rw [if_neg (by omega), w32_s (by omega)]
      have hin : p + 1 < h.length := by
        have := parts_in (j := 0) hw hp (by omega)
        rw [tl_zero] at this
        exact this
      refine ⟨⟨by omega, by omega⟩, ?_⟩
      refine rest (fun b b1 b2 => by rw [upM_ne b2, upM_ne b1]) (fun n hn => ⟨by rw [upM_ne (by decide), upM_i hn], by rw [upM_i hn, upM_ne (by decide)]⟩) ?_ ?_
      · rw [upM_ne (by decide), upM_same, hcs]
      · rw [upM_same, hcf, if_pos hz]; unfold pNd; rw [if_pos (by omega)]
    · rw [if_pos (by omega)]
      refine rest (fun b b1 b2 => by rw [upM_ne b1]) (fun n hn => ⟨by rw [upM_i hn], by rw [upM_ne (by decide)]⟩) ?_ ?_
      · rw [upM_same, hcs]
      · rw [upM_ne (by decide), i2, hcf, if_neg hz]; rfl
theorem ip_init {a1 a2 : Nat} (ha1 : isSh a1) (ha2 : isSh a2) : ∀ (d n : Nat) {I : Nat → Int → Int}, d + n = 10 → (∀ k : Nat, k < n → I 108 (k : Int) = (k : Int) ∧ I 107 (k : Int) = 0 ∧ I 109 (k : Int) = -1 ∧ I 110 (k : Int) = -1) → (∀ I', frN I I' → (∀ k : Nat, k < 10 → I' 108 (k : Int) = (k : Int) ∧ I' 107 (k : Int) = 0 ∧ I' 109 (k : Int) = -1 ∧ I' 110 (k : Int) = -1) → wpC 179 [vR (some 106), vR (some a1), vI 0] (S0 L, R, upM I' 106 7 0, J) (fun v M2 => wpc 178 51 [vR (some 106), vU, vR (some a2), vU] (v.toList ++ []) (0, 0) M2 Q)) → wpc 178 16 [vR (some 106), vR (some a1), vR (some a2), vI (n : Int)] [] (0, 0) (S0 L, R, I, J) Q := by
  intro d
  induction d with
  | zero =>
    intro n I hd h hQ
    refine (b_Meeting_isPossible_16 ha1 ha2).mpr ?_
    rw [if_neg (by omega)]
    exact hQ I frN.rf (fun k hk => h k (by omega))
  | succ d ih =>
    intro n I hd h hQ
    refine (b_Meeting_isPossible_16 ha1 ha2).mpr ?_
    rw [if_pos (by omega), w32_s (by omega)]
    refine ⟨⟨by omega, by omega⟩, ⟨by omega, by omega⟩, ⟨by omega, by omega⟩, ⟨by omega, by omega⟩, ?_⟩
    refine ih (n + 1) (by omega) ?_ (fun I' f1 g => hQ I' (frN.tr ⟨fun a ha => by rw [upM_ne (by omega), upM_ne (by omega), upM_ne (by omega), upM_ne (by omega)], fun j _ => by rw [upM_ne (by decide), upM_ne (by decide), upM_ne (by decide), upM_ne (by decide)]⟩ f1) g)
    intro k hk
    by_cases hkn : k = n
    · subst hkn
      refine ⟨?_, ?_, ?_, ?_⟩
      · rw [upM_ne (by decide), upM_ne (by decide), upM_ne (by decide), upM_same]
      · rw [upM_ne (by decide), upM_ne (by decide), upM_same]
      · rw [upM_ne (by decide), upM_same]
      · rw [upM_same]
    · have hni : (k : Int) ≠ (n : Int) := by omega
      obtain ⟨g1, g2, g3, g4⟩ := h k (by omega)
      refine ⟨?_, ?_, ?_, ?_⟩
      · rw [upM_ne (by decide), upM_ne (by decide), upM_ne (by decide), upM_i hni]; exact g1
      · rw [upM_ne (by decide), upM_ne (by decide), upM_i hni, upM_ne (by decide)]; exact g2
      · rw [upM_ne (by decide), upM_i hni, upM_ne (by decide), upM_ne (by decide)]; exact g3
      · rw [upM_i hni, upM_ne (by decide), upM_ne (by decide), upM_ne (by decide)]; exact g4
theorem ce_init : ∀ (d n : Nat) {I : Nat → Int → Int}, d + n = 10 → (∀ k : Nat, k < n → I 111 (k : Int) = bi ((0 : Nat).testBit k = true)) → (∀ I', (∀ a, a ≠ 111 → I' a = I a) → EdM I' 0 → wpc 184 18 [vR (some 106), vI 0, vU] [] (0, 0) (S0 L, R, I', J) Q) → wpc 184 3 [vR (some 106), vI (n : Int), vU] [] (0, 0) (S0 L, R, I, J) Q := by
  intro d
  induction d with
  | zero =>
    intro n I hd h hQ
    refine b_Meeting_comesToAnEnd_3.mpr ?_
    rw [if_neg (by omega)]
    exact hQ I (fun _ _ => rfl) (fun k hk => h k (by omega))
  | succ d ih =>
    intro n I hd h hQ
    refine b_Meeting_comesToAnEnd_3.mpr ?_
    rw [if_pos (by omega), w32_s (by omega)]
    refine ⟨⟨by omega, by omega⟩, ih (n + 1) (by omega) ?_ (fun I' f1 g => hQ I' (fun a ha => by rw [f1 a ha, upM_ne ha]) g)⟩
    intro k hk
    have hz : (bi ((0 : Nat).testBit k = true)) = 0 := by rw [Nat.zero_testBit]; rfl
    by_cases hkn : k = n
    · subst hkn; rw [upM_same, hz]; decide
    · rw [upM_i (by omega)]; exact h k (by omega)
theorem x_isPossible {a1 a2 : Nat} {b : Bool} (ha1 : isSh a1) (ha2 : isSh a2) (hb1 : a1 + 3 < 106 ∨ 113 < a1) (hb2 : a2 + 3 < 106 ∨ 113 < a2) (hw1 : wfN h1 1 = true) (hw2 : wfN h2 1 = true) (hl1 : h1.length ≤ 5) (hl2 : h2.length ≤ 5) (hT : StI I) (hS1 : ShS I a1 h1) (hS2 : ShS I a2 h2) (hm : met h1 h2 = some b) (hQ : ∀ I', frN I I' → Q (some (vI (bi (b = true)))) (S0 L, R, I', J)) : wpC 178 [vR (some 106), vR (some a1), vR (some a2)] (S0 L, R, I, J) Q := by
  refine (c_Meeting_isPossible ha1 ha2).mpr ?_
  rw [hS1.1.1, hS2.1.1, if_pos (by omega), if_pos (by omega)]
  refine ip_init ha1 ha2 10 0 rfl (fun k hk => absurd hk (by omega)) (fun I1 f1 g1 => ?_)
  have f2 : frN I (upM I1 106 7 0) := f1.tr ⟨fun a ha => upM_ne (by omega), fun j hj => upM_i hj⟩
  have e2 : ∀ a, a ≠ 106 → (upM I1 106 7 0) a = I1 a := fun a ha => upM_ne ha
  have g2 : QuM (upM I1 106 7 0) ([] ++ cQ h1 0 0) 0 0 := ⟨upM_same, rfl, fun k hk => absurd hk (by unfold cQ; simp)⟩
  generalize (upM I1 106 7 0) = I2 at f2 e2 g2 ⊢
  have fS : ∀ {I I' : Nat → Int → Int} {a : Nat} {h : List Nat}, (a + 3 < 106 ∨ 113 < a) → ShS I a h → frN I I' → ShS I' a h := fun hb hS f => hS.fr (by rw [f.1 _ (by omega)]) (f.1 _ (by omega)) (f.1 _ (by omega)) (f.1 _ (by omega))
  have fT : ∀ {I I' : Nat → Int → Int}, StI I → frN I I' → StI I' := fun hT f => by
    obtain ⟨t1, t2⟩ := hT
    exact ⟨fun s hs => by rw [f.1 2 (by decide)]; exact t1 s hs, by rw [f.1 1 (by decide)]; exact t2⟩
  have N2 : NdD I2 h1 h2 (fun n => False ∨ (0 ≤ n ∧ n < 0 + 0)) := by
    intro n hn
    refine ⟨fun q => by rcases q with q | q; exact q.elim; omega, fun _ => ?_⟩
    rw [e2 107 (by decide), e2 109 (by decide), e2 110 (by decide)]
    exact (g1 n hn).2
  refine (c_Meeting_load ha1).mpr ?_
  refine ld_loop (h1 := h1) (h2 := h2) (off := 0) (q0 := []) (P0 := fun _ => False) ha1 hb1 hw1 hl1 (by decide) (fun p hp => ?_) (fun _ _ _ q => q) (by simp) h1.length 0 0 rfl (fT hT f2) (fS hb1 hS1 f2) N2 g2 (fun I3 t3 f3 l3 N3 q3 => ?_)
  · have e : uL h1 h2 (0 + p) = h1.getD p 0 := by
      unfold uL
      rw [if_pos (by omega), Nat.zero_add, getD_ch hp]
    refine ⟨e, ?_⟩
    have h6 : h1.getD p 0 < 6 := by
      obtain ⟨m, hm⟩ := wf_at hw1 hp
      rw [drop_get hp] at hm
      exact (wf_cons.mp hm).1
    unfold cP
    rw [e]
    by_cases hz : 1 < pts (h1.getD p 0)
    · rw [if_pos ⟨h6, hz⟩, if_pos hz, if_pos (by omega)]; simp
    · rw [if_neg (fun q => hz q.2), if_neg hz]
  rw [List.nil_append] at q3
  have N3' : NdD I3 h1 h2 (fun n => n < h1.length ∨ (5 ≤ n ∧ n < 5 + 0)) := by
    intro n hn
    refine ⟨fun q => (N3 n hn).1 (Or.inr ⟨by omega, by rcases q with q | q <;> omega⟩), fun q => (N3 n hn).2 (fun q' => q ?_)⟩
    rcases q' with q' | q'
    · exact q'.elim
    · exact Or.inl (by omega)
  refine (b_Meeting_isPossible_51 ha2).mpr ?_
  refine (c_Meeting_load ha2).mpr ?_
  have q3' : QuM I3 (cQ h1 0 h1.length ++ cQ h2 5 0) 0 t3 := by
    show QuM I3 (cQ h1 0 h1.length ++ []) 0 t3
    rw [List.append_nil]; exact q3
  have hc1 := cQ_len h1 0 h1.length
  have hc2 := cQ_len h2 5 h2.length
  refine ld_loop (h1 := h1) (h2 := h2) (off := 5) (q0 := cQ h1 0 h1.length) (P0 := fun n => n < h1.length) ha2 hb2 hw2 hl2 (by decide) (fun p hp => ?_) (fun n u1 u2 u3 => by have u3' : n < h1.length := u3; omega) (by omega) h2.length 0 t3 rfl (fT hT (f2.tr f3)) (fS hb2 hS2 (f2.tr f3)) N3' q3' (fun I4 t4 f4 l4 N4 q4 => ?_)
  · have e : uL h1 h2 (5 + p) = h2.getD p 0 := by
      unfold uL
      rw [if_neg (by omega), show 5 + p - 5 = p by omega, getD_ch hp]
    refine ⟨e, ?_⟩
    have h6 : h2.getD p 0 < 6 := by
      obtain ⟨m, hm⟩ := wf_at hw2 hp
      rw [drop_get hp] at hm
      exact (wf_cons.mp hm).1
    unfold cP
    rw [e]
    by_cases hz : 1 < pts (h2.getD p 0)
    · rw [if_pos ⟨h6, hz⟩, if_pos hz, if_neg (by omega), show 5 + p - 5 = p by omega]
    · rw [if_neg (fun q => hz q.2), if_neg hz]
  have NN : NdM I4 h1 h2 := by
    intro n hn
    by_cases hP : n < h1.length ∨ (5 ≤ n ∧ n < 5 + h2.length)
    · exact (N4 n hn).1 hP
    · obtain ⟨i1, i2, i3⟩ := (N4 n hn).2 hP
      have e : uL h1 h2 n = 9 := by
        unfold uL
        by_cases h5 : n < 5
        · rw [if_pos h5, List.getD_eq_getElem?_getD, List.getElem?_eq_none (by omega)]; rfl
        · rw [if_neg h5, List.getD_eq_getElem?_getD, List.getElem?_eq_none (by omega)]; rfl
      rw [i1, i2, i3]
      unfold cS cF cP
      rw [e, if_neg (by decide), if_neg (fun q => absurd q.1 (by decide)), if_neg (fun q => absurd q.1 (by decide))]
      exact ⟨rfl, rfl, rfl⟩
  have LL : LdM I4 [0, 1, 2, 3, 4, 5, 6, 7, 8, 9] := by
    refine ⟨rfl, fun n hn => ?_⟩
    have e : ([0, 1, 2, 3, 4, 5, 6, 7, 8, 9] : List Nat).getD n 0 = n := tab_get (f := fun n => n) hn
    rw [l4, l3, e2 108 (by decide), e]
    exact ⟨(g1 n hn).1, hn⟩
  have hlq := q4.2.1
  rw [List.length_append] at hlq
  refine b_Meeting_isPossible_56.mpr ?_
  refine x_expect (x := 0) (y := 5) q4 (by omega) (fun I5 f5 q5 => ?_)
  have N5 : NdM I5 h1 h2 := NN.fr (f5.1 107 (by decide) (by decide) (by decide)) (f5.1 109 (by decide) (by decide) (by decide)) (f5.1 110 (by decide) (by decide) (by decide))
  have L5 : LdM I5 _ := LL.fr (f5.1 108 (by decide) (by decide) (by decide))
  have hc05 : cNew 0 5 = [(0, 5)] := rfl
  rw [hc05] at q5
  have F5 : frN I I5 := ((f2.tr f3).tr f4).tr f5.n
  refine b_Meeting_isPossible_61.mpr ?_
  refine c_Meeting_bringTogether.mpr ?_
  unfold met at hm
  have ht : t4 + [((0 : Nat), (5 : Nat))].length = (cQ h1 0 h1.length ++ cQ h2 5 h2.length ++ [(0, 5)]).length := by
    have := q5.2.1
    omega
  have q5' := q5
  rw [ht] at q5'
  have htb : (cQ h1 0 h1.length ++ cQ h2 5 h2.length ++ [((0 : Nat), (5 : Nat))]).length ≤ 40 := by
    rw [List.length_append, List.length_append, List.length_singleton]; omega
  cases hB : cB (tab (cS h1 h2)) (tab (cF h1 h2)) (tab (cP h1 h2)) 40 [0, 1, 2, 3, 4, 5, 6, 7, 8, 9] (cQ h1 0 h1.length ++ cQ h2 5 h2.length ++ [(0, 5)]) (cQ h1 0 h1.length ++ cQ h2 5 h2.length ++ [(0, 5)]).length with
  | none => rw [hB] at hm; exact absurd hm (by simp)
  | some x =>
    obtain ⟨bb, ld⟩ := x
    refine bt_loop 40 _ _ 0 _ bb ld N5 L5 q5' htb hB (fun I6 f6 N6 L6 => ?_)
    refine b_Meeting_isPossible_64.mpr ?_
    rw [hB] at hm
    cases bb with
    | false =>
      simp only [Option.some.injEq] at hm
      subst hm
      rw [if_pos (by rw [bi_f (by decide)])]
      have := hQ I6 (F5.tr f6)
      rw [bi_f (by decide)] at this
      exact this
    | true =>
      simp only [Option.some.injEq] at hm
      subst hm
      rw [if_neg (by rw [bi_t rfl]; decide)]
      refine c_Meeting_comesToAnEnd.mpr ?_
      refine ce_init 10 0 rfl (fun k hk => absurd hk (by omega)) (fun I7 f7 E7 => ?_)
      have F7 : frN I I7 := (F5.tr f6).tr ⟨fun a ha => f7 a (by omega), fun j _ => by rw [f7 106 (by decide)]⟩
      refine ce_out 10 0 0 rfl (N6.fr (f7 107 (by decide)) (f7 109 (by decide)) (f7 110 (by decide))) ((L6 rfl).fr (f7 108 (by decide))) E7 (fun I8 f8 => ?_)
      refine b_Meeting_isPossible_69.mpr ?_
      have F8 : frN I I8 := F7.tr ⟨fun a ha => f8 a (by omega), fun j _ => by rw [f8 106 (by decide)]⟩
      have := hQ I8 F8
      rw [cI_eq] at this
      by_cases hz : (itR (tab (fun n => ldP ld (cF h1 h2 n))) (tab (fun n => ldP ld (cP h1 h2 n))) 10 0).testBit (ldF ld 10 0) = true
      · rw [bi_t hz] at this ⊢
        rw [if_neg (by decide)]; exact this
      · rw [bi_f hz] at this ⊢
        rw [if_pos rfl]; exact this
end XMf
