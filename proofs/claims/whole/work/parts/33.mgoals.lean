-- ===== the reference: all goals of the type that is looked at =====
theorem upM_oi {α : Type} {I : Nat → Int → α} {a b : Nat} {i i' : Int} {z : α} (h : i' ≠ i) : upM I a i z b i' = I b i' := by
  unfold upM
  split
  · rename_i hb; subst hb; unfold upr; rw [if_neg h]
  · rfl
def GvM (I : Nat → Int → Int) (g : Nat) (V : GV) : Prop := I 270 (g : Int) = V.1 ∧ (V.1 = 1 → I 274 (g : Int) = (V.2.1.length : Int) ∧ I 275 (g : Int) = V.2.2.1 ∧ I 276 (g : Int) = V.2.2.2.1 ∧ I 277 (g : Int) = (V.2.2.2.2 : Int))
def Pt1 (I : Nat → Int → Int) (w : List Nat) (nC a g q : Nat) (k : Nat × List Nat) : Prop := ∃ c' q' : Nat, c' < nC ∧ q < q' ∧ q' < w.length ∧ I a (g : Int) = ((9 * c' + q' : Nat) : Int) ∧ k = (c', sub w q')
def PtM (I : Nat → Int → Int) (w : List Nat) (nC g q : Nat) (ch : List (Nat × List Nat)) : Prop := (if ch.length = 0 then I 272 (g : Int) = -1 else Pt1 I w nC 272 g q (ch.getD 0 (0, []))) ∧ (if ch.length ≤ 1 then I 273 (g : Int) = -1 else Pt1 I w nC 273 g q (ch.getD 1 (0, [])))
def RwM (I : Nat → Int → Int) (w : List Nat) (E : EN) (nC c q : Nat) : Prop := GvM I (9 * c + q) (G E c (sub w q)) ∧ ((G E c (sub w q)).1 = 1 → I 271 ((9 * c + q : Nat) : Int) = (if 4 ≤ w.getD q 0 then -1 else tkn E c (sub w q)) ∧ PtM I w nC (9 * c + q) q (chl E c (sub w q)))
/-- only the row of bindings and one goal have changed -/
def frG (g : Nat) (I I' : Nat → Int → Int) : Prop := (∀ a, a < 269 ∨ 277 < a → I' a = I a) ∧ ∀ (a : Nat) (i : Int), a ≠ 269 → i ≠ (g : Int) → I' a i = I a i
theorem frG.tr {g : Nat} {I I' I2 : Nat → Int → Int} (h : frG g I I') (h2 : frG g I' I2) : frG g I I2 := ⟨fun a ha => by rw [h2.1 a ha, h.1 a ha], fun a i ha hi => by rw [h2.2 a i ha hi, h.2 a i ha hi]⟩
theorem frG_9 {g : Nat} {I I' : Nat → Int → Int} (h : ∀ x, x ≠ 269 → I' x = I x) : frG g I I' := ⟨fun a ha => h a (by omega), fun a i ha _ => by rw [h a ha]⟩
theorem frG_up {g : Nat} {I : Nat → Int → Int} {a : Nat} {z : Int} (h1 : 269 ≤ a) (h2 : a ≤ 277) : frG g I (upM I a (g : Int) z) := ⟨fun b hb => by rw [upM_ne (by omega)], fun b i _ hi => upM_oi hi⟩
theorem frG_rf {g : Nat} {I : Nat → Int → Int} : frG g I I := ⟨fun _ _ => rfl, fun _ _ _ _ => rfl⟩
theorem Pt1.fr {I I' : Nat → Int → Int} {w : List Nat} {nC a g q : Nat} {k : Nat × List Nat} (h : Pt1 I w nC a g q k) (h1 : I' a (g : Int) = I a (g : Int)) : Pt1 I' w nC a g q k := by
  obtain ⟨c', q', h2, h3, h4, h5, h6⟩ := h
  exact ⟨c', q', h2, h3, h4, by rw [h1]; exact h5, h6⟩
theorem PtM.fr {I I' : Nat → Int → Int} {w : List Nat} {nC g q : Nat} {ch : List (Nat × List Nat)} (h : PtM I w nC g q ch) (h2 : I' 272 (g : Int) = I 272 (g : Int)) (h3 : I' 273 (g : Int) = I 273 (g : Int)) : PtM I' w nC g q ch := by
  refine ⟨?_, ?_⟩
  · have := h.1
    split at this
    · rename_i hc; rw [if_pos hc, h2]; exact this
    · rename_i hc; rw [if_neg hc]; exact this.fr h2
  · have := h.2
    split at this
    · rename_i hc; rw [if_pos hc, h3]; exact this
    · rename_i hc; rw [if_neg hc]; exact this.fr h3
theorem GvM.fr {I I' : Nat → Int → Int} {g : Nat} {V : GV} (h : GvM I g V) (h1 : ∀ a : Nat, 270 ≤ a → a ≤ 277 → I' a (g : Int) = I a (g : Int)) : GvM I' g V := by
  refine ⟨by rw [h1 270 (by decide) (by decide)]; exact h.1, fun hv => ?_⟩
  rw [h1 274 (by decide) (by decide), h1 275 (by decide) (by decide), h1 276 (by decide) (by decide), h1 277 (by decide) (by decide)]
  exact h.2 hv
theorem RwM.fr {g : Nat} {I I' : Nat → Int → Int} {w : List Nat} {E : EN} {nC c q : Nat} (h : RwM I w E nC c q) (h1 : frG g I I') (h2 : 9 * c + q ≠ g) : RwM I' w E nC c q := by
  have h3 : ∀ a : Nat, 270 ≤ a → a ≤ 277 → I' a ((9 * c + q : Nat) : Int) = I a ((9 * c + q : Nat) : Int) := fun a ha _ => h1.2 a _ (by omega) (by omega)
  refine ⟨h.1.fr h3, fun hv => ⟨?_, (h.2 hv).2.fr (h3 272 (by decide) (by decide)) (h3 273 (by decide) (by decide))⟩⟩
  rw [h3 271 (by decide) (by decide)]
  exact (h.2 hv).1
theorem len2 {α : Type} {l : List α} (h : l.length = 2) : ∃ a b, l = [a, b] := by
  match l, h with
  | [a, b], _ => exact ⟨a, b, rfl⟩
section MGo
variable {L : Nat} {R : Nat → Int → Option Nat} {I : Nat → Int → Int} {J : Nat → Int → Int64} {Q : Option MV → MM → Prop} {E : EN} {nC : Nat}
theorem k_addBelow {g b t : Nat} {A B : GV} (hg : g < 36) (hb : b < 36) (hgb : b ≠ g) (ht : t ≤ 3) (hA : GvM I g A) (hB : GvM I b B) (oA : A.2.1.length ≤ 2000 ∧ 0 ≤ A.2.2.1 ∧ A.2.2.1 ≤ 4000 ∧ 0 ≤ A.2.2.2.1 ∧ A.2.2.2.1 ≤ 100 ∧ A.2.2.2.2 < 256) (oB : okV 9 B) (hQ : ∀ I', (∀ a, a ≠ 270 → a ≠ 274 → a ≠ 275 → a ≠ 276 → a ≠ 277 → I' a = I a) → (∀ (a : Nat) (i : Int), i ≠ (g : Int) → I' a i = I a i) → GvM I' g (jn A (t : Int) B) → Q none (S0 L, R, I', J)) : wpC 77 [vR (some 243), vI (g : Int), vI (b : Int), vI (t : Int)] (S0 L, R, I, J) Q := by
  have hne : ¬ (b : Int) = (g : Int) := by omega
  refine c_M_addBelow.mpr ⟨⟨by omega, by omega⟩, ?_⟩
  by_cases hA1 : A.1 = 1
  · have a1 : I 270 (g : Int) = 1 := by rw [hA.1]; exact hA1
    obtain ⟨a4, a5, a6, a7⟩ := hA.2 hA1
    rw [if_pos a1]
    refine ⟨⟨by omega, by omega⟩, ?_⟩
    by_cases hB1 : B.1 = 1
    · have b1 : I 270 (b : Int) = 1 := by rw [hB.1]; exact hB1
      obtain ⟨b4, b5, b6, b7⟩ := hB.2 hB1
      obtain ⟨o1, o2, o3, o4, o5, o6, o7, o8⟩ := oB
      have o2' : (B.2.1.length : Int) + 1 ≤ 512 := o2
      have hm1 : 0 ≤ (t : Int) * B.2.2.1 := Int.mul_nonneg (by omega) o3
      have hm2 : (t : Int) * B.2.2.1 ≤ (t : Int) * 1008 := Int.mul_le_mul_of_nonneg_left o4 (by omega)
      rw [if_pos b1]
      refine ⟨⟨by omega, by omega⟩, ?_⟩
      rw [if_pos a1]
      refine ⟨⟨by omega, by omega⟩, ⟨by omega, by omega⟩, ⟨by omega, by omega⟩, ⟨by omega, by omega⟩, ⟨by omega, by omega⟩, ⟨by omega, by omega⟩, ⟨by omega, by omega⟩, ⟨by omega, by omega⟩, ?_⟩
      have key : ∀ d : Int, d = mxd A.2.2.2.1 B.2.2.2.1 → wpc 77 82 [vR (some 243), vI (g : Int), vI (b : Int), vU] [vI d, vI (g : Int), vR (some 276)] (0, 0) (S0 L, R, upM (upM I 274 (g : Int) (w32 (I 274 (g : Int) + I 274 (b : Int)))) 275 (g : Int) (w32 (upM I 274 (g : Int) (w32 (I 274 (g : Int) + I 274 (b : Int))) 275 (g : Int) + w32 ((t : Int) * upM I 274 (g : Int) (w32 (I 274 (g : Int) + I 274 (b : Int))) 275 (b : Int)))), J) Q := by
        intro d hd
        refine b_M_addBelow_82.mpr ⟨⟨by omega, by omega⟩, ⟨by omega, by omega⟩, ⟨by omega, by omega⟩, ⟨by omega, by omega⟩, ?_⟩
        refine hQ _ (fun a h0 h4 h5 h6 h7 => by rw [upM_ne h7, upM_ne h6, upM_ne h5, upM_ne h4]) (fun a i hi => by rw [upM_oi hi, upM_oi hi, upM_oi hi, upM_oi hi]) ?_
        unfold jn
        rw [if_pos hA1, if_pos hB1]
        refine ⟨?_, fun _ => ⟨?_, ?_, ?_, ?_⟩⟩
        · rw [upM_ne (by decide), upM_ne (by decide), upM_ne (by decide), upM_ne (by decide)]; exact a1
        · rw [upM_ne (by decide), upM_ne (by decide), upM_ne (by decide), upM_same, a4, b4, w32_eq (by omega) (by omega)]
          show _ = ((A.2.1 ++ B.2.1).length : Int)
          rw [List.length_append]; omega
        · rw [upM_ne (by decide), upM_ne (by decide), upM_same, upM_ne (by decide), a5, b5, w32_eq (z := (t : Int) * B.2.2.1) (by omega) (by omega), w32_eq (by omega) (by omega)]
        · rw [upM_ne (by decide), upM_same]; exact hd
        · rw [upM_same, upM_ne (by decide), upM_ne (by decide), upM_ne (by decide), a7, b7]
          exact ior_nat (by omega) (by omega)
      have e6 : w32 (B.2.2.2.1 + 1) = B.2.2.2.1 + 1 := w32_eq (by omega) (by omega)
      simp only [upM_ne (I := upM I 274 (g : Int) (w32 (I 274 (g : Int) + I 274 (b : Int)))) (a := 275) (b := 276) (by decide), upM_ne (I := I) (a := 274) (b := 276) (by decide), a6, b6, e6]
      split
      · rename_i hle
        exact ⟨⟨by omega, by omega⟩, key _ (by unfold mxd; rw [if_pos hle])⟩
      · rename_i hle
        exact ⟨⟨by omega, by omega⟩, key _ (by unfold mxd; rw [if_neg hle])⟩
    · have b1 : ¬ I 270 (b : Int) = 1 := by rw [hB.1]; exact hB1
      rw [if_neg b1]
      refine ⟨⟨by omega, by omega⟩, ⟨by omega, by omega⟩, ⟨by omega, by omega⟩, ?_⟩
      rw [if_neg (by rw [upM_same]; exact b1)]
      refine hQ _ (fun a h0 h4 h5 h6 h7 => by rw [upM_ne h0]) (fun a i hi => by rw [upM_oi hi]) ?_
      unfold jn
      rw [if_pos hA1, if_neg hB1]
      exact ⟨by rw [upM_same]; exact hB.1, fun h => absurd h hB1⟩
  · have a1 : ¬ I 270 (g : Int) = 1 := by rw [hA.1]; exact hA1
    rw [if_neg a1]
    refine ⟨⟨by omega, by omega⟩, ?_⟩
    rw [if_neg a1]
    refine hQ _ (fun a h0 h4 h5 h6 h7 => rfl) (fun a i hi => rfl) ?_
    unfold jn
    rw [if_neg hA1]
    exact hA
theorem sub_get0 {w : List Nat} {p : Nat} (hp : p < w.length) : (sub w p).getD 0 0 = w.getD p 0 := by
  have h1 : 0 < tl (w.drop p) 1 := by have := en_gt hp; unfold en at this; omega
  have := sub_get (w := w) (p := p) h1
  rw [Nat.add_zero] at this
  exact this
theorem k_layNeed {w : List Nat} (hE : wfE E nC) (hC : nC ≤ 4) (hw : wfN w 1 = true) (hl : w.length ≤ 9) {c p : Nat} (hc : c < nC) (hp : p < w.length) (h4 : 4 ≤ w.getD p 0) (hn : NowW I w) (hQ : ∀ I', frG (9 * c + p) I I' → RwM I' w E nC c p → Q none (S0 L, R, I', J)) : wpC 76 [vR (some 243), vI (c : Int), vI (p : Int)] (S0 L, R, I, J) Q := by
  have h6 := wf_lt6 hw hp
  have e1 : w32 (w32 (9 * (c : Int)) + (p : Int)) = ((9 * c + p : Nat) : Int) := by
    rw [w32_eq (z := 9 * (c : Int)) (by omega) (by omega), w32_eq (by omega) (by omega)]; omega
  have e2 : w32 (I 267 (p : Int) - 120) = ((w.getD p 0 - 4 : Nat) : Int) := by
    rw [hn.2 p hp, cd_var h6 h4, w32_eq (by omega) (by omega)]; omega
  refine c_M_layNeed.mpr ?_
  rw [e1, e2]
  refine ⟨⟨by omega, by omega⟩, ⟨by omega, by omega⟩, ⟨by omega, by omega⟩, ⟨by omega, by omega⟩, ⟨by omega, by omega⟩, ⟨by omega, by omega⟩, ⟨by omega, by omega⟩, ⟨by omega, by omega⟩, ⟨by omega, by omega⟩, ?_⟩
  refine hQ _ ?_ ?_
  · exact (((((((frG_up (by decide) (by decide)).tr (frG_up (by decide) (by decide))).tr (frG_up (by decide) (by decide))).tr (frG_up (by decide) (by decide))).tr (frG_up (by decide) (by decide))).tr (frG_up (by decide) (by decide))).tr (frG_up (by decide) (by decide))).tr (frG_up (by decide) (by decide))
  · have g0 := sub_get0 hp
    have hv : 4 ≤ (sub w p).getD 0 0 := by rw [g0]; exact h4
    have eG : G E c (sub w p) = (1, [((10 + 2 * c + (w.getD p 0 - 4) : Nat) : Int)], ((10 + 2 * c + (w.getD p 0 - 4) : Nat) : Int), 1, 2 ^ (2 * c + (w.getD p 0 - 4))) := by
      rw [G_eq hE (wf_sub hw hp)]
      unfold nodV
      rw [if_pos hv, g0]
    have ec : chl E c (sub w p) = [] := by unfold chl; rw [if_pos hv]
    unfold RwM
    rw [eG, ec]
    refine ⟨⟨?_, fun _ => ⟨?_, ?_, ?_, ?_⟩⟩, fun _ => ⟨?_, ?_, ?_⟩⟩
    · rw [upM_ne (by decide), upM_ne (by decide), upM_ne (by decide), upM_ne (by decide), upM_ne (by decide), upM_ne (by decide), upM_ne (by decide), upM_same]
    · rw [upM_ne (by decide), upM_ne (by decide), upM_ne (by decide), upM_same]; rfl
    · rw [upM_ne (by decide), upM_ne (by decide), upM_same, w32_eq (z := 2 * (c : Int)) (by omega) (by omega), w32_eq (z := 10 + 2 * (c : Int)) (by omega) (by omega), w32_eq (by omega) (by omega)]
      show _ = ((10 + 2 * c + (w.getD p 0 - 4) : Nat) : Int)
      omega
    · rw [upM_ne (by decide), upM_same]
    · rw [upM_same, w32_eq (z := 2 * (c : Int)) (by omega) (by omega), w32_eq (by omega) (by omega)]
      have e5 : 2 * (c : Int) + ((w.getD p 0 - 4 : Nat) : Int) = ((2 * c + (w.getD p 0 - 4) : Nat) : Int) := by omega
      rw [e5, ishl_nat _ (by omega)]
    · rw [if_pos h4, upM_ne (by decide), upM_ne (by decide), upM_ne (by decide), upM_ne (by decide), upM_ne (by decide), upM_ne (by decide), upM_same]
    · rw [if_pos (show ([] : List (Nat × List Nat)).length = 0 from rfl), upM_ne (by decide), upM_ne (by decide), upM_ne (by decide), upM_ne (by decide), upM_ne (by decide), upM_same]
    · rw [if_pos (by decide), upM_ne (by decide), upM_ne (by decide), upM_ne (by decide), upM_ne (by decide), upM_same]
/-- where what was put for a variable begins -/
theorem BdW.at {w : List Nat} {lo : Nat} {ab : List Nat × List Nat} (h : BdW I w lo ab.1 ab.2) {v : Nat} (hv : v < 2) (hne : sbs ab v ≠ []) : ∃ p : Nat, lo ≤ p ∧ p < w.length ∧ I 269 (v : Int) = (p : Int) ∧ sub w p = sbs ab v := by
  have hv2 : v = 0 ∨ v = 1 := by omega
  unfold sbs at hne ⊢
  rcases hv2 with rfl | rfl
  · rw [if_pos rfl] at hne ⊢
    have := h.1
    rw [if_neg hne] at this
    exact this
  · rw [if_neg (by decide)] at hne ⊢
    have := h.2
    rw [if_neg hne] at this
    exact this
theorem frG.en {g : Nat} {I I' : Nat → Int → Int} (h : frG g I I') (hM : EnM I E) : EnM I' E := hM.fr (by rw [h.1 243 (by omega)]) (fun a h3 h4 => h.1 a (by omega))
theorem lg_159 {g : Nat} (hg : g < 36) {A : GV} (hA : GvM I g A) (hQ : ∀ I', frG g I I' → (∀ a, a ≠ 275 → I' a = I a) → GvM I' g (fin9 A) → Q none (S0 L, R, I', J)) : wpc 78 159 [vR (some 243), vU, vU, vI (g : Int), vU] [] (0, 0) (S0 L, R, I, J) Q := by
  refine b_M_layGoal_159.mpr ⟨⟨by omega, by omega⟩, ⟨by omega, by omega⟩, ?_⟩
  refine hQ _ (frG_up (by decide) (by decide)) (fun a ha => upM_ne ha) ⟨?_, fun h1 => ?_⟩
  · rw [upM_ne (by decide)]; exact hA.1
  · obtain ⟨a4, a5, a6, a7⟩ := hA.2 h1
    refine ⟨?_, ?_, ?_, ?_⟩
    · rw [upM_ne (by decide)]; exact a4
    · rw [upM_same, a5]; rfl
    · rw [upM_ne (by decide)]; exact a6
    · rw [upM_ne (by decide)]; exact a7
theorem k_layGoal {w : List Nat} (hE : wfE E nC) (hC : nC ≤ 4) (hw : wfN w 1 = true) (hl : w.length ≤ 9) {c p : Nat} (hc : c < nC) (hp : p < w.length) (h4 : ¬ 4 ≤ w.getD p 0) (hM : EnM I E) (hS : SpM I E) (hn : NowW I w) (hs : SzW I w) (hT : ∀ q c' : Nat, p < q → q < w.length → c' < nC → RwM I w E nC c' q) (hQ : ∀ I', frG (9 * c + p) I I' → RwM I' w E nC c p → Q none (S0 L, R, I', J)) : wpC 78 [vR (some 243), vI (c : Int), vI (p : Int)] (S0 L, R, I, J) Q := by
  have h6 := hE.1
  have e1 : w32 (w32 (9 * (c : Int)) + (p : Int)) = ((9 * c + p : Nat) : Int) := by
    rw [w32_eq (z := 9 * (c : Int)) (by omega) (by omega), w32_eq (by omega) (by omega)]; omega
  have hg : 9 * c + p < 36 := by omega
  have g0 := sub_get0 hp
  have hu := wf_sub hw hp
  have hv4 : ¬ 4 ≤ (sub w p).getD 0 0 := by rw [g0]; exact h4
  have hGn := G_eq hE (c := c) hu
  unfold nodV at hGn
  rw [if_neg hv4] at hGn
  refine c_M_layGoal.mpr ?_
  rw [e1]
  refine k_takes hE hw hl hp hM hS hn hs (fun I1 f1 => ?_)
  change wpc 78 11 [vR (some 243), vU, vI (p : Int), vI ((9 * c + p : Nat) : Int), vU] ((some (vI (tkn E c (sub w p)))).toList ++ []) (0, 0) (S0 L, R, I1, J) Q
  generalize hgg : 9 * c + p = g at *
  refine b_M_layGoal_11.mpr ⟨⟨by omega, by omega⟩, ⟨by omega, by omega⟩, ⟨by omega, by omega⟩, ?_⟩
  by_cases ht : tkn E c (sub w p) < 0
  · rw [if_pos ht] at hGn ⊢
    have hfr : ∀ z : Int, frG g I (upM (upM (upM (upM I1 271 (g : Int) (tkn E c (sub w p))) 272 (g : Int) (-1)) 273 (g : Int) (-1)) 270 (g : Int) z) := fun z => ((((frG_9 f1).tr (frG_up (by decide) (by decide))).tr (frG_up (by decide) (by decide))).tr (frG_up (by decide) (by decide))).tr (frG_up (by decide) (by decide))
    by_cases ht1 : tkn E c (sub w p) = -1
    · rw [if_pos ht1] at hGn ⊢
      refine ⟨⟨by omega, by omega⟩, hQ _ (hfr 0) ?_⟩
      unfold RwM
      rw [hGn, hgg]
      exact ⟨⟨by rw [upM_same], fun h => absurd h (by show ¬ (0 : Int) = 1; decide)⟩, fun h => absurd h (by show ¬ (0 : Int) = 1; decide)⟩
    · rw [if_neg ht1] at hGn ⊢
      refine ⟨⟨by omega, by omega⟩, hQ _ (hfr (-2)) ?_⟩
      unfold RwM
      rw [hGn, hgg]
      exact ⟨⟨by rw [upM_same], fun h => absurd h (by show ¬ (-2 : Int) = 1; decide)⟩, fun h => absurd h (by show ¬ (-2 : Int) = 1; decide)⟩
  rw [if_neg ht] at hGn ⊢
  obtain ⟨i, hi, hie, hsd, ab, hab⟩ := tkn_fit ht
  have hch := chl_eq (c := c) hv4 hie hab
  obtain ⟨_, _, hhw, hhl, hcl2, hcs⟩ := hE.2 i hi
  rw [hie]
  have f2 : frG g I (upM (upM (upM I1 271 (g : Int) (i : Int)) 272 (g : Int) (-1)) 273 (g : Int) (-1)) := (((frG_9 f1).tr (frG_up (by decide) (by decide))).tr (frG_up (by decide) (by decide))).tr (frG_up (by decide) (by decide))
  have r2 : (upM (upM (upM I1 271 (g : Int) (i : Int)) 272 (g : Int) (-1)) 273 (g : Int) (-1)) 271 (g : Int) = (i : Int) ∧ (upM (upM (upM I1 271 (g : Int) (i : Int)) 272 (g : Int) (-1)) 273 (g : Int) (-1)) 272 (g : Int) = -1 ∧ (upM (upM (upM I1 271 (g : Int) (i : Int)) 272 (g : Int) (-1)) 273 (g : Int) (-1)) 273 (g : Int) = -1 := ⟨by rw [upM_ne (by decide), upM_ne (by decide), upM_same], by rw [upM_ne (by decide), upM_same], upM_same⟩
  generalize (upM (upM (upM I1 271 (g : Int) (i : Int)) 272 (g : Int) (-1)) 273 (g : Int) (-1)) = I2 at *
  refine k_fitsAt (by omega) hhl hhw hw hl hp ((f2.en hM).2 i hi).2.2.1 (hn.fr (by rw [f2.1 243 (by omega)]) (f2.1 267 (by omega))) (hs.fr (f2.1 268 (by omega))) (fun I3 f3 => ?_)
  rw [hab]
  simp only
  intro hbd
  have f23 := f2.tr (frG_9 (g := g) f3)
  have hM3 := f23.en hM
  obtain ⟨_, _, _, hcl, hck⟩ := hM3.2 i hi
  refine b_M_layGoal_50.mpr ⟨⟨by omega, by omega⟩, ⟨by omega, by omega⟩, ⟨by omega, by omega⟩, ⟨by omega, by omega⟩, ⟨by omega, by omega⟩, ⟨by omega, by omega⟩, ?_⟩
  have e7 : w32 (7 * w32 ((i : Int) + 1)) = 7 * ((i : Int) + 1) := by rw [w32_eq (z := (i : Int) + 1) (by omega) (by omega), w32_eq (by omega) (by omega)]
  rw [e7]
  have f4 : frG g I (upM (upM (upM (upM (upM I3 270 (g : Int) 1) 274 (g : Int) 1) 275 (g : Int) (7 * ((i : Int) + 1))) 276 (g : Int) 1) 277 (g : Int) 0) := ((((f23.tr (frG_up (by decide) (by decide))).tr (frG_up (by decide) (by decide))).tr (frG_up (by decide) (by decide))).tr (frG_up (by decide) (by decide))).tr (frG_up (by decide) (by decide))
  have f34 : ∀ a, a ≠ 270 → a ≠ 274 → a ≠ 275 → a ≠ 276 → a ≠ 277 → (upM (upM (upM (upM (upM I3 270 (g : Int) 1) 274 (g : Int) 1) 275 (g : Int) (7 * ((i : Int) + 1))) 276 (g : Int) 1) 277 (g : Int) 0) a = I3 a := fun a h0 h4 h5 h6 h7 => by rw [upM_ne h7, upM_ne h6, upM_ne h5, upM_ne h4, upM_ne h0]
  have hA0 : GvM (upM (upM (upM (upM (upM I3 270 (g : Int) 1) 274 (g : Int) 1) 275 (g : Int) (7 * ((i : Int) + 1))) 276 (g : Int) 1) 277 (g : Int) 0) g (1, [(i : Int)], 7 * ((i : Int) + 1), 1, 0) := by
    refine ⟨?_, fun _ => ⟨?_, ?_, ?_, ?_⟩⟩
    · rw [upM_ne (by decide), upM_ne (by decide), upM_ne (by decide), upM_ne (by decide), upM_same]
    · rw [upM_ne (by decide), upM_ne (by decide), upM_ne (by decide), upM_same]; rfl
    · rw [upM_ne (by decide), upM_ne (by decide), upM_same]
    · rw [upM_ne (by decide), upM_same]
    · rw [upM_same]; rfl
  generalize (upM (upM (upM (upM (upM I3 270 (g : Int) 1) 274 (g : Int) 1) 275 (g : Int) (7 * ((i : Int) + 1))) 276 (g : Int) 1) 277 (g : Int) 0) = I4 at *
  have r4 : I4 271 (g : Int) = (i : Int) ∧ I4 272 (g : Int) = -1 ∧ I4 273 (g : Int) = -1 := by
    rw [f34 271 (by decide) (by decide) (by decide) (by decide) (by decide), f34 272 (by decide) (by decide) (by decide) (by decide) (by decide), f34 273 (by decide) (by decide) (by decide) (by decide) (by decide), f3 271 (by decide), f3 272 (by decide), f3 273 (by decide)]
    exact r2
  -- the places of the conditions
  have hpl : ∀ k : Nat, k < (eC E i).length → ∃ c' q' : Nat, c' < nC ∧ p < q' ∧ q' < w.length ∧ (chl E c (sub w p)).getD k (0, []) = (c', sub w q') ∧ I3 252 ((2 * i + k : Nat) : Int) = (((eC E i).getD k (0, 0)).2 : Int) ∧ ((eC E i).getD k (0, 0)).2 < 2 ∧ w32 (w32 (9 * I3 251 ((2 * i + k : Nat) : Int)) + I3 269 (I3 252 ((2 * i + k : Nat) : Int))) = ((9 * c' + q' : Nat) : Int) := by
    intro k hk
    obtain ⟨hk1, hk2⟩ := hck k hk
    obtain ⟨hc1, hc2, hc3⟩ := hcs k hk
    have hge : (chl E c (sub w p)).getD k (0, []) = (((eC E i).getD k (0, 0)).1, sbs ab ((eC E i).getD k (0, 0)).2) := by
      rw [hch, List.getD_eq_getElem?_getD, List.getElem?_map, List.getElem?_eq_getElem hk, List.getD_eq_getElem?_getD, List.getElem?_eq_getElem hk]; rfl
    have hmem : (((eC E i).getD k (0, 0)).1, sbs ab ((eC E i).getD k (0, 0)).2) ∈ chl E c (sub w p) := by
      rw [← hge, List.getD_eq_getElem?_getD, List.getElem?_eq_getElem (by rw [hch, List.length_map]; exact hk)]
      exact List.getElem_mem _
    obtain ⟨o1, o2, o3⟩ := chl_ok hE hu hmem
    obtain ⟨q, hq1, hq2, hq3, hq4⟩ := BdW.at hbd hc2 (ne_wf1 o2)
    have hqp : p ≠ q := by
      intro h
      subst h
      rw [← hq4] at o3
      exact absurd o3 (Nat.lt_irrefl _)
    refine ⟨((eC E i).getD k (0, 0)).1, q, hc1, by omega, hq2, by rw [hge, hq4], hk2, hc2, ?_⟩
    rw [hk2, hk1, hq3, w32_eq (z := 9 * _) (by omega) (by omega), w32_eq (by omega) (by omega)]
    omega
  -- the end
  have hend : ∀ (A : GV) {I5 : Nat → Int → Int}, frG g I I5 → GvM I5 g A → I5 271 (g : Int) = (i : Int) → PtM I5 w nC g p (chl E c (sub w p)) → G E c (sub w p) = fin9 A → wpc 78 159 [vR (some 243), vU, vU, vI (g : Int), vU] [] (0, 0) (S0 L, R, I5, J) Q := by
    intro A I5 f5 hA r5 hP hG
    refine lg_159 hg hA (fun I6 f6 f6' hA6 => ?_)
    refine hQ I6 (f5.tr f6) ?_
    unfold RwM
    rw [hgg, hG]
    refine ⟨hA6, fun _ => ⟨?_, hP.fr (by rw [f6' 272 (by decide)]) (by rw [f6' 273 (by decide)])⟩⟩
    rw [if_neg h4, f6' 271 (by decide), hie]; exact r5
  rw [f34 250 (by decide) (by decide) (by decide) (by decide) (by decide), f34 251 (by decide) (by decide) (by decide) (by decide) (by decide), f34 252 (by decide) (by decide) (by decide) (by decide) (by decide), f34 269 (by decide) (by decide) (by decide) (by decide) (by decide), hcl]
  have hlen : (chl E c (sub w p)).length = (eC E i).length := by rw [hch, List.length_map]
  have hT' : ∀ {I5 : Nat → Int → Int}, frG g I I5 → ∀ q c' : Nat, p < q → q < w.length → c' < nC → RwM I5 w E nC c' q := fun f5 q c' h1 h2 h3 => (hT q c' h1 h2 h3).fr f5 (by omega)
  by_cases hc0 : (eC E i).length = 0
  · rw [if_pos (by omega)]
    refine b_M_layGoal_117.mpr ⟨⟨by omega, by omega⟩, ?_⟩
    rw [f34 250 (by decide) (by decide) (by decide) (by decide) (by decide), hcl, if_pos (by omega)]
    have hnil : chl E c (sub w p) = [] := List.length_eq_zero_iff.mp (by omega)
    refine hend _ f4 hA0 r4.1 ⟨by rw [if_pos (by omega)]; exact r4.2.1, by rw [if_pos (by omega)]; exact r4.2.2⟩ ?_
    rw [hGn, hnil, hie]; rfl
  rw [if_neg (by omega)]
  obtain ⟨c1, q1, hc1, hq1, hq1l, hg1, h252, hv2, hw1⟩ := hpl 0 (by omega)
  have e20 : w32 (2 * (i : Int)) = ((2 * i + 0 : Nat) : Int) := by rw [w32_eq (by omega) (by omega)]; omega
  rw [e20, hw1, h252, upM_same]
  refine ⟨⟨by omega, by omega⟩, ⟨by omega, by omega⟩, ⟨by omega, by omega⟩, ⟨by omega, by omega⟩, ⟨by omega, by omega⟩, ?_⟩
  have f5 := f4.tr (frG_up (g := g) (a := 272) (z := ((9 * c1 + q1 : Nat) : Int)) (by decide) (by decide))
  have oB : ∀ c' q' : Nat, c' < nC → q' < w.length → okV 9 (G E c' (sub w q')) := fun c' q' h1 h2 => G_ok hE hC 9 c' _ (wf_sub hw h2) (by rw [sub_len]; have := en_le (w := w) (p := q') (by omega); unfold en at this; omega) h1
  have b1 := (hT' f5 q1 c1 hq1 hq1l hc1).1
  have hA1 : GvM (upM I4 272 (g : Int) ((9 * c1 + q1 : Nat) : Int)) g (1, [(i : Int)], 7 * ((i : Int) + 1), 1, 0) := ⟨by rw [upM_ne (by decide)]; exact hA0.1, fun h => by rw [upM_ne (by decide), upM_ne (by decide), upM_ne (by decide), upM_ne (by decide)]; exact hA0.2 h⟩
  refine k_addBelow (t := 2) hg (by omega) (by omega) (by decide) hA1 b1 ⟨by show 1 ≤ 2000; decide, by show (0 : Int) ≤ 7 * ((i : Int) + 1); omega, by show 7 * ((i : Int) + 1) ≤ 4000; omega, by show (0 : Int) ≤ 1; decide, by show (1 : Int) ≤ 100; decide, by show (0 : Nat) < 256; decide⟩ (oB c1 q1 hc1 hq1l) (fun I6 f6 f6i hA6 => ?_)
  have f56 : frG g I I6 := f5.tr ⟨fun a ha => f6 a (by omega) (by omega) (by omega) (by omega) (by omega), fun a j _ hj => f6i a j hj⟩
  have r6 : I6 271 (g : Int) = (i : Int) ∧ I6 272 (g : Int) = ((9 * c1 + q1 : Nat) : Int) ∧ I6 273 (g : Int) = -1 := by
    rw [f6 271 (by decide) (by decide) (by decide) (by decide) (by decide), f6 272 (by decide) (by decide) (by decide) (by decide) (by decide), f6 273 (by decide) (by decide) (by decide) (by decide) (by decide), upM_ne (by decide), upM_same, upM_ne (by decide)]
    exact ⟨r4.1, rfl, r4.2.2⟩
  have g6 : ∀ a, 250 ≤ a → a ≤ 252 → I6 a = I3 a := fun a h1 h2 => by rw [f56.1 a (by omega), f23.1 a (by omega)]
  have g69 : I6 269 = I3 269 := by rw [f6 269 (by decide) (by decide) (by decide) (by decide) (by decide), upM_ne (by decide), f34 269 (by decide) (by decide) (by decide) (by decide) (by decide)]
  refine b_M_layGoal_117.mpr ⟨⟨by omega, by omega⟩, ?_⟩
  rw [g6 250 (by decide) (by decide), g6 251 (by decide) (by decide), g6 252 (by decide) (by decide), g69, hcl]
  by_cases hc1' : (eC E i).length = 1
  · rw [if_pos (by omega)]
    refine hend _ f56 hA6 r6.1 ⟨by rw [if_neg (by omega)]; exact ⟨c1, q1, hc1, hq1, hq1l, r6.2.1, hg1⟩, by rw [if_pos (by omega)]; exact r6.2.2⟩ ?_
    obtain ⟨k1, hk1⟩ := List.length_eq_one_iff.mp (show (chl E c (sub w p)).length = 1 by omega)
    have hk1' : k1 = (c1, sub w q1) := by rw [hk1] at hg1; exact hg1
    rw [hGn, hk1, hk1', hie]; rfl
  rw [if_neg (by omega)]
  obtain ⟨c2, q2, hc2, hq2, hq2l, hg2, h252', hv2', hw2⟩ := hpl 1 (by omega)
  have e21 : w32 (w32 (2 * (i : Int)) + 1) = ((2 * i + 1 : Nat) : Int) := by rw [w32_eq (z := 2 * (i : Int)) (by omega) (by omega), w32_eq (by omega) (by omega)]; omega
  rw [e21, hw2, h252', upM_same]
  refine ⟨⟨by omega, by omega⟩, ⟨by omega, by omega⟩, ⟨by omega, by omega⟩, ⟨by omega, by omega⟩, ⟨by omega, by omega⟩, ?_⟩
  have f7 := f56.tr (frG_up (g := g) (a := 273) (z := ((9 * c2 + q2 : Nat) : Int)) (by decide) (by decide))
  have b2 := (hT' f7 q2 c2 hq2 hq2l hc2).1
  have o1 := oB c1 q1 hc1 hq1l
  have hA7 : GvM (upM I6 273 (g : Int) ((9 * c2 + q2 : Nat) : Int)) g (jn (1, [(i : Int)], 7 * ((i : Int) + 1), 1, 0) 2 (G E c1 (sub w q1))) := ⟨by rw [upM_ne (by decide)]; exact hA6.1, fun h => by rw [upM_ne (by decide), upM_ne (by decide), upM_ne (by decide), upM_ne (by decide)]; exact hA6.2 h⟩
  obtain ⟨j1, j2, j3, j4, j5, j6, j7, j8, j9⟩ := jn_ok (t := 2) (n := 9) (by decide) (show ((1, [(i : Int)], 7 * ((i : Int) + 1), 1, 0) : GV).1 = 1 ∨ _ ∨ _ from Or.inl rfl) (show (0 : Int) ≤ 1 ∧ (1 : Int) ≤ ((9 : Nat) : Int) + 1 ∧ (0 : Nat) < 256 ∧ (0 : Int) ≤ 7 * ((i : Int) + 1) by omega) o1
  have j2' : (jn (1, [(i : Int)], 7 * ((i : Int) + 1), 1, 0) 2 (G E c1 (sub w q1))).2.1.length ≤ 1 + (G E c1 (sub w q1)).2.1.length := j2
  have j4' : (jn (1, [(i : Int)], 7 * ((i : Int) + 1), 1, 0) 2 (G E c1 (sub w q1))).2.2.1 ≤ 7 * ((i : Int) + 1) + 2 * 1008 := j4
  have o12 : ((G E c1 (sub w q1)).2.1.length : Int) + 1 ≤ 512 := o1.2.1
  refine k_addBelow (t := 3) hg (by omega) (by omega) (by decide) hA7 b2 ⟨by omega, j3, by omega, j5, by omega, j7⟩ (oB c2 q2 hc2 hq2l) (fun I8 f8 f8i hA8 => ?_)
  have f78 : frG g I I8 := f7.tr ⟨fun a ha => f8 a (by omega) (by omega) (by omega) (by omega) (by omega), fun a j _ hj => f8i a j hj⟩
  have r8 : I8 271 (g : Int) = (i : Int) ∧ I8 272 (g : Int) = ((9 * c1 + q1 : Nat) : Int) ∧ I8 273 (g : Int) = ((9 * c2 + q2 : Nat) : Int) := by
    rw [f8 271 (by decide) (by decide) (by decide) (by decide) (by decide), f8 272 (by decide) (by decide) (by decide) (by decide) (by decide), f8 273 (by decide) (by decide) (by decide) (by decide) (by decide), upM_ne (by decide), upM_ne (by decide), upM_same]
    exact ⟨r6.1, r6.2.1, rfl⟩
  refine hend _ f78 hA8 r8.1 ⟨by rw [if_neg (by omega)]; exact ⟨c1, q1, hc1, hq1, hq1l, r8.2.1, hg1⟩, by rw [if_neg (by omega)]; exact ⟨c2, q2, hc2, hq2, hq2l, r8.2.2, hg2⟩⟩ ?_
  have hl2 : (chl E c (sub w p)).length = 2 := by omega
  obtain ⟨k1, k2, hk⟩ := len2 hl2
  have hk1' : k1 = (c1, sub w q1) := by rw [hk] at hg1; exact hg1
  have hk2' : k2 = (c2, sub w q2) := by rw [hk] at hg2; exact hg2
  rw [hGn, hk, hk1', hk2', hie]; rfl
/-- nothing but the goals' rows has changed -/
def frT (I I' : Nat → Int → Int) : Prop := ∀ a, a < 269 ∨ 277 < a → I' a = I a
theorem lG_in {w : List Nat} (hE : wfE E nC) (hC : nC ≤ 4) (hw : wfN w 1 = true) (hl : w.length ≤ 9) {p : Nat} (hp : p < w.length) : ∀ (d c : Nat) {I : Nat → Int → Int}, d + c = nC → I 243 1 = (nC : Int) → EnM I E → SpM I E → NowW I w → SzW I w → (∀ q c' : Nat, p ≤ q → q < w.length → c' < nC → (q = p → c' < c) → RwM I w E nC c' q) → (∀ I', frT I I' → (∀ q c' : Nat, p ≤ q → q < w.length → c' < nC → RwM I' w E nC c' q) → wpc 79 6 [vR (some 243), vI ((p : Int) + (-1)), vU] [] (0, 0) (S0 L, R, I', J) Q) → wpc 79 12 [vR (some 243), vI (p : Int), vI (c : Int)] [] (0, 0) (S0 L, R, I, J) Q := by
  intro d
  induction d with
  | zero =>
    intro c I hd hcl hM hS hn hs hT hQ
    refine b_M_layGoals_12.mpr ?_
    rw [hcl, if_neg (by omega), w32_eq (by omega) (by omega)]
    exact hQ I (fun _ _ => rfl) (fun q c' h1 h2 h3 => hT q c' h1 h2 h3 (fun _ => by omega))
  | succ d ih =>
    intro c I hd hcl hM hS hn hs hT hQ
    have h6 := wf_lt6 hw hp
    refine b_M_layGoals_12.mpr ?_
    rw [hcl, if_pos (by omega), hn.2 p hp, k_isVariable]
    refine ⟨⟨by omega, by omega⟩, ?_⟩
    have hgo : ∀ I', frG (9 * c + p) I I' → RwM I' w E nC c p → wpc 79 37 [vR (some 243), vI (p : Int), vI (c : Int)] [] (0, 0) (S0 L, R, I', J) Q := by
      intro I' f1 h1
      refine b_M_layGoals_37.mpr ?_
      rw [w32_s (by omega)]
      refine ih (c + 1) (by omega) (by rw [f1.1 243 (by omega)]; exact hcl) (f1.en hM) (hS.fr (f1.1 253 (by omega))) (hn.fr (by rw [f1.1 243 (by omega)]) (f1.1 267 (by omega))) (hs.fr (f1.1 268 (by omega))) (fun q c' h2 h3 h4 h5 => ?_) (fun I2 f2 hT2 => hQ I2 (fun a ha => by rw [f2 a ha, f1.1 a ha]) hT2)
      by_cases hqc : q = p ∧ c' = c
      · rw [hqc.1, hqc.2]; exact h1
      · exact (hT q c' h2 h3 h4 (fun hq => by have := h5 hq; omega)).fr f1 (by omega)
    refine b_M_layGoals_23.mpr ?_
    by_cases h4 : 4 ≤ w.getD p 0
    · rw [if_neg (fun h => bi_0.mp h ((var_cd h6).mpr h4))]
      refine k_layNeed hE hC hw hl (by omega) hp h4 hn (fun I' f1 h1 => ?_)
      exact b_M_layGoals_30.mpr (hgo I' f1 h1)
    · rw [if_pos (bi_0.mpr (fun h => h4 ((var_cd h6).mp h)))]
      refine k_layGoal hE hC hw hl (by omega) hp h4 hM hS hn hs (fun q c' h1 h2 h3 => hT q c' (by omega) h2 h3 (fun h => by omega)) (fun I' f1 h1 => ?_)
      exact hgo I' f1 h1
theorem lG_out {w : List Nat} (hE : wfE E nC) (hC : nC ≤ 4) (hw : wfN w 1 = true) (hl : w.length ≤ 9) : ∀ (p : Nat) {I : Nat → Int → Int}, p ≤ w.length → I 243 1 = (nC : Int) → EnM I E → SpM I E → NowW I w → SzW I w → (∀ q c' : Nat, p ≤ q → q < w.length → c' < nC → RwM I w E nC c' q) → (∀ I', frT I I' → (∀ q c' : Nat, q < w.length → c' < nC → RwM I' w E nC c' q) → Q none (S0 L, R, I', J)) → wpc 79 6 [vR (some 243), vI ((p : Int) + (-1)), vU] [] (0, 0) (S0 L, R, I, J) Q := by
  intro p
  induction p with
  | zero =>
    intro I _ hcl hM hS hn hs hT hQ
    refine b_M_layGoals_6.mpr ?_
    rw [if_pos (by omega)]
    exact hQ I (fun _ _ => rfl) (fun q c' h1 h2 => hT q c' (by omega) h1 h2)
  | succ p ih =>
    intro I hp hcl hM hS hn hs hT hQ
    refine b_M_layGoals_6.mpr ?_
    have e0 : ((p + 1 : Nat) : Int) + (-1) = (p : Int) := by omega
    rw [if_neg (by omega), e0]
    refine lG_in hE hC hw hl (by omega) nC 0 (by omega) hcl hM hS hn hs (fun q c' h1 h2 h3 h4 => hT q c' (by have : q ≠ p := (fun h => by have := h4 h; omega); omega) h2 h3) (fun I' f1 hT' => ?_)
    exact ih (by omega) (by rw [f1 243 (by omega)]; exact hcl) (hM.fr (by rw [f1 243 (by omega)]) (fun a h1 h2 => f1 a (by omega))) (hS.fr (f1 253 (by omega))) (hn.fr (by rw [f1 243 (by omega)]) (f1 267 (by omega))) (hs.fr (f1 268 (by omega))) hT' (fun I2 f2 hT2 => hQ I2 (fun a ha => by rw [f2 a ha, f1 a ha]) hT2)
theorem k_layGoals {w : List Nat} (hE : wfE E nC) (hC : nC ≤ 4) (hw : wfN w 1 = true) (hl : w.length ≤ 9) (hcl : I 243 1 = (nC : Int)) (hM : EnM I E) (hS : SpM I E) (hn : NowW I w) (hs : SzW I w) (hQ : ∀ I', frT I I' → (∀ q c' : Nat, q < w.length → c' < nC → RwM I' w E nC c' q) → Q none (S0 L, R, I', J)) : wpC 79 [vR (some 243)] (S0 L, R, I, J) Q := by
  refine c_M_layGoals.mpr ?_
  have e : w32 (I 243 34 - 1) = ((w.length : Nat) : Int) + (-1) := by rw [hn.1, w32_eq (by omega) (by omega)]; omega
  rw [e]
  exact lG_out hE hC hw hl w.length (Nat.le_refl _) hcl hM hS hn hs (fun q c' h1 h2 => by omega) hQ
end MGo
