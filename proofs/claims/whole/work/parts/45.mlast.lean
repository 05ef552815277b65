-- ===== the reference: image, restore; drawn types; the digest =====
def setI (s : ST) (m : IMG) : ST := (s.1, s.2.1, s.2.2.1, s.2.2.2.1, s.2.2.2.2.1, s.2.2.2.2.2.1, m)
def q_image (s : ST) : Int × ST := if sB s = 0 then (-103, s) else ((fil (sL s) : Int), setI s (some (eK (sE s), sL s, sN s)))
def rstS (s : ST) (m : (Nat → Nat) × (Nat → List Nat) × SN) : ST := (s.1, s.2.1, s.2.2.1, setK (sE s) m.1, m.2.1, m.2.2, s.2.2.2.2.2.2)
def q_restore (s : ST) : Int × ST := match sI s with
  | none => (-103, s)
  | some m => ((fil m.2.1 : Int), rstS s m)
section MIm
variable {L : Nat} {R : Nat → Int → Option Nat} {I : Nat → Int → Int} {J : Nat → Int → Int64} {Q : Option MV → MM → Prop} {s : ST}
theorem im_1 : ∀ (d k : Nat) {I : Nat → Int → Int}, d + k = 6 → (∀ q : Nat, q < k → I 283 (q : Int) = I 246 (q : Int) ∧ I 286 (q : Int) = I 256 (q : Int) ∧ I 287 (q : Int) = I 257 (q : Int) ∧ I 288 (q : Int) = I 258 (q : Int)) → (∀ I', (∀ a, a ≠ 283 → a ≠ 286 → a ≠ 287 → a ≠ 288 → I' a = I a) → (∀ q : Nat, q < 6 → I' 283 (q : Int) = I 246 (q : Int) ∧ I' 286 (q : Int) = I 256 (q : Int) ∧ I' 287 (q : Int) = I 257 (q : Int) ∧ I' 288 (q : Int) = I 258 (q : Int)) → wpc 128 63 [vR (some 243), vI 0] [] (0, 0) (S0 L, R, I', J) Q) → wpc 128 21 [vR (some 243), vI (k : Int)] [] (0, 0) (S0 L, R, I, J) Q := by
  intro d
  induction d with
  | zero =>
    intro k I hd hq hQ
    refine b_M_image_21.mpr ?_
    rw [if_neg (by omega)]
    exact hQ I (fun _ _ _ _ _ => rfl) (fun q h => hq q (by omega))
  | succ d ih =>
    intro k I hd hq hQ
    refine b_M_image_21.mpr ?_
    rw [if_pos (by omega), upM_ne (a := 287) (b := 258) (by decide), upM_ne (a := 286) (b := 258) (by decide), upM_ne (a := 283) (b := 258) (by decide), upM_ne (a := 286) (b := 257) (by decide), upM_ne (a := 283) (b := 257) (by decide), upM_ne (a := 283) (b := 256) (by decide), w32_s (by omega)]
    refine ⟨⟨by omega, by omega⟩, ⟨by omega, by omega⟩, ⟨by omega, by omega⟩, ⟨by omega, by omega⟩, ⟨by omega, by omega⟩, ⟨by omega, by omega⟩, ⟨by omega, by omega⟩, ⟨by omega, by omega⟩, ?_⟩
    have g : ∀ a, a ≠ 283 → a ≠ 286 → a ≠ 287 → a ≠ 288 → (upM (upM (upM (upM I 283 (k : Int) (I 246 (k : Int))) 286 (k : Int) (I 256 (k : Int))) 287 (k : Int) (I 257 (k : Int))) 288 (k : Int) (I 258 (k : Int))) a = I a := fun a p1 p2 p3 p4 => by rw [upM_ne p4, upM_ne p3, upM_ne p2, upM_ne p1]
    refine ih (k + 1) (by omega) (fun q h => ?_) (fun I' f1 h1 => hQ I' (fun a p1 p2 p3 p4 => by rw [f1 a p1 p2 p3 p4, g a p1 p2 p3 p4]) (fun q h => ?_))
    · rw [g 246 (by decide) (by decide) (by decide) (by decide), g 256 (by decide) (by decide) (by decide) (by decide), g 257 (by decide) (by decide) (by decide) (by decide), g 258 (by decide) (by decide) (by decide) (by decide)]
      by_cases hqk : q = k
      · subst hqk
        refine ⟨?_, ?_, ?_, upM_same⟩
        · rw [upM_ne (by decide), upM_ne (by decide), upM_ne (by decide), upM_same]
        · rw [upM_ne (by decide), upM_ne (by decide), upM_same]
        · rw [upM_ne (by decide), upM_same]
      · have hne : ((q : Nat) : Int) ≠ (k : Int) := by omega
        rw [upM_oi hne, upM_oi hne, upM_oi hne, upM_oi hne, upM_oi hne, upM_oi hne, upM_oi hne, upM_oi hne, upM_oi hne, upM_oi hne, upM_oi hne, upM_oi hne, upM_oi hne, upM_oi hne, upM_oi hne, upM_oi hne]
        exact hq q (by omega)
    · have := h1 q h
      rw [g 246 (by decide) (by decide) (by decide) (by decide), g 256 (by decide) (by decide) (by decide) (by decide), g 257 (by decide) (by decide) (by decide) (by decide), g 258 (by decide) (by decide) (by decide) (by decide)] at this
      exact this
theorem im_2 : ∀ (d k : Nat) {I : Nat → Int → Int}, d + k = 36 → (∀ q : Nat, q < k → I 284 (q : Int) = I 254 (q : Int)) → (∀ I', (∀ a, a ≠ 284 → I' a = I a) → (∀ q : Nat, q < 36 → I' 284 (q : Int) = I 254 (q : Int)) → wpc 128 81 [vR (some 243), vI 0] [] (0, 0) (S0 L, R, I', J) Q) → wpc 128 63 [vR (some 243), vI (k : Int)] [] (0, 0) (S0 L, R, I, J) Q := by
  intro d
  induction d with
  | zero =>
    intro k I hd hq hQ
    refine b_M_image_63.mpr ?_
    rw [if_neg (by omega)]
    exact hQ I (fun _ _ => rfl) (fun q h => hq q (by omega))
  | succ d ih =>
    intro k I hd hq hQ
    refine b_M_image_63.mpr ?_
    rw [if_pos (by omega), w32_s (by omega)]
    refine ⟨⟨by omega, by omega⟩, ⟨by omega, by omega⟩, ih (k + 1) (by omega) (fun q h => ?_) (fun I' f1 h1 => hQ I' (fun a ha => by rw [f1 a ha, upM_ne ha]) (fun q h => by rw [h1 q h, upM_ne (by decide)]))⟩
    rw [upM_ne (a := 284) (b := 254) (by decide)]
    by_cases hqk : q = k
    · rw [hqk, upM_same]
    · rw [upM_i (by omega)]; exact hq q (by omega)
theorem im_3 : ∀ (d k : Nat) {I : Nat → Int → Int}, d + k = 4 → (∀ q : Nat, q < k → I 285 (q : Int) = I 255 (q : Int)) → (∀ I', (∀ a, a ≠ 285 → I' a = I a) → (∀ q : Nat, q < 4 → I' 285 (q : Int) = I 255 (q : Int)) → wpC 127 [vR (some 243)] (S0 L, R, I', J) (fun v M2 => wpc 128 99 [vU, vU] (v.toList ++ []) (0, 0) M2 Q)) → wpc 128 81 [vR (some 243), vI (k : Int)] [] (0, 0) (S0 L, R, I, J) Q := by
  intro d
  induction d with
  | zero =>
    intro k I hd hq hQ
    refine b_M_image_81.mpr ?_
    rw [if_neg (by omega)]
    exact hQ I (fun _ _ => rfl) (fun q h => hq q (by omega))
  | succ d ih =>
    intro k I hd hq hQ
    refine b_M_image_81.mpr ?_
    rw [if_pos (by omega), w32_s (by omega)]
    refine ⟨⟨by omega, by omega⟩, ⟨by omega, by omega⟩, ih (k + 1) (by omega) (fun q h => ?_) (fun I' f1 h1 => hQ I' (fun a ha => by rw [f1 a ha, upM_ne ha]) (fun q h => by rw [h1 q h, upM_ne (by decide)]))⟩
    rw [upM_ne (a := 285) (b := 255) (by decide)]
    by_cases hqk : q = k
    · rw [hqk, upM_same]
    · rw [upM_i (by omega)]; exact hq q (by omega)
theorem m_image (hw : wfS s) (hM : MSt I s) (hQ : mpost L R I J (vI (q_image s).1) (q_image s).2 Q) : wpC 128 [vR (some 243)] (S0 L, R, I, J) Q := by
  obtain ⟨h1, h2, h3, h4, h5, h6, h7, h8⟩ := id hM
  have hE6 := hw.2.2.2.1.1
  refine c_M_image.mpr ?_
  unfold q_image at hQ
  rw [h2]
  by_cases hb : sB s = 0
  · rw [if_pos hb] at hQ
    rw [if_pos (by omega)]; exact hQ.t hM frM.rf
  · rw [if_neg hb] at hQ
    rw [if_neg (by omega), upM_i (i' := 0) (i := 53) (by decide), h2, upM_i (i' := 15) (i := 54) (by decide), upM_i (i' := 15) (i := 53) (by decide), h7.1]
    have g0 : ∀ a, a ≠ 243 → (upM (upM (upM I 243 53 1) 243 54 (sB s : Int)) 243 55 ((sN s).length : Int)) a = I a := fun a p1 => by rw [upM_ne p1, upM_ne p1, upM_ne p1]
    have q0 : ∀ j : Int, j ≠ 53 → j ≠ 54 → j ≠ 55 → (upM (upM (upM I 243 53 1) 243 54 (sB s : Int)) 243 55 ((sN s).length : Int)) 243 j = I 243 j := fun j p1 p2 p3 => by rw [upM_i p3, upM_i p2, upM_i p1]
    have v0 : (upM (upM (upM I 243 53 1) 243 54 (sB s : Int)) 243 55 ((sN s).length : Int)) 243 53 = 1 ∧ (upM (upM (upM I 243 53 1) 243 54 (sB s : Int)) 243 55 ((sN s).length : Int)) 243 54 = (sB s : Int) ∧ (upM (upM (upM I 243 53 1) 243 54 (sB s : Int)) 243 55 ((sN s).length : Int)) 243 55 = ((sN s).length : Int) := ⟨by rw [upM_i (by decide), upM_i (by decide), upM_same], by rw [upM_i (by decide), upM_same], upM_same⟩
    generalize (upM (upM (upM I 243 53 1) 243 54 (sB s : Int)) 243 55 ((sN s).length : Int)) = I0 at *
    refine im_1 6 0 rfl (fun q h => by omega) (fun I1 f1 c1 => ?_)
    refine im_2 36 0 rfl (fun q h => by omega) (fun I2 f2 c2 => ?_)
    refine im_3 4 0 rfl (fun q h => by omega) (fun I3 f3 c3 => ?_)
    have g : ∀ a, a ≠ 243 → a < 283 ∨ 288 < a → I3 a = I a := fun a p1 p2 => by rw [f3 a (by omega), f2 a (by omega), f1 a (by omega) (by omega) (by omega) (by omega), g0 a p1]
    have q : ∀ j : Int, j ≠ 53 → j ≠ 54 → j ≠ 55 → I3 243 j = I 243 j := fun j p1 p2 p3 => by rw [f3 243 (by decide), f2 243 (by decide), f1 243 (by decide) (by decide) (by decide) (by decide), q0 j p1 p2 p3]
    have v : ∀ j : Int, I3 243 j = I0 243 j := fun j => by rw [f3 243 (by decide), f2 243 (by decide), f1 243 (by decide) (by decide) (by decide) (by decide)]
    have mL : ∀ k : Nat, k < 4 → SlW I3 k (sL s k) := fun k hk => by
      have := h6 k hk
      unfold SlW at *
      rw [g 254 (by decide) (by omega), g 255 (by decide) (by omega)]; exact this
    refine k_filled mL ?_
    refine b_M_image_99.mpr ?_
    refine hQ _ _ ?_ (fun a ha => g a (by omega) (by omega)) (fun _ _ => rfl)
    refine ⟨⟨by rw [q 19 (by decide) (by decide) (by decide)]; exact h1.1, fun k hk => by rw [g 259 (by decide) (by omega)]; exact h1.2 k hk⟩, by rw [q 0 (by decide) (by decide) (by decide)]; exact h2, h3.fr (q 1 (by decide) (by decide) (by decide)) (g 244 (by decide) (by omega)) (g 245 (by decide) (by omega)), h4.fr (q 4 (by decide) (by decide) (by decide)) (fun a p1 p2 => g a (by omega) (by omega)), h5.fr (g 253 (by decide) (by omega)), mL, ⟨by rw [q 15 (by decide) (by decide) (by decide)]; exact h7.1, fun k hk => by rw [g 256 (by decide) (by omega), g 257 (by decide) (by omega), g 258 (by decide) (by omega)]; exact h7.2 k hk⟩, ⟨Or.inr ⟨by rw [v]; exact v0.1, by rw [v, v0.2.1]; exact Int.le_refl _⟩, by rw [v]; exact v0.1, by rw [v]; exact v0.2.1, by rw [v]; exact v0.2.2, fun i hi => ?_, fun k hk => ⟨?_, fun p hp => ?_⟩, fun k hk => ?_⟩⟩
    · have hi6 : i < eN (sE s) := hi
      rw [f3 283 (by decide), f2 283 (by decide), (c1 i (by omega)).1, g0 246 (by decide)]
      exact (h4.2 i hi6).1
    · rw [c3 k hk, f2 255 (by decide), f1 255 (by decide) (by decide) (by decide) (by decide), g0 255 (by decide)]
      exact (h6 k hk).1
    · have h9 := ok9 (hw.2.2.2.2.1 k hk)
      have hp2 : p < (sL s k).length := hp
      rw [f3 284 (by decide), c2 (9 * k + p) (by omega), f1 254 (by decide) (by decide) (by decide) (by decide), g0 254 (by decide)]
      exact (h6 k hk).2 p hp
    · have hk6 := hw.2.2.2.2.2.1.1
      have hk2 : k < (sN s).length := hk
      obtain ⟨_, c6, c7, c8⟩ := c1 k (by omega)
      rw [f3 286 (by decide), f2 286 (by decide), f3 287 (by decide), f2 287 (by decide), f3 288 (by decide), f2 288 (by decide), c6, c7, c8, g0 256 (by decide), g0 257 (by decide), g0 258 (by decide)]
      exact h7.2 k hk
theorem re_1 : ∀ (d k : Nat) {I : Nat → Int → Int}, d + k = 6 → (∀ q : Nat, q < k → I 246 (q : Int) = I 283 (q : Int) ∧ I 256 (q : Int) = I 286 (q : Int) ∧ I 257 (q : Int) = I 287 (q : Int) ∧ I 258 (q : Int) = I 288 (q : Int)) → (∀ I', (∀ a, a ≠ 246 → a ≠ 256 → a ≠ 257 → a ≠ 258 → I' a = I a) → (∀ q : Nat, q < 6 → I' 246 (q : Int) = I 283 (q : Int) ∧ I' 256 (q : Int) = I 286 (q : Int) ∧ I' 257 (q : Int) = I 287 (q : Int) ∧ I' 258 (q : Int) = I 288 (q : Int)) → wpc 129 62 [vR (some 243), vI 0] [] (0, 0) (S0 L, R, I', J) Q) → wpc 129 20 [vR (some 243), vI (k : Int)] [] (0, 0) (S0 L, R, I, J) Q := by
  intro d
  induction d with
  | zero =>
    intro k I hd hq hQ
    refine b_M_restore_20.mpr ?_
    rw [if_neg (by omega)]
    exact hQ I (fun _ _ _ _ _ => rfl) (fun q h => hq q (by omega))
  | succ d ih =>
    intro k I hd hq hQ
    refine b_M_restore_20.mpr ?_
    rw [if_pos (by omega), upM_ne (a := 257) (b := 288) (by decide), upM_ne (a := 256) (b := 288) (by decide), upM_ne (a := 246) (b := 288) (by decide), upM_ne (a := 256) (b := 287) (by decide), upM_ne (a := 246) (b := 287) (by decide), upM_ne (a := 246) (b := 286) (by decide), w32_s (by omega)]
    refine ⟨⟨by omega, by omega⟩, ⟨by omega, by omega⟩, ⟨by omega, by omega⟩, ⟨by omega, by omega⟩, ⟨by omega, by omega⟩, ⟨by omega, by omega⟩, ⟨by omega, by omega⟩, ⟨by omega, by omega⟩, ?_⟩
    have g : ∀ a, a ≠ 246 → a ≠ 256 → a ≠ 257 → a ≠ 258 → (upM (upM (upM (upM I 246 (k : Int) (I 283 (k : Int))) 256 (k : Int) (I 286 (k : Int))) 257 (k : Int) (I 287 (k : Int))) 258 (k : Int) (I 288 (k : Int))) a = I a := fun a p1 p2 p3 p4 => by rw [upM_ne p4, upM_ne p3, upM_ne p2, upM_ne p1]
    refine ih (k + 1) (by omega) (fun q h => ?_) (fun I' f1 h1 => hQ I' (fun a p1 p2 p3 p4 => by rw [f1 a p1 p2 p3 p4, g a p1 p2 p3 p4]) (fun q h => ?_))
    · rw [g 283 (by decide) (by decide) (by decide) (by decide), g 286 (by decide) (by decide) (by decide) (by decide), g 287 (by decide) (by decide) (by decide) (by decide), g 288 (by decide) (by decide) (by decide) (by decide)]
      by_cases hqk : q = k
      · subst hqk
        refine ⟨?_, ?_, ?_, upM_same⟩
        · rw [upM_ne (by decide), upM_ne (by decide), upM_ne (by decide), upM_same]
        · rw [upM_ne (by decide), upM_ne (by decide), upM_same]
        · rw [upM_ne (by decide), upM_same]
      · have hne : ((q : Nat) : Int) ≠ (k : Int) := by omega
        rw [upM_oi hne, upM_oi hne, upM_oi hne, upM_oi hne, upM_oi hne, upM_oi hne, upM_oi hne, upM_oi hne, upM_oi hne, upM_oi hne, upM_oi hne, upM_oi hne, upM_oi hne, upM_oi hne, upM_oi hne, upM_oi hne]
        exact hq q (by omega)
    · have := h1 q h
      rw [g 283 (by decide) (by decide) (by decide) (by decide), g 286 (by decide) (by decide) (by decide) (by decide), g 287 (by decide) (by decide) (by decide) (by decide), g 288 (by decide) (by decide) (by decide) (by decide)] at this
      exact this
theorem re_2 : ∀ (d k : Nat) {I : Nat → Int → Int}, d + k = 36 → (∀ q : Nat, q < k → I 254 (q : Int) = I 284 (q : Int)) → (∀ I', (∀ a, a ≠ 254 → I' a = I a) → (∀ q : Nat, q < 36 → I' 254 (q : Int) = I 284 (q : Int)) → wpc 129 80 [vR (some 243), vI 0] [] (0, 0) (S0 L, R, I', J) Q) → wpc 129 62 [vR (some 243), vI (k : Int)] [] (0, 0) (S0 L, R, I, J) Q := by
  intro d
  induction d with
  | zero =>
    intro k I hd hq hQ
    refine b_M_restore_62.mpr ?_
    rw [if_neg (by omega)]
    exact hQ I (fun _ _ => rfl) (fun q h => hq q (by omega))
  | succ d ih =>
    intro k I hd hq hQ
    refine b_M_restore_62.mpr ?_
    rw [if_pos (by omega), w32_s (by omega)]
    refine ⟨⟨by omega, by omega⟩, ⟨by omega, by omega⟩, ih (k + 1) (by omega) (fun q h => ?_) (fun I' f1 h1 => hQ I' (fun a ha => by rw [f1 a ha, upM_ne ha]) (fun q h => by rw [h1 q h, upM_ne (by decide)]))⟩
    rw [upM_ne (a := 254) (b := 284) (by decide)]
    by_cases hqk : q = k
    · rw [hqk, upM_same]
    · rw [upM_i (by omega)]; exact hq q (by omega)
theorem re_3 : ∀ (d k : Nat) {I : Nat → Int → Int}, d + k = 4 → (∀ q : Nat, q < k → I 255 (q : Int) = I 285 (q : Int)) → (∀ I', (∀ a, a ≠ 255 → I' a = I a) → (∀ q : Nat, q < 4 → I' 255 (q : Int) = I 285 (q : Int)) → wpC 127 [vR (some 243)] (S0 L, R, I', J) (fun v M2 => wpc 129 98 [vU, vU] (v.toList ++ []) (0, 0) M2 Q)) → wpc 129 80 [vR (some 243), vI (k : Int)] [] (0, 0) (S0 L, R, I, J) Q := by
  intro d
  induction d with
  | zero =>
    intro k I hd hq hQ
    refine b_M_restore_80.mpr ?_
    rw [if_neg (by omega)]
    exact hQ I (fun _ _ => rfl) (fun q h => hq q (by omega))
  | succ d ih =>
    intro k I hd hq hQ
    refine b_M_restore_80.mpr ?_
    rw [if_pos (by omega), w32_s (by omega)]
    refine ⟨⟨by omega, by omega⟩, ⟨by omega, by omega⟩, ih (k + 1) (by omega) (fun q h => ?_) (fun I' f1 h1 => hQ I' (fun a ha => by rw [f1 a ha, upM_ne ha]) (fun q h => by rw [h1 q h, upM_ne (by decide)]))⟩
    rw [upM_ne (a := 255) (b := 285) (by decide)]
    by_cases hqk : q = k
    · rw [hqk, upM_same]
    · rw [upM_i (by omega)]; exact hq q (by omega)
theorem m_restore (hw : wfS s) (hM : MSt I s) (hQ : mpost L R I J (vI (q_restore s).1) (q_restore s).2 Q) : wpC 129 [vR (some 243)] (S0 L, R, I, J) Q := by
  obtain ⟨h1, h2, h3, h4, h5, h6, h7, h8⟩ := id hM
  have hE6 := hw.2.2.2.1.1
  refine c_M_restore.mpr ?_
  unfold q_restore at hQ
  unfold ImM at h8
  cases hI : sI s with
  | none =>
    rw [hI] at hQ h8
    simp only at hQ h8
    have hq := hQ.t hM frM.rf
    by_cases h53 : I 243 53 = 0
    · rw [if_pos h53]; exact hq
    · rw [if_neg h53, h2]
      rw [if_neg (fun q => h8.2 ⟨by rcases h8.1 with h | h; exact absurd h h53; exact h.1, q⟩)]
      exact hq
  | some m =>
    have hwI := hw.2.2.2.2.2.2.2.2
    rw [hI] at hQ h8 hwI
    simp only at hQ h8 hwI
    obtain ⟨w1, w2, w3⟩ := hwI
    obtain ⟨_, i1, i2, i3, i4, i5, i6⟩ := h8
    rw [i1, if_neg (by decide), i2, h2, if_pos rfl, i3]
    have g0 : ∀ a, a ≠ 243 → (upM I 243 15 (m.2.2.length : Int)) a = I a := fun a p1 => upM_ne p1
    have q0 : ∀ j : Int, j ≠ 15 → (upM I 243 15 (m.2.2.length : Int)) 243 j = I 243 j := fun j p1 => upM_i p1
    have v0 : (upM I 243 15 (m.2.2.length : Int)) 243 15 = (m.2.2.length : Int) := upM_same
    generalize (upM I 243 15 (m.2.2.length : Int)) = I0 at *
    refine re_1 6 0 rfl (fun q h => by omega) (fun I1 f1 c1 => ?_)
    refine re_2 36 0 rfl (fun q h => by omega) (fun I2 f2 c2 => ?_)
    refine re_3 4 0 rfl (fun q h => by omega) (fun I3 f3 c3 => ?_)
    have g : ∀ a, a ≠ 243 → a ≠ 246 → a ≠ 254 → a ≠ 255 → a ≠ 256 → a ≠ 257 → a ≠ 258 → I3 a = I a := fun a p1 p2 p3 p4 p5 p6 p7 => by rw [f3 a p4, f2 a p3, f1 a p2 p5 p6 p7, g0 a p1]
    have q : ∀ j : Int, I3 243 j = I0 243 j := fun j => by rw [f3 243 (by decide), f2 243 (by decide), f1 243 (by decide) (by decide) (by decide) (by decide)]
    have mL : ∀ k : Nat, k < 4 → SlW I3 k (m.2.1 k) := fun k hk => by
      refine ⟨?_, fun p hp => ?_⟩
      · rw [c3 k hk, f2 285 (by decide), f1 285 (by decide) (by decide) (by decide) (by decide), g0 285 (by decide)]
        exact (i5 k hk).1
      · have h9 := ok9 (w2 k hk)
        rw [f3 254 (by decide), c2 (9 * k + p) (by omega), f1 284 (by decide) (by decide) (by decide) (by decide), g0 284 (by decide)]
        exact (i5 k hk).2 p hp
    refine k_filled (s := rstS s m) mL ?_
    refine b_M_restore_98.mpr ?_
    refine hQ _ _ ?_ (fun a ha => g a (by omega) (by omega) (by omega) (by omega) (by omega) (by omega) (by omega)) (fun _ _ => rfl)
    refine ⟨⟨by rw [q, q0 19 (by decide)]; exact h1.1, fun k hk => by rw [g 259 (by decide) (by decide) (by decide) (by decide) (by decide) (by decide) (by decide)]; exact h1.2 k hk⟩, by rw [q, q0 0 (by decide)]; exact h2, h3.fr (by rw [q, q0 1 (by decide)]) (g 244 (by decide) (by decide) (by decide) (by decide) (by decide) (by decide) (by decide)) (g 245 (by decide) (by decide) (by decide) (by decide) (by decide) (by decide) (by decide)), ⟨by rw [q, q0 4 (by decide)]; exact h4.1, fun j hj => ?_⟩, ?_, mL, ⟨by rw [q]; exact v0, fun k hk => ?_⟩, ?_⟩
    · have hj6 : j < eN (sE s) := hj
      obtain ⟨e1, e2⟩ := h4.2 j hj
      unfold HdW at *
      rw [g 247 (by decide) (by decide) (by decide) (by decide) (by decide) (by decide) (by decide), g 248 (by decide) (by decide) (by decide) (by decide) (by decide) (by decide) (by decide), g 249 (by decide) (by decide) (by decide) (by decide) (by decide) (by decide) (by decide), g 250 (by decide) (by decide) (by decide) (by decide) (by decide) (by decide) (by decide), g 251 (by decide) (by decide) (by decide) (by decide) (by decide) (by decide) (by decide), g 252 (by decide) (by decide) (by decide) (by decide) (by decide) (by decide) (by decide)]
      refine ⟨?_, e2⟩
      rw [f3 246 (by decide), f2 246 (by decide), (c1 j (by omega)).1, g0 283 (by decide)]
      exact i4 j hj6
    · exact SpM.fr h5 (g 253 (by decide) (by decide) (by decide) (by decide) (by decide) (by decide) (by decide))
    · have hk6 := w3.1
      have hk2 : k < m.2.2.length := hk
      obtain ⟨_, c6, c7, c8⟩ := c1 k (by omega)
      rw [f3 256 (by decide), f2 256 (by decide), f3 257 (by decide), f2 257 (by decide), f3 258 (by decide), f2 258 (by decide), c6, c7, c8, g0 286 (by decide), g0 287 (by decide), g0 288 (by decide)]
      exact i6 k hk
    · have h8' := hM.2.2.2.2.2.2.2
      unfold ImM at *
      rw [q 53, q 54, q 55, q0 53 (by decide), q0 54 (by decide), q0 55 (by decide), g 283 (by decide) (by decide) (by decide) (by decide) (by decide) (by decide) (by decide), g 284 (by decide) (by decide) (by decide) (by decide) (by decide) (by decide) (by decide), g 285 (by decide) (by decide) (by decide) (by decide) (by decide) (by decide) (by decide), g 286 (by decide) (by decide) (by decide) (by decide) (by decide) (by decide) (by decide), g 287 (by decide) (by decide) (by decide) (by decide) (by decide) (by decide) (by decide), g 288 (by decide) (by decide) (by decide) (by decide) (by decide) (by decide) (by decide)]
      exact h8'
end MIm
