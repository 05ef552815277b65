-- ===== the digest: a pure picture; the reference's =====
def mxv (h : Int64) (v : Int) : Int64 := (Int64.ofInt 31) * h + Int64.ofInt v
def mxN (f : Nat → Int) : Nat → Int64 → Int64
  | 0, h => h
  | n + 1, h => mxv (mxN f n h) (f n)
def itN (g : Nat → Int64 → Int64) : Nat → Int64 → Int64
  | 0, h => h
  | n + 1, h => g n (itN g n h)
def dgS (s : ST) (k : Nat) (h : Int64) : Int64 := if sL s k = [] then h else itN (fun c h => mxN (goN s (sL s k) c) 7 h) (sC s) h
def dg1 (s : ST) : Int64 := itN (fun c h => mxN (abN s c) 3 h) (sC s) (Int64.ofInt 1367)
def dg2 (s : ST) : Int64 := itN (fun i h => mxN (inN s i) 8 h) (eN (sE s)) (dg1 s)
def dg3 (s : ST) : Int64 := itN (dgS s) 4 (dg2 s)
def dg4 (s : ST) : Int64 := mxN (fun k => (sP s).getD k 0) (sP s).length (dg3 s)
def q_digest (s : ST) : Int64 := mxN (hmN s) 11 (dg4 s)
section MDg
variable {L : Nat} {R : Nat → Int → Option Nat} {I : Nat → Int → Int} {J : Nat → Int → Int64} {Q : Option MV → MM → Prop} {s : ST}
theorem k_mix {v : Int} (hQ : Q none (S0 L, R, I, upM J 243 62 (mxv (J 243 62) v))) : wpC 137 [vR (some 243), vL (Int64.ofInt v)] (S0 L, R, I, J) Q := c_M_mix.mpr hQ
theorem frJ.tr {J J' J2 : Nat → Int → Int64} (h : frJ J J') (h2 : frJ J' J2) : frJ J J2 := fun a ha => by rw [h2 a ha, h a ha]
theorem frJ_up {J : Nat → Int → Int64} {z : Int64} : frJ J (upM J 243 62 z) := fun a ha => upM_ne ha
-- the two rows of loops at the begin
theorem d1_in (hw : wfS s) {c : Nat} (hc : c < sC s) {h0 : Int64} : ∀ (d w : Nat) {J : Nat → Int → Int64}, MSt I s → d + w = 3 → J 243 62 = mxN (abN s c) w h0 → (∀ J', frJ J J' → J' 243 62 = mxN (abN s c) 3 h0 → wpc 139 6 [vR (some 243), vI ((c + 1 : Nat) : Int), vU] [] (0, 0) (S0 L, R, I, J') Q) → wpc 139 14 [vR (some 243), vI (c : Int), vI (w : Int)] [] (0, 0) (S0 L, R, I, J) Q := by
  have hC4 := hw.2.2.1.1
  intro d
  induction d with
  | zero =>
    intro w J hM hd hJ hQ
    refine b_M_digest_14.mpr ?_
    rw [if_neg (by omega), w32_s (by omega)]
    have : w = 3 := by omega
    subst this
    exact hQ J (fun _ _ => rfl) hJ
  | succ d ih =>
    intro w J hM hd hJ hQ
    refine b_M_digest_14.mpr ?_
    rw [if_pos (by omega)]
    refine k_aboutNow hw hM hc ?_
    refine b_M_digest_24.mpr ?_
    refine k_mix ?_
    refine b_M_digest_27.mpr ?_
    rw [w32_s (by omega)]
    exact ih (w + 1) hM (by omega) (by rw [upM_same, hJ]; rfl) (fun J' f h => hQ J' (frJ_up.tr f) h)
theorem d1_out (hw : wfS s) (hM : MSt I s) {h0 : Int64} : ∀ (d c : Nat) {J : Nat → Int → Int64}, d + c = sC s → J 243 62 = itN (fun c h => mxN (abN s c) 3 h) c h0 → (∀ J', frJ J J' → J' 243 62 = itN (fun c h => mxN (abN s c) 3 h) (sC s) h0 → wpc 139 36 [vR (some 243), vI 0, vU] [] (0, 0) (S0 L, R, I, J') Q) → wpc 139 6 [vR (some 243), vI (c : Int), vU] [] (0, 0) (S0 L, R, I, J) Q := by
  intro d
  induction d with
  | zero =>
    intro c J hd hJ hQ
    refine b_M_digest_6.mpr ?_
    rw [hM.2.2.1.1, if_neg (by omega)]
    have : c = sC s := by omega
    subst this
    exact hQ J (fun _ _ => rfl) hJ
  | succ d ih =>
    intro c J hd hJ hQ
    refine b_M_digest_6.mpr ?_
    rw [hM.2.2.1.1, if_pos (by omega)]
    refine d1_in hw (by omega) (h0 := itN (fun c h => mxN (abN s c) 3 h) c h0) 3 0 hM rfl hJ (fun J' f h => ?_)
    exact ih (c + 1) (by omega) h (fun J2 f2 h2 => hQ J2 (f.tr f2) h2)
theorem d2_in (hw : wfS s) {i : Nat} (hi : i < eN (sE s)) {h0 : Int64} : ∀ (d w : Nat) {I : Nat → Int → Int} {J : Nat → Int → Int64}, MSt I s → d + w = 8 → J 243 62 = mxN (inN s i) w h0 → (∀ I' J', frM I I' → frJ J J' → J' 243 62 = mxN (inN s i) 8 h0 → wpc 139 36 [vR (some 243), vI ((i + 1 : Nat) : Int), vU] [] (0, 0) (S0 L, R, I', J') Q) → wpc 139 44 [vR (some 243), vI (i : Int), vI (w : Int)] [] (0, 0) (S0 L, R, I, J) Q := by
  have h6 := hw.2.2.2.1.1
  intro d
  induction d with
  | zero =>
    intro w I J hM hd hJ hQ
    refine b_M_digest_44.mpr ?_
    rw [if_neg (by omega), w32_s (by omega)]
    have : w = 8 := by omega
    subst this
    exact hQ I J frM.rf (fun _ _ => rfl) hJ
  | succ d ih =>
    intro w I J hM hd hJ hQ
    refine b_M_digest_44.mpr ?_
    rw [if_pos (by omega)]
    refine k_instanceNow hw hM hi (fun I1 f1 => ?_)
    refine b_M_digest_54.mpr ?_
    refine k_mix ?_
    refine b_M_digest_57.mpr ?_
    rw [w32_s (by omega)]
    exact ih (w + 1) (hM.fr f1) (by omega) (by rw [upM_same, hJ]; rfl) (fun I' J' f g h => hQ I' J' (f1.tr f) (frJ_up.tr g) h)
theorem d2_out (hw : wfS s) {h0 : Int64} : ∀ (d i : Nat) {I : Nat → Int → Int} {J : Nat → Int → Int64}, MSt I s → d + i = eN (sE s) → J 243 62 = itN (fun i h => mxN (inN s i) 8 h) i h0 → (∀ I' J', frM I I' → frJ J J' → J' 243 62 = itN (fun i h => mxN (inN s i) 8 h) (eN (sE s)) h0 → wpc 139 66 [vR (some 243), vI 0, vU] [] (0, 0) (S0 L, R, I', J') Q) → wpc 139 36 [vR (some 243), vI (i : Int), vU] [] (0, 0) (S0 L, R, I, J) Q := by
  intro d
  induction d with
  | zero =>
    intro i I J hM hd hJ hQ
    refine b_M_digest_36.mpr ?_
    rw [hM.2.2.2.1.1, if_neg (by omega)]
    have : i = eN (sE s) := by omega
    subst this
    exact hQ I J frM.rf (fun _ _ => rfl) hJ
  | succ d ih =>
    intro i I J hM hd hJ hQ
    refine b_M_digest_36.mpr ?_
    rw [hM.2.2.2.1.1, if_pos (by omega)]
    refine d2_in hw (by omega) (h0 := itN (fun i h => mxN (inN s i) 8 h) i h0) 8 0 hM rfl hJ (fun I' J' f g h => ?_)
    exact ih (i + 1) (hM.fr f) (by omega) h (fun I2 J2 f2 g2 h2 => hQ I2 J2 (f.tr f2) (g.tr g2) h2)
theorem LayM.f8 {I' : Nat → Int → Int} {u : List Nat} (h : LayM I s u) (f : ∀ a, a ≠ 278 → I' a = I a) : LayM I' s u := ⟨h.1.fr (by rw [f 243 (by decide)]) (f 267 (by decide)), h.2.1.fr (f 268 (by decide)), fun q c' h1 h2 => (h.2.2 q c' h1 h2).f8 f⟩
theorem d3_in (hw : wfS s) {u : List Nat} (hu : wfN u 1 = true) (hl : u.length ≤ 9) {c : Nat} (hc : c < sC s) {h0 : Int64} : ∀ (d w : Nat) {I : Nat → Int → Int} {J : Nat → Int → Int64}, MSt I s → LayM I s u → d + w = 7 → J 243 62 = mxN (goN s u c) w h0 → (∀ I' J', (∀ a, a ≠ 278 → I' a = I a) → frJ J J' → J' 243 62 = mxN (goN s u c) 7 h0 → wpc 138 10 [vR (some 243), vU, vI ((c + 1 : Nat) : Int), vU] [] (0, 0) (S0 L, R, I', J') Q) → wpc 138 18 [vR (some 243), vU, vI (c : Int), vI (w : Int)] [] (0, 0) (S0 L, R, I, J) Q := by
  have hC4 := hw.2.2.1.1
  intro d
  induction d with
  | zero =>
    intro w I J hM hL hd hJ hQ
    refine b_M_mixSlot_18.mpr ?_
    rw [if_neg (by omega), w32_s (by omega)]
    have : w = 7 := by omega
    subst this
    exact hQ I J (fun _ _ => rfl) (fun _ _ => rfl) hJ
  | succ d ih =>
    intro w I J hM hL hd hJ hQ
    refine b_M_mixSlot_18.mpr ?_
    rw [if_pos (by omega)]
    refine k_goalNow hw hM hu hl hL hc (fun I1 f1 => ?_)
    refine b_M_mixSlot_28.mpr ?_
    refine k_mix ?_
    refine b_M_mixSlot_31.mpr ?_
    rw [w32_s (by omega)]
    exact ih (w + 1) (hM.fr (fr1.m f1 (by decide) (by decide))) (hL.f8 f1) (by omega) (by rw [upM_same, hJ]; rfl) (fun I' J' f g h => hQ I' J' (fun a ha => by rw [f a ha, f1 a ha]) (frJ_up.tr g) h)
theorem d3_out (hw : wfS s) {u : List Nat} (hu : wfN u 1 = true) (hl : u.length ≤ 9) {h0 : Int64} : ∀ (d c : Nat) {I : Nat → Int → Int} {J : Nat → Int → Int64}, MSt I s → LayM I s u → d + c = sC s → J 243 62 = itN (fun c h => mxN (goN s u c) 7 h) c h0 → (∀ I' J', (∀ a, a ≠ 278 → I' a = I a) → frJ J J' → J' 243 62 = itN (fun c h => mxN (goN s u c) 7 h) (sC s) h0 → Q none (S0 L, R, I', J')) → wpc 138 10 [vR (some 243), vU, vI (c : Int), vU] [] (0, 0) (S0 L, R, I, J) Q := by
  intro d
  induction d with
  | zero =>
    intro c I J hM hL hd hJ hQ
    refine b_M_mixSlot_10.mpr ?_
    rw [hM.2.2.1.1, if_neg (by omega)]
    have : c = sC s := by omega
    subst this
    exact hQ I J (fun _ _ => rfl) (fun _ _ => rfl) hJ
  | succ d ih =>
    intro c I J hM hL hd hJ hQ
    refine b_M_mixSlot_10.mpr ?_
    rw [hM.2.2.1.1, if_pos (by omega)]
    refine d3_in hw hu hl (by omega) (h0 := itN (fun c h => mxN (goN s u c) 7 h) c h0) 7 0 hM hL rfl hJ (fun I' J' f g h => ?_)
    exact ih (c + 1) (hM.fr (fr1.m f (by decide) (by decide))) (hL.f8 f) (by omega) h (fun I2 J2 f2 g2 h2 => hQ I2 J2 (fun a ha => by rw [f2 a ha, f a ha]) (g.tr g2) h2)
theorem d4_loop (hw : wfS s) {h0 : Int64} : ∀ (d k : Nat) {I : Nat → Int → Int} {J : Nat → Int → Int64}, MSt I s → d + k = 4 → J 243 62 = itN (dgS s) k h0 → (∀ I' J', frM I I' → frJ J J' → J' 243 62 = itN (dgS s) 4 h0 → wpc 139 86 [vR (some 243), vI 0, vU] [] (0, 0) (S0 L, R, I', J') Q) → wpc 139 66 [vR (some 243), vI (k : Int), vU] [] (0, 0) (S0 L, R, I, J) Q := by
  intro d
  induction d with
  | zero =>
    intro k I J hM hd hJ hQ
    refine b_M_digest_66.mpr ?_
    rw [if_neg (by omega)]
    have : k = 4 := by omega
    subst this
    exact hQ I J frM.rf (fun _ _ => rfl) hJ
  | succ d ih =>
    intro k I J hM hd hJ hQ
    have hk : k < 4 := by omega
    have mL := hM.2.2.2.2.2.1
    have hnx : ∀ I' J', frM I I' → frJ J J' → J' 243 62 = dgS s k (itN (dgS s) k h0) → wpc 139 80 [vR (some 243), vI (k : Int), vU] [] (0, 0) (S0 L, R, I', J') Q := by
      intro I' J' f g h
      refine b_M_digest_80.mpr ?_
      rw [w32_s (by omega)]
      exact ih (k + 1) (hM.fr f) (by omega) h (fun I2 J2 f2 g2 h2 => hQ I2 J2 (f.tr f2) (g.tr g2) h2)
    refine b_M_digest_66.mpr ?_
    rw [if_pos (by omega), (mL k hk).1]
    refine ⟨⟨by omega, by omega⟩, ?_⟩
    by_cases hs : sL s k = []
    · rw [if_pos (by rw [hs]; decide)]
      exact hnx I J frM.rf (fun _ _ => rfl) (by unfold dgS; rw [if_pos hs]; exact hJ)
    · obtain ⟨hu, hl⟩ := okS_ne hw hk hs
      have hpos : 0 < (sL s k).length := List.length_pos_iff.mpr hs
      rw [if_neg (by omega)]
      refine c_M_mixSlot.mpr ?_
      refine k_layAll hw hM hk hs (fun I' h => b_M_mixSlot_4.mpr h) (fun I1 f1 hL => ?_)
      refine b_M_mixSlot_7.mpr ?_
      refine d3_out hw hu hl (h0 := itN (dgS s) k h0) (sC s) 0 (hM.fr f1.m) hL (by omega) hJ (fun I2 J2 f2 g2 h2 => ?_)
      exact hnx I2 J2 (f1.m.tr (fr1.m f2 (by decide) (by decide))) g2 (by unfold dgS; rw [if_neg hs]; exact h2)
theorem d5_loop (hw : wfS s) (hM : MSt I s) {h0 : Int64} : ∀ (d k : Nat) {J : Nat → Int → Int64}, d + k = (sP s).length → J 243 62 = mxN (fun k => (sP s).getD k 0) k h0 → (∀ J', frJ J J' → J' 243 62 = mxN (fun k => (sP s).getD k 0) (sP s).length h0 → wpc 139 105 [vR (some 243), vI 0, vU] [] (0, 0) (S0 L, R, I, J') Q) → wpc 139 86 [vR (some 243), vI (k : Int), vU] [] (0, 0) (S0 L, R, I, J) Q := by
  have h84 := hw.1.1
  intro d
  induction d with
  | zero =>
    intro k J hd hJ hQ
    refine b_M_digest_86.mpr ?_
    rw [hM.1.1, if_neg (by omega)]
    have : k = (sP s).length := by omega
    subst this
    exact hQ J (fun _ _ => rfl) hJ
  | succ d ih =>
    intro k J hd hJ hQ
    refine b_M_digest_86.mpr ?_
    rw [hM.1.1, if_pos (by omega), hM.1.2 k (by omega)]
    refine ⟨⟨by omega, by omega⟩, ?_⟩
    refine k_mix ?_
    refine b_M_digest_99.mpr ?_
    rw [w32_s (by omega)]
    exact ih (k + 1) (by omega) (by rw [upM_same, hJ]; rfl) (fun J' f h => hQ J' (frJ_up.tr f) h)
theorem d6_loop (hw : wfS s) (hU : uniOK (sE s)) {h0 : Int64} : ∀ (d w : Nat) {I : Nat → Int → Int} {J : Nat → Int → Int64}, MSt I s → d + w = 11 → J 243 62 = mxN (hmN s) w h0 → (∀ I' J', frM I I' → frJ J J' → Q (some (vL (mxN (hmN s) 11 h0))) (S0 L, R, I', J')) → wpc 139 105 [vR (some 243), vI (w : Int), vU] [] (0, 0) (S0 L, R, I, J) Q := by
  intro d
  induction d with
  | zero =>
    intro w I J hM hd hJ hQ
    refine b_M_digest_105.mpr ?_
    rw [if_neg (by omega), hJ]
    have : w = 11 := by omega
    subst this
    exact hQ I J frM.rf (fun _ _ => rfl)
  | succ d ih =>
    intro w I J hM hd hJ hQ
    refine b_M_digest_105.mpr ?_
    rw [if_pos (by omega)]
    refine k_howMany hw hM hU (by omega) (fun I1 f1 => ?_)
    refine b_M_digest_114.mpr ?_
    refine k_mix ?_
    refine b_M_digest_117.mpr ?_
    rw [w32_s (by omega)]
    exact ih (w + 1) (hM.fr f1) (by omega) (by rw [upM_same, hJ]; rfl) (fun I' J' f g => hQ I' J' (f1.tr f) (frJ_up.tr g))
theorem m_digest (hw : wfS s) (hM : MSt I s) (hU : uniOK (sE s)) (hQ : mpost L R I J (vL (q_digest s)) s Q) : wpC 139 [vR (some 243)] (S0 L, R, I, J) Q := by
  refine c_M_digest.mpr ?_
  refine d1_out hw hM (h0 := Int64.ofInt 1367) (sC s) 0 (by omega) upM_same (fun J1 g1 h1 => ?_)
  refine d2_out hw (h0 := dg1 s) (eN (sE s)) 0 hM (by omega) h1 (fun I2 J2 f2 g2 h2 => ?_)
  refine d4_loop hw (h0 := dg2 s) 4 0 (hM.fr f2) rfl h2 (fun I3 J3 f3 g3 h3 => ?_)
  refine d5_loop hw (hM.fr (f2.tr f3)) (h0 := dg3 s) (sP s).length 0 (by omega) h3 (fun J4 g4 h4 => ?_)
  refine d6_loop hw hU (h0 := dg4 s) 11 0 (hM.fr (f2.tr f3)) rfl h4 (fun I5 J5 f5 g5 => ?_)
  exact hQ I5 J5 (hM.fr ((f2.tr f3).tr f5)) (fun a ha => ((f2.tr f3).tr f5).1 a (by omega)) (fun a ha => by rw [g5 a (by omega), g4 a (by omega), g3 a (by omega), g2 a (by omega), g1 a (by omega), upM_ne (by omega)])
end MDg
