-- ===== the class's digest =====
section XDg
variable {L : Nat} {R : Nat → Int → Option Nat} {I : Nat → Int → Int} {J : Nat → Int → Int64} {Q : Option MV → MM → Prop} {s : ST} {b d : Nat}
theorem q_about_ok {c w : Nat} (hc : c < sC s) (hw : w ≤ 2) : q_about s (c : Int) (w : Int) = (abN s c w, s) := by
  unfold q_about
  rw [if_neg (not_not_intro ⟨by omega, by omega⟩), if_neg (not_not_intro ⟨by omega, by omega⟩), Int.toNat_natCast, Int.toNat_natCast]
theorem q_inst_ok {c w : Nat} (hc : c < eN (sE s)) (hw : w ≤ 7) : q_inst s (c : Int) (w : Int) = (inN s c w, s) := by
  unfold q_inst
  rw [if_neg (not_not_intro ⟨by omega, by omega⟩), if_neg (not_not_intro ⟨by omega, by omega⟩), Int.toNat_natCast, Int.toNat_natCast]
theorem q_count_ok {w : Nat} (hw : w ≤ 10) : q_count s (w : Int) = (hmN s w, s) := by
  unfold q_count
  rw [if_neg (not_not_intro ⟨by omega, by omega⟩), Int.toNat_natCast]
/-- what a step of the digest may come from -/
def dgP (L : Nat) (R : Nat → Int → Option Nat) (I : Nat → Int → Int) (J : Nat → Int → Int64) (s : ST) (P : MM → Prop) : Prop := ∀ R' I' J', frQ R R' I I' J J' → CSt R' I' s → P (S0 L, R', I', J')
theorem dgP.tr {P : MM → Prop} {R1 : Nat → Int → Option Nat} {I1 : Nat → Int → Int} {J1 : Nat → Int → Int64} (h : dgP L R I J s P) (f : frQ R R1 I I1 J J1) : dgP L R1 I1 J1 s P := fun R' I' J' f2 c => h R' I' J' (f.tr f2) c
theorem g1_in (hw : wfS s) {c : Nat} (hc : c < sC s) {h0 : Int64} : ∀ (m w : Nat) {R : Nat → Int → Option Nat} {I : Nat → Int → Int} {J : Nat → Int → Int64}, m + w = 3 → CSt R I s → dgP L R I J s (fun M => wpc 38 5 [vR (some 3), vL (mxN (abN s c) 3 h0), vU, vI ((c + 1 : Nat) : Int), vU] [] (0, 0) M Q) → wpc 38 14 [vR (some 3), vL (mxN (abN s c) w h0), vU, vI (c : Int), vI (w : Int)] [] (0, 0) (S0 L, R, I, J) Q := by
  have hC4 := hw.2.2.1.1
  intro m
  induction m with
  | zero =>
    intro w R I J hm hC hQ
    refine b_D_digest_14.mpr ?_
    rw [if_neg (by omega), w32_s (by omega), show w = 3 by omega]
    exact hQ R I J frQ.rf hC
  | succ m ih =>
    intro w R I J hm hC hQ
    refine b_D_digest_14.mpr ?_
    rw [if_pos (by omega)]
    refine d_about hw hC ?_
    rw [q_about_ok hc (by omega)]
    intro R1 I1 J1 f1 c1
    refine b_D_digest_26.mpr ?_
    rw [w32_s (by omega)]
    exact ih (w + 1) (by omega) c1 (hQ.tr f1)
theorem g1_out (hw : wfS s) {h0 : Int64} : ∀ (m c : Nat) {R : Nat → Int → Option Nat} {I : Nat → Int → Int} {J : Nat → Int → Int64}, m + c = sC s → CSt R I s → dgP L R I J s (fun M => wpc 38 38 [vR (some 3), vL (itN (fun c h => mxN (abN s c) 3 h) (sC s) h0), vU, vI 0, vU] [] (0, 0) M Q) → wpc 38 5 [vR (some 3), vL (itN (fun c h => mxN (abN s c) 3 h) c h0), vU, vI (c : Int), vU] [] (0, 0) (S0 L, R, I, J) Q := by
  intro m
  induction m with
  | zero =>
    intro c R I J hm hC hQ
    obtain ⟨b, d, hb, hCb⟩ := id hC
    refine (b_D_digest_5 hCb.1 hb.b).mpr ?_
    rw [hCb.2.2.1.1, if_neg (by omega), show c = sC s by omega]
    exact hQ R I J frQ.rf hC
  | succ m ih =>
    intro c R I J hm hC hQ
    obtain ⟨b, d, hb, hCb⟩ := id hC
    refine (b_D_digest_5 hCb.1 hb.b).mpr ?_
    rw [hCb.2.2.1.1, if_pos (by omega)]
    exact g1_in hw (by omega) 3 0 rfl hC (fun R1 I1 J1 f1 c1 => ih (c + 1) (by omega) c1 (hQ.tr f1))
theorem g2_in (hw : wfS s) {c : Nat} (hc : c < eN (sE s)) {h0 : Int64} : ∀ (m w : Nat) {R : Nat → Int → Option Nat} {I : Nat → Int → Int} {J : Nat → Int → Int64}, m + w = 8 → CSt R I s → dgP L R I J s (fun M => wpc 38 38 [vR (some 3), vL (mxN (inN s c) 8 h0), vU, vI ((c + 1 : Nat) : Int), vU] [] (0, 0) M Q) → wpc 38 47 [vR (some 3), vL (mxN (inN s c) w h0), vU, vI (c : Int), vI (w : Int)] [] (0, 0) (S0 L, R, I, J) Q := by
  have h6 := hw.2.2.2.1.1
  intro m
  induction m with
  | zero =>
    intro w R I J hm hC hQ
    refine b_D_digest_47.mpr ?_
    rw [if_neg (by omega), w32_s (by omega), show w = 8 by omega]
    exact hQ R I J frQ.rf hC
  | succ m ih =>
    intro w R I J hm hC hQ
    refine b_D_digest_47.mpr ?_
    rw [if_pos (by omega)]
    refine d_inst hw hC ?_
    rw [q_inst_ok hc (by omega)]
    intro R1 I1 J1 f1 c1
    refine b_D_digest_59.mpr ?_
    rw [w32_s (by omega)]
    exact ih (w + 1) (by omega) c1 (hQ.tr f1)
theorem g2_out (hw : wfS s) {h0 : Int64} : ∀ (m c : Nat) {R : Nat → Int → Option Nat} {I : Nat → Int → Int} {J : Nat → Int → Int64}, m + c = eN (sE s) → CSt R I s → dgP L R I J s (fun M => wpc 38 71 [vR (some 3), vL (itN (fun i h => mxN (inN s i) 8 h) (eN (sE s)) h0), vU, vI 0, vU] [] (0, 0) M Q) → wpc 38 38 [vR (some 3), vL (itN (fun i h => mxN (inN s i) 8 h) c h0), vU, vI (c : Int), vU] [] (0, 0) (S0 L, R, I, J) Q := by
  intro m
  induction m with
  | zero =>
    intro c R I J hm hC hQ
    obtain ⟨b, d, hb, hCb⟩ := id hC
    refine (b_D_digest_38 hCb.1 hb.b).mpr ?_
    rw [hCb.2.2.1.2.2.1, if_neg (by omega), show c = eN (sE s) by omega]
    exact hQ R I J frQ.rf hC
  | succ m ih =>
    intro c R I J hm hC hQ
    obtain ⟨b, d, hb, hCb⟩ := id hC
    refine (b_D_digest_38 hCb.1 hb.b).mpr ?_
    rw [hCb.2.2.1.2.2.1, if_pos (by omega)]
    exact g2_in hw (by omega) 8 0 rfl hC (fun R1 I1 J1 f1 c1 => ih (c + 1) (by omega) c1 (hQ.tr f1))
theorem x_digestSlot (hw : wfS s) {k : Nat} (hk : k < 4) {h0 : Int64} (hb : bd b d) (hC : CSb R I b d s) (hQ : dgP L R I J s (fun M => Q (some (vL (dgS s k h0))) M)) : wpC 39 [vR (some 3), vL h0, vI (k : Int)] (S0 L, R, I, J) Q := by
  have hC4 := hw.2.2.1.1
  refine c_D_digestSlot.mpr ?_
  refine (x_isFilled hC (k : Int)).mpr ?_
  refine (b_D_digestSlot_4 hC.1 hb.b).mpr ?_
  unfold dgS at hQ
  by_cases hne : sL s k = []
  · rw [if_pos hne] at hQ
    rw [if_pos (bi_0.mpr (fun q => q.2 hne))]
    exact hQ R I J frQ.rf ⟨b, d, hb, hC⟩
  · rw [if_neg hne] at hQ
    rw [if_neg (fun q => bi_0.mp q ⟨⟨by omega, by omega⟩, hne⟩)]
    refine ⟨⟨by omega, by omega⟩, ?_⟩
    obtain ⟨hu, hl⟩ := okS_ne hw hk hne
    refine d_work (a3 := 114 + 5 + 4 * k) (w := sL s k) hb hw hC (ie_Dk1 is_114 (i := (k : Int)) ⟨by omega, by omega⟩) (by omega) hu hl (hC.2.2.2.2.2.1.2.1 k hk) (fun R1 I1 J1 f1 c1 l1 => ?_)
    have hq := hQ R1 I1 J1 f1.q ⟨b, d, hb, c1⟩
    refine b_D_digestSlot_25.mpr ?_
    have inn : ∀ (c : Nat) (h : Int64), c < sC s → wpc 39 28 [vR (some 3), vU, vU, vU, vL (mxN (goN s (sL s k) c) 7 h), vU, vI ((c + 1 : Nat) : Int), vU] [] (0, 0) (S0 L, R1, I1, J1) Q → ∀ m w : Nat, m + w = 7 → wpc 39 37 [vR (some 3), vU, vU, vU, vL (mxN (goN s (sL s k) c) w h), vU, vI (c : Int), vI (w : Int)] [] (0, 0) (S0 L, R1, I1, J1) Q := by
      intro c h hc hnx m
      induction m with
      | zero =>
        intro w hm
        refine b_D_digestSlot_37.mpr ?_
        rw [if_neg (by omega), w32_s (by omega), show w = 7 by omega]
        exact hnx
      | succ m ih =>
        intro w hm
        refine b_D_digestSlot_37.mpr ?_
        rw [if_pos (by omega)]
        refine (x_rootOf (by omega)).mpr ?_
        refine (b_D_digestSlot_50 (isGo_goA (by omega) (by decide))).mpr ?_
        refine d_told hb hw c1 hu hl l1 hc (by omega) ?_
        refine b_D_digestSlot_53.mpr ?_
        rw [w32_s (by omega)]
        exact ih (w + 1) (by omega)
    have out : ∀ m c : Nat, m + c = sC s → wpc 39 28 [vR (some 3), vU, vU, vU, vL (itN (fun c h => mxN (goN s (sL s k) c) 7 h) c h0), vU, vI (c : Int), vU] [] (0, 0) (S0 L, R1, I1, J1) Q := by
      intro m
      induction m with
      | zero =>
        intro c hm
        refine (b_D_digestSlot_28 c1.1 hb.b).mpr ?_
        rw [c1.2.2.1.1, if_neg (by omega), show c = sC s by omega]
        exact hq
      | succ m ih =>
        intro c hm
        refine (b_D_digestSlot_28 c1.1 hb.b).mpr ?_
        rw [c1.2.2.1.1, if_pos (by omega)]
        exact inn c _ (by omega) (ih (c + 1) (by omega)) 7 0 rfl
    exact out (sC s) 0 (by omega)
theorem g3_loop (hw : wfS s) {h0 : Int64} : ∀ (m k : Nat) {R : Nat → Int → Option Nat} {I : Nat → Int → Int} {J : Nat → Int → Int64}, m + k = 4 → CSt R I s → dgP L R I J s (fun M => wpc 38 87 [vR (some 3), vL (itN (dgS s) 4 h0), vU, vI 0, vU] [] (0, 0) M Q) → wpc 38 71 [vR (some 3), vL (itN (dgS s) k h0), vU, vI (k : Int), vU] [] (0, 0) (S0 L, R, I, J) Q := by
  intro m
  induction m with
  | zero =>
    intro k R I J hm hC hQ
    refine b_D_digest_71.mpr ?_
    rw [if_neg (by omega), show k = 4 by omega]
    exact hQ R I J frQ.rf hC
  | succ m ih =>
    intro k R I J hm hC hQ
    obtain ⟨b, d, hb, hCb⟩ := id hC
    refine b_D_digest_71.mpr ?_
    rw [if_pos (by omega)]
    refine x_digestSlot hw (by omega) hb hCb (fun R1 I1 J1 f1 c1 => ?_)
    refine b_D_digest_80.mpr ?_
    rw [w32_s (by omega)]
    exact ih (k + 1) (by omega) c1 (hQ.tr f1)
theorem g5_loop (hw : wfS s) {h0 : Int64} : ∀ (m w : Nat) {R : Nat → Int → Option Nat} {I : Nat → Int → Int} {J : Nat → Int → Int64}, m + w = 11 → CSt R I s → dgP L R I J s (fun M => Q (some (vL (mxN (hmN s) 11 h0))) M) → wpc 38 108 [vR (some 3), vL (mxN (hmN s) w h0), vU, vI (w : Int), vU] [] (0, 0) (S0 L, R, I, J) Q := by
  intro m
  induction m with
  | zero =>
    intro w R I J hm hC hQ
    refine b_D_digest_108.mpr ?_
    rw [if_neg (by omega), show w = 11 by omega]
    exact hQ R I J frQ.rf hC
  | succ m ih =>
    intro w R I J hm hC hQ
    refine b_D_digest_108.mpr ?_
    rw [if_pos (by omega)]
    refine d_count hw hC ?_
    rw [q_count_ok (by omega)]
    intro R1 I1 J1 f1 c1
    refine b_D_digest_119.mpr ?_
    rw [w32_s (by omega)]
    exact ih (w + 1) (by omega) c1 (hQ.tr f1)
theorem g4_loop (hw : wfS s) (hC : CSt R I s) {h0 : Int64} (hQ : wpc 38 108 [vR (some 3), vL (mxN (fun k => (sP s).getD k 0) (sP s).length h0), vU, vI 0, vU] [] (0, 0) (S0 L, R, I, J) Q) : ∀ m k : Nat, m + k = (sP s).length → wpc 38 87 [vR (some 3), vL (mxN (fun k => (sP s).getD k 0) k h0), vU, vI (k : Int), vU] [] (0, 0) (S0 L, R, I, J) Q := by
  obtain ⟨b, d, hb, hCb⟩ := hC
  have h84 := hw.1.1
  have hP := hCb.2.2.2.1
  intro m
  induction m with
  | zero =>
    intro k hm
    refine b_D_digest_87.mpr ?_
    rw [hP.1, if_neg (by omega), show k = (sP s).length by omega]
    exact hQ
  | succ m ih =>
    intro k hm
    refine b_D_digest_87.mpr ?_
    rw [hP.1, if_pos (by omega), hP.2 k (by omega), w32_s (by omega)]
    exact ⟨⟨by omega, by omega⟩, ih (k + 1) (by omega)⟩
theorem d_digest (hw : wfS s) (hC : CSt R I s) (hQ : xpost L R I J (vL (q_digest s)) s Q) : wpC 38 [vR (some 3)] (S0 L, R, I, J) Q := by
  refine c_D_digest.mpr ?_
  refine g1_out hw (h0 := Int64.ofInt 1367) (sC s) 0 (by omega) hC (fun R1 I1 J1 f1 c1 => ?_)
  refine g2_out hw (h0 := dg1 s) (eN (sE s)) 0 (by omega) c1 (fun R2 I2 J2 f2 c2 => ?_)
  refine g3_loop hw (h0 := dg2 s) 4 0 rfl c2 (fun R3 I3 J3 f3 c3 => ?_)
  refine g4_loop hw (h0 := dg3 s) c3 ?_ (sP s).length 0 (by omega)
  refine g5_loop hw (h0 := dg4 s) 11 0 rfl c3 (fun R4 I4 J4 f4 c4 => ?_)
  exact hQ R4 I4 J4 (f1.tr (f2.tr (f3.tr f4))) c4
end XDg
