-- ===== the class draws types by a seed =====
def frA (I I' : Nat → Int → Int) : Prop := ∀ a, a ≠ 239 → a ≠ 240 → I' a = I a
def frZ (J J' : Nat → Int → Int64) : Prop := ∀ a, a ≠ 3 → J' a = J a
section XDr
variable {L : Nat} {R : Nat → Int → Option Nat} {I : Nat → Int → Int} {J : Nat → Int → Int64} {Q : Option MV → MM → Prop} {s : ST} {b d : Nat}
theorem x_drawOf {m : Nat} (h1 : 1 ≤ m) (h2 : m ≤ 4) (hQ : Q (some (vI (pk (nxt (J 3 13)) m : Int))) (S0 L, R, I, upM J 3 13 (nxt (J 3 13)))) : wpC 33 [vR (some 3), vI (m : Int)] (S0 L, R, I, J) Q := by
  refine c_D_drawOf.mpr ?_
  rw [if_neg (by omega)]
  refine ⟨by decide, ?_, ?_⟩
  · have hd : m = 1 ∨ m = 2 ∨ m = 3 ∨ m = 4 := by omega
    rcases hd with rfl | rfl | rfl | rfl <;> decide
  · rw [upM_same]
    have := (pkq_lt (J 3 13) h1 h2).2
    show Q (some (vI (pkI (nxt (J 3 13)) (m : Int)))) (S0 L, R, I, upM J 3 13 (nxt (J 3 13)))
    rw [this]
    exact hQ
theorem dS_in {f k c : Nat} (hc : c < 4) : ∀ (n e : Nat) {I : Nat → Int → Int} {J : Nat → Int → Int64} (w : List Nat), n + e = pts c → w.length + n ≤ 9 → StI I → ShW I 239 w → (∀ I' J', frA I I' → frZ J J' → J' 3 13 = (drI n (J 3 13)).2 → ShW I' 239 (w ++ (drI n (J 3 13)).1) → wpc 34 17 [vR (some 3), vI (f : Int), vI (w32 ((k : Int) + 1)), vU, vU] [] (0, 0) (S0 L, R, I', J') Q) → wpc 34 36 [vR (some 3), vI (f : Int), vI (k : Int), vI (c : Int), vI (e : Int)] [] (0, 0) (S0 L, R, I, J) Q := by
  have hpt := pts_le c
  intro n
  induction n with
  | zero =>
    intro e I J w hn hl hT hw hQ
    refine b_D_drawShape_36.mpr ?_
    refine (x_partsOf hT (by omega)).mpr ?_
    refine b_D_drawShape_40.mpr ?_
    rw [if_neg (by omega)]
    exact hQ I J (fun _ _ _ => rfl) (fun _ _ => rfl) rfl (by show ShW I 239 (w ++ []); rw [List.append_nil]; exact hw)
  | succ n ih =>
    intro e I J w hn hl hT hw hQ
    refine b_D_drawShape_36.mpr ?_
    refine (x_partsOf hT (by omega)).mpr ?_
    refine b_D_drawShape_40.mpr ?_
    rw [if_pos (by omega)]
    refine x_drawOf (m := 2) (by decide) (by decide) ?_
    have hp := (pkq_lt (J 3 13) (d := 2) (by decide) (by decide)).1
    refine (b_D_drawShape_48 is_239).mpr ?_
    refine x_add is_239 hw (by omega) (fun I1 f1 n1 => ?_)
    refine b_D_drawShape_50.mpr ?_
    rw [w32_s (by omega)]
    refine ih (e + 1) (w ++ [pk (nxt (J 3 13)) 2]) (by omega) (by rw [List.length_append, List.length_singleton]; omega) (hT.fr (f1 1 (by decide) (by decide)) (f1 2 (by decide) (by decide))) n1 (fun I2 J2 f2 j2 h2 n2 => ?_)
    rw [upM_same] at h2 n2
    rw [List.append_assoc] at n2
    exact hQ I2 J2 (fun a p1 p2 => by rw [f2 a p1 p2, f1 a p1 p2]) (fun a ha => by rw [j2 a ha, upM_ne ha]) h2 n2
theorem dS_out {f : Nat} (hf : f < 4) : ∀ (n k : Nat) {I : Nat → Int → Int} {J : Nat → Int → Int64} (w : List Nat), n + k = pts f → w.length + 3 * n ≤ 9 → StI I → ShW I 239 w → (∀ I' J', frA I I' → frZ J J' → J' 3 13 = (drP n (J 3 13)).2 → ShW I' 239 (w ++ (drP n (J 3 13)).1) → wpC 212 [vR (some 239)] (S0 L, R, I', J') (fun v M2 => wpc 34 60 [vU, vU, vU, vU, vU] (v.toList ++ []) (0, 0) M2 Q)) → wpc 34 17 [vR (some 3), vI (f : Int), vI (k : Int), vU, vU] [] (0, 0) (S0 L, R, I, J) Q := by
  have hpf := pts_le f
  intro n
  induction n with
  | zero =>
    intro k I J w hn hl hT hw hQ
    refine b_D_drawShape_17.mpr ?_
    refine (x_partsOf hT (by omega)).mpr ?_
    refine b_D_drawShape_21.mpr ?_
    rw [if_neg (by omega)]
    exact hQ I J (fun _ _ _ => rfl) (fun _ _ => rfl) rfl (by show ShW I 239 (w ++ []); rw [List.append_nil]; exact hw)
  | succ n ih =>
    intro k I J w hn hl hT hw hQ
    refine b_D_drawShape_17.mpr ?_
    refine (x_partsOf hT (by omega)).mpr ?_
    refine b_D_drawShape_21.mpr ?_
    rw [if_pos (by omega)]
    refine x_drawOf (m := 4) (by decide) (by decide) ?_
    have hp := (pkq_lt (J 3 13) (d := 4) (by decide) (by decide)).1
    have hpt := pts_le (pk (nxt (J 3 13)) 4)
    refine b_D_drawShape_27.mpr ?_
    refine x_add is_239 hw (by omega) (fun I1 f1 n1 => ?_)
    have t1 : StI I1 := hT.fr (f1 1 (by decide) (by decide)) (f1 2 (by decide) (by decide))
    refine b_D_drawShape_33.mpr ?_
    refine dS_in hp (pts (pk (nxt (J 3 13)) 4)) 0 (w ++ [pk (nxt (J 3 13)) 4]) (by omega) (by rw [List.length_append, List.length_singleton]; omega) t1 n1 (fun I2 J2 f2 j2 h2 n2 => ?_)
    rw [upM_same] at h2 n2
    rw [w32_s (by omega)]
    have hlen := (drI_wf (pts (pk (nxt (J 3 13)) 4)) (nxt (J 3 13)) 0 [] rfl).2
    refine ih (k + 1) _ (by omega) (by rw [List.length_append, List.length_append, List.length_singleton, hlen]; omega) (t1.fr (f2 1 (by decide) (by decide)) (f2 2 (by decide) (by decide))) n2 (fun I3 J3 f3 j3 h3 n3 => ?_)
    rw [h2] at h3 n3
    rw [List.append_assoc, List.append_assoc] at n3
    exact hQ I3 J3 (fun a p1 p2 => by rw [f3 a p1 p2, f2 a p1 p2, f1 a p1 p2]) (fun a ha => by rw [j3 a ha, j2 a ha, upM_ne ha]) h3 n3
theorem x_drawShape (hT : StI I) (hQ : ∀ I' J', (∀ a, a < 239 ∨ 242 < a → I' a = I a) → frZ J J' → J' 3 13 = (drT (J 3 13)).2 → ShS I' 239 (drT (J 3 13)).1 → Q none (S0 L, R, I', J')) : wpC 34 [vR (some 3)] (S0 L, R, I, J) Q := by
  obtain ⟨t1, t2⟩ := drT_wf (J 3 13)
  refine c_D_drawShape.mpr ?_
  refine (c_Shape_clear is_239).mpr ?_
  refine b_D_drawShape_4.mpr ?_
  refine x_drawOf (m := 4) (by decide) (by decide) ?_
  have hp := (pkq_lt (J 3 13) (d := 4) (by decide) (by decide)).1
  have hpt := pts_le (pk (nxt (J 3 13)) 4)
  refine b_D_drawShape_8.mpr ?_
  refine x_add (w := []) is_239 ⟨upM_same, fun p hp => absurd hp (by simp)⟩ (by simp) (fun I1 f1 n1 => ?_)
  have g1 : ∀ a, a ≠ 239 → a ≠ 240 → I1 a = I a := fun a p1 p2 => by rw [f1 a p1 p2, upM_ne p1]
  have h1 : StI I1 := hT.fr (g1 1 (by decide) (by decide)) (g1 2 (by decide) (by decide))
  refine b_D_drawShape_14.mpr ?_
  refine dS_out hp (pts (pk (nxt (J 3 13)) 4)) 0 _ (by omega) (by simp; omega) h1 n1 (fun I2 J2 f2 j2 h2 n2 => ?_)
  rw [upM_same] at h2 n2
  have n2' : ShW I2 239 (drT (J 3 13)).1 := n2
  refine x_settle is_239 (by decide) ⟨kd_Sh2 is_239, ln_Sh2 is_239⟩ (h1.fr (f2 1 (by decide) (by decide)) (f2 2 (by decide) (by decide))) t1 t2 n2' (fun I3 f3 s3 => ?_)
  refine b_D_drawShape_60.mpr ?_
  exact hQ I3 J2 (fun a ha => by rw [f3 a (by omega) (by omega), f2 a (by omega) (by omega), g1 a (by omega) (by omega)]) (fun a ha => by rw [j2 a ha, upM_ne ha]) h2 s3
theorem dD_loop (hw : wfS s) (hb : bd b d) (h0 : ¬ sB s = 0) {x0 : Int64} {t : Nat} {w : Int} (ht : t ≤ 30) : ∀ (m n : Nat) {R : Nat → Int → Option Nat} {I : Nat → Int → Int} {J : Nat → Int → Int64}, m + n = t → CSb R I b d s → J 3 13 = (drL (sE s) (sC s) x0 n).1 → (∀ R' I' J', frQ R R' I I' J J' → CSb R' I' b d s → (if w = 0 then Q (some (vI ((drL (sE s) (sC s) x0 t).2.1 : Int))) (S0 L, R', I', J') else if w = 1 then Q (some (vI ((drL (sE s) (sC s) x0 t).2.2 : Int))) (S0 L, R', I', J') else Q (some (vI (drL (sE s) (sC s) x0 t).1.toInt32.toInt)) (S0 L, R', I', J'))) → wpc 32 39 [vR (some 3), vI (t : Int), vU, vI w, vI ((drL (sE s) (sC s) x0 n).2.1 : Int), vI ((drL (sE s) (sC s) x0 n).2.2 : Int), vI (n : Int), vU] [] (0, 0) (S0 L, R, I, J) Q := by
  obtain ⟨r1, r2, r3, r4, r5⟩ := hb.r
  have hC4 := hw.2.2.1.1
  have hC1 := hw.2.2.2.2.2.2.1 h0
  intro m
  induction m with
  | zero =>
    intro n R I J hd hC hJ hQ
    refine (b_D_drawn_39 hC.1 hb.b).mpr ?_
    rw [if_neg (by omega), hJ]
    have : n = t := by omega
    subst this
    exact hQ R I J frQ.rf hC
  | succ m ih =>
    intro n R I J hd hC hJ hQ
    obtain ⟨l1, l2⟩ := drL_le (sE s) (sC s) x0 n
    refine (b_D_drawn_39 hC.1 hb.b).mpr ?_
    rw [if_pos (by omega), hC.2.2.1.1]
    refine x_drawOf hC1 hC4 ?_
    refine b_D_drawn_49.mpr ?_
    obtain ⟨hp, _⟩ := pkq_lt (J 3 13) hC1 hC4
    refine x_drawShape hC.2.2.2.2.2.2.2 (fun I1 J1 f1 j1 h1 s1 => ?_)
    rw [upM_same] at h1 s1
    obtain ⟨t1, t2⟩ := drT_wf (nxt (J 3 13))
    have c1 : CSb R I1 b d s := hC.fr hw rfl (fun a ha => f1 a (by omega))
    refine (b_D_drawn_53 c1.1 hb.b).mpr ?_
    refine d_work (a3 := 239) (w := (drT (nxt (J 3 13))).1) hb hw c1 is_239 (by omega) t1 t2 s1 (fun R2 I2 J2 f2 c2 lay => ?_)
    refine b_D_drawn_64.mpr ?_
    refine (x_rootOf (by omega)).mpr ?_
    refine (b_D_drawn_70 (isGo_goA (by omega) (by decide))).mpr ?_
    have hG := lay.root t1 hp
    rw [hG.1]
    have h239 : I2 239 3 = ((drT (nxt (J 3 13))).1.length : Int) := by rw [(f2 239 (by omega)).2.1]; exact s1.1.1
    have hgo : ∀ (c : Prop) [Decidable c], (c ↔ (G (sE s) (pk (nxt (J 3 13)) (sC s)) (drT (nxt (J 3 13))).1).1 = 1) → wpc 32 79 [vR (some 3), vI (t : Int), vU, vI w, vU, vI ((drL (sE s) (sC s) x0 n).2.2 : Int), vI (n : Int), vU] [vI (bi c), vI ((drL (sE s) (sC s) x0 n).2.1 : Int)] (0, 0) (S0 L, R2, I2, J2) Q := by
      intro c _ hc
      refine b_D_drawn_79.mpr ?_
      refine (x_asNumber c).mpr ?_
      refine b_D_drawn_81.mpr ?_
      have hbr := bi_r (c := c)
      rw [h239, w32_s (p := n) (by omega), w32_eq (z := ((drL (sE s) (sC s) x0 n).2.1 : Int) + bi c) (by omega) (by omega), w32_eq (by omega) (by omega)]
      have e1 : ((drL (sE s) (sC s) x0 n).2.1 : Int) + bi c = ((drL (sE s) (sC s) x0 (n + 1)).2.1 : Int) := by
        show _ = (((drL (sE s) (sC s) x0 n).2.1 + (if (G (sE s) (pk (nxt (drL (sE s) (sC s) x0 n).1) (sC s)) (drT (nxt (drL (sE s) (sC s) x0 n).1)).1).1 = 1 then 1 else 0) : Nat) : Int)
        rw [← hJ]
        by_cases hcc : c
        · rw [bi_t hcc, if_pos (hc.mp hcc)]; omega
        · rw [bi_f hcc, if_neg (fun q => hcc (hc.mpr q))]; omega
      have e2 : ((drL (sE s) (sC s) x0 n).2.2 : Int) + ((drT (nxt (J 3 13))).1.length : Int) = ((drL (sE s) (sC s) x0 (n + 1)).2.2 : Int) := by
        show _ = (((drL (sE s) (sC s) x0 n).2.2 + (drT (nxt (drL (sE s) (sC s) x0 n).1)).1.length : Nat) : Int)
        rw [← hJ]; omega
      rw [e1, e2]
      refine ih (n + 1) (by omega) c2 ?_ (fun R3 I3 J3 f3 c3 => hQ R3 I3 J3 (frQ.tr (fun a ha => ?_) f3) c3)
      · rw [(f2 3 (by omega)).2.2, h1, hJ]; rfl
      · exact ⟨(f2 a (by omega)).1, by rw [(f2 a (by omega)).2.1, f1 a (by omega)], by rw [(f2 a (by omega)).2.2, j1 a (by omega), upM_ne (by omega)]⟩
    by_cases hg : (G (sE s) (pk (nxt (J 3 13)) (sC s)) (drT (nxt (J 3 13))).1).1 = 1
    · rw [if_pos hg]
      exact hgo True ⟨fun _ => hg, fun _ => trivial⟩
    · rw [if_neg hg]
      exact hgo False ⟨fun q => q.elim, fun q => hg q⟩
theorem d_drawn (hw : wfS s) (hC : CSt R I s) {t x w : Int} (hQ : xpost L R I J (vI (q_drawn s t x w).1) (q_drawn s t x w).2 Q) : wpC 32 [vR (some 3), vI t, vI x, vI w] (S0 L, R, I, J) Q := by
  obtain ⟨b, d, hb, hC⟩ := hC
  unfold q_drawn at hQ
  refine c_D_drawn.mpr ?_
  by_cases h1 : 1 ≤ t ∧ t ≤ 30
  · rw [if_neg (not_not_intro h1)] at hQ
    rw [if_neg (by omega), if_pos (by omega)]
    by_cases h2 : x < 0
    · rw [if_pos h2] at hQ
      rw [if_pos h2]; exact hQ.i hb hC
    rw [if_neg h2] at hQ
    rw [if_neg h2]
    by_cases h3 : 0 ≤ w ∧ w ≤ 2
    · rw [if_neg (not_not_intro h3)] at hQ
      rw [if_neg (by omega), if_pos (by omega), hC.2.2.2.2.1]
      by_cases h0 : sB s = 0
      · rw [if_pos h0] at hQ
        rw [if_pos (by omega)]; exact hQ.i hb hC
      rw [if_neg h0] at hQ
      rw [if_neg (by omega)]
      obtain ⟨t', rfl⟩ := nat_of (show 0 ≤ t by omega)
      rw [Int.toNat_natCast] at hQ
      refine dD_loop (x0 := Int64.ofInt x) hw hb h0 (by omega) t' 0 (by omega) hC upM_same (fun R' I' J' f c' => ?_)
      have hq := hQ R' I' J' (frQ.tr (fun a ha => ⟨rfl, rfl, upM_ne (by omega)⟩) f) ⟨b, d, hb, c'⟩
      by_cases a0 : w = 0
      · rw [if_pos a0] at hq ⊢; exact hq
      rw [if_neg a0] at hq ⊢
      by_cases a1 : w = 1
      · rw [if_pos a1] at hq ⊢; exact hq
      rw [if_neg a1] at hq ⊢
      exact hq
    · rw [if_pos h3] at hQ
      by_cases h4 : w < 0
      · rw [if_pos h4]; exact hQ.i hb hC
      · rw [if_neg h4, if_neg (by omega)]; exact hQ.i hb hC
  · rw [if_pos h1] at hQ
    by_cases h4 : t < 1
    · rw [if_pos h4]; exact hQ.i hb hC
    · rw [if_neg h4, if_neg (by omega)]; exact hQ.i hb hC
end XDr
