-- ===== the class's calls: pairs, fits, what is seen, images =====
theorem uni_sym {E : EN} {nC i e : Nat} (hE : wfE E nC) (hi : i < eN E) (he : e < eN E) : uni (eH E i) (eH E e) = uni (eH E e) (eH E i) := by
  obtain ⟨_, _, i3, i4, _⟩ := hE.2 i hi
  obtain ⟨_, _, e3, e4, _⟩ := hE.2 e he
  obtain ⟨b, u1, u2, _⟩ := meet_ok i3 i4 e3 e4
  rw [u1, u2]
theorem uniOK_of {E : EN} {nC : Nat} (hE : wfE E nC) : uniOK E := by
  intro i e hi he
  obtain ⟨_, _, i3, i4, _⟩ := hE.2 i hi
  obtain ⟨_, _, e3, e4, _⟩ := hE.2 e he
  obtain ⟨b, u1, _⟩ := meet_ok i3 i4 e3 e4
  exact ⟨b, u1⟩
theorem dec_cong {p q : Prop} [Decidable p] [Decidable q] (h : p ↔ q) : decide p = decide q := decide_eq_decide.mpr h
theorem ovl_sym {E : EN} {nC i e : Nat} (hE : wfE E nC) (hi : i < eN E) (he : e < eN E) : ovl E i e = ovl E e i := by
  unfold ovl
  rw [uni_sym hE hi he, dec_cong (eq_comm : eO E i = eO E e ↔ eO E e = eO E i), Bool.and_assoc (decide (eO E e = eO E i)), Bool.and_comm (decide (¬ eK E i = 2)), ← Bool.and_assoc]
theorem clh_sym {E : EN} {nC i e : Nat} (hE : wfE E nC) (hi : i < eN E) (he : e < eN E) : clh E i e = clh E e i := by
  unfold clh
  rw [ovl_sym hE hi he, Bool.and_comm (!spc E i e), Bool.or_assoc, Bool.or_comm (decide (eK E i = 4)), ← Bool.or_assoc]
section XCa
variable {L : Nat} {R : Nat → Int → Option Nat} {I : Nat → Int → Int} {J : Nat → Int → Int64} {Q : Option MV → MM → Prop} {s : ST} {b d : Nat}
theorem x_overlap {i e : Nat} (hb : bd b d) (hw : wfS s) (hC : CSb R I b d s) (hi : i < eN (sE s)) (he : e < eN (sE s)) (hQ : Q (some (vI (bi (ovl (sE s) i e = true)))) (S0 L, R, I, J)) : wpC 20 [vR (some 3), vI (i : Int), vI (e : Int)] (S0 L, R, I, J) Q := by
  have h6 := hw.2.2.2.1.1
  have hDk := hC.2.2.2.2.2.1
  have o1 : I (b + 8 + 7 * (i : Int).toNat) 1 = (eO (sE s) i : Int) := (hC.2.2.1.2.2.2.2 i hi).1.1
  have o2 : I (b + 8 + 7 * (e : Int).toNat) 1 = (eO (sE s) e : Int) := (hC.2.2.1.2.2.2.2 e he).1.1
  have k1 : I (114 + 1) (i : Int) = (eK (sE s) i : Int) := hDk.1 i hi
  have k2 : I (114 + 1) (e : Int) = (eK (sE s) e : Int) := hDk.1 e he
  refine (c_D_overlap hC.1 hb.b).mpr ⟨⟨by omega, by omega⟩, ⟨by omega, by omega⟩, ?_⟩
  rw [o1, o2, k1, k2]
  unfold ovl at hQ
  by_cases h1 : eO (sE s) i = eO (sE s) e
  · rw [if_pos (by omega)]
    rw [decide_eq_true h1, Bool.true_and] at hQ
    refine ⟨⟨by omega, by omega⟩, ?_⟩
    by_cases h2 : eK (sE s) i = 2
    · rw [if_pos (by omega)]
      rw [decide_eq_false (fun q => q h2), Bool.false_and, Bool.false_and, bi_f (by decide)] at hQ
      exact hQ
    · rw [if_neg (by omega)]
      rw [decide_eq_true h2, Bool.true_and] at hQ
      refine ⟨⟨by omega, by omega⟩, ?_⟩
      by_cases h3 : eK (sE s) e = 2
      · rw [if_pos (by omega)]
        rw [decide_eq_false (fun q => q h3), Bool.false_and, bi_f (by decide)] at hQ
        exact hQ
      · rw [if_neg (by omega)]
        rw [decide_eq_true h3, Bool.true_and] at hQ
        refine (x_canMeet hb.b h6 hC.2.2.1 hi he).mpr ?_
        refine b_D_overlap_36.mpr ?_
        have hm : metB (sE s) i e = decide (uni (eH (sE s) i) (eH (sE s) e) = some true) := rfl
        rw [← hm] at hQ
        by_cases h4 : metB (sE s) i e = true
        · rw [if_neg (fun q => bi_0.mp q h4)]
          rw [bi_t h4] at hQ; exact hQ
        · rw [if_pos (bi_0.mpr h4)]
          rw [bi_f h4] at hQ; exact hQ
  · rw [if_neg (by omega)]
    rw [decide_eq_false h1, Bool.false_and, Bool.false_and, Bool.false_and, bi_f (by decide)] at hQ
    exact hQ
theorem x_clash {i e : Nat} (hb : bd b d) (hw : wfS s) (hC : CSb R I b d s) (hi : i < eN (sE s)) (he : e < eN (sE s)) (hQ : Q (some (vI (bi (clh (sE s) i e = true)))) (S0 L, R, I, J)) : wpC 21 [vR (some 3), vI (i : Int), vI (e : Int)] (S0 L, R, I, J) Q := by
  have h6 := hw.2.2.2.1.1
  have hDk := hC.2.2.2.2.2.1
  have k1 : I (114 + 1) (i : Int) = (eK (sE s) i : Int) := hDk.1 i hi
  have k2 : I (114 + 1) (e : Int) = (eK (sE s) e : Int) := hDk.1 e he
  refine c_D_clash.mpr ?_
  refine x_overlap hb hw hC hi he ?_
  refine (b_D_clash_5 hC.1 hb.b).mpr ?_
  unfold clh at hQ
  by_cases h1 : ovl (sE s) i e = true
  · rw [if_neg (fun q => bi_0.mp q h1)]
    rw [h1, Bool.true_and] at hQ
    refine (x_isFiner hb.b h6 hC.2.2.1 hi he).mpr ?_
    refine (b_D_clash_16 hC.1 hb.b).mpr ?_
    rw [k1, k2]
    -- what follows when they are ordered
    have hord : (!spc (sE s) i e && !spc (sE s) e i) = false → (0 ≤ (i : Int) ∧ (i : Int) < 6) ∧ (if (eK (sE s) i : Int) = 4 then Q (some (vI 1)) (S0 L, R, I, J) else (0 ≤ (e : Int) ∧ (e : Int) < 6) ∧ (if (eK (sE s) e : Int) = 4 then Q (some (vI 1)) (S0 L, R, I, J) else Q (some (vI 0)) (S0 L, R, I, J))) := by
      intro ho
      rw [ho, Bool.false_or] at hQ
      refine ⟨⟨by omega, by omega⟩, ?_⟩
      by_cases a1 : eK (sE s) i = 4
      · rw [if_pos (by omega)]
        rw [decide_eq_true a1, Bool.true_or, bi_t rfl] at hQ; exact hQ
      · rw [if_neg (by omega)]
        rw [decide_eq_false a1, Bool.false_or] at hQ
        refine ⟨⟨by omega, by omega⟩, ?_⟩
        by_cases a2 : eK (sE s) e = 4
        · rw [if_pos (by omega)]
          rw [decide_eq_true a2, bi_t rfl] at hQ; exact hQ
        · rw [if_neg (by omega)]
          rw [decide_eq_false a2, bi_f (by decide)] at hQ; exact hQ
    by_cases h2 : spc (sE s) i e = true
    · rw [if_neg (fun q => bi_0.mp q h2), if_neg (by decide)]
      exact hord (by rw [h2]; rfl)
    · rw [if_pos (bi_0.mpr h2)]
      refine (x_isFiner hb.b h6 hC.2.2.1 he hi).mpr ?_
      refine b_D_clash_24.mpr ?_
      rw [k1, k2]
      by_cases h3 : spc (sE s) e i = true
      · rw [if_neg (fun q => bi_0.mp q h3), if_neg (by decide)]
        exact hord (by rw [h3]; simp)
      · rw [if_pos (bi_0.mpr h3), if_pos rfl]
        have n2 : spc (sE s) i e = false := by cases hx : spc (sE s) i e with | false => rfl | true => exact absurd hx h2
        have n3 : spc (sE s) e i = false := by cases hx : spc (sE s) e i with | false => rfl | true => exact absurd hx h3
        rw [n2, n3, bi_t (by rfl)] at hQ
        exact hQ
  · rw [if_pos (bi_0.mpr h1)]
    have n1 : ovl (sE s) i e = false := by cases hx : ovl (sE s) i e with | false => rfl | true => exact absurd hx h1
    rw [n1, Bool.false_and, bi_f (by decide)] at hQ
    exact hQ
theorem d_pair (hw : wfS s) (hC : CSt R I s) {i e w : Int} (hQ : xpost L R I J (vI (q_pair s i e w).1) (q_pair s i e w).2 Q) : wpC 13 [vR (some 3), vI i, vI e, vI w] (S0 L, R, I, J) Q := by
  obtain ⟨b, d, hb, hC⟩ := hC
  have h6 := hw.2.2.2.1.1
  have hi := hQ.i hb hC
  unfold q_pair at hi
  refine c_D_pair.mpr ?_
  refine (x_isInstance hb hC i).mpr ?_
  refine b_D_pair_4.mpr ?_
  by_cases h1 : 0 ≤ i ∧ i < (eN (sE s) : Int)
  · rw [if_neg (not_not_intro h1)] at hi
    rw [if_neg (fun q => bi_0.mp q h1)]
    refine (x_isInstance hb hC e).mpr ?_
    refine (b_D_pair_10 hC.1 hb.b).mpr ?_
    by_cases h2 : 0 ≤ e ∧ e < (eN (sE s) : Int)
    · rw [if_neg (not_not_intro h2)] at hi
      rw [if_neg (fun q => bi_0.mp q h2)]
      by_cases h3 : i = e
      · rw [if_pos h3] at hi
        rw [if_pos h3]; exact hi
      rw [if_neg h3] at hi
      rw [if_neg h3]
      obtain ⟨i', rfl⟩ := nat_of h1.1
      obtain ⟨e', rfl⟩ := nat_of h2.1
      rw [Int.toNat_natCast, Int.toNat_natCast] at hi
      by_cases h4 : 0 ≤ w ∧ w ≤ 2
      · rw [if_neg (not_not_intro h4)] at hi
        obtain ⟨w', rfl⟩ := nat_of h4.1
        rw [Int.toNat_natCast] at hi
        unfold prN at hi
        by_cases a0 : w' = 0
        · rw [if_pos a0] at hi
          rw [if_pos (by omega)]
          refine x_overlap hb hw hC (by omega) (by omega) ?_
          refine b_D_pair_27.mpr ?_
          refine (x_asNumber _).mpr ?_
          exact b_D_pair_29.mpr hi
        rw [if_neg a0] at hi
        rw [if_neg (by omega)]
        by_cases a1 : w' = 1
        · rw [if_pos a1] at hi
          rw [if_pos (by omega)]
          refine x_clash hb hw hC (by omega) (by omega) ?_
          refine b_D_pair_36.mpr ?_
          refine (x_asNumber _).mpr ?_
          exact b_D_pair_38.mpr hi
        rw [if_neg a1] at hi
        rw [if_neg (by omega), if_pos (by omega)]
        refine (x_isFiner hb.b h6 hC.2.2.1 (by omega) (by omega)).mpr ?_
        refine b_D_pair_46.mpr ?_
        refine (x_asNumber _).mpr ?_
        exact b_D_pair_48.mpr hi
      · rw [if_pos h4] at hi
        rw [if_neg (by omega), if_neg (by omega), if_neg (by omega)]; exact hi
    · rw [if_pos h2] at hi
      rw [if_pos (bi_0.mpr h2)]; exact hi
  · rw [if_pos h1] at hi
    rw [if_pos (bi_0.mpr h1)]; exact hi
theorem d_fits (hw : wfS s) (hC : CSt R I s) {i k : Int} (hQ : xpost L R I J (vI (q_fits s i k).1) (q_fits s i k).2 Q) : wpC 14 [vR (some 3), vI i, vI k] (S0 L, R, I, J) Q := by
  obtain ⟨b, d, hb, hC⟩ := hC
  obtain ⟨r1, r2, r3, r4, r5⟩ := hb.r
  have hE := hw.2.2.2.1
  have h6 := hE.1
  unfold q_fits at hQ
  refine c_D_fits.mpr ?_
  refine (x_isInstance hb hC i).mpr ?_
  refine b_D_fits_4.mpr ?_
  by_cases h1 : 0 ≤ i ∧ i < (eN (sE s) : Int)
  · rw [if_neg (not_not_intro h1)] at hQ
    rw [if_neg (fun q => bi_0.mp q h1)]
    refine (x_isFilled hC k).mpr ?_
    refine (b_D_fits_10 hC.1 hb.b).mpr ?_
    by_cases hd : (0 ≤ k ∧ k < 4) ∧ ¬ sL s k.toNat = []
    · rw [if_neg (not_not_intro hd)] at hQ
      rw [if_neg (fun q => bi_0.mp q hd)]
      obtain ⟨i', rfl⟩ := nat_of h1.1
      obtain ⟨k', rfl⟩ := nat_of hd.1.1
      rw [Int.toNat_natCast, Int.toNat_natCast] at hQ
      rw [Int.toNat_natCast] at hd
      obtain ⟨hu, hl⟩ := okS_ne hw (k := k') (by omega) hd.2
      obtain ⟨e1, e2, e3, e4, e5, e6⟩ := hE.2 i' (by omega)
      refine ⟨⟨by omega, by omega⟩, hd.1, ?_⟩
      refine x_cov (a0 := b + 8 + 7 * i' + 1) (a1 := 114 + 5 + 4 * k') (h := eH (sE s) i') (w := sL s k') (is_Ru2 (ie_Bk5 hb.b (i := (i' : Int)) ⟨by omega, by omega⟩)) (ie_Dk1 is_114 (i := (k' : Int)) ⟨by omega, by omega⟩) ⟨rfl, rfl⟩ (by omega) (by omega) e3 (by omega) hu hl (hC.2.2.1.2.2.2.2 i' (by omega)).1.2.1.1 (hC.2.2.2.2.2.1.2.1 k' (by omega)) (fun I1 f1 => ?_)
      refine b_D_fits_31.mpr ?_
      refine (x_asNumber _).mpr ?_
      refine b_D_fits_33.mpr ?_
      exact hQ R I1 J (frI.q (fun a ha => f1 a (by omega))) ⟨b, d, hb, hC.fr hw rfl (fun a ha => f1 a (by omega))⟩
    · rw [if_pos hd] at hQ
      rw [if_pos (bi_0.mpr hd)]; exact hQ.i hb hC
  · rw [if_pos h1] at hQ
    rw [if_pos (bi_0.mpr h1)]; exact hQ.i hb hC
/-- another desk -/
theorem CSb.dk {I' : Nat → Int → Int} {kd : Nat → Nat} {sl : Nat → List Nat} {sn : SN} (h : CSb R I b d s) (hb : bd b d) (hw : wfS s) (f : ∀ a, a < 114 ∨ 134 < a → I' a = I a) (hD : DkX I' 114 (eN (sE s)) kd sl sn) : CSb R I' b d (s.1, s.2.1, s.2.2.1, setK (sE s) kd, sl, sn, s.2.2.2.2.2.2) := by
  obtain ⟨h1, h2, h3, h4, h5, h6, h7, h8⟩ := h
  obtain ⟨r1, r2, r3, r4, r5⟩ := hb.r
  refine ⟨h1, h2, (BkX.fr (I := I) (E := sE s) h3 hw.2.2.2.1.1 (fun a p1 p2 => f a (by omega))).setK _, h4.fr (by rw [f 3 (by omega)]) (f 4 (by omega)), by rw [f 3 (by omega)]; exact h5, hD, ?_, h8.fr (f 1 (by omega)) (f 2 (by omega))⟩
  exact ImX.fr (I := I) (s := s) h7 (by rw [f 3 (by omega)]) (fun a p1 p2 => f a (by omega))
theorem d_see (hw : wfS s) (hC : CSt R I s) {i w z : Int} (hQ : xpost L R I J (vI (q_see s i w z).1) (q_see s i w z).2 Q) : wpC 30 [vR (some 3), vI i, vI w, vI z] (S0 L, R, I, J) Q := by
  obtain ⟨b, d, hb, hC⟩ := hC
  have hN := hw.2.2.2.2.2.1
  have hT := hC.2.2.2.2.2.2.2
  have hDk := hC.2.2.2.2.2.1
  unfold q_see at hQ
  refine c_D_see.mpr ?_
  refine (x_isInstance hb hC i).mpr ?_
  refine b_D_see_4.mpr ?_
  by_cases h1 : 0 ≤ i ∧ i < (eN (sE s) : Int)
  · rw [if_neg (not_not_intro h1)] at hQ
    rw [if_neg (fun q => bi_0.mp q h1)]
    by_cases h2 : 0 ≤ w ∧ w ≤ 3
    · rw [if_neg (not_not_intro h2)] at hQ
      rw [if_neg (by omega), if_pos (by omega), hDk.2.2.1]
      have h66 := hN.1
      by_cases h3 : (sN s).length = 6
      · rw [if_pos h3] at hQ
        rw [if_neg (by omega)]; exact hQ.i hb hC
      · rw [if_neg h3] at hQ
        rw [if_pos (by omega)]
        obtain ⟨i', rfl⟩ := nat_of h1.1
        obtain ⟨w', rfl⟩ := nat_of h2.1
        rw [Int.toNat_natCast, Int.toNat_natCast] at hQ
        rw [hT.so (by omega)]
        have hgo : wpc 30 46 [vR (some 3), vU, vU, vU] [vI (lvs (i', w', decide (¬ z = 0))), vI (i' : Int), vR (some 114)] (0, 0) (S0 L, R, I, J) Q := by
          refine (b_D_see_46 is_114).mpr ?_
          refine x_keepSeen is_114 (by omega) hDk (fun I1 f1 d1 => ?_)
          refine b_D_see_48.mpr ?_
          rw [d1.2.2.1, List.length_append]
          exact hQ R I1 J (frI.q (fun a ha => f1 a (by omega) (by omega) (by omega))) ⟨b, d, hb, hC.dk hb hw (fun a ha => f1 a (by omega) (by omega) (by omega)) d1⟩
        by_cases hz : z = 0
        · rw [if_pos hz]
          refine ⟨⟨by omega, by omega⟩, ?_⟩
          have : lvs (i', w', decide (¬ z = 0)) = ixor (soK w' : Int) (-1) := by
            unfold lvs
            rw [if_neg (by show ¬ decide (¬ z = 0) = true; rw [decide_eq_false (fun q => q hz)]; decide)]
          rw [← this]; exact hgo
        · rw [if_neg hz]
          refine ⟨⟨by omega, by omega⟩, ?_⟩
          have : lvs (i', w', decide (¬ z = 0)) = (soK w' : Int) := by
            unfold lvs
            rw [if_pos (by show decide (¬ z = 0) = true; exact decide_eq_true hz)]
          rw [← this]; exact hgo
    · rw [if_pos h2] at hQ
      by_cases h4 : w < 0
      · rw [if_pos h4]; exact hQ.i hb hC
      · rw [if_neg h4, if_neg (by omega)]; exact hQ.i hb hC
  · rw [if_pos h1] at hQ
    rw [if_pos (bi_0.mpr h1)]; exact hQ.i hb hC
theorem d_forget (hw : wfS s) (hC : CSt R I s) (hQ : xpost L R I J (vI (q_forget s).1) (q_forget s).2 Q) : wpC 31 [vR (some 3)] (S0 L, R, I, J) Q := by
  obtain ⟨b, d, hb, hC⟩ := hC
  have hDk := hC.2.2.2.2.2.1
  refine c_D_forget.mpr ?_
  rw [hDk.2.2.1]
  refine hQ R _ J (frI.q (fun a ha => upM_ne (by omega))) ⟨b, d, hb, hC.dk hb hw (fun a ha => upM_ne (by omega)) ⟨fun i hi => ?_, fun k hk => ?_, upM_same, fun k hk => absurd hk (by simp)⟩⟩
  · rw [upM_ne (by decide)]; exact hDk.1 i hi
  · exact (hDk.2.1 k hk).fr (by rw [upM_ne (by omega)]) (upM_ne (by omega)) (upM_ne (by omega)) (upM_ne (by omega))
theorem ok9s {sl : Nat → List Nat} (h : okSl sl) : ∀ k, k < 4 → (sl k).length ≤ 9 := fun k hk => ok9 (h k hk)
theorem d_image (hw : wfS s) (hC : CSt R I s) (hQ : xpost L R I J (vI (q_image s).1) (q_image s).2 Q) : wpC 35 [vR (some 3)] (S0 L, R, I, J) Q := by
  obtain ⟨b, d, hb, hC⟩ := hC
  obtain ⟨r1, r2, r3, r4, r5⟩ := hb.r
  unfold q_image at hQ
  refine c_D_image.mpr ?_
  rw [hC.2.2.2.2.1]
  by_cases h0 : sB s = 0
  · rw [if_pos h0] at hQ
    rw [if_pos (by omega)]; exact hQ.i hb hC
  · rw [if_neg h0] at hQ
    rw [if_neg (by omega)]
    obtain ⟨h1, h2, h3, h4, h5, hD, h7, h8⟩ := hC
    refine x_copyDesk (a := 135) (c := 114) is_135 is_114 (by omega) hw.2.2.2.1.1 (ok9s hw.2.2.2.2.1) hw.2.2.2.2.2.1.1 hD (fun I1 f1 d1 => ?_)
    refine b_D_image_13.mpr ?_
    have g : ∀ a, a ≠ 3 → a < 135 ∨ 155 < a → (upM I1 3 9 1) a = I a := fun a p q => by rw [upM_ne p, f1 a (by omega)]
    refine x_filledSlots (sl := sL s) is_114 (fun k hk => (hD.2.1 k hk).fr (by rw [g _ (by omega) (by omega)]) (g _ (by omega) (by omega)) (g _ (by omega) (by omega)) (g _ (by omega) (by omega))) ?_
    refine b_D_image_20.mpr ?_
    refine hQ R _ J (frI.q (fun a ha => g a (by omega) (by omega))) ⟨b, d, hb, h1, h2, ?_, h4.fr (by rw [upM_i (by decide), f1 3 (by omega)]) (g 4 (by decide) (by omega)), by rw [upM_i (by decide), f1 3 (by omega)]; exact h5, ?_, ⟨upM_same, ?_⟩, h8.fr (g 1 (by decide) (by omega)) (g 2 (by decide) (by omega))⟩
    · exact BkX.fr (I := I) (E := sE s) h3 hw.2.2.2.1.1 (fun a p1 p2 => g a (by omega) (by omega))
    · exact DkX.fr (I := I) hD (fun a p1 p2 => g a (by omega) (by omega))
    · exact d1.fr (fun a p1 p2 => upM_ne (by omega))
theorem d_restore (hw : wfS s) (hC : CSt R I s) (hQ : xpost L R I J (vI (q_restore s).1) (q_restore s).2 Q) : wpC 36 [vR (some 3)] (S0 L, R, I, J) Q := by
  obtain ⟨b, d, hb, hC⟩ := hC
  obtain ⟨r1, r2, r3, r4, r5⟩ := hb.r
  have hI := hC.2.2.2.2.2.2.1
  have hwI := hw.2.2.2.2.2.2.2.2
  unfold q_restore at hQ
  unfold ImX at hI
  refine c_D_restore.mpr ?_
  cases hm : sI s with
  | none =>
    rw [hm] at hI hQ
    rw [if_pos hI]; exact hQ.i hb hC
  | some m =>
    rw [hm] at hI hQ hwI
    rw [if_neg (by rw [hI.1]; decide)]
    refine x_copyDesk (a := 114) (c := 135) is_114 is_135 (by omega) hw.2.2.2.1.1 (ok9s hwI.2.1) hwI.2.2.1 hI.2 (fun I1 f1 d1 => ?_)
    refine b_D_restore_13.mpr ?_
    refine x_filledSlots (sl := m.2.1) is_114 d1.2.1 ?_
    refine b_D_restore_17.mpr ?_
    exact hQ R I1 J (frI.q (fun a ha => f1 a (by omega))) ⟨b, d, hb, hC.dk hb hw (fun a ha => f1 a (by omega)) d1⟩
end XCa
