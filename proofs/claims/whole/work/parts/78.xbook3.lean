-- ===== the class: types, books =====
section XTy
variable {L : Nat} {R : Nat → Int → Option Nat} {I : Nat → Int → Int} {J : Nat → Int → Int64} {Q : Option MV → MM → Prop} {s : ST} {b d : Nat}
theorem x_pageIsType {pg : List Int} (hw : wfP pg) (hP : PgX I pg) (hT : StI I) (hQ : Q (some (vI (bi (tyL pg 1 = true)))) (S0 L, R, I, J)) : wpC 8 [vR (some 3)] (S0 L, R, I, J) Q := by
  have h84 := hw.1
  refine c_D_pageIsType.mpr ?_
  have key : ∀ m p l : Nat, m + p = pg.length → l ≤ p + 1 → tyL pg 1 = tyL (pg.drop p) l → wpc 8 5 [vR (some 3), vI (l : Int), vI (p : Int), vU] [] (0, 0) (S0 L, R, I, J) Q := by
    intro m
    induction m with
    | zero =>
      intro p l hp hl ht
      refine b_D_pageIsType_5.mpr ?_
      rw [hP.1, if_neg (by omega)]
      rw [ht, List.drop_of_length_le (by omega)] at hQ
      by_cases h0 : l = 0
      · rw [if_pos (by omega)]
        subst h0
        rw [bi_t (show tyL [] 0 = true from rfl)] at hQ
        exact hQ
      · rw [if_neg (by omega)]
        rw [bi_f (by show ¬ (l == 0) = true; simp [h0])] at hQ
        exact hQ
    | succ m ih =>
      intro p l hp hl ht
      have hpl : p < pg.length := by omega
      refine b_D_pageIsType_5.mpr ?_
      rw [hP.1, if_pos (by omega), hP.2 p hpl]
      refine ⟨⟨by omega, by omega⟩, ?_⟩
      refine (x_signOf _).mpr ?_
      refine b_D_pageIsType_16.mpr ?_
      have hr := sg_r (pg.getD p 0)
      rw [drop_getI hpl] at ht
      by_cases hn : sg (pg.getD p 0) = -1
      · rw [if_pos hn]
        have : tyL pg 1 = false := by
          rw [ht]
          cases l with
          | zero => rfl
          | succ l => show (decide (¬ sg (pg.getD p 0) = -1) && _) = false; rw [decide_eq_false (fun q => q hn)]; rfl
        rw [bi_f (by rw [this]; decide)] at hQ
        exact hQ
      · rw [if_neg hn]
        by_cases h0 : l = 0
        · rw [if_pos (by omega)]
          subst h0
          rw [bi_f (by rw [ht]; show ¬ false = true; decide)] at hQ
          exact hQ
        · rw [if_neg (by omega)]
          obtain ⟨g, hg⟩ := nat_of (show 0 ≤ sg (pg.getD p 0) by omega)
          have hg2 : (sg (pg.getD p 0)).toNat = g := by omega
          have hpt := pts_le g
          rw [hg]
          refine (x_partsOf hT (by omega)).mpr ?_
          refine b_D_pageIsType_31.mpr ?_
          have w1 : w32 ((l : Int) + w32 ((pts g : Int) - 1)) = ((l - 1 + pts g : Nat) : Int) := by rw [w32_eq (z := (pts g : Int) - 1) (by omega) (by omega), w32_eq (by omega) (by omega)]; omega
          rw [w1, w32_s (by omega)]
          refine ih (p + 1) (l - 1 + pts g) (by omega) (by omega) ?_
          rw [ht]
          obtain ⟨l', rfl⟩ : ∃ l', l = l' + 1 := ⟨l - 1, by omega⟩
          show (decide (¬ sg (pg.getD p 0) = -1) && tyL (pg.drop (p + 1)) (l' + pts (sg (pg.getD p 0)).toNat)) = _
          rw [decide_eq_true hn, Bool.true_and, hg2, show l' + 1 - 1 = l' by omega]
  exact key pg.length 0 1 (by omega) (by omega) (by rw [List.drop_zero])
theorem ty_add {pg : List Int} {a : Nat} (ha : isSh a) (hw : wfP pg) (h9 : pg.length ≤ 9) (h3 : 4 < a) (hty : ∀ p, p < pg.length → 0 ≤ sg (pg.getD p 0)) : ∀ (m p : Nat) {I : Nat → Int → Int}, m + p = pg.length → PgX I pg → ShW I a ((toW pg).take p) → (∀ I', (∀ x, x ≠ a → x ≠ a + 1 → I' x = I x) → ShW I' a (toW pg) → wpC 212 [vR (some a)] (S0 L, R, I', J) (fun v M2 => wpc 6 62 [vR (some 3), vU, vR (some a), vU] (v.toList ++ []) (0, 0) M2 Q)) → wpc 6 42 [vR (some 3), vU, vR (some a), vI (p : Int)] [] (0, 0) (S0 L, R, I, J) Q := by
  have hlen : (toW pg).length = pg.length := by unfold toW; rw [List.length_map]
  intro m
  induction m with
  | zero =>
    intro p I hp hP hW hQ
    refine (b_D_type_42 ha).mpr ?_
    rw [hP.1, if_neg (by omega)]
    rw [List.take_of_length_le (by omega)] at hW
    exact hQ I (fun _ _ _ => rfl) hW
  | succ m ih =>
    intro p I hp hP hW hQ
    have hpl : p < pg.length := by omega
    refine (b_D_type_42 ha).mpr ?_
    rw [hP.1, if_pos (by omega), hP.2 p hpl]
    refine ⟨⟨by omega, by omega⟩, ?_⟩
    refine (x_signOf _).mpr ?_
    refine (b_D_type_54 ha ha).mpr ?_
    obtain ⟨g, hg⟩ := nat_of (hty p hpl)
    have hg2 : (sg (pg.getD p 0)).toNat = g := by omega
    rw [hg]
    have htl : ((toW pg).take p).length = p := by rw [List.length_take]; omega
    refine x_add ha hW (by omega) (fun I1 f1 s1 => ?_)
    refine (b_D_type_56 ha).mpr ?_
    rw [w32_s (by omega)]
    refine ih (p + 1) (by omega) (hP.fr (by rw [f1 3 (by omega) (by omega)]) (f1 4 (by omega) (by omega))) ?_ (fun I2 f2 => hQ I2 (fun x p1 p2 => by rw [f2 x p1 p2, f1 x p1 p2]))
    have he : (toW pg).take (p + 1) = (toW pg).take p ++ [g] := by
      rw [List.take_succ]
      congr 1
      unfold toW
      rw [List.getElem?_map, List.getElem?_eq_getElem hpl]
      show [(sg pg[p]).toNat] = [g]
      have : pg.getD p 0 = pg[p] := by rw [List.getD_eq_getElem?_getD, List.getElem?_eq_getElem hpl]; rfl
      rw [← this, hg2]
    rw [he]; exact s1
theorem ty_sg {pg : List Int} : ∀ k, tyL pg k = true → ∀ p, p < pg.length → 0 ≤ sg (pg.getD p 0) := by
  induction pg with
  | nil => intro k _ p hp; exact absurd hp (by simp)
  | cons c l ih =>
    intro k h p hp
    cases k with
    | zero => exact absurd h (by show ¬ false = true; decide)
    | succ k =>
      have h2 : (decide (¬ sg c = -1) && tyL l (k + pts (sg c).toNat)) = true := h
      rw [Bool.and_eq_true, decide_eq_true_eq] at h2
      cases p with
      | zero => have := sg_r c; show 0 ≤ sg c; omega
      | succ p => exact ih _ h2.2 p (by simpa using hp)
theorem d_type (hw : wfS s) (hC : CSt R I s) {k : Int} (hQ : xpost L R I J (vI (q_type s k).1) (q_type s k).2 Q) : wpC 6 [vR (some 3), vI k] (S0 L, R, I, J) Q := by
  obtain ⟨b, d, hb, hC⟩ := hC
  obtain ⟨r1, r2, r3, r4, r5⟩ := hb.r
  have h6 := hw.2.2.2.1.1
  have h84 := hw.1.1
  unfold q_type at hQ
  refine c_D_type.mpr ?_
  by_cases hk : 0 ≤ k ∧ k ≤ 3
  · rw [if_neg (not_not_intro hk)] at hQ
    rw [if_neg (by omega), if_pos (by omega), hC.2.2.2.2.1]
    by_cases h0 : sB s = 0
    · rw [if_pos h0] at hQ
      rw [if_pos (by omega)]; exact hQ.i hb hC
    rw [if_neg h0] at hQ
    rw [if_neg (by omega)]
    refine x_pageIsType hw.1 hC.2.2.2.1 hC.2.2.2.2.2.2.2 ?_
    refine b_D_type_17.mpr ?_
    by_cases hty : tyL (sP s) 1 = true
    · rw [if_neg (not_not_intro hty)] at hQ
      rw [if_neg (fun q => bi_0.mp q hty), hC.2.2.2.1.1]
      by_cases h9 : 9 < (sP s).length
      · rw [if_pos h9] at hQ
        rw [if_neg (by omega)]; exact hQ.i hb hC
      · rw [if_neg h9] at hQ
        rw [if_pos (by omega)]
        obtain ⟨k', rfl⟩ := nat_of hk.1
        rw [Int.toNat_natCast] at hQ
        refine ⟨⟨by omega, by omega⟩, ?_⟩
        have ha : isSh (114 + 5 + 4 * k') := ie_Dk1 is_114 (i := (k' : Int)) ⟨by omega, by omega⟩
        obtain ⟨t1, _⟩ := ty_wf (sP s) 1 hty
        have hlen : (toW (sP s)).length = (sP s).length := by unfold toW; rw [List.length_map]
        obtain ⟨h1, h2, h3, h4, h5, hD, h7, h8⟩ := hC
        have hgo : wpC 210 [vR (some (114 + 5 + 4 * k'))] (S0 L, R, I, J) (fun v M2 => wpc 6 39 [vR (some 3), vU, vR (some (114 + 5 + 4 * k')), vU] (v.toList ++ []) (0, 0) M2 Q) := by
          generalize haa : 114 + 5 + 4 * k' = a at *
          refine (c_Shape_clear ha).mpr ?_
          refine (b_D_type_39 ha).mpr ?_
          refine ty_add ha hw.1 (by omega) (by omega) (ty_sg 1 hty) (sP s).length 0 (by omega) (h4.fr (by rw [upM_ne (by omega)]) (upM_ne (by omega))) ⟨upM_same, fun p hp => absurd hp (by simp)⟩ (fun I1 f1 s1 => ?_)
          have g1 : ∀ x, x ≠ a → x ≠ a + 1 → I1 x = I x := fun x p1 p2 => by rw [f1 x p1 p2, upM_ne p1]
          refine x_settle ha (by omega) ⟨kd_Sh2 ha, ln_Sh2 ha⟩ (h8.fr (g1 1 (by omega) (by omega)) (g1 2 (by omega) (by omega))) t1 (by omega) s1 (fun I2 f2 s2 => ?_)
          refine (b_D_type_62 ha).mpr ?_
          have g2 : ∀ x, x < a ∨ a + 3 < x → x ≠ 3 → (upM I2 3 1 0) x = I x := fun x p1 p2 => by rw [upM_ne p2, f2 x (by omega) (by omega), g1 x (by omega) (by omega)]
          have q2 : ∀ j : Int, j ≠ 1 → (upM I2 3 1 0) 3 j = I 3 j := fun j hj => by rw [upM_i hj, f2 3 (by omega) (by omega), g1 3 (by omega) (by omega)]
          rw [show upM I2 3 1 0 a 3 = ((sP s).length : Int) by rw [upM_ne (by omega), s2.1.1, hlen]]
          refine hQ R _ J (frI.q (fun x hx => g2 x (by omega) (by omega))) ⟨b, d, hb, h1, h2, ?_, ⟨upM_same, fun p hp => absurd hp (by simp [setL, sP])⟩, by rw [q2 4 (by decide)]; exact h5, ⟨fun i hi => ?_, fun k hk => ?_, ?_, fun k hk => ?_⟩, ?_, h8.fr (g2 1 (by omega) (by decide)) (g2 2 (by omega) (by decide))⟩
          · exact BkX.fr (I := I) (E := sE s) h3 h6 (fun x p1 p2 => g2 x (by omega) (by omega))
          · rw [g2 _ (by omega) (by decide)]; exact hD.1 i hi
          · show ShS (upM I2 3 1 0) (114 + 5 + 4 * k) (if k = k' then toW (sP s) else sL s k)
            by_cases hkk : k = k'
            · rw [if_pos hkk, hkk, haa]
              exact s2.fr (by rw [upM_ne (by omega)]) (upM_ne (by omega)) (upM_ne (by omega)) (upM_ne (by omega))
            · rw [if_neg hkk]
              exact (hD.2.1 k hk).fr (by rw [g2 _ (by omega) (by omega)]) (g2 _ (by omega) (by omega)) (g2 _ (by omega) (by omega)) (g2 _ (by omega) (by omega))
          · rw [g2 _ (by omega) (by decide)]; exact hD.2.2.1
          · rw [g2 (114 + 3) (by omega) (by decide), g2 (114 + 4) (by omega) (by decide)]; exact hD.2.2.2 k hk
          · exact ImX.fr (I := I) (s := s) h7 (q2 9 (by decide)) (fun x p1 p2 => g2 x (by omega) (by omega))
        exact hgo
    · rw [if_pos hty] at hQ
      rw [if_pos (bi_0.mpr hty)]; exact hQ.i hb hC
  · rw [if_pos hk] at hQ
    by_cases h0 : k < 0
    · rw [if_pos h0]; exact hQ.i hb hC
    · rw [if_neg h0, if_neg (by omega)]; exact hQ.i hb hC
theorem d_book (hw : wfS s) (hC : CSt R I s) (hQ : xpost L R I J (vI (q_book s).1) (q_book s).2 Q) : wpC 5 [vR (some 3)] (S0 L, R, I, J) Q := by
  obtain ⟨b, d, hb, hC⟩ := hC
  obtain ⟨r1, r2, r3, r4, r5⟩ := hb.r
  unfold q_book at hQ
  refine c_D_book.mpr ?_
  refine x_readPage hb.sw.b r3 r4 hw.1 hC.2.1 hC.2.2.2.1 hC.2.2.2.2.2.2.2 (fun R1 I1 f1 hR => ?_)
  have c1 := hC.rd hb hw f1
  refine b_D_book_3.mpr ?_
  rw [c1.2.2.2.1.1]
  have hno : whlB (sP s) = false → Q (some (vI (-103))) (S0 L, R1, I1, J) := fun h => by
    rw [if_neg (by rw [h]; decide)] at hQ
    exact hQ R1 I1 J (f1.q hb) ⟨b, d, hb, c1⟩
  by_cases hl : (rdP (sP s)).1 = (sP s).length
  · rw [if_neg (by omega)]
    have hR1 := hR hl
    refine c_Reader_isWhole.mpr ?_
    rw [hR1.2.2.1]
    by_cases h6 : (rdP (sP s)).2.1 = 6
    · rw [if_pos (by omega)]
      have hwh : whlB (sP s) = true := by
        unfold whlB
        rw [decide_eq_true hl, decide_eq_true h6]; rfl
      rw [if_pos hwh] at hQ
      obtain ⟨k1, k2, k3, k4, k5⟩ := bk_ok hwh
      obtain ⟨h1, h2, h3, h4, h5, hD, h7, h8⟩ := c1
      refine (b_D_book_11 (c2 := d) h1 hb.b h2 hb.sw.b (by rw [upM_i (by decide), upM_same]) hb.sw.b).mpr ?_
      rw [if_neg (by decide)]
      have hcl : ClL I1 d (bkR s) := by
        have := hR1.2.2.2.2.2.1
        unfold clS at this
        rw [if_neg (by omega)] at this
        exact this
      have hin : InL I1 d (bkI s) := by
        have := hR1.2.2.2.2.2.2.1
        unfold inS at this
        rw [if_pos (by omega)] at this
        exact this
      refine x_settleBook (E := mkE (bkI s)) (nC := (bkR s).length) (rt := fun c => (bkR s).getD c 0) hb.sw.b (by omega) r4 (wfE_mk k4 k5) k1 k3 h8 ⟨hcl.1, hcl.2, hin.1, hin.2⟩ (fun I2 f2 x2 kd2 => ?_)
      refine (b_D_book_32 (c0 := d) (by rw [upM_i (by decide), upM_same]) hb.sw.b).mpr ?_
      refine x_startWith (n := (bkI s).length) (kd := eK (mkE (bkI s))) is_114 hb.sw.b (by omega) k4 x2.2.2.1 kd2 (fun I3 f3 d3 => ?_)
      refine (b_D_book_38 (c0 := d) (by rw [upM_i (by decide), upM_same]) hb.sw.b).mpr ?_
      have g3 : ∀ a, a < 5 → I3 a = I1 a := fun a ha => by rw [f3 a (by omega), f2 a (by omega)]
      have b3 : (upM (upM I3 3 9 0) 3 1 0) 3 4 = (sB s : Int) := by rw [upM_i (by decide), upM_i (by decide), g3 3 (by decide)]; exact h5
      have hsb := hw.2.1
      rw [b3, w32_s (by omega), show (upM (upM (upM I3 3 9 0) 3 1 0) 3 4 ((sB s + 1 : Nat) : Int)) d 4 = ((bkI s).length : Int) by rw [upM_ne (by omega), upM_ne (by omega), upM_ne (by omega), f3 d (by omega)]; exact x2.2.2.1]
      have g4 : ∀ a, a ≠ 3 → (upM (upM (upM I3 3 9 0) 3 1 0) 3 4 ((sB s + 1 : Nat) : Int)) a = I3 a := fun a p => by rw [upM_ne p, upM_ne p, upM_ne p]
      refine hQ _ _ J (fun a ha => ⟨by rw [upM_ne (by omega), upM_ne (by omega), f1.1 a (by omega)], by rw [g4 a (by omega), f3 a (by omega), f2 a (by omega), f1.2 a (by omega) (by omega)], rfl⟩) ⟨d, b, hb.sw, by rw [upM_i (by decide), upM_same], upM_same, ?_, ⟨by rw [upM_i (by decide), upM_same]; rfl, fun k hk => absurd hk (by simp [bkS, sP])⟩, upM_same, ?_, ?_, h8.fr (by rw [g4 1 (by decide), g3 1 (by decide)]) (by rw [g4 2 (by decide), g3 2 (by decide)])⟩
      · exact BkX.fr (I := I2) (E := mkE (bkI s)) x2 k4 (fun a p1 p2 => by rw [g4 a (by omega), f3 a (by omega)])
      · exact DkX.fr (I := I3) d3 (fun a p1 p2 => g4 a (by omega))
      · show (upM (upM (upM I3 3 9 0) 3 1 0) 3 4 ((sB s + 1 : Nat) : Int)) 3 9 = 0
        rw [upM_i (by decide), upM_i (by decide), upM_same]
    · rw [if_neg (by omega)]
      refine (b_D_book_11 (c2 := d) c1.1 hb.b c1.2.1 hb.sw.b (by rw [upM_i (by decide), upM_same]) hb.sw.b).mpr ?_
      rw [if_pos rfl]
      exact hno (by unfold whlB; rw [decide_eq_false h6, Bool.and_false])
  · have hle : (rdP (sP s)).1 ≤ (sP s).length := by
      have : ∀ (l : List Int) (s : PS), (runP s l).1 ≤ l.length := by
        intro l
        induction l with
        | nil => intro s; exact Nat.le_refl _
        | cons c l ih =>
          intro s
          unfold runP
          split
          · exact Nat.zero_le _
          · have := ih (by assumption); simp only [List.length_cons]; omega
      exact this _ _
    rw [if_pos (by omega)]
    exact hno (by unfold whlB; rw [decide_eq_false hl]; rfl)
end XTy
