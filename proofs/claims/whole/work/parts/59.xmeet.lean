-- ===== the class: whether two heads can meet =====
theorem tab_get {f : Nat → Nat} {n d : Nat} (h : n < 10) : (tab f).getD n d = f n := by
  have : n = 0 ∨ n = 1 ∨ n = 2 ∨ n = 3 ∨ n = 4 ∨ n = 5 ∨ n = 6 ∨ n = 7 ∨ n = 8 ∨ n = 9 := by omega
  rcases this with rfl | rfl | rfl | rfl | rfl | rfl | rfl | rfl | rfl | rfl <;> rfl
def pNd (x : Nat) : Int := if x < 10 then (x : Int) else -1
def NdM (I : Nat → Int → Int) (h1 h2 : List Nat) : Prop := ∀ n : Nat, n < 10 → I 107 (n : Int) = (cS h1 h2 n : Int) ∧ I 109 (n : Int) = pNd (cF h1 h2 n) ∧ I 110 (n : Int) = pNd (cP h1 h2 n)
def LdM (I : Nat → Int → Int) (ld : List Nat) : Prop := ld.length = 10 ∧ ∀ n : Nat, n < 10 → I 108 (n : Int) = (ld.getD n 0 : Int) ∧ ld.getD n 0 < 10
def QuM (I : Nat → Int → Int) (q : List (Nat × Nat)) (nx t : Nat) : Prop := I 106 7 = (t : Int) ∧ nx + q.length = t ∧ ∀ k : Nat, k < q.length → I 112 ((nx + k : Nat) : Int) = ((q.getD k (0, 0)).1 : Int) ∧ I 113 ((nx + k : Nat) : Int) = ((q.getD k (0, 0)).2 : Int) ∧ (q.getD k (0, 0)).1 < 10 ∧ (q.getD k (0, 0)).2 < 10
section XMe
variable {L : Nat} {R : Nat → Int → Option Nat} {I : Nat → Int → Int} {J : Nat → Int → Int64} {Q : Option MV → MM → Prop} {h1 h2 : List Nat}
theorem cS_lt (n : Nat) : cS h1 h2 n < 6 := by
  unfold cS
  split
  · assumption
  · decide
theorem ldF_lt {ld : List Nat} (hL : LdM I ld) : ∀ (f n : Nat), n < 10 → ldF ld f n < 10 := by
  intro f
  induction f with
  | zero => intro n h; exact h
  | succ f ih =>
    intro n h
    unfold ldF
    split
    · exact h
    · exact ih _ (hL.2 n h).2
theorem x_leaderOf {ld : List Nat} (hL : LdM I ld) {n : Nat} (hn : n < 10) (hQ : Q (some (vI (ldF ld 10 n : Int))) (S0 L, R, I, J)) : wpC 182 [vR (some 106), vI (n : Int)] (S0 L, R, I, J) Q := by
  refine c_Meeting_leaderOf.mpr ?_
  have key : ∀ (f st n : Nat), f + st = 10 → n < 10 → Q (some (vI (ldF ld f n : Int))) (S0 L, R, I, J) → wpc 182 5 [vR (some 106), vU, vI (n : Int), vI (st : Int)] [] (0, 0) (S0 L, R, I, J) Q := by
    intro f
    induction f with
    | zero =>
      intro st n hs hn hq
      refine b_Meeting_leaderOf_5.mpr ?_
      rw [if_neg (by omega)]
      exact hq
    | succ f ih =>
      intro st n hs hn hq
      unfold ldF at hq
      refine b_Meeting_leaderOf_5.mpr ?_
      rw [if_pos (by omega), (hL.2 n hn).1]
      refine ⟨⟨by omega, by omega⟩, ?_⟩
      by_cases he : ld.getD n 0 = n
      · rw [if_pos he] at hq
        rw [if_pos (by omega)]; exact hq
      · rw [if_neg he] at hq
        rw [if_neg (by omega), w32_s (by omega)]
        exact ⟨⟨by omega, by omega⟩, ih (st + 1) _ (by omega) (hL.2 n hn).2 hq⟩
  exact key 10 0 n rfl hn hQ
theorem LdM.set {ld : List Nat} (hL : LdM I ld) {a b : Nat} (ha : a < 10) (hb : b < 10) : LdM (upM I 108 (a : Int) (b : Int)) (ld.set a b) := by
  refine ⟨by rw [List.length_set]; exact hL.1, fun n hn => ?_⟩
  have hl := hL.1
  by_cases h : n = a
  · subst h
    have e : (ld.set n b).getD n 0 = b := by rw [List.getD_eq_getElem?_getD, List.getElem?_set_self (by omega)]; rfl
    rw [upM_same, e]; exact ⟨rfl, hb⟩
  · have e : (ld.set a b).getD n 0 = ld.getD n 0 := by rw [List.getD_eq_getElem?_getD, List.getElem?_set_ne (fun q => h q.symm), List.getD_eq_getElem?_getD]
    rw [upM_i (by omega), e]; exact hL.2 n hn
/-- what the meeting changes while it joins -/
def frP (I I' : Nat → Int → Int) : Prop := (∀ a, a ≠ 106 → a ≠ 112 → a ≠ 113 → I' a = I a) ∧ ∀ j : Int, j ≠ 7 → I' 106 j = I 106 j
theorem QuM.fr {I' : Nat → Int → Int} {q : List (Nat × Nat)} {nx t : Nat} (h : QuM I q nx t) (f1 : I' 106 7 = I 106 7) (f2 : I' 112 = I 112) (f3 : I' 113 = I 113) : QuM I' q nx t := ⟨by rw [f1]; exact h.1, h.2.1, fun k hk => by rw [f2, f3]; exact h.2.2 k hk⟩
theorem x_expect {x y nx t : Nat} {q : List (Nat × Nat)} (hq : QuM I q nx t) (ht : t < 40) (hQ : ∀ I', frP I I' → QuM I' (q ++ cNew x y) nx (t + (cNew x y).length) → Q none (S0 L, R, I', J)) : wpC 180 [vR (some 106), vI (pNd x), vI (pNd y)] (S0 L, R, I, J) Q := by
  have hno : ¬ (x < 10 ∧ y < 10) → Q none (S0 L, R, I, J) := by
    intro h
    have hc : cNew x y = [] := by unfold cNew; rw [if_neg h]
    refine hQ I ⟨fun _ _ _ _ => rfl, fun _ _ => rfl⟩ ?_
    rw [hc, List.append_nil]
    exact hq
  refine c_Meeting_expectAlike.mpr ?_
  by_cases hx : x < 10
  · have ex : pNd x = (x : Int) := by unfold pNd; rw [if_pos hx]
    rw [ex, if_neg (by omega), if_pos (by omega)]
    by_cases hy : y < 10
    · have ey : pNd y = (y : Int) := by unfold pNd; rw [if_pos hy]
      have hc : cNew x y = [(x, y)] := by unfold cNew; rw [if_pos ⟨hx, hy⟩]
      rw [ey, if_neg (by omega), if_pos (by omega), if_neg (by decide), upM_ne (I := I) (a := 112) (b := 106) (by decide), upM_ne (a := 113) (b := 106) (by decide), upM_ne (I := I) (a := 112) (b := 106) (by decide), hq.1, if_pos (by omega), w32_s (by omega)]
      refine ⟨⟨by omega, by omega⟩, ⟨by omega, by omega⟩, hQ _ ⟨fun a p1 p2 p3 => by rw [upM_ne p1, upM_ne p3, upM_ne p2], fun j hj => by rw [upM_i hj, upM_ne (by decide), upM_ne (by decide)]⟩ ?_⟩
      rw [hc]
      have hl := hq.2.1
      refine ⟨upM_same, by rw [List.length_append, List.length_singleton]; omega, fun k hk => ?_⟩
      rw [List.length_append, List.length_singleton] at hk
      have r2 : ∀ j : Int, (upM (upM (upM I 112 (t : Int) (x : Int)) 113 (t : Int) (y : Int)) 106 7 ((t + 1 : Nat) : Int)) 112 j = upM I 112 (t : Int) (x : Int) 112 j := fun j => by rw [upM_ne (by decide), upM_ne (by decide)]
      have r3 : ∀ j : Int, (upM (upM (upM I 112 (t : Int) (x : Int)) 113 (t : Int) (y : Int)) 106 7 ((t + 1 : Nat) : Int)) 113 j = upM (upM I 112 (t : Int) (x : Int)) 113 (t : Int) (y : Int) 113 j := fun j => by rw [upM_ne (by decide)]
      rw [r2, r3, getD_app]
      by_cases hkl : k < q.length
      · rw [if_pos hkl, upM_i (by omega), upM_i (by omega), upM_ne (by decide)]
        exact hq.2.2 k hkl
      · rw [if_neg hkl, if_pos (by omega), show nx + k = t by omega, upM_same, upM_same]
        exact ⟨rfl, rfl, hx, hy⟩
    · have ey : pNd y = -1 := by unfold pNd; rw [if_neg hy]
      rw [ey, if_pos (by decide), if_pos rfl]
      exact hno (fun q => hy q.2)
  · have ex : pNd x = -1 := by unfold pNd; rw [if_neg hx]
    rw [ex, if_pos (by decide), if_pos rfl]
    exact hno (fun q => hx q.1)
/-- what the meeting changes -/
def frN (I I' : Nat → Int → Int) : Prop := (∀ a, a < 106 ∨ 113 < a → I' a = I a) ∧ ∀ j : Int, j ≠ 7 → I' 106 j = I 106 j
theorem frN.tr {I I' I2 : Nat → Int → Int} (h : frN I I') (h2 : frN I' I2) : frN I I2 := ⟨fun a ha => by rw [h2.1 a ha, h.1 a ha], fun j hj => by rw [h2.2 j hj, h.2 j hj]⟩
theorem frN.rf : frN I I := ⟨fun _ _ => rfl, fun _ _ => rfl⟩
theorem frN_up {I : Nat → Int → Int} {a : Nat} {i z : Int} (h1 : 106 < a) (h2 : a ≤ 113) : frN I (upM I a i z) := ⟨fun b hb => upM_ne (by omega), fun j _ => by rw [upM_ne (by omega)]⟩
theorem frP.n {I I' : Nat → Int → Int} (h : frP I I') : frN I I' := ⟨fun a ha => h.1 a (by omega) (by omega) (by omega), h.2⟩
theorem NdM.fr {I' : Nat → Int → Int} (h : NdM I h1 h2) (f1 : I' 107 = I 107) (f2 : I' 109 = I 109) (f3 : I' 110 = I 110) : NdM I' h1 h2 := fun n hn => by rw [f1, f2, f3]; exact h n hn
theorem LdM.fr {I' : Nat → Int → Int} {ld : List Nat} (h : LdM I ld) (f : I' 108 = I 108) : LdM I' ld := ⟨h.1, fun n hn => by rw [f]; exact h.2 n hn⟩
theorem vr_var {s : Nat} (hs : s < 6) : vrF (s : Int) = -1 ↔ ¬ 4 ≤ s := by
  unfold vrF
  split
  · exact ⟨fun _ => by omega, fun _ => rfl⟩
  · exact ⟨fun h => by omega, fun h => by omega⟩
theorem bt_loop : ∀ (f : Nat) {I : Nat → Int → Int} (ld : List Nat) (q : List (Nat × Nat)) (nx t : Nat) (b : Bool) (ld' : List Nat), NdM I h1 h2 → LdM I ld → QuM I q nx t → t ≤ 40 → cB (tab (cS h1 h2)) (tab (cF h1 h2)) (tab (cP h1 h2)) f ld q t = some (b, ld') → (∀ I', frN I I' → NdM I' h1 h2 → (b = true → LdM I' ld') → Q (some (vI (bi (b = true)))) (S0 L, R, I', J)) → wpc 181 3 [vR (some 106), vI (nx : Int)] [] (0, 0) (S0 L, R, I, J) Q := by
  intro f
  induction f with
  | zero => intro I ld q nx t b ld' _ _ _ _ h; exact absurd h (by unfold cB; simp)
  | succ f ih =>
    intro I ld q nx t b ld' hN hL hq ht h hQ
    match q, hq, h with
    | [], hq, h =>
      unfold cB at h
      simp only [Option.some.injEq, Prod.mk.injEq] at h
      obtain ⟨hb, hld⟩ := h
      subst hb; subst hld
      have hl := hq.2.1
      simp only [List.length_nil] at hl
      refine b_Meeting_bringTogether_3.mpr ?_
      rw [hq.1, if_neg (by omega)]
      have := hQ I frN.rf hN (fun _ => hL)
      rw [bi_t rfl] at this
      exact this
    | x :: r, hq, h =>
      have hl := hq.2.1
      rw [List.length_cons] at hl
      obtain ⟨q1, q2, q3, q4⟩ := hq.2.2 0 (by simp)
      simp only [List.getD_cons_zero, Nat.add_zero] at q1 q2 q3 q4
      have hr : QuM I r (nx + 1) t := ⟨hq.1, by omega, fun k hk => by
        have := hq.2.2 (k + 1) (by rw [List.length_cons]; omega)
        rw [List.getD_cons_succ, show nx + (k + 1) = nx + 1 + k by omega] at this
        exact this⟩
      have ha := ldF_lt hL 10 x.1 q3
      have hb := ldF_lt hL 10 x.2 q4
      unfold cB at h
      simp only at h
      refine b_Meeting_bringTogether_3.mpr ?_
      rw [hq.1, if_pos (by omega), if_pos (by omega), q1]
      refine ⟨⟨by omega, by omega⟩, ?_⟩
      refine x_leaderOf hL q3 ?_
      refine b_Meeting_bringTogether_20.mpr ⟨⟨by omega, by omega⟩, ?_⟩
      rw [q2]
      refine x_leaderOf hL q4 ?_
      refine b_Meeting_bringTogether_27.mpr ?_
      generalize ldF ld 10 x.1 = a at *
      generalize ldF ld 10 x.2 = c at *
      rw [tab_get ha, tab_get hb, tab_get ha, tab_get hb, tab_get ha, tab_get hb] at h
      have hgo : ∀ {I2 : Nat → Int → Int} (ld2 : List Nat) (r2 : List (Nat × Nat)) (t2 : Nat), frN I I2 → NdM I2 h1 h2 → LdM I2 ld2 → QuM I2 r2 (nx + 1) t2 → t2 ≤ 40 → cB (tab (cS h1 h2)) (tab (cF h1 h2)) (tab (cP h1 h2)) f ld2 r2 t2 = some (b, ld') → wpc 181 29 [vR (some 106), vI (nx : Int)] [vI 1] (0, 0) (S0 L, R, I2, J) Q := by
        intro I2 ld2 r2 t2 f2 n2 l2 u2 ht2 hc
        refine b_Meeting_bringTogether_29.mpr ?_
        rw [if_neg (by decide), w32_s (by omega)]
        exact ih ld2 r2 (nx + 1) t2 b ld' n2 l2 u2 ht2 hc (fun I3 f3 n3 l3 => hQ I3 (f2.tr f3) n3 l3)
      refine c_Meeting_joinGroups.mpr ?_
      by_cases hac : a = c
      · rw [if_pos hac] at h
        rw [if_pos (by omega)]
        exact hgo ld r t frN.rf hN hL hr ht h
      · rw [if_neg hac] at h
        have sa := cS_lt (h1 := h1) (h2 := h2) a
        have sc := cS_lt (h1 := h1) (h2 := h2) c
        rw [if_neg (by omega), (hN a ha).1, x_variableOf (by omega)]
        refine ⟨⟨by omega, by omega⟩, ?_⟩
        refine b_Meeting_joinGroups_13.mpr ?_
        by_cases va : 4 ≤ cS h1 h2 a
        · rw [if_pos va] at h
          rw [if_neg (fun q => (vr_var sa).mp q va)]
          refine ⟨⟨by omega, by omega⟩, ?_⟩
          exact hgo _ r t (frN_up (by decide) (by decide)) (hN.fr (upM_ne (by decide)) (upM_ne (by decide)) (upM_ne (by decide))) (hL.set ha hb) (hr.fr (by rw [upM_ne (by decide)]) (upM_ne (by decide)) (upM_ne (by decide))) ht h
        · rw [if_neg va] at h
          rw [if_pos ((vr_var sa).mpr va), upM_ne (by decide), (hN c hb).1, x_variableOf (by omega)]
          refine ⟨⟨by omega, by omega⟩, ⟨by omega, by omega⟩, ?_⟩
          have f2 : frN I (upM I 108 (c : Int) (a : Int)) := frN_up (by decide) (by decide)
          have n2 : NdM (upM I 108 (c : Int) (a : Int)) h1 h2 := hN.fr (upM_ne (by decide)) (upM_ne (by decide)) (upM_ne (by decide))
          have l2 : LdM (upM I 108 (c : Int) (a : Int)) (ld.set c a) := hL.set hb ha
          have u2 : QuM (upM I 108 (c : Int) (a : Int)) r (nx + 1) t := hr.fr (by rw [upM_ne (by decide)]) (upM_ne (by decide)) (upM_ne (by decide))
          generalize (upM I 108 (c : Int) (a : Int)) = I2 at *
          refine b_Meeting_joinGroups_35.mpr ?_
          by_cases vc : 4 ≤ cS h1 h2 c
          · rw [if_pos vc] at h
            rw [if_neg (fun q => (vr_var sc).mp q vc)]
            exact hgo _ r t f2 n2 l2 u2 ht h
          · rw [if_neg vc] at h
            by_cases h36 : 36 < t
            · rw [if_pos h36] at h; exact absurd h (by simp)
            rw [if_neg h36] at h
            rw [if_pos ((vr_var sc).mpr vc), (n2 a ha).2.1, (n2 c hb).2.1]
            refine ⟨⟨by omega, by omega⟩, ⟨by omega, by omega⟩, ?_⟩
            have hcl : ∀ x y, (cNew x y).length ≤ 1 := fun x y => by unfold cNew; split <;> simp
            have hc1 := hcl (cF h1 h2 a) (cF h1 h2 c)
            have hc2 := hcl (cP h1 h2 a) (cP h1 h2 c)
            refine x_expect u2 (by omega) (fun I3 f3 u3 => ?_)
            have n3 : NdM I3 h1 h2 := n2.fr (f3.1 107 (by decide) (by decide) (by decide)) (f3.1 109 (by decide) (by decide) (by decide)) (f3.1 110 (by decide) (by decide) (by decide))
            refine b_Meeting_joinGroups_52.mpr ⟨⟨by omega, by omega⟩, ⟨by omega, by omega⟩, ?_⟩
            rw [(n3 a ha).2.2, (n3 c hb).2.2]
            refine x_expect u3 (by omega) (fun I4 f4 u4 => ?_)
            have n4 : NdM I4 h1 h2 := n3.fr (f4.1 107 (by decide) (by decide) (by decide)) (f4.1 109 (by decide) (by decide) (by decide)) (f4.1 110 (by decide) (by decide) (by decide))
            have l4 : LdM I4 (ld.set c a) := l2.fr (by rw [f4.1 108 (by decide) (by decide) (by decide), f3.1 108 (by decide) (by decide) (by decide)])
            have f24 : frN I I4 := (f2.tr f3.n).tr f4.n
            refine b_Meeting_joinGroups_63.mpr ⟨⟨by omega, by omega⟩, ⟨by omega, by omega⟩, ?_⟩
            rw [(n4 a ha).1, (n4 c hb).1]
            by_cases hs : cS h1 h2 a = cS h1 h2 c
            · rw [if_pos hs] at h
              rw [if_pos (by omega)]
              refine hgo _ _ _ f24 n4 l4 ?_ ?_ h
              · rw [List.append_assoc] at u4
                rw [List.length_append, show t + ((cNew (cF h1 h2 a) (cF h1 h2 c)).length + (cNew (cP h1 h2 a) (cP h1 h2 c)).length) = t + (cNew (cF h1 h2 a) (cF h1 h2 c)).length + (cNew (cP h1 h2 a) (cP h1 h2 c)).length by omega]
                exact u4
              · rw [List.length_append]; omega
            · rw [if_neg hs] at h
              simp only [Option.some.injEq, Prod.mk.injEq] at h
              obtain ⟨hb', _⟩ := h
              subst hb'
              rw [if_neg (by omega)]
              refine b_Meeting_bringTogether_29.mpr ?_
              rw [if_pos rfl]
              have := hQ I4 f24 n4 (fun q => absurd q (by decide))
              rw [bi_f (by decide)] at this
              exact this
def EdM (I : Nat → Int → Int) (e : Nat) : Prop := ∀ n : Nat, n < 10 → I 111 (n : Int) = bi (e.testBit n = true)
theorem x_partEnds {ld : List Nat} {e x : Nat} (hL : LdM I ld) (hE : EdM I e) (hQ : Q (some (vI (bi ((decide (10 ≤ ldP ld x) || e.testBit (ldP ld x)) = true)))) (S0 L, R, I, J)) : wpC 185 [vR (some 106), vI (pNd x)] (S0 L, R, I, J) Q := by
  refine c_Meeting_partEnds.mpr ?_
  by_cases hx : x < 10
  · have ex : pNd x = (x : Int) := by unfold pNd; rw [if_pos hx]
    have el : ldP ld x = ldF ld 10 x := by unfold ldP; rw [if_pos hx]
    have hlt := ldF_lt hL 10 x hx
    rw [el, decide_eq_false (by omega), Bool.false_or] at hQ
    rw [ex, if_neg (by omega), if_pos (by omega)]
    refine x_leaderOf hL hx ?_
    refine b_Meeting_partEnds_13.mpr ⟨⟨by omega, by omega⟩, ?_⟩
    rw [hE _ hlt]
    by_cases hb : e.testBit (ldF ld 10 x) = true
    · rw [if_neg (fun q => bi_0.mp q hb)]; rw [bi_t hb] at hQ; exact hQ
    · rw [if_pos (bi_0.mpr hb)]; rw [bi_f hb] at hQ; exact hQ
  · have ex : pNd x = -1 := by unfold pNd; rw [if_neg hx]
    have el : ldP ld x = 15 := by unfold ldP; rw [if_neg hx]
    rw [el, bi_t (by simp)] at hQ
    rw [ex, if_pos (by decide)]
    exact hQ
theorem EdM.up {e n : Nat} (h : EdM I e) {v : Bool} (hn : n < 10) : EdM (upM I 111 (n : Int) (bi (v = true))) (if v then e ||| 2 ^ n else ndf e (2 ^ n)) := by
  intro k hk
  by_cases hkn : k = n
  · subst hkn
    rw [upM_same]
    refine bi_cong ?_
    cases v
    · rw [if_neg (by decide), ndf_bit, Nat.testBit_two_pow_self]; simp
    · rw [if_pos rfl, Nat.testBit_or, Nat.testBit_two_pow_self]; simp
  · rw [upM_i (by omega), h k hk]
    refine bi_cong ?_
    cases v
    · rw [if_neg (by decide), ndf_bit, Nat.testBit_two_pow, decide_eq_false (fun q => hkn q.symm)]; simp
    · rw [if_pos rfl, Nat.testBit_or, Nat.testBit_two_pow, decide_eq_false (fun q => hkn q.symm)]; simp
def itR (l1 l2 : List Nat) : Nat → Nat → Nat
  | 0, e => e
  | k + 1, e => itR l1 l2 k (cR l1 l2 10 e)
theorem itR_fix {l1 l2 : List Nat} {e : Nat} (h : cR l1 l2 10 e = e) : ∀ k, itR l1 l2 k e = e := by
  intro k
  induction k with
  | zero => rfl
  | succ k ih => show itR l1 l2 k (cR l1 l2 10 e) = e; rw [h, ih]
theorem cI_eq (l1 l2 : List Nat) : ∀ k e, cI l1 l2 k e = itR l1 l2 k e := by
  intro k
  induction k with
  | zero => intro e; rfl
  | succ k ih =>
    intro e
    show (if cR l1 l2 10 e = e then e else cI l1 l2 k (cR l1 l2 10 e)) = itR l1 l2 k (cR l1 l2 10 e)
    by_cases h : cR l1 l2 10 e = e
    · rw [if_pos h, h, itR_fix h]
    · rw [if_neg h, ih]
theorem ib8_tf : ib8 0 = bi (false = true) ∧ ib8 1 = bi (true = true) := by
  rw [bi_f (by decide), bi_t rfl]; exact ⟨by decide, by decide⟩
theorem ce_in {ld : List Nat} {rd e0 : Nat} (hr : rd < 10) : ∀ (d n : Nat) {I : Nat → Int → Int}, d + n = 10 → NdM I h1 h2 → LdM I ld → EdM I (cR (tab (fun n => ldP ld (cF h1 h2 n))) (tab (fun n => ldP ld (cP h1 h2 n))) n e0) → (∀ I', (∀ a, a ≠ 111 → I' a = I a) → EdM I' (cR (tab (fun n => ldP ld (cF h1 h2 n))) (tab (fun n => ldP ld (cP h1 h2 n))) 10 e0) → wpc 184 18 [vR (some 106), vI ((rd + 1 : Nat) : Int), vU] [] (0, 0) (S0 L, R, I', J) Q) → wpc 184 25 [vR (some 106), vI (rd : Int), vI (n : Int)] [] (0, 0) (S0 L, R, I, J) Q := by
  intro d
  induction d with
  | zero =>
    intro n I hd hN hL hE hQ
    refine b_Meeting_comesToAnEnd_25.mpr ?_
    rw [if_neg (by omega), w32_s (by omega)]
    have : n = 10 := by omega
    subst this
    exact hQ I (fun _ _ => rfl) hE
  | succ d ih =>
    intro n I hd hN hL hE hQ
    have hn : n < 10 := by omega
    have hgo : ∀ (v : Bool) {I2 : Nat → Int → Int}, (v = ((decide (10 ≤ ldP ld (cF h1 h2 n)) || (cR (tab (fun n => ldP ld (cF h1 h2 n))) (tab (fun n => ldP ld (cP h1 h2 n))) n e0).testBit (ldP ld (cF h1 h2 n))) && (decide (10 ≤ ldP ld (cP h1 h2 n)) || (cR (tab (fun n => ldP ld (cF h1 h2 n))) (tab (fun n => ldP ld (cP h1 h2 n))) n e0).testBit (ldP ld (cP h1 h2 n))))) → I2 = upM I 111 (n : Int) (bi (v = true)) → wpc 184 25 [vR (some 106), vI (rd : Int), vI ((n + 1 : Nat) : Int)] [] (0, 0) (S0 L, R, I2, J) Q := by
      intro v I2 hv hI2
      subst hI2
      refine ih (n + 1) (by omega) (hN.fr (upM_ne (by decide)) (upM_ne (by decide)) (upM_ne (by decide))) (hL.fr (upM_ne (by decide))) ?_ (fun I' f1 h1 => hQ I' (fun a ha => by rw [f1 a ha, upM_ne ha]) h1)
      have := hE.up (v := v) hn
      show EdM _ (cE _ _ (cR _ _ n e0) n)
      unfold cE
      rw [tab_get hn, tab_get hn, ← hv]
      exact this
    refine b_Meeting_comesToAnEnd_25.mpr ?_
    rw [if_pos (by omega), (hN n hn).2.1]
    refine ⟨⟨by omega, by omega⟩, ?_⟩
    refine x_partEnds hL hE ?_
    refine b_Meeting_comesToAnEnd_39.mpr ?_
    rw [w32_s (by omega)]
    by_cases c1 : (decide (10 ≤ ldP ld (cF h1 h2 n)) || (cR (tab (fun n => ldP ld (cF h1 h2 n))) (tab (fun n => ldP ld (cP h1 h2 n))) n e0).testBit (ldP ld (cF h1 h2 n))) = true
    · rw [if_neg (fun q => bi_0.mp q c1), (hN n hn).2.2]
      refine ⟨⟨by omega, by omega⟩, ?_⟩
      refine x_partEnds hL hE ?_
      refine b_Meeting_comesToAnEnd_48.mpr ?_
      rw [w32_s (by omega)]
      by_cases c2 : (decide (10 ≤ ldP ld (cP h1 h2 n)) || (cR (tab (fun n => ldP ld (cF h1 h2 n))) (tab (fun n => ldP ld (cP h1 h2 n))) n e0).testBit (ldP ld (cP h1 h2 n))) = true
      · rw [if_neg (fun q => bi_0.mp q c2)]
        exact ⟨⟨by omega, by omega⟩, hgo true (by rw [c1, c2]; rfl) (by rw [ib8_tf.2])⟩
      · rw [if_pos (bi_0.mpr c2)]
        exact ⟨⟨by omega, by omega⟩, hgo false (by rw [c1, Bool.eq_false_iff.mpr c2]; rfl) (by rw [ib8_tf.1])⟩
    · rw [if_pos (bi_0.mpr c1)]
      exact ⟨⟨by omega, by omega⟩, hgo false (by rw [Bool.eq_false_iff.mpr c1]; rfl) (by rw [ib8_tf.1])⟩
theorem ce_out {ld : List Nat} : ∀ (d rd e0 : Nat) {I : Nat → Int → Int}, d + rd = 10 → NdM I h1 h2 → LdM I ld → EdM I e0 → (∀ I', (∀ a, a ≠ 111 → I' a = I a) → Q (some (vI (bi ((itR (tab (fun n => ldP ld (cF h1 h2 n))) (tab (fun n => ldP ld (cP h1 h2 n))) d e0).testBit (ldF ld 10 0) = true)))) (S0 L, R, I', J)) → wpc 184 18 [vR (some 106), vI (rd : Int), vU] [] (0, 0) (S0 L, R, I, J) Q := by
  intro d
  induction d with
  | zero =>
    intro rd e0 I hd hN hL hE hQ
    refine b_Meeting_comesToAnEnd_18.mpr ?_
    rw [if_neg (by omega)]
    have hlt := ldF_lt hL 10 0 (by decide)
    refine x_leaderOf (n := 0) hL (by decide) ?_
    refine b_Meeting_comesToAnEnd_68.mpr ⟨⟨by omega, by omega⟩, ?_⟩
    rw [hE _ hlt]
    exact ⟨bi_01, hQ I (fun _ _ => rfl)⟩
  | succ d ih =>
    intro rd e0 I hd hN hL hE hQ
    refine b_Meeting_comesToAnEnd_18.mpr ?_
    rw [if_pos (by omega)]
    refine ce_in (by omega) 10 0 rfl hN hL hE (fun I1 f1 hE1 => ?_)
    exact ih (rd + 1) _ (by omega) (hN.fr (f1 107 (by decide)) (f1 109 (by decide)) (f1 110 (by decide))) (hL.fr (f1 108 (by decide))) hE1 (fun I2 f2 => hQ I2 (fun a ha => by rw [f2 a ha, f1 a ha]))
end XMe
