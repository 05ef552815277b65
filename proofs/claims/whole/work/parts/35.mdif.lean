-- ===== the numbers of a dictionary; the different goals of a goal =====
theorem jn_one {a b : GV} {t : Int} (h : (jn a t b).1 = 1) : a.1 = 1 ∧ b.1 = 1 ∧ (jn a t b).2.1 = a.2.1 ++ b.2.1 := by
  unfold jn at h ⊢
  by_cases ha : a.1 = 1
  · rw [if_pos ha] at h ⊢
    by_cases hb : b.1 = 1
    · rw [if_pos hb]; exact ⟨ha, hb, rfl⟩
    · rw [if_neg hb] at h; exact absurd h hb
  · rw [if_neg ha] at h; exact absurd h ha
theorem G_ent {E : EN} {nC : Nat} (hE : wfE E nC) {c : Nat} {u : List Nat} (hu : wfN u 1 = true) (h1 : (G E c u).1 = 1) (h4 : ¬ 4 ≤ u.getD 0 0) : (G E c u).2.1 = tkn E c u :: ((chl E c u).map (fun k => (G E k.1 k.2).2.1)).flatten ∧ (∀ k, k ∈ chl E c u → (G E k.1 k.2).1 = 1) ∧ ¬ tkn E c u < 0 := by
  have hl := chl_len hE c u
  have hG := G_eq hE (c := c) hu
  unfold nodV at hG
  rw [if_neg h4] at hG
  by_cases ht : tkn E c u < 0
  · rw [if_pos ht] at hG
    rw [hG] at h1
    have h2 : (if tkn E c u = -1 then (0 : Int) else -2) = 1 := h1
    split at h2 <;> omega
  rw [if_neg ht] at hG
  rw [hG] at h1 ⊢
  match hch : chl E c u, hl with
  | [], _ => exact ⟨rfl, fun k hk => absurd hk (by simp), ht⟩
  | [k1], _ =>
    rw [hch] at h1
    obtain ⟨_, b1, b2⟩ := jn_one (a := (1, [tkn E c u], 7 * (tkn E c u + 1), 1, 0)) (b := G E k1.1 k1.2) (t := 2) h1
    refine ⟨?_, fun k hk => ?_, ht⟩
    · show (jn (1, [tkn E c u], 7 * (tkn E c u + 1), 1, 0) 2 (G E k1.1 k1.2)).2.1 = _
      rw [b2]
      simp
    · rw [List.mem_singleton.mp hk]; exact b1
  | [k1, k2], _ =>
    rw [hch] at h1
    obtain ⟨a1, b1, b2⟩ := jn_one (a := jn (1, [tkn E c u], 7 * (tkn E c u + 1), 1, 0) 2 (G E k1.1 k1.2)) (b := G E k2.1 k2.2) (t := 3) h1
    obtain ⟨_, c1, c2⟩ := jn_one a1
    refine ⟨?_, fun k hk => ?_, ht⟩
    · show (jn (jn (1, [tkn E c u], 7 * (tkn E c u + 1), 1, 0) 2 (G E k1.1 k1.2)) 3 (G E k2.1 k2.2)).2.1 = _
      rw [b2, c2]
      simp
    · rcases List.mem_cons.mp hk with h | h
      · rw [h]; exact c1
      · rw [List.mem_singleton.mp h]; exact b1
def ddp : List (Nat × List Nat) → List (Nat × List Nat)
  | [] => []
  | a :: l => if a ∈ l then ddp l else a :: ddp l
theorem mem_ddp (k : Nat × List Nat) : ∀ l : List (Nat × List Nat), k ∈ ddp l ↔ k ∈ l := by
  intro l
  induction l with
  | nil => exact Iff.rfl
  | cons a l ih =>
    unfold ddp
    split
    · rename_i h
      rw [ih, List.mem_cons]
      constructor
      · exact Or.inr
      · rintro (h2 | h2)
        · rw [h2]; exact h
        · exact h2
    · rw [List.mem_cons, List.mem_cons, ih]
theorem nd_ddp : ∀ l : List (Nat × List Nat), (ddp l).Nodup := by
  intro l
  induction l with
  | nil => exact List.nodup_nil
  | cons a l ih =>
    unfold ddp
    split
    · exact ih
    · rename_i h
      exact List.nodup_cons.mpr ⟨fun h2 => h ((mem_ddp a l).mp h2), ih⟩
theorem nd_le {α : Type} [DecidableEq α] : ∀ l1 l2 : List α, l1.Nodup → (∀ k, k ∈ l1 → k ∈ l2) → l1.length ≤ l2.length := by
  intro l1
  induction l1 with
  | nil => intro l2 _ _; exact Nat.zero_le _
  | cons a l1 ih =>
    intro l2 hn hs
    obtain ⟨h1, h2⟩ := List.nodup_cons.mp hn
    have ha := hs a (by simp)
    have := ih (l2.erase a) h2 (fun k hk => (List.mem_erase_of_ne (fun h => h1 (by rw [← h]; exact hk))).mpr (hs k (by simp [hk])))
    rw [List.length_erase_of_mem ha] at this
    have hp : 0 < l2.length := List.length_pos_of_mem ha
    rw [List.length_cons]; omega
def dif (E : EN) (c : Nat) (u : List Nat) : Nat := (ddp (dl E u.length c u)).length
theorem dif_of {E : EN} {c : Nat} {u : List Nat} {l : List (Nat × List Nat)} (hn : l.Nodup) (h : ∀ k, k ∈ l ↔ k ∈ dl E u.length c u) : l.length = dif E c u := by
  unfold dif
  exact Nat.le_antisymm (nd_le _ _ hn (fun k hk => (mem_ddp _ _).mpr ((h k).mp hk))) (nd_le _ _ (nd_ddp _) (fun k hk => (h k).mpr ((mem_ddp _ _).mp hk)))
theorem dl_self {E : EN} {n c : Nat} {u : List Nat} (hn : 0 < n) : (c, u) ∈ dl E n c u := by
  cases n with
  | zero => exact absurd hn (by decide)
  | succ n => unfold dl; simp
theorem dl_chl {E : EN} {nC : Nat} (hE : wfE E nC) : ∀ (n c : Nat) (u : List Nat), wfN u 1 = true → u.length ≤ n → ∀ k, k ∈ dl E n c u → ∀ k2, k2 ∈ chl E k.1 k.2 → k2 ∈ dl E n c u := by
  intro n
  induction n with
  | zero => intro c u _ _ k hk; exact absurd hk (by unfold dl; simp)
  | succ n ih =>
    intro c u hu hn k hk k2 hk2
    unfold dl at hk ⊢
    rcases List.mem_cons.mp hk with h | h
    · subst h
      obtain ⟨_, o2, o3⟩ := chl_ok hE hu hk2
      refine List.mem_cons_of_mem _ (List.mem_flatMap.mpr ⟨k2, hk2, dl_self ?_⟩)
      have := List.length_pos_iff.mpr (ne_wf1 o2)
      omega
    · obtain ⟨k3, h3, h4⟩ := List.mem_flatMap.mp h
      obtain ⟨_, o2, o3⟩ := chl_ok hE hu h3
      exact List.mem_cons_of_mem _ (List.mem_flatMap.mpr ⟨k3, h3, ih _ _ o2 (by omega) k h4 k2 hk2⟩)
theorem dl_ok {E : EN} {nC : Nat} (hE : wfE E nC) : ∀ (n c : Nat) (u : List Nat), wfN u 1 = true → u.length ≤ n → c < nC → (G E c u).1 = 1 → ∀ k, k ∈ dl E n c u → (G E k.1 k.2).1 = 1 ∧ wfN k.2 1 = true ∧ k.1 < nC := by
  intro n
  induction n with
  | zero => intro c u _ _ _ _ k hk; exact absurd hk (by unfold dl; simp)
  | succ n ih =>
    intro c u hu hn hc h1 k hk
    unfold dl at hk
    rcases List.mem_cons.mp hk with h | h
    · subst h; exact ⟨h1, hu, hc⟩
    · obtain ⟨k3, h3, h4⟩ := List.mem_flatMap.mp h
      obtain ⟨o1, o2, o3⟩ := chl_ok hE hu h3
      have hg : (G E k3.1 k3.2).1 = 1 := by
        by_cases hv : 4 ≤ u.getD 0 0
        · unfold chl at h3; rw [if_pos hv] at h3; exact absurd h3 (by simp)
        · exact (G_ent hE hu h1 hv).2.1 k3 h3
      exact ih _ _ o2 (by omega) o1 hg k h4
/-- a set that holds a goal and with each the goals below it holds all goals in it -/
theorem dl_ind {E : EN} {P : Nat × List Nat → Prop} (hP : ∀ k, P k → ∀ k2, k2 ∈ chl E k.1 k.2 → P k2) : ∀ (n c : Nat) (u : List Nat), P (c, u) → ∀ k, k ∈ dl E n c u → P k := by
  intro n
  induction n with
  | zero => intro c u _ k hk; exact absurd hk (by unfold dl; simp)
  | succ n ih =>
    intro c u h k hk
    unfold dl at hk
    rcases List.mem_cons.mp hk with h2 | h2
    · rw [h2]; exact h
    · obtain ⟨k3, h3, h4⟩ := List.mem_flatMap.mp h2
      exact ih _ _ (hP _ h k3 h3) k h4
section MDi
variable {L : Nat} {R : Nat → Int → Option Nat} {I : Nat → Int → Int} {J : Nat → Int → Int64} {Q : Option MV → MM → Prop} {E : EN} {nC : Nat}
theorem ea_loop (hE : wfE E nC) (hC : nC ≤ 4) {w : List Nat} (hw : wfN w 1 = true) (hl : w.length ≤ 9) (hT : ∀ q c' : Nat, q < w.length → c' < nC → RwM I w E nC c' q) : ∀ (n c q left : Nat), (sub w q).length ≤ n → c < nC → q < w.length → (G E c (sub w q)).1 = 1 → left < (G E c (sub w q)).2.1.length → Q (some (vI ((G E c (sub w q)).2.1.getD left 0))) (S0 L, R, I, J) → wpc 84 5 [vR (some 243), vU, vU, vI ((9 * c + q : Nat) : Int), vI (left : Int), vU, vU] [] (0, 0) (S0 L, R, I, J) Q := by
  intro n
  induction n with
  | zero =>
    intro c q left hn _ hq
    exact absurd (List.length_eq_zero_iff.mp (by omega)) (ne_wf1 (wf_sub hw hq))
  | succ n ih =>
    intro c q left hn hc hq h1 hlt hQ
    obtain ⟨hv, hr⟩ := hT q c hq hc
    obtain ⟨hr1, hP⟩ := hr h1
    obtain ⟨g4, g5, _⟩ := hv.2 h1
    have hu := wf_sub hw hq
    have g0 := sub_get0 hq
    have hb := (G_ok hE hC 9 c _ hu (by rw [sub_len]; have := en_le (w := w) (p := q) (by omega); unfold en at this; omega) hc).2.1
    have hb2 : ((G E c (sub w q)).2.1.length : Int) + 1 ≤ 512 := hb
    have hl5 : left < 512 := by omega
    refine b_M_entryAt_5.mpr ?_
    by_cases hv4 : 4 ≤ w.getD q 0
    · have eG : (G E c (sub w q)).2.1 = [(G E c (sub w q)).2.2.1] := by
        rw [G_eq hE hu]
        unfold nodV
        rw [if_pos (by rw [g0]; exact hv4)]
      rw [eG] at hlt hQ
      have hl0 : left = 0 := by simpa using hlt
      subst hl0
      rw [if_pos (by omega)]
      refine ⟨⟨by omega, by omega⟩, ?_⟩
      rw [hr1, if_pos hv4, if_pos rfl]
      refine ⟨⟨by omega, by omega⟩, ?_⟩
      rw [g5]
      exact hQ
    · obtain ⟨eG, hk1, ht⟩ := G_ent hE hu h1 (by rw [g0]; exact hv4)
      rw [eG] at hlt hQ
      by_cases hl0 : left = 0
      · subst hl0
        rw [if_pos (by omega)]
        refine ⟨⟨by omega, by omega⟩, ?_⟩
        rw [hr1, if_neg hv4, if_neg (by omega)]
        exact ⟨⟨by omega, by omega⟩, hQ⟩
      · rw [if_neg (by omega)]
        have hlen := chl_len hE c (sub w q)
        have hch0 : ¬ (chl E c (sub w q)).length = 0 := by
          intro h
          rw [List.length_eq_zero_iff.mp h] at hlt
          simp at hlt
          omega
        have hP1 := hP.1
        rw [if_neg hch0] at hP1
        obtain ⟨c1, q1, hc1, hq1, hq1l, hI1, hk1e⟩ := hP1
        have hT1 := hT q1 c1 hq1l hc1
        have hm1 : (c1, sub w q1) ∈ chl E c (sub w q) := by
          rw [← hk1e, List.getD_eq_getElem?_getD, List.getElem?_eq_getElem (by omega)]
          exact List.getElem_mem _
        have hs1 := hk1 _ hm1
        have ho1 := chl_ok hE hu hm1
        have g14 := (hT1.1.2 hs1).1
        refine ⟨⟨by omega, by omega⟩, ?_⟩
        rw [hI1, g14]
        refine ⟨⟨by omega, by omega⟩, ?_⟩
        have ew : w32 ((left : Int) + (-1)) = ((left - 1 : Nat) : Int) := by rw [w32_eq (by omega) (by omega)]; omega
        rw [ew]
        -- the row of numbers
        obtain ⟨rest, hrest⟩ : ∃ rest, chl E c (sub w q) = (c1, sub w q1) :: rest := by
          match hch : chl E c (sub w q) with
          | [] => rw [hch] at hch0; exact absurd rfl hch0
          | a :: r => rw [hch] at hk1e; exact ⟨r, by rw [show a = (c1, sub w q1) from hk1e]⟩
        have hQ2 : ∀ z : Int, z = ((tkn E c (sub w q) :: ((chl E c (sub w q)).map (fun k => (G E k.1 k.2).2.1)).flatten).getD left 0) → Q (some (vI z)) (S0 L, R, I, J) := fun z hz => by rw [hz]; exact hQ
        rw [hrest] at hlt hQ2
        simp only [List.map_cons, List.flatten_cons, List.length_cons, List.length_append] at hlt hQ2
        have el : left = (left - 1) + 1 := by omega
        by_cases hlt1 : left - 1 < (G E c1 (sub w q1)).2.1.length
        · rw [if_pos (by omega), if_neg (by decide), if_neg (by decide)]
          refine ⟨⟨by omega, by omega⟩, ?_⟩
          rw [show ((left - 1 : Nat) : Int) - 0 = ((left - 1 : Nat) : Int) by omega, w32_eq (by omega) (by omega)]
          refine ih c1 q1 (left - 1) (by have := ho1.2.2; simp only at this; omega) hc1 hq1l hs1 hlt1 (hQ2 _ ?_)
          rw [el, List.getD_cons_succ, List.getD_eq_getElem?_getD, List.getD_eq_getElem?_getD, List.getElem?_append_left hlt1]
          rfl
        · rw [if_neg (by omega), if_pos rfl, if_pos rfl]
          refine ⟨⟨by omega, by omega⟩, ?_⟩
          have hch1 : ¬ (chl E c (sub w q)).length ≤ 1 := by
            intro h
            have : rest = [] := by
              rw [hrest, List.length_cons] at h
              exact List.length_eq_zero_iff.mp (by omega)
            rw [this] at hlt
            simp at hlt
            omega
          have hP2 := hP.2
          rw [if_neg hch1] at hP2
          obtain ⟨c2, q2, hc2, hq2, hq2l, hI2, hk2e⟩ := hP2
          have hm2 : (c2, sub w q2) ∈ chl E c (sub w q) := by
            rw [← hk2e, List.getD_eq_getElem?_getD, List.getElem?_eq_getElem (by omega)]
            exact List.getElem_mem _
          have hs2 := hk1 _ hm2
          have ho2 := chl_ok hE hu hm2
          have hrest2 : rest = [(c2, sub w q2)] := by
            rw [hrest] at hk2e hlen
            match rest, hk2e, hlen with
            | [], h, _ => rw [hrest] at hch1; exact absurd (by simp) hch1
            | [a], h, _ => rw [show a = (c2, sub w q2) from h]
            | a :: b :: r, _, h => simp at h
          rw [hrest2] at hlt hQ2
          simp only [List.map_cons, List.map_nil, List.flatten_cons, List.flatten_nil, List.append_nil, List.length_nil] at hlt hQ2
          have ew2 : w32 (((left - 1 : Nat) : Int) - ((G E c1 (sub w q1)).2.1.length : Int)) = ((left - 1 - (G E c1 (sub w q1)).2.1.length : Nat) : Int) := by rw [w32_eq (by omega) (by omega)]; omega
          rw [ew2, hI2]
          refine ih c2 q2 _ (by have := ho2.2.2; simp only at this; omega) hc2 hq2l hs2 (by omega) (hQ2 _ ?_)
          rw [el, List.getD_cons_succ, List.getD_eq_getElem?_getD, List.getD_eq_getElem?_getD, List.getElem?_append_right (by omega)]
          rfl
theorem k_entryAt (hE : wfE E nC) (hC : nC ≤ 4) {w : List Nat} (hw : wfN w 1 = true) (hl : w.length ≤ 9) (hT : ∀ q c' : Nat, q < w.length → c' < nC → RwM I w E nC c' q) {c left : Nat} (hc : c < nC) (h1 : (G E c w).1 = 1) (hlt : left < (G E c w).2.1.length) (hQ : Q (some (vI ((G E c w).2.1.getD left 0))) (S0 L, R, I, J)) : wpC 84 [vR (some 243), vI ((9 * c : Nat) : Int), vI (left : Int)] (S0 L, R, I, J) Q := by
  refine c_M_entryAt.mpr ?_
  have hs := sub_all hw
  exact ea_loop hE hC hw hl hT w.length c 0 left (by rw [hs]; exact Nat.le_refl _) hc (List.length_pos_iff.mpr (ne_wf1 hw)) (by rw [hs]; exact h1) (by rw [hs]; exact hlt) (by rw [hs]; exact hQ)
def nwB (I : Nat → Int → Int) (w : List Nat) (c p : Nat) : Nat → Bool
  | 0 => true
  | q + 1 => nwB I w c p q && (decide (I 278 ((9 * c + q : Nat) : Int) = 0) || decide (¬ sub w q = sub w p))
theorem nw_loop {w : List Nat} (hw : wfN w 1 = true) (hl : w.length ≤ 9) (hn : NowW I w) (hs : SzW I w) {c p : Nat} (hc : c < 4) (hp : p < w.length) (hQ : Q (some (vI (bi (nwB I w c p p = true)))) (S0 L, R, I, J)) : ∀ d q : Nat, d + q = p → wpc 80 5 [vR (some 243), vI (c : Int), vI (p : Int), vI (bi (nwB I w c p q = true)), vI (q : Int)] [] (0, 0) (S0 L, R, I, J) Q := by
  intro d
  induction d with
  | zero =>
    intro q hq
    refine b_M_isNew_5.mpr ?_
    rw [if_neg (by omega), show q = p by omega]
    exact ⟨bi_01, hQ⟩
  | succ d ih =>
    intro q hq
    have h2 := ih (q + 1) (by omega)
    have e0 : nwB I w c p (q + 1) = (nwB I w c p q && (decide (I 278 ((9 * c + q : Nat) : Int) = 0) || decide (¬ sub w q = sub w p))) := rfl
    rw [e0] at h2
    have e1 : w32 (w32 (9 * (c : Int)) + (q : Int)) = ((9 * c + q : Nat) : Int) := by
      rw [w32_eq (z := 9 * (c : Int)) (by omega) (by omega), w32_eq (by omega) (by omega)]; omega
    refine b_M_isNew_5.mpr ?_
    rw [if_pos (by omega), e1, w32_s (by omega)]
    by_cases h : nwB I w c p q = true
    · rw [if_neg (fun h2 => bi_0.mp h2 h)]
      rw [h, Bool.true_and] at h2
      refine ⟨⟨by omega, by omega⟩, ?_⟩
      by_cases h0 : I 278 ((9 * c + q : Nat) : Int) = 0
      · rw [if_pos h0]
        rw [bi_t (by rw [decide_eq_true h0]; rfl)] at h2; exact h2
      · rw [if_neg h0]
        rw [decide_eq_false h0, Bool.false_or] at h2
        refine k_isSameAt hw hl hn hs (by omega) hp ?_
        refine b_M_isNew_27.mpr ?_
        rw [w32_s (by omega)]
        by_cases hsm : sub w q = sub w p
        · rw [if_neg (fun h2 => bi_0.mp h2 hsm)]
          rw [bi_f (by rw [decide_eq_false (not_not_intro hsm)]; decide)] at h2; exact h2
        · rw [if_pos (bi_0.mpr hsm)]
          rw [bi_t (decide_eq_true hsm)] at h2; exact h2
    · rw [if_pos (bi_0.mpr h)]
      rw [bi_f (by rw [Bool.eq_false_iff.mpr h, Bool.false_and]; decide)] at h2; exact h2
theorem k_isNew {w : List Nat} (hw : wfN w 1 = true) (hl : w.length ≤ 9) (hn : NowW I w) (hs : SzW I w) {c p : Nat} (hc : c < 4) (hp : p < w.length) (hQ : Q (some (vI (bi (nwB I w c p p = true)))) (S0 L, R, I, J)) : wpC 80 [vR (some 243), vI (c : Int), vI (p : Int)] (S0 L, R, I, J) Q := by
  refine c_M_isNew.mpr ?_
  have := nw_loop hw hl hn hs hc hp hQ p 0 (by omega)
  rw [bi_t (by unfold nwB; rfl)] at this
  exact this
theorem nwB_iff {w : List Nat} {c p : Nat} : ∀ n : Nat, nwB I w c p n = true ↔ ∀ q, q < n → I 278 ((9 * c + q : Nat) : Int) = 0 ∨ ¬ sub w q = sub w p := by
  intro n
  induction n with
  | zero => exact ⟨fun _ q hq => by omega, fun _ => rfl⟩
  | succ n ih =>
    show (nwB I w c p n && _) = true ↔ _
    rw [Bool.and_eq_true, ih, Bool.or_eq_true, decide_eq_true_eq, decide_eq_true_eq]
    constructor
    · rintro ⟨h1, h2⟩ q hq
      by_cases hqn : q = n
      · rw [hqn]; exact h2
      · exact h1 q (by omega)
    · intro h
      exact ⟨fun q hq => h q (by omega), h n (by omega)⟩
/-- the marks so far: of goals in D; what was passed has its goals below marked; a row of the new ones -/
def MkI (I : Nat → Int → Int) (w : List Nat) (E : EN) (nC : Nat) (D : List (Nat × List Nat)) (cr p c : Nat) (l : List (Nat × List Nat)) : Prop :=
  (∀ c' q : Nat, c' < nC → q < w.length → (I 278 ((9 * c' + q : Nat) : Int) = 0 ∨ I 278 ((9 * c' + q : Nat) : Int) = 1) ∧ (I 278 ((9 * c' + q : Nat) : Int) = 1 → (c', sub w q) ∈ D)) ∧
  I 278 ((9 * cr + 0 : Nat) : Int) = 1 ∧
  (∀ c' q : Nat, c' < nC → q < w.length → (q < p ∨ (q = p ∧ c' < c)) → I 278 ((9 * c' + q : Nat) : Int) = 1 → ∀ k, k ∈ chl E c' (sub w q) → ∃ q', q < q' ∧ q' < w.length ∧ I 278 ((9 * k.1 + q' : Nat) : Int) = 1 ∧ sub w q' = k.2) ∧
  l.Nodup ∧ ∀ k, k ∈ l ↔ ∃ c' q : Nat, c' < nC ∧ q < w.length ∧ (q < p ∨ (q = p ∧ c' < c)) ∧ I 278 ((9 * c' + q : Nat) : Int) = 1 ∧ k = (c', sub w q)
theorem MkI.sk {w : List Nat} {D l : List (Nat × List Nat)} {cr p c : Nat} (h : MkI I w E nC D cr p c l) (hm : ¬ I 278 ((9 * c + p : Nat) : Int) = 1) : MkI I w E nC D cr p (c + 1) l := by
  obtain ⟨a1, a2, a3, a4, a5⟩ := h
  refine ⟨a1, a2, fun c' q h1 h2 h3 h4 => a3 c' q h1 h2 ?_ h4, a4, fun k => (a5 k).trans ?_⟩
  · rcases h3 with h3 | ⟨h3, h5⟩
    · exact Or.inl h3
    · refine Or.inr ⟨h3, ?_⟩
      have : c' ≠ c := fun h => hm (by rw [← h, ← h3]; exact h4)
      omega
  · constructor
    · rintro ⟨c', q, h1, h2, h3, h4⟩
      exact ⟨c', q, h1, h2, by omega, h4⟩
    · rintro ⟨c', q, h1, h2, h3, h4⟩
      refine ⟨c', q, h1, h2, ?_, h4⟩
      rcases h3 with h3 | ⟨h3, h5⟩
      · exact Or.inl h3
      · refine Or.inr ⟨h3, ?_⟩
        have : c' ≠ c := fun h => hm (by rw [← h, ← h3]; exact h4.1)
        omega
theorem MkI.nx {w : List Nat} {D l : List (Nat × List Nat)} {cr p : Nat} (h : MkI I w E nC D cr p nC l) : MkI I w E nC D cr (p + 1) 0 l := by
  obtain ⟨a1, a2, a3, a4, a5⟩ := h
  refine ⟨a1, a2, fun c' q h1 h2 h3 h4 => a3 c' q h1 h2 (by omega) h4, a4, fun k => (a5 k).trans ?_⟩
  constructor
  · rintro ⟨c', q, h1, h2, h3, h4⟩
    exact ⟨c', q, h1, h2, by omega, h4⟩
  · rintro ⟨c', q, h1, h2, h3, h4⟩
    exact ⟨c', q, h1, h2, by omega, h4⟩
/-- a marked goal is passed: what is below it is marked now -/
theorem MkI.st {I' : Nat → Int → Int} {w : List Nat} {D l : List (Nat × List Nat)} {cr p c : Nat} (h : MkI I w E nC D cr p c l) (hc : c < nC) (hp : p < w.length) (hl9 : w.length ≤ 9) (hm : I 278 ((9 * c + p : Nat) : Int) = 1) (hD : ∀ k, k ∈ chl E c (sub w p) → k ∈ D) (h1 : ∀ c' q : Nat, q < 9 → (I' 278 ((9 * c' + q : Nat) : Int) = I 278 ((9 * c' + q : Nat) : Int) ∨ (p < q ∧ I' 278 ((9 * c' + q : Nat) : Int) = 1 ∧ (c', sub w q) ∈ chl E c (sub w p)))) (h2 : ∀ k, k ∈ chl E c (sub w p) → ∃ q', p < q' ∧ q' < w.length ∧ I' 278 ((9 * k.1 + q' : Nat) : Int) = 1 ∧ sub w q' = k.2) : MkI I' w E nC D cr p (c + 1) (if nwB I w c p p = true then (c, sub w p) :: l else l) := by
  obtain ⟨a1, a2, a3, a4, a5⟩ := h
  have keep : ∀ c' q : Nat, q < 9 → I 278 ((9 * c' + q : Nat) : Int) = 1 → I' 278 ((9 * c' + q : Nat) : Int) = 1 := by
    intro c' q hq hk
    rcases h1 c' q hq with h | h
    · rw [h]; exact hk
    · exact h.2.1
  have low : ∀ c' q : Nat, q ≤ p → I' 278 ((9 * c' + q : Nat) : Int) = I 278 ((9 * c' + q : Nat) : Int) := by
    intro c' q hq
    rcases h1 c' q (by omega) with h | h
    · exact h
    · omega
  have hnew : nwB I w c p p = true ↔ (c, sub w p) ∉ l := by
    rw [nwB_iff, a5]
    constructor
    · rintro h ⟨c', q, g1, g2, g3, g4, g5⟩
      have g5a : c = c' := congrArg Prod.fst g5
      have g5b : sub w p = sub w q := congrArg Prod.snd g5
      subst g5a
      rcases g3 with g3 | g3
      · rcases h q g3 with h | h
        · rw [h] at g4; exact absurd g4 (by decide)
        · exact h g5b.symm
      · omega
    · intro h q hq
      by_cases h0 : I 278 ((9 * c + q : Nat) : Int) = 0
      · exact Or.inl h0
      · refine Or.inr (fun hs => h ⟨c, q, hc, by omega, Or.inl hq, ?_, by rw [hs]⟩)
        rcases (a1 c q hc (by omega)).1 with h | h
        · exact absurd h h0
        · exact h
  refine ⟨fun c' q g1 g2 => ?_, keep _ _ (by omega) a2, fun c' q g1 g2 g3 g4 k hk => ?_, ?_, fun k => ?_⟩
  · rcases h1 c' q (by omega) with h | h
    · rw [h]; exact a1 c' q g1 g2
    · exact ⟨Or.inr h.2.1, fun _ => hD _ h.2.2⟩
  · rw [low c' q (by omega)] at g4
    by_cases hcp : q = p ∧ c' = c
    · obtain ⟨hcp1, hcp2⟩ := hcp
      subst hcp1; subst hcp2
      exact h2 k hk
    · obtain ⟨q', r1, r2, r3, r4⟩ := a3 c' q g1 g2 (by omega) g4 k hk
      exact ⟨q', r1, r2, keep _ _ (by omega) r3, r4⟩
  · split
    · rename_i hn
      exact List.nodup_cons.mpr ⟨hnew.mp hn, a4⟩
    · exact a4
  · have hk1 : (∃ c' q : Nat, c' < nC ∧ q < w.length ∧ (q < p ∨ (q = p ∧ c' < c + 1)) ∧ I' 278 ((9 * c' + q : Nat) : Int) = 1 ∧ k = (c', sub w q)) ↔ k ∈ l ∨ k = (c, sub w p) := by
      rw [a5]
      constructor
      · rintro ⟨c', q, g1, g2, g3, g4, g5⟩
        rw [low c' q (by omega)] at g4
        by_cases hcp : q = p ∧ c' = c
        · exact Or.inr (by rw [g5, hcp.1, hcp.2])
        · exact Or.inl ⟨c', q, g1, g2, by omega, g4, g5⟩
      · rintro (⟨c', q, g1, g2, g3, g4, g5⟩ | h)
        · exact ⟨c', q, g1, g2, by omega, by rw [low c' q (by omega)]; exact g4, g5⟩
        · exact ⟨c, p, hc, hp, by omega, by rw [low c p (by omega)]; exact hm, h⟩
    rw [hk1]
    split
    · rw [List.mem_cons]
      exact ⟨fun h => h.elim Or.inr Or.inl, fun h => h.elim Or.inr Or.inl⟩
    · rename_i hn
      have hin : (c, sub w p) ∈ l := Classical.byContradiction (fun h => hn (hnew.mpr h))
      exact ⟨Or.inl, fun h => h.elim id (fun h => by rw [h]; exact hin)⟩
theorem dg_mark {w : List Nat} (hl9 : w.length ≤ 9) (hC : nC ≤ 4) {c p : Nat} (hc : c < nC) (hp : p < w.length) {ch : List (Nat × List Nat)} (hch : ch.length ≤ 2) (hP : PtM I w nC (9 * c + p) p ch) {s0 s1 : Int} (hQ : ∀ I', (∀ a, a ≠ 278 → I' a = I a) → (∀ c' q : Nat, q < 9 → (I' 278 ((9 * c' + q : Nat) : Int) = I 278 ((9 * c' + q : Nat) : Int) ∨ (p < q ∧ I' 278 ((9 * c' + q : Nat) : Int) = 1 ∧ (c', sub w q) ∈ ch))) → (∀ k, k ∈ ch → ∃ q', p < q' ∧ q' < w.length ∧ I' 278 ((9 * k.1 + q' : Nat) : Int) = 1 ∧ sub w q' = k.2) → wpc 81 83 [vR (some 243), vU, vI (w32 (s0 + s1)), vI (p : Int), vI (c : Int), vU] [] (0, 0) (S0 L, R, I', J) Q) : wpc 81 67 [vR (some 243), vU, vU, vI (p : Int), vI (c : Int), vI ((9 * c + p : Nat) : Int)] [vI s1, vI s0] (0, 0) (S0 L, R, I, J) Q := by
  have hup : ∀ (I0 : Nat → Int → Int) (c1 q1 : Nat), q1 < 9 → ∀ c' q : Nat, q < 9 → (upM I0 278 ((9 * c1 + q1 : Nat) : Int) 1 278 ((9 * c' + q : Nat) : Int) = I0 278 ((9 * c' + q : Nat) : Int) ∨ (c' = c1 ∧ q = q1 ∧ upM I0 278 ((9 * c1 + q1 : Nat) : Int) 1 278 ((9 * c' + q : Nat) : Int) = 1)) := by
    intro I0 c1 q1 h1 c' q h2
    by_cases h : c' = c1 ∧ q = q1
    · exact Or.inr ⟨h.1, h.2, by rw [h.1, h.2, upM_same]⟩
    · exact Or.inl (upM_i (by omega))
  refine b_M_differentGoals_67.mpr ⟨⟨by omega, by omega⟩, ?_⟩
  match ch, hch, hP with
  | [], _, hP =>
    have p1 : I 272 ((9 * c + p : Nat) : Int) = -1 := hP.1
    have p2 : I 273 ((9 * c + p : Nat) : Int) = -1 := hP.2
    refine c_M_mark.mpr ?_
    rw [p1, if_pos rfl]
    refine b_M_differentGoals_76.mpr ⟨⟨by omega, by omega⟩, ?_⟩
    refine c_M_mark.mpr ?_
    rw [p2, if_pos rfl]
    exact hQ I (fun _ _ => rfl) (fun _ _ _ => Or.inl rfl) (fun k hk => absurd hk (by simp))
  | [k1], _, hP =>
    obtain ⟨c1, q1, hc1, hq1, hq1l, hI1, hk1⟩ : Pt1 I w nC 272 (9 * c + p) p k1 := hP.1
    have p2 : I 273 ((9 * c + p : Nat) : Int) = -1 := hP.2
    refine c_M_mark.mpr ?_
    rw [hI1, if_neg (by omega)]
    refine ⟨⟨by omega, by omega⟩, ?_⟩
    refine b_M_differentGoals_76.mpr ⟨⟨by omega, by omega⟩, ?_⟩
    refine c_M_mark.mpr ?_
    rw [upM_ne (by decide), p2, if_pos rfl]
    refine hQ _ (fun a ha => upM_ne ha) (fun c' q hq => ?_) (fun k hk => ?_)
    · rcases hup I c1 q1 (by omega) c' q hq with h | ⟨h1, h2, h3⟩
      · exact Or.inl h
      · exact Or.inr ⟨by omega, h3, by rw [h1, h2, ← hk1]; simp⟩
    · rw [List.mem_singleton.mp hk, hk1]
      exact ⟨q1, hq1, hq1l, upM_same, rfl⟩
  | [k1, k2], _, hP =>
    obtain ⟨c1, q1, hc1, hq1, hq1l, hI1, hk1⟩ : Pt1 I w nC 272 (9 * c + p) p k1 := hP.1
    obtain ⟨c2, q2, hc2, hq2, hq2l, hI2, hk2⟩ : Pt1 I w nC 273 (9 * c + p) p k2 := hP.2
    refine c_M_mark.mpr ?_
    rw [hI1, if_neg (by omega)]
    refine ⟨⟨by omega, by omega⟩, ?_⟩
    refine b_M_differentGoals_76.mpr ⟨⟨by omega, by omega⟩, ?_⟩
    refine c_M_mark.mpr ?_
    rw [upM_ne (by decide), hI2, if_neg (by omega)]
    refine ⟨⟨by omega, by omega⟩, ?_⟩
    refine hQ _ (fun a ha => by rw [upM_ne ha, upM_ne ha]) (fun c' q hq => ?_) (fun k hk => ?_)
    · rcases hup (upM I 278 ((9 * c1 + q1 : Nat) : Int) 1) c2 q2 (by omega) c' q hq with h | ⟨h1, h2, h3⟩
      · rw [h]
        rcases hup I c1 q1 (by omega) c' q hq with h | ⟨h1, h2, h3⟩
        · exact Or.inl h
        · exact Or.inr ⟨by omega, h3, by rw [h1, h2, ← hk1]; simp⟩
      · exact Or.inr ⟨by omega, h3, by rw [h1, h2, ← hk2]; simp⟩
    · rcases List.mem_cons.mp hk with h | h
      · rw [h, hk1]
        refine ⟨q1, hq1, hq1l, ?_, rfl⟩
        rcases hup (upM I 278 ((9 * c1 + q1 : Nat) : Int) 1) c2 q2 (by omega) c1 q1 (by omega) with h | ⟨h1, h2, h3⟩
        · show upM _ _ _ _ _ ((9 * c1 + q1 : Nat) : Int) = 1
          rw [h, upM_same]
        · exact h3
      · rw [List.mem_singleton.mp h, hk2]
        exact ⟨q2, hq2, hq2l, upM_same, rfl⟩
theorem RwM.f8 {I' : Nat → Int → Int} {w : List Nat} {c q : Nat} (h : RwM I w E nC c q) (h1 : ∀ a, a ≠ 278 → I' a = I a) : RwM I' w E nC c q := by
  refine ⟨h.1.fr (fun a _ h3 => by rw [h1 a (by omega)]), fun hv => ⟨by rw [h1 271 (by decide)]; exact (h.2 hv).1, (h.2 hv).2.fr (by rw [h1 272 (by decide)]) (by rw [h1 273 (by decide)])⟩⟩
theorem dg_in (hE : wfE E nC) (hC : nC ≤ 4) {w : List Nat} (hw : wfN w 1 = true) (hl : w.length ≤ 9) {cr : Nat} (hcr : cr < nC) (hr1 : (G E cr w).1 = 1) {p : Nat} (hp : p < w.length) : ∀ (d c : Nat) {I : Nat → Int → Int} (l : List (Nat × List Nat)), d + c = nC → I 243 1 = (nC : Int) → NowW I w → SzW I w → (∀ q c' : Nat, q < w.length → c' < nC → RwM I w E nC c' q) → MkI I w E nC (dl E w.length cr w) cr p c l → (∀ I' l', (∀ a, a ≠ 278 → I' a = I a) → MkI I' w E nC (dl E w.length cr w) cr (p + 1) 0 l' → l'.length ≤ 4 * (p + 1) → wpc 81 28 [vR (some 243), vU, vI (l'.length : Int), vI ((p + 1 : Nat) : Int), vU, vU] [] (0, 0) (S0 L, R, I', J) Q) → l.length ≤ 4 * p + c → wpc 81 36 [vR (some 243), vU, vI (l.length : Int), vI (p : Int), vI (c : Int), vU] [] (0, 0) (S0 L, R, I, J) Q := by
  intro d
  induction d with
  | zero =>
    intro c I l hd hcl hn hs hT hM hQ hl1
    refine b_M_differentGoals_36.mpr ?_
    rw [hcl, if_neg (by omega), w32_s (by omega)]
    have hcn : c = nC := by omega
    subst hcn
    exact hQ I l (fun _ _ => rfl) hM.nx (by omega)
  | succ d ih =>
    intro c I l hd hcl hn hs hT hM hQ hl1
    have e1 : w32 (w32 (9 * (c : Int)) + (p : Int)) = ((9 * c + p : Nat) : Int) := by
      rw [w32_eq (z := 9 * (c : Int)) (by omega) (by omega), w32_eq (by omega) (by omega)]; omega
    refine b_M_differentGoals_36.mpr ?_
    rw [hcl, if_pos (by omega), e1]
    refine ⟨⟨by omega, by omega⟩, ?_⟩
    by_cases hm : I 278 ((9 * c + p : Nat) : Int) = 1
    · rw [if_pos hm]
      refine k_isNew hw hl hn hs (by omega) hp ?_
      have hkD := (hM.1 c p (by omega) hp).2 hm
      have hk1 := (dl_ok hE w.length cr w hw (Nat.le_refl _) hcr hr1 _ hkD).1
      have hRw := (hT p c hp (by omega)).2 hk1
      have hend : ∀ s1 : Int, s1 = bi (nwB I w c p p = true) → wpc 81 67 [vR (some 243), vU, vU, vI (p : Int), vI (c : Int), vI ((9 * c + p : Nat) : Int)] [vI s1, vI (l.length : Int)] (0, 0) (S0 L, R, I, J) Q := by
        intro s1 hs1
        refine dg_mark hl hC (by omega) hp (chl_len hE c (sub w p)) hRw.2 (fun I' f1 g1 g2 => ?_)
        have hst := hM.st (by omega) hp hl hm (fun k hk => dl_chl hE w.length cr w hw (Nat.le_refl _) _ hkD k hk) g1 g2
        refine b_M_differentGoals_83.mpr ?_
        have e2 : w32 ((l.length : Int) + s1) = ((if nwB I w c p p = true then (c, sub w p) :: l else l).length : Int) := by
          rw [hs1]
          have := @bi_r (nwB I w c p p = true) _
          rw [w32_eq (by omega) (by omega)]
          split
          · rename_i h; rw [bi_t h, List.length_cons]; omega
          · rename_i h; rw [bi_f h]; omega
        have hlen : (if nwB I w c p p = true then (c, sub w p) :: l else l).length ≤ l.length + 1 := by
          split
          · rw [List.length_cons]; omega
          · omega
        rw [e2, w32_s (by omega)]
        refine ih (c + 1) _ (by omega) (by rw [f1 243 (by decide)]; exact hcl) (hn.fr (by rw [f1 243 (by decide)]) (f1 267 (by decide))) (hs.fr (f1 268 (by decide))) (fun q c' h1 h2 => (hT q c' h1 h2).f8 f1) hst (fun I2 l' f2 m2 h2 => hQ I2 l' (fun a ha => by rw [f2 a ha, f1 a ha]) m2 h2) (by omega)
      refine b_M_differentGoals_60.mpr ?_
      by_cases hnw : nwB I w c p p = true
      · rw [if_neg (fun h => bi_0.mp h hnw)]
        exact hend 1 (bi_t hnw).symm
      · rw [if_pos (bi_0.mpr hnw)]
        exact hend 0 (bi_f hnw).symm
    · rw [if_neg hm]
      refine b_M_differentGoals_83.mpr ?_
      rw [w32_s (by omega)]
      exact ih (c + 1) l (by omega) hcl hn hs hT (hM.sk hm) (fun I' l' f1 m1 h1 => hQ I' l' f1 m1 h1) (by omega)
theorem dg_out (hE : wfE E nC) (hC : nC ≤ 4) {w : List Nat} (hw : wfN w 1 = true) (hl : w.length ≤ 9) {cr : Nat} (hcr : cr < nC) (hr1 : (G E cr w).1 = 1) : ∀ (d p : Nat) {I : Nat → Int → Int} (l : List (Nat × List Nat)), d + p = w.length → I 243 1 = (nC : Int) → NowW I w → SzW I w → (∀ q c' : Nat, q < w.length → c' < nC → RwM I w E nC c' q) → MkI I w E nC (dl E w.length cr w) cr p 0 l → (∀ I', (∀ a, a ≠ 278 → I' a = I a) → Q (some (vI (dif E cr w : Int))) (S0 L, R, I', J)) → l.length ≤ 4 * p → wpc 81 28 [vR (some 243), vU, vI (l.length : Int), vI (p : Int), vU, vU] [] (0, 0) (S0 L, R, I, J) Q := by
  intro d
  induction d with
  | zero =>
    intro p I l hd hcl hn hs hT hM hQ hl1
    refine b_M_differentGoals_28.mpr ?_
    rw [hn.1, if_neg (by omega)]
    obtain ⟨a1, a2, a3, a4, a5⟩ := hM
    have hpos : 0 < w.length := List.length_pos_iff.mpr (ne_wf1 hw)
    have hall : ∀ k, k ∈ dl E w.length cr w → ∃ q : Nat, k.1 < nC ∧ q < w.length ∧ I 278 ((9 * k.1 + q : Nat) : Int) = 1 ∧ sub w q = k.2 := by
      refine dl_ind (P := fun k => ∃ q : Nat, k.1 < nC ∧ q < w.length ∧ I 278 ((9 * k.1 + q : Nat) : Int) = 1 ∧ sub w q = k.2) ?_ w.length cr w ⟨0, hcr, hpos, a2, sub_all hw⟩
      rintro k ⟨q, h1, h2, h3, h4⟩ k2 hk2
      rw [← h4] at hk2
      obtain ⟨q', r1, r2, r3, r4⟩ := a3 k.1 q h1 h2 (Or.inl (by omega)) h3 k2 hk2
      exact ⟨q', (chl_ok hE (wf_sub hw h2) hk2).1, r2, r3, r4⟩
    have hlen := dif_of (E := E) (c := cr) (u := w) a4 (fun k => by
      rw [a5 k]
      constructor
      · rintro ⟨c', q, h1, h2, h3, h4, h5⟩
        rw [h5]; exact (a1 c' q h1 h2).2 h4
      · intro hk
        obtain ⟨q, h1, h2, h3, h4⟩ := hall k hk
        exact ⟨k.1, q, h1, h2, Or.inl (by omega), h3, by rw [h4]⟩)
    rw [hlen]
    exact hQ I (fun _ _ => rfl)
  | succ d ih =>
    intro p I l hd hcl hn hs hT hM hQ hl1
    refine b_M_differentGoals_28.mpr ?_
    rw [hn.1, if_pos (by omega)]
    refine dg_in hE hC hw hl hcr hr1 (by omega) nC 0 l (by omega) hcl hn hs hT hM (fun I' l' f1 m1 h1 => ?_) (by omega)
    exact ih (p + 1) l' (by omega) (by rw [f1 243 (by decide)]; exact hcl) (hn.fr (by rw [f1 243 (by decide)]) (f1 267 (by decide))) (hs.fr (f1 268 (by decide))) (fun q c' h1 h2 => (hT q c' h1 h2).f8 f1) m1 (fun I2 f2 => hQ I2 (fun a ha => by rw [f2 a ha, f1 a ha])) h1
theorem dg_ini {from' : Nat} (hf : from' < 36) : ∀ (d g : Nat) {I : Nat → Int → Int}, d + g = 36 → (∀ g' : Nat, g' < g → I 278 (g' : Int) = bi (g' = from')) → (∀ I', (∀ a, a ≠ 278 → I' a = I a) → (∀ g' : Nat, g' < 36 → I' 278 (g' : Int) = bi (g' = from')) → wpc 81 28 [vR (some 243), vU, vI 0, vI 0, vU, vU] [] (0, 0) (S0 L, R, I', J) Q) → wpc 81 3 [vR (some 243), vI (from' : Int), vI (g : Int), vU, vU, vU] [] (0, 0) (S0 L, R, I, J) Q := by
  intro d
  induction d with
  | zero =>
    intro g I hd hg hQ
    refine b_M_differentGoals_3.mpr ?_
    rw [if_neg (by omega)]
    exact hQ I (fun _ _ => rfl) (fun g' h => hg g' (by omega))
  | succ d ih =>
    intro g I hd hg hQ
    have hgo : ∀ z : Int, z = bi (g = from') → wpc 81 3 [vR (some 243), vI (from' : Int), vI ((g + 1 : Nat) : Int), vU, vU, vU] [] (0, 0) (S0 L, R, upM I 278 (g : Int) z, J) Q := by
      intro z hz
      refine ih (g + 1) (by omega) (fun g' h => ?_) (fun I' f1 h1 => hQ I' (fun a ha => by rw [f1 a ha, upM_ne ha]) h1)
      by_cases hgg : g' = g
      · rw [hgg, upM_same]; exact hz
      · rw [upM_i (by omega)]; exact hg g' (by omega)
    refine b_M_differentGoals_3.mpr ?_
    rw [if_pos (by omega), w32_s (by omega)]
    by_cases he : g = from'
    · rw [if_pos (by omega)]
      exact ⟨⟨by omega, by omega⟩, hgo 1 (bi_t he).symm⟩
    · rw [if_neg (by omega)]
      exact ⟨⟨by omega, by omega⟩, hgo 0 (bi_f he).symm⟩
theorem k_differentGoals (hE : wfE E nC) (hC : nC ≤ 4) {w : List Nat} (hw : wfN w 1 = true) (hl : w.length ≤ 9) {cr : Nat} (hcr : cr < nC) (hr1 : (G E cr w).1 = 1) (hcl : I 243 1 = (nC : Int)) (hn : NowW I w) (hs : SzW I w) (hT : ∀ q c' : Nat, q < w.length → c' < nC → RwM I w E nC c' q) (hQ : ∀ I', (∀ a, a ≠ 278 → I' a = I a) → Q (some (vI (dif E cr w : Int))) (S0 L, R, I', J)) : wpC 81 [vR (some 243), vI ((9 * cr : Nat) : Int)] (S0 L, R, I, J) Q := by
  refine c_M_differentGoals.mpr ?_
  refine dg_ini (by omega) 36 0 rfl (fun g' h => by omega) (fun I' f1 h1 => ?_)
  have hpos : 0 < w.length := List.length_pos_iff.mpr (ne_wf1 hw)
  refine dg_out hE hC hw hl hcr hr1 w.length 0 [] (by omega) (by rw [f1 243 (by decide)]; exact hcl) (hn.fr (by rw [f1 243 (by decide)]) (f1 267 (by decide))) (hs.fr (f1 268 (by decide))) (fun q c' h1 h2 => (hT q c' h1 h2).f8 f1) ⟨fun c' q g1 g2 => ?_, ?_, fun c' q g1 g2 g3 => by omega, List.nodup_nil, fun k => ⟨fun h => absurd h (by simp), ?_⟩⟩ (fun I2 f2 => hQ I2 (fun a ha => by rw [f2 a ha, f1 a ha])) (by simp)
  · rw [h1 _ (by omega)]
    refine ⟨bi_01, fun h => ?_⟩
    have h2 := bi_1.mp h
    have h3 : c' = cr ∧ q = 0 := by omega
    rw [h3.1, h3.2, sub_all hw]
    exact dl_self hpos
  · rw [h1 _ (by omega)]
    exact bi_t (by omega)
  · rintro ⟨c', q, g1, g2, g3, _⟩
    omega
end MDi
