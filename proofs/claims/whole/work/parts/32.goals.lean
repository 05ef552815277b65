-- ===== goals: a pure picture =====
/-- outcome, dictionary, worth, depth, needs -/
abbrev GV : Type := Int × List Int × Int × Int × Nat
def sbs (ab : List Nat × List Nat) (v : Nat) : List Nat := if v = 0 then ab.1 else ab.2
def tkn (E : EN) (c : Nat) (u : List Nat) : Int := tks E (mnt E c u)
/-- the goals below a goal -/
def chl (E : EN) (c : Nat) (u : List Nat) : List (Nat × List Nat) :=
  if 4 ≤ u.getD 0 0 then []
  else if tkn E c u < 0 then []
  else match mtc (eH E (tkn E c u).toNat) u [] [] with
    | none => []
    | some ab => (eC E (tkn E c u).toNat).map (fun k => (k.1, sbs ab k.2))
def mxd (a b : Int) : Int := if b + 1 ≤ a then a else b + 1
theorem mxd_r (a b : Int) : a ≤ mxd a b ∧ b + 1 ≤ mxd a b ∧ (mxd a b = a ∨ mxd a b = b + 1) := by unfold mxd; split <;> omega
def jn (a : GV) (t : Int) (b : GV) : GV :=
  if a.1 = 1 then
    if b.1 = 1 then (1, a.2.1 ++ b.2.1, a.2.2.1 + t * b.2.2.1, mxd a.2.2.2.1 b.2.2.2.1, a.2.2.2.2 ||| b.2.2.2.2)
    else (b.1, a.2)
  else a
def jns (a : GV) (vs : List GV) : GV := match vs with
  | [] => a
  | [v] => jn a 2 v
  | v :: v2 :: _ => jn (jn a 2 v) 3 v2
def fin9 (a : GV) : GV := (a.1, a.2.1, a.2.2.1.tmod 1009, a.2.2.2.1, a.2.2.2.2)
def nodV (E : EN) (c : Nat) (u : List Nat) (vs : List GV) : GV :=
  if 4 ≤ u.getD 0 0 then (1, [((10 + 2 * c + (u.getD 0 0 - 4) : Nat) : Int)], ((10 + 2 * c + (u.getD 0 0 - 4) : Nat) : Int), 1, 2 ^ (2 * c + (u.getD 0 0 - 4)))
  else if tkn E c u < 0 then ((if tkn E c u = -1 then 0 else -2), [], 0, 0, 0)
  else fin9 (jns (1, [tkn E c u], 7 * (tkn E c u + 1), 1, 0) vs)
def gl (E : EN) : Nat → Nat → List Nat → GV
  | 0, _, _ => (0, [], 0, 0, 0)
  | n + 1, c, u => nodV E c u ((chl E c u).map (fun k => gl E n k.1 k.2))
def G (E : EN) (c : Nat) (u : List Nat) : GV := gl E u.length c u
/-- the goals in a goal -/
def dl (E : EN) : Nat → Nat → List Nat → List (Nat × List Nat)
  | 0, _, _ => []
  | n + 1, c, u => (c, u) :: (chl E c u).flatMap (fun k => dl E n k.1 k.2)
theorem tl1_wf {u : List Nat} {k : Nat} (hu : wfN u (k + 1) = true) : wfN (u.take (tl u 1)) 1 = true ∧ wfN (u.drop (tl u 1)) k = true := wf_split u 1 k (by rw [Nat.add_comm]; exact hu)
theorem ne_wf1 {t : List Nat} (h : wfN t 1 = true) : t ≠ [] := by
  intro h2; rw [h2] at h; exact absurd h (by decide)
theorem mtc_sz (N : Nat) (h : List Nat) : ∀ (k : Nat) (u a b a' b' : List Nat), wfN h k = true → wfN u k = true → u.length ≤ N → mtc h u a b = some (a', b') → (a = [] ∨ (wfN a 1 = true ∧ a.length ≤ N)) → (b = [] ∨ (wfN b 1 = true ∧ b.length ≤ N)) → (a' = [] ∨ (wfN a' 1 = true ∧ a'.length ≤ N)) ∧ (b' = [] ∨ (wfN b' 1 = true ∧ b'.length ≤ N)) ∧ ((a ≠ [] ∨ 4 ∈ h) → a' ≠ []) ∧ ((b ≠ [] ∨ 5 ∈ h) → b' ≠ []) := by
  induction h with
  | nil =>
    intro k u a b a' b' _ _ _ hm ha hb
    unfold mtc at hm
    cases hm
    refine ⟨ha, hb, fun h => ?_, fun h => ?_⟩
    · rcases h with h | h
      · exact h
      · exact absurd h (by simp)
    · rcases h with h | h
      · exact h
      · exact absurd h (by simp)
  | cons s h ih =>
    intro k u a b a' b' hh hu hN hm ha hb
    cases k with
    | zero => exact absurd hh (by simp [wfN])
    | succ k =>
      obtain ⟨hs, hh⟩ := wf_cons.mp hh
      obtain ⟨c, r, hcr, hc, hr⟩ := wf_pos hu
      unfold mtc at hm
      by_cases h4 : s < 4
      · rw [if_pos h4, hcr] at hm
        simp only at hm
        by_cases hcs : c = s
        · rw [if_pos hcs] at hm
          subst hcs
          obtain ⟨i1, i2, i3, i4⟩ := ih _ r a b a' b' hh hr (by rw [hcr, List.length_cons] at hN; omega) hm ha hb
          refine ⟨i1, i2, fun q => i3 ?_, fun q => i4 ?_⟩
          · rcases q with q | q
            · exact Or.inl q
            · rcases List.mem_cons.mp q with q | q
              · omega
              · exact Or.inr q
          · rcases q with q | q
            · exact Or.inl q
            · rcases List.mem_cons.mp q with q | q
              · omega
              · exact Or.inr q
        · rw [if_neg hcs] at hm; exact absurd hm (by simp)
      · rw [pts_var (by omega), Nat.add_zero] at hh
        obtain ⟨w1, w2⟩ := tl1_wf hu
        have l1 : (u.take (tl u 1)).length ≤ N := by rw [List.length_take]; omega
        have l2 : (u.drop (tl u 1)).length ≤ N := by rw [List.length_drop]; omega
        have hne := ne_wf1 w1
        rw [if_neg h4] at hm
        by_cases h5 : s = 4
        · rw [if_pos h5] at hm
          by_cases ha0 : a = []
          · rw [if_pos ha0] at hm
            obtain ⟨i1, i2, i3, i4⟩ := ih _ _ _ _ a' b' hh w2 l2 hm (Or.inr ⟨w1, l1⟩) hb
            refine ⟨i1, i2, fun _ => i3 (Or.inl hne), fun q => i4 ?_⟩
            rcases q with q | q
            · exact Or.inl q
            · rcases List.mem_cons.mp q with q | q
              · omega
              · exact Or.inr q
          · rw [if_neg ha0] at hm
            split at hm
            · obtain ⟨i1, i2, i3, i4⟩ := ih _ _ _ _ a' b' hh w2 l2 hm ha hb
              refine ⟨i1, i2, fun _ => i3 (Or.inl ha0), fun q => i4 ?_⟩
              rcases q with q | q
              · exact Or.inl q
              · rcases List.mem_cons.mp q with q | q
                · omega
                · exact Or.inr q
            · exact absurd hm (by simp)
        · rw [if_neg h5] at hm
          by_cases ha0 : b = []
          · rw [if_pos ha0] at hm
            obtain ⟨i1, i2, i3, i4⟩ := ih _ _ _ _ a' b' hh w2 l2 hm ha (Or.inr ⟨w1, l1⟩)
            refine ⟨i1, i2, fun q => i3 ?_, fun _ => i4 (Or.inl hne)⟩
            rcases q with q | q
            · exact Or.inl q
            · rcases List.mem_cons.mp q with q | q
              · omega
              · exact Or.inr q
          · rw [if_neg ha0] at hm
            split at hm
            · obtain ⟨i1, i2, i3, i4⟩ := ih _ _ _ _ a' b' hh w2 l2 hm ha hb
              refine ⟨i1, i2, fun q => i3 ?_, fun _ => i4 (Or.inl ha0)⟩
              rcases q with q | q
              · exact Or.inl q
              · rcases List.mem_cons.mp q with q | q
                · omega
                · exact Or.inr q
            · exact absurd hm (by simp)
/-- an instance that is taken: it fits, and is sound -/
theorem tkn_fit {E : EN} {c : Nat} {u : List Nat} (h : ¬ tkn E c u < 0) : ∃ i : Nat, i < eN E ∧ tkn E c u = (i : Int) ∧ sndB E i = true ∧ ∃ ab, mtc (eH E i) u [] [] = some ab := by
  unfold tkn at *
  rcases tks_r E (mnt E c u) with h1 | h1 | ⟨i, h1, h2, h3⟩
  · rw [h1] at h; exact absurd (by decide) h
  · rw [h1] at h; exact absurd (by decide) h
  · refine ⟨i, h1, h2, ?_⟩
    unfold mnt at h3
    rw [bset_bit] at h3
    unfold mnF fitB at h3
    simp only [Bool.and_eq_true] at h3
    exact ⟨h3.2.1.2, Option.isSome_iff_exists.mp h3.2.2⟩
theorem chl_eq {E : EN} {c : Nat} {u : List Nat} (h4 : ¬ 4 ≤ u.getD 0 0) {i : Nat} (hi : tkn E c u = (i : Int)) {ab : List Nat × List Nat} (hm : mtc (eH E i) u [] [] = some ab) : chl E c u = (eC E i).map (fun k => (k.1, sbs ab k.2)) := by
  unfold chl
  rw [if_neg h4, hi, if_neg (by omega), Int.toNat_natCast, hm]
theorem chl_ok {E : EN} {nC : Nat} (hE : wfE E nC) {c : Nat} {u : List Nat} (hu : wfN u 1 = true) {k : Nat × List Nat} (hk : k ∈ chl E c u) : k.1 < nC ∧ wfN k.2 1 = true ∧ k.2.length < u.length := by
  by_cases h4 : 4 ≤ u.getD 0 0
  · unfold chl at hk; rw [if_pos h4] at hk; exact absurd hk (by simp)
  by_cases ht : tkn E c u < 0
  · unfold chl at hk; rw [if_neg h4, if_pos ht] at hk; exact absurd hk (by simp)
  obtain ⟨i, hi, hie, hsd, ab, hab⟩ := tkn_fit ht
  rw [chl_eq h4 hie hab] at hk
  obtain ⟨q, hq, hqk⟩ := List.mem_map.mp hk
  obtain ⟨_, _, hhw, _, _, hcs⟩ := hE.2 i hi
  obtain ⟨j, hj, hjq⟩ := List.getElem_of_mem hq
  have hcj := hcs j hj
  have e : (eC E i).getD j (0, 0) = q := by rw [List.getD_eq_getElem?_getD, List.getElem?_eq_getElem hj, hjq]; rfl
  rw [e] at hcj
  obtain ⟨hc1, hc2, hc3⟩ := hcj
  have hs4 : (eH E i).getD 0 0 < 4 := by
    unfold sndB at hsd
    rw [Bool.or_eq_true] at hsd
    rcases hsd with h | h
    · rw [List.isEmpty_iff.mp h] at hq; exact absurd hq (by simp)
    · exact of_decide_eq_true h
  obtain ⟨s, r, hsr, hs6, hr⟩ := wf_pos hhw
  obtain ⟨s2, r2, hsr2, hs62, hr2⟩ := wf_pos hu
  rw [hsr] at hs4 hab hc3
  have hs4' : s < 4 := hs4
  unfold mtc at hab
  rw [if_pos hs4', hsr2] at hab
  simp only at hab
  have hss : s2 = s := by
    by_cases h : s2 = s
    · exact h
    · rw [if_neg h] at hab; exact absurd hab (by simp)
  rw [if_pos hss] at hab
  rw [hss] at hr2
  obtain ⟨a', b'⟩ := ab
  obtain ⟨i1, i2, i3, i4⟩ := mtc_sz r2.length r _ r2 [] [] a' b' hr hr2 (Nat.le_refl _) hab (Or.inl rfl) (Or.inl rfl)
  rw [← hqk, hsr2, List.length_cons]
  refine ⟨hc1, ?_⟩
  show wfN (sbs (a', b') q.2) 1 = true ∧ (sbs (a', b') q.2).length < r2.length + 1
  have hv : q.2 = 0 ∨ q.2 = 1 := by omega
  have hmem : ∀ z, z ∈ s :: r → 4 ≤ z → z ∈ r := fun z hz h => by
    rcases List.mem_cons.mp hz with h2 | h2
    · omega
    · exact h2
  rcases hv with hv | hv
  · rw [hv] at hc3 ⊢
    unfold sbs
    rw [if_pos rfl]
    rcases i1 with h | h
    · exact absurd h (i3 (Or.inr (hmem 4 hc3 (by omega))))
    · exact ⟨h.1, by have := h.2; show a'.length < _; omega⟩
  · rw [hv] at hc3 ⊢
    unfold sbs
    rw [if_neg (by decide)]
    rcases i2 with h | h
    · exact absurd h (i4 (Or.inr (hmem 5 hc3 (by omega))))
    · exact ⟨h.1, by have := h.2; show b'.length < _; omega⟩
theorem map_ext {α β : Type} {f g : α → β} {l : List α} (h : ∀ x, x ∈ l → f x = g x) : l.map f = l.map g := List.map_congr_left h
theorem gl_fuel {E : EN} {nC : Nat} (hE : wfE E nC) : ∀ (n m c : Nat) (u : List Nat), wfN u 1 = true → u.length ≤ n → u.length ≤ m → gl E n c u = gl E m c u := by
  intro n
  induction n with
  | zero =>
    intro m c u hu hn _
    exact absurd (List.length_eq_zero_iff.mp (by omega)) (ne_wf1 hu)
  | succ n ih =>
    intro m c u hu hn hm
    cases m with
    | zero => exact absurd (List.length_eq_zero_iff.mp (by omega)) (ne_wf1 hu)
    | succ m =>
      unfold gl
      rw [map_ext (g := fun k => gl E m k.1 k.2) (fun k hk => ?_)]
      obtain ⟨_, h2, h3⟩ := chl_ok hE hu hk
      exact ih m k.1 k.2 h2 (by omega) (by omega)
theorem G_eq {E : EN} {nC : Nat} (hE : wfE E nC) {c : Nat} {u : List Nat} (hu : wfN u 1 = true) : G E c u = nodV E c u ((chl E c u).map (fun k => G E k.1 k.2)) := by
  have hne := ne_wf1 hu
  unfold G
  cases hl : u.length with
  | zero => exact absurd (List.length_eq_zero_iff.mp hl) hne
  | succ n =>
    conv => lhs; unfold gl
    rw [map_ext (g := fun k => gl E k.2.length k.1 k.2) (fun k hk => ?_)]
    obtain ⟨_, h2, h3⟩ := chl_ok hE hu hk
    exact gl_fuel hE _ _ _ _ h2 (by omega) (Nat.le_refl _)
/-- bounds of what is told of a goal -/
def okV (n : Nat) (a : GV) : Prop := (a.1 = 1 ∨ a.1 = 0 ∨ a.1 = -2) ∧ (a.2.1.length : Int) + 1 ≤ ((2 ^ n : Nat) : Int) ∧ 0 ≤ a.2.2.1 ∧ a.2.2.1 ≤ 1008 ∧ 0 ≤ a.2.2.2.1 ∧ a.2.2.2.1 ≤ n ∧ a.2.2.2.2 < 256 ∧ (a.1 = 1 → 1 ≤ a.2.1.length ∧ 1 ≤ a.2.2.2.1)
theorem or_lt8' {a b : Nat} (ha : a < 256) (hb : b < 256) : a ||| b < 256 := Nat.or_lt_two_pow (n := 8) ha hb
theorem jn_ok {n : Nat} {a b : GV} {t : Int} (ht : 0 ≤ t) (ha1 : a.1 = 1 ∨ a.1 = 0 ∨ a.1 = -2) (ha5 : 0 ≤ a.2.2.2.1 ∧ a.2.2.2.1 ≤ n + 1 ∧ a.2.2.2.2 < 256 ∧ 0 ≤ a.2.2.1) (hb : okV n b) : ((jn a t b).1 = 1 ∨ (jn a t b).1 = 0 ∨ (jn a t b).1 = -2) ∧ (jn a t b).2.1.length ≤ a.2.1.length + b.2.1.length ∧ 0 ≤ (jn a t b).2.2.1 ∧ (jn a t b).2.2.1 ≤ a.2.2.1 + t * 1008 ∧ 0 ≤ (jn a t b).2.2.2.1 ∧ (jn a t b).2.2.2.1 ≤ n + 1 ∧ (jn a t b).2.2.2.2 < 256 ∧ a.2.1.length ≤ (jn a t b).2.1.length ∧ a.2.2.2.1 ≤ (jn a t b).2.2.2.1 := by
  obtain ⟨b1, b2, b3, b4, b5, b6, b7, b8⟩ := hb
  have hm1 : 0 ≤ t * b.2.2.1 := Int.mul_nonneg ht b3
  have hm2 : t * b.2.2.1 ≤ t * 1008 := Int.mul_le_mul_of_nonneg_left b4 ht
  have hm3 : 0 ≤ t * 1008 := Int.mul_nonneg ht (by decide)
  unfold jn
  split
  · split
    · refine ⟨Or.inl rfl, ?_, ?_, ?_, ?_, ?_, ?_, ?_, ?_⟩
      · show (a.2.1 ++ b.2.1).length ≤ _
        rw [List.length_append]; exact Nat.le_refl _
      · show 0 ≤ a.2.2.1 + t * b.2.2.1; omega
      · show a.2.2.1 + t * b.2.2.1 ≤ _; omega
      · show 0 ≤ mxd _ _; have := mxd_r a.2.2.2.1 b.2.2.2.1; omega
      · show mxd _ _ ≤ (n : Int) + 1; have := mxd_r a.2.2.2.1 b.2.2.2.1; omega
      · exact or_lt8' ha5.2.2.1 b7
      · show _ ≤ (a.2.1 ++ b.2.1).length
        rw [List.length_append]; omega
      · show _ ≤ mxd _ _; have := mxd_r a.2.2.2.1 b.2.2.2.1; omega
    · refine ⟨b1, ?_, ha5.2.2.2, ?_, ha5.1, ha5.2.1, ha5.2.2.1, Nat.le_refl _, Int.le_refl _⟩
      · show a.2.1.length ≤ _; omega
      · show a.2.2.1 ≤ _; omega
  · exact ⟨ha1, by omega, ha5.2.2.2, by omega, ha5.1, ha5.2.1, ha5.2.2.1, Nat.le_refl _, Int.le_refl _⟩
theorem chl_len {E : EN} {nC : Nat} (hE : wfE E nC) (c : Nat) (u : List Nat) : (chl E c u).length ≤ 2 := by
  by_cases h4 : 4 ≤ u.getD 0 0
  · unfold chl; rw [if_pos h4]; simp
  by_cases ht : tkn E c u < 0
  · unfold chl; rw [if_neg h4, if_pos ht]; simp
  obtain ⟨i, hi, hie, hsd, ab, hab⟩ := tkn_fit ht
  rw [chl_eq h4 hie hab, List.length_map]
  exact (hE.2 i hi).2.2.2.2.1
theorem fin_ok {n : Nat} {a : GV} (h1 : a.1 = 1 ∨ a.1 = 0 ∨ a.1 = -2) (h2 : (a.2.1.length : Int) + 1 ≤ ((2 ^ n : Nat) : Int)) (h3 : 0 ≤ a.2.2.1) (h4 : 0 ≤ a.2.2.2.1 ∧ a.2.2.2.1 ≤ n) (h5 : a.2.2.2.2 < 256) (h6 : 1 ≤ a.2.1.length ∧ 1 ≤ a.2.2.2.1) : okV n (fin9 a) := by
  refine ⟨h1, h2, Int.tmod_nonneg _ h3, ?_, h4.1, h4.2, h5, fun _ => h6⟩
  show a.2.2.1.tmod 1009 ≤ 1008
  have := Int.tmod_lt_of_pos a.2.2.1 (b := 1009) (by decide)
  omega
theorem nod_ok {E : EN} {nC : Nat} (hE : wfE E nC) (hC : nC ≤ 4) {n c : Nat} (hc : c < nC) {u : List Nat} (hu6 : u.getD 0 0 < 6) {vs : List GV} (hv : ∀ v, v ∈ vs → okV n v) (hl : vs.length ≤ 2) : okV (n + 1) (nodV E c u vs) := by
  have hp1 : 2 ^ (n + 1) = 2 * 2 ^ n := by rw [Nat.pow_succ]; omega
  have hp0 : 1 ≤ 2 ^ n := Nat.one_le_two_pow
  unfold nodV
  split
  · rename_i h4
    have h2 : 2 * c + (u.getD 0 0 - 4) < 8 := by omega
    refine ⟨Or.inl rfl, ?_, ?_, ?_, ?_, ?_, pow8 h2, fun _ => ⟨by simp, ?_⟩⟩
    · show ((1 : Nat) : Int) + 1 ≤ _; omega
    · show (0 : Int) ≤ ((10 + 2 * c + (u.getD 0 0 - 4) : Nat) : Int); omega
    · show ((10 + 2 * c + (u.getD 0 0 - 4) : Nat) : Int) ≤ 1008; omega
    · show (0 : Int) ≤ 1; omega
    · show (1 : Int) ≤ ((n + 1 : Nat) : Int); omega
    · show (1 : Int) ≤ 1; omega
  · split
    · refine ⟨?_, ?_, ?_, ?_, ?_, ?_, show (0 : Nat) < 256 by decide, fun h => ?_⟩
      · show (if _ then (0 : Int) else -2) = 1 ∨ (if _ then (0 : Int) else -2) = 0 ∨ (if _ then (0 : Int) else -2) = -2
        split
        · exact Or.inr (Or.inl rfl)
        · exact Or.inr (Or.inr rfl)
      · show ((0 : Nat) : Int) + 1 ≤ _; omega
      · exact Int.le_refl _
      · show (0 : Int) ≤ 1008; decide
      · exact Int.le_refl _
      · show (0 : Int) ≤ ((n + 1 : Nat) : Int); omega
      · exfalso
        have h2 : (if tkn E c u = -1 then (0 : Int) else -2) = 1 := h
        split at h2 <;> omega
    · rename_i h4 ht
      obtain ⟨i, hi, hie, _⟩ := tkn_fit ht
      have h6 := hE.1
      rw [hie]
      have hb1 : (((1, [(i : Int)], 7 * ((i : Int) + 1), 1, 0) : GV).1 = 1 ∨ ((1, [(i : Int)], 7 * ((i : Int) + 1), 1, 0) : GV).1 = 0 ∨ ((1, [(i : Int)], 7 * ((i : Int) + 1), 1, 0) : GV).1 = -2) := Or.inl rfl
      have hb2 : (0 : Int) ≤ ((1, [(i : Int)], 7 * ((i : Int) + 1), 1, 0) : GV).2.2.2.1 ∧ ((1, [(i : Int)], 7 * ((i : Int) + 1), 1, 0) : GV).2.2.2.1 ≤ (n : Int) + 1 ∧ ((1, [(i : Int)], 7 * ((i : Int) + 1), 1, 0) : GV).2.2.2.2 < 256 ∧ 0 ≤ ((1, [(i : Int)], 7 * ((i : Int) + 1), 1, 0) : GV).2.2.1 := by
        refine ⟨?_, ?_, show (0 : Nat) < 256 by decide, ?_⟩
        · show (0 : Int) ≤ 1; decide
        · show (1 : Int) ≤ (n : Int) + 1; omega
        · show (0 : Int) ≤ 7 * ((i : Int) + 1); omega
      match vs, hl, hv with
      | [], _, _ =>
        show okV (n + 1) (fin9 (1, [(i : Int)], 7 * ((i : Int) + 1), 1, 0))
        refine fin_ok hb1 ?_ hb2.2.2.2 ⟨hb2.1, by have := hb2.2.1; omega⟩ hb2.2.2.1 ⟨by simp, by show (1 : Int) ≤ 1; decide⟩
        show ((1 : Nat) : Int) + 1 ≤ _; omega
      | [v], _, hv =>
        have o1 := hv v (by simp)
        obtain ⟨c1, c2, c3, c4, c5, c6, c7, c8, c9⟩ := jn_ok (t := 2) (by decide) hb1 hb2 o1
        show okV (n + 1) (fin9 (jn (1, [(i : Int)], 7 * ((i : Int) + 1), 1, 0) 2 v))
        have := o1.2.1
        refine fin_ok c1 ?_ c3 ⟨c5, by omega⟩ c7 ⟨?_, ?_⟩
        · have e : ([(i : Int)] : List Int).length = 1 := rfl
          have c2' : (jn (1, [(i : Int)], 7 * ((i : Int) + 1), 1, 0) 2 v).2.1.length ≤ 1 + v.2.1.length := c2
          omega
        · exact c8
        · exact c9
      | v :: v2 :: r, hl, hv =>
        have o1 := hv v (by simp)
        have o2 := hv v2 (by simp)
        obtain ⟨c1, c2, c3, c4, c5, c6, c7, c8, c9⟩ := jn_ok (t := 2) (by decide) hb1 hb2 o1
        obtain ⟨d1, d2, d3, d4, d5, d6, d7, d8, d9⟩ := jn_ok (t := 3) (by decide) c1 ⟨c5, c6, c7, c3⟩ o2
        show okV (n + 1) (fin9 (jn (jn (1, [(i : Int)], 7 * ((i : Int) + 1), 1, 0) 2 v) 3 v2))
        have := o1.2.1
        have := o2.2.1
        refine fin_ok d1 ?_ d3 ⟨d5, by omega⟩ d7 ⟨?_, ?_⟩
        · have c2' : (jn (1, [(i : Int)], 7 * ((i : Int) + 1), 1, 0) 2 v).2.1.length ≤ 1 + v.2.1.length := c2
          omega
        · exact Nat.le_trans c8 d8
        · exact Int.le_trans c9 d9
theorem G_ok {E : EN} {nC : Nat} (hE : wfE E nC) (hC : nC ≤ 4) : ∀ (n c : Nat) (u : List Nat), wfN u 1 = true → u.length ≤ n → c < nC → okV n (G E c u) := by
  intro n
  induction n with
  | zero =>
    intro c u hu hn _
    exact absurd (List.length_eq_zero_iff.mp (by omega)) (ne_wf1 hu)
  | succ n ih =>
    intro c u hu hn hc
    rw [G_eq hE hu]
    refine nod_ok hE hC hc (wf_lt6 hu (List.length_pos_iff.mpr (ne_wf1 hu))) (fun v hv => ?_) (by rw [List.length_map]; exact chl_len hE c u)
    obtain ⟨k, hk, hkv⟩ := List.mem_map.mp hv
    obtain ⟨h1, h2, h3⟩ := chl_ok hE hu hk
    rw [← hkv]
    exact ih k.1 k.2 h2 (by omega) h1
