-- ===== the class: one goal =====
theorem dl_fuel {E : EN} {nC : Nat} (hE : wfE E nC) : ∀ (n m c : Nat) (u : List Nat), wfN u 1 = true → u.length ≤ n → u.length ≤ m → dl E n c u = dl E m c u := by
  intro n
  induction n with
  | zero =>
    intro m c u hu hn _
    exact absurd (List.length_eq_zero_iff.mp (by omega)) (ne_wf1 hu)
  | succ n ih =>
    intro m c u hu hn hm
    cases m with
    | zero => exact absurd (List.length_eq_zero_iff.mp (by omega)) (ne_wf1 hu)
    | succ m =>
      show (c, u) :: (chl E c u).flatMap _ = (c, u) :: (chl E c u).flatMap _
      congr 1
      rw [List.flatMap_def, List.flatMap_def, map_ext (g := fun k => dl E m k.1 k.2) (fun k hk => ?_)]
      obtain ⟨_, h2, h3⟩ := chl_ok hE hu hk
      exact ih m k.1 k.2 h2 (by omega) (by omega)
/-- the goals in a goal -/
def DL (E : EN) (c : Nat) (u : List Nat) : List (Nat × List Nat) := dl E u.length c u
theorem DL_eq {E : EN} {nC : Nat} (hE : wfE E nC) {c : Nat} {u : List Nat} (hu : wfN u 1 = true) : DL E c u = (c, u) :: (chl E c u).flatMap (fun k => DL E k.1 k.2) := by
  unfold DL
  cases hl : u.length with
  | zero => exact absurd (List.length_eq_zero_iff.mp hl) (ne_wf1 hu)
  | succ n =>
    show (c, u) :: (chl E c u).flatMap _ = _
    congr 1
    rw [List.flatMap_def, List.flatMap_def, map_ext (g := fun k => dl E k.2.length k.1 k.2) (fun k hk => ?_)]
    obtain ⟨_, h2, h3⟩ := chl_ok hE hu hk
    exact dl_fuel hE _ _ _ _ h2 (by omega) (Nat.le_refl _)
/-- a row of goals as bits, by class and first place -/
def inW (w : List Nat) (D : List (Nat × List Nat)) (b : Nat) : Bool := decide ((b / 9, sub w (b % 9)) ∈ D) && (decide (b % 9 < w.length) && decide (fsP w (b % 9) = b % 9))
def wnb (w : List Nat) (D : List (Nat × List Nat)) : Nat := bset 36 (inW w D)
theorem wnb_lt (w : List Nat) (D : List (Nat × List Nat)) : wnb w D < 2 ^ 36 := bset_lt 36 _
theorem wnb_or {w : List Nat} {D D1 D2 : List (Nat × List Nat)} (h : ∀ k, k ∈ D ↔ k ∈ D1 ∨ k ∈ D2) : wnb w D = wnb w D1 ||| wnb w D2 := by
  apply nat_ext
  intro b
  unfold wnb
  rw [Nat.testBit_or, bset_bit, bset_bit, bset_bit]
  unfold inW
  rw [decide_eq_decide.mpr (h (b / 9, sub w (b % 9))), Bool.decide_or]
  cases decide ((b / 9, sub w (b % 9)) ∈ D1) <;> cases decide ((b / 9, sub w (b % 9)) ∈ D2) <;> cases decide (b < 36) <;> simp
theorem wnb_one {w : List Nat} (hl : w.length ≤ 9) {c p : Nat} (hc : c < 4) (hp : p < w.length) : wnb w [(c, sub w p)] = 2 ^ (9 * c + fsP w p) := by
  obtain ⟨f1, f2, f3⟩ := fsP_ok w p
  apply nat_ext
  intro b
  unfold wnb
  rw [bset_bit, Nat.testBit_two_pow]
  unfold inW
  by_cases hb : 9 * c + fsP w p = b
  · have e1 : b / 9 = c := by omega
    have e2 : b % 9 = fsP w p := by omega
    rw [decide_eq_true hb, e1, e2, decide_eq_true (show b < 36 by omega), decide_eq_true (show fsP w p < w.length by omega), decide_eq_true (fsP_iff.mpr f2), decide_eq_true (show (c, sub w (fsP w p)) ∈ [(c, sub w p)] by rw [f2]; simp)]
    rfl
  · rw [decide_eq_false hb]
    by_cases h36 : b < 36
    · rw [decide_eq_true h36, Bool.true_and]
      by_cases hm : (b / 9, sub w (b % 9)) ∈ [(c, sub w p)]
      · have h1 := List.mem_singleton.mp hm
        have h2 : b / 9 = c := congrArg Prod.fst h1
        have h3 : sub w (b % 9) = sub w p := congrArg Prod.snd h1
        by_cases hf : fsP w (b % 9) = b % 9
        · exfalso
          rw [fsP_iff.mpr h3] at hf
          omega
        · rw [decide_eq_false hf]; simp
      · rw [decide_eq_false hm]; rfl
    · rw [decide_eq_false h36]; rfl
/-- how many there are -/
theorem wnb_dif {E : EN} {c : Nat} {w : List Nat} (hD : ∀ k, k ∈ DL E c w → k.1 < 4 ∧ ∃ q, q < w.length ∧ k.2 = sub w q) (hl : w.length ≤ 9) : pcn 36 (wnb w (DL E c w)) = dif E c w := by
  unfold wnb
  rw [pcn_bset (Nat.le_refl _)]
  have hcnt : ∀ n (f : Nat → Bool), cnt n f = ((List.range n).filter f).length := by
    intro n f
    induction n with
    | zero => rfl
    | succ n ih =>
      show cnt n f + (if f n then 1 else 0) = _
      rw [List.range_succ, List.filter_append, List.length_append, ih]
      congr 1
      by_cases h : f n = true
      · rw [if_pos h]; simp [h]
      · rw [if_neg h]; simp [h]
  rw [hcnt]
  have hinj : ∀ b1, b1 ∈ (List.range 36).filter (inW w (DL E c w)) → ∀ b2, b2 ∈ (List.range 36).filter (inW w (DL E c w)) → ((b1 / 9, sub w (b1 % 9)) : Nat × List Nat) = (b2 / 9, sub w (b2 % 9)) → b1 = b2 := by
    intro b1 h1 b2 h2 he
    have g1 := (List.mem_filter.mp h1).2
    have g2 := (List.mem_filter.mp h2).2
    unfold inW at g1 g2
    rw [Bool.and_eq_true, Bool.and_eq_true, decide_eq_true_eq, decide_eq_true_eq, decide_eq_true_eq] at g1 g2
    have e1 : b1 / 9 = b2 / 9 := congrArg Prod.fst he
    have e2 : sub w (b1 % 9) = sub w (b2 % 9) := congrArg Prod.snd he
    have e3 := fsP_iff.mpr e2
    rw [g1.2.2, g2.2.2] at e3
    omega
  have hnd : (((List.range 36).filter (inW w (DL E c w))).map (fun b => ((b / 9, sub w (b % 9)) : Nat × List Nat))).Nodup := by
    have hn0 : ((List.range 36).filter (inW w (DL E c w))).Nodup := List.Pairwise.filter _ List.nodup_range
    revert hinj hn0
    generalize (List.range 36).filter (inW w (DL E c w)) = l
    intro hinj hn0
    induction l with
    | nil => exact List.nodup_nil
    | cons a l ih =>
      obtain ⟨k1, k2⟩ := List.nodup_cons.mp hn0
      rw [List.map_cons]
      refine List.nodup_cons.mpr ⟨fun hm => ?_, ih (fun b1 h1 b2 h2 => hinj b1 (List.mem_cons_of_mem _ h1) b2 (List.mem_cons_of_mem _ h2)) k2⟩
      obtain ⟨x, hx, hxe⟩ := List.mem_map.mp hm
      have := hinj x (List.mem_cons_of_mem _ hx) a (List.mem_cons_self) hxe
      rw [this] at hx
      exact k1 hx
  rw [← dif_of (E := E) (c := c) (u := w) hnd (fun k => ?_), List.length_map]
  constructor
  · intro hk
    obtain ⟨b, hb, hbe⟩ := List.mem_map.mp hk
    have g1 := (List.mem_filter.mp hb).2
    unfold inW at g1
    rw [Bool.and_eq_true, decide_eq_true_eq] at g1
    rw [← hbe]; exact g1.1
  · intro hk
    obtain ⟨h4, q, hq, hkq⟩ := hD k hk
    obtain ⟨f1, f2, f3⟩ := fsP_ok w q
    have e1 : (9 * k.1 + fsP w q) / 9 = k.1 := by omega
    have e2 : (9 * k.1 + fsP w q) % 9 = fsP w q := by omega
    refine List.mem_map.mpr ⟨9 * k.1 + fsP w q, List.mem_filter.mpr ⟨List.mem_range.mpr (by omega), ?_⟩, ?_⟩
    · unfold inW
      rw [e1, e2, f2, ← hkq, decide_eq_true (show (k.1, k.2) ∈ DL E c w from hk), decide_eq_true (show fsP w q < w.length by omega), decide_eq_true (fsP_iff.mpr f2)]
      rfl
    · show ((9 * k.1 + fsP w q) / 9, sub w ((9 * k.1 + fsP w q) % 9)) = k
      rw [e1, e2, f2, ← hkq]
/-- where a goal lies -/
def goA (c p : Nat) : Nat := 166 + 2 * (9 * c + p)
theorem isGo_goA {c p : Nat} (hc : c < 4) (hp : p < 9) : isGo (goA c p) := by
  have h := ie_goals (i := ((9 * c + p : Nat) : Int)) ⟨by omega, by omega⟩
  rw [Int.toNat_natCast] at h
  exact h
/-- what is told of a goal; its parts -/
def GvX (I : Nat → Int → Int) (J : Nat → Int → Int64) (w : List Nat) (g : Nat) (V : GV) (D : List (Nat × List Nat)) : Prop := I g 0 = V.1 ∧ I g 4 = ((if V.1 = 1 then V.2.2.2.2 else 0 : Nat) : Int) ∧ (V.1 = 1 → I g 1 = (V.2.1.length : Int) ∧ I g 2 = V.2.2.1 ∧ I g 3 = V.2.2.2.1 ∧ I g 6 = V.2.1.getD 0 0 ∧ J g 5 = Int64.ofNat (wnb w D))
def PtX (I : Nat → Int → Int) (R : Nat → Int → Option Nat) (w : List Nat) (nC g q : Nat) (ch : List (Nat × List Nat)) : Prop := I g 7 = (ch.length : Int) ∧ ∀ k : Nat, k < ch.length → ∃ c' q' : Nat, c' < nC ∧ q < q' ∧ q' < w.length ∧ R (g + 1) (k : Int) = some (goA c' q') ∧ ch.getD k (0, []) = (c', sub w q')
def RwX (R : Nat → Int → Option Nat) (I : Nat → Int → Int) (J : Nat → Int → Int64) (w : List Nat) (E : EN) (nC c q : Nat) : Prop := GvX I J w (goA c q) (G E c (sub w q)) (DL E c (sub w q)) ∧ ((G E c (sub w q)).1 = 1 → PtX I R w nC (goA c q) q (chl E c (sub w q)))
/-- only one goal has changed -/
def frO (g : Nat) (R R' : Nat → Int → Option Nat) (I I' : Nat → Int → Int) (J J' : Nat → Int → Int64) : Prop := (∀ a, a ≠ g + 1 → R' a = R a) ∧ (∀ a, a ≠ g → I' a = I a) ∧ ∀ a, a ≠ g → J' a = J a
theorem RwX.fr {R R' : Nat → Int → Option Nat} {I I' : Nat → Int → Int} {J J' : Nat → Int → Int64} {w : List Nat} {E : EN} {nC c q g : Nat} (h : RwX R I J w E nC c q) (f : frO g R R' I I' J J') (hg : goA c q ≠ g) : RwX R' I' J' w E nC c q := by
  unfold RwX GvX PtX at *
  rw [f.2.1 _ hg, f.2.2 _ hg, f.1 _ (by omega)]
  exact h
section XGo
variable {L : Nat} {R : Nat → Int → Option Nat} {I : Nat → Int → Int} {J : Nat → Int → Int64} {Q : Option MV → MM → Prop} {E : EN} {nC : Nat}
theorem frO.rf {g : Nat} : frO g R R I I J J := ⟨fun _ _ => rfl, fun _ _ => rfl, fun _ _ => rfl⟩
theorem frO.tr {g : Nat} {R1 R2 : Nat → Int → Option Nat} {I1 I2 : Nat → Int → Int} {J1 J2 : Nat → Int → Int64} (h : frO g R R1 I I1 J J1) (h2 : frO g R1 R2 I1 I2 J1 J2) : frO g R R2 I I2 J J2 := ⟨fun a ha => by rw [h2.1 a ha, h.1 a ha], fun a ha => by rw [h2.2.1 a ha, h.2.1 a ha], fun a ha => by rw [h2.2.2 a ha, h.2.2 a ha]⟩
theorem x_failAs {g : Nat} {z : Int} (hg : isGo g) (hQ : ∀ I', (∀ a, a ≠ g → I' a = I a) → I' g 0 = z → I' g 4 = 0 → Q none (S0 L, R, I', J)) : wpC 172 [vR (some g), vI z] (S0 L, R, I, J) Q := by
  refine (c_Goal_failAs hg).mpr ?_
  refine hQ _ (fun a ha => by rw [upM_ne ha, upM_ne ha, upM_ne ha, upM_ne ha]) ?_ ?_
  · rw [upM_i (by decide), upM_i (by decide), upM_i (by decide), upM_same]
  · rw [upM_i (by decide), upM_same]
/-- a goal that is being built: all so far is found -/
def GbX (I : Nat → Int → Int) (J : Nat → Int → Int64) (w : List Nat) (g : Nat) (A : GV) (D : List (Nat × List Nat)) (n : Nat) : Prop := I g 0 = 1 ∧ I g 1 = (A.2.1.length : Int) ∧ I g 2 = A.2.2.1.tmod 1009 ∧ I g 3 = A.2.2.2.1 ∧ I g 4 = (A.2.2.2.2 : Int) ∧ I g 6 = A.2.1.getD 0 0 ∧ I g 7 = (n : Int) ∧ J g 5 = Int64.ofNat (wnb w D)
theorem x_begin {g i : Nat} {y : Int64} {w : List Nat} {D : List (Nat × List Nat)} (hg : isGo g) (hi : i < 100) (hy : y = Int64.ofNat (wnb w D)) (hQ : ∀ I' J', (∀ a, a ≠ g → I' a = I a) → (∀ a, a ≠ g → J' a = J a) → GbX I' J' w g (1, [(i : Int)], 7 * ((i : Int) + 1), 1, 0) D 0 → Q none (S0 L, R, I', J')) : wpC 174 [vR (some g), vI (i : Int), vL y] (S0 L, R, I, J) Q := by
  refine (c_Goal_begin hg).mpr ?_
  have e7 : w32 (7 * w32 ((i : Int) + 1)) = 7 * ((i : Int) + 1) := by rw [w32_eq (z := (i : Int) + 1) (by omega) (by omega), w32_eq (by omega) (by omega)]
  rw [e7]
  refine hQ _ _ (fun a ha => by rw [upM_ne ha, upM_ne ha, upM_ne ha, upM_ne ha, upM_ne ha, upM_ne ha, upM_ne ha]) (fun a ha => upM_ne ha) ⟨?_, ?_, ?_, ?_, ?_, ?_, upM_same, by rw [upM_same]; exact hy⟩
  · rw [upM_i (by decide), upM_i (by decide), upM_i (by decide), upM_i (by decide), upM_i (by decide), upM_i (by decide), upM_same]
  · rw [upM_i (by decide), upM_i (by decide), upM_i (by decide), upM_i (by decide), upM_same]; rfl
  · rw [upM_i (by decide), upM_i (by decide), upM_i (by decide), upM_same]
  · rw [upM_i (by decide), upM_i (by decide), upM_same]
  · rw [upM_i (by decide), upM_same]; rfl
  · rw [upM_i (by decide), upM_i (by decide), upM_i (by decide), upM_i (by decide), upM_i (by decide), upM_same]; rfl
theorem lor_nat {a b : Nat} : Int64.ofNat a ||| Int64.ofNat b = Int64.ofNat (a ||| b) := by
  apply Int64.toBitVec_inj.mp
  rw [Int64.toBitVec_or]
  show BitVec.ofNat 64 a ||| BitVec.ofNat 64 b = BitVec.ofNat 64 (a ||| b)
  apply BitVec.eq_of_getLsbD_eq
  intro i hi
  rw [BitVec.getLsbD_or, BitVec.getLsbD_ofNat, BitVec.getLsbD_ofNat, BitVec.getLsbD_ofNat, Nat.testBit_or]
  simp only [hi, decide_true, Bool.true_and]
end XGo
