-- ===== end of PART A; then your names; then what follows =====
def R_law : String := "DictProofLaw"
def lw_P (b : Addr) (xs : List Int32) (args : Array Value) (s : State) : Prop := args = #[.ref b] ∧ s.IntsAt b xs ∧ xs.length ≤ 2560 ∧ (Jvm.Cond.and given_1 narrow_1).before args s = true
def lw_Q (_ : Array Value) (s : State) (o : Outcome) (t : State) : Prop := o = .returned (some (.int 1)) ∧ Framed s o t [] 600000 7302250
def lw_Z (below : List Frame) (a : Array Value) (s : State) : State → Prop := fun t => ∃ o, t.status = .running ∧ Ended t below o ∧ lw_Q a s o t
/-- the law's own end, with 1 on the stack, nothing written that was there before, its room as the claim has it -/
theorem lw_ret {p : Program} {l : Launch} {e : Env} {s : State} {m : MethodId} {below : List Frame} {meth : Method} {c : Code} {b : Nat} (hx : p.tables.exec = Jvm.exec) (hb : c.code = code) (hr : meth.sig.returnType = ret) (hlocks : meth.locks = false) {pc : Nat} {H : Heap} {ls : Array Slot} (hdg : decode code pc = .ok (.ireturn, 1)) : W p l e room_1 s m #[Value.ref b] below meth c H [] 600000 7302250 (lw_Z below #[Value.ref b] s) (F0 m pc ls [.int 1]) := by
  intro T hT X
  obtain ⟨fs, hret, hrun, hended, hW, hframe⟩ := X.leave (v := some (.int 1)) (hlocks := hlocks) (fun h => by rw [hr] at h; cases h)
  have hmeth' : T.vm.method? m = some meth := X.method'
  refine ⟨T.setFrames fs, ?_, .returned (some (.int 1)), hrun, hended, rfl, ⟨_, rfl⟩, hW, hframe⟩
  jvm_step X.here [X.here.top, hx, hb, hdg, hmeth', hr, ret, narrow_b1]
  (try refine ⟨rfl, ?_⟩); (try refine ⟨rfl, ?_⟩)
  first | (intro acts; rw [hret _ acts rfl rfl rfl]) | rw [hret _ _ rfl rfl rfl]
  exact Steps.refl _
/-- what holds at the law's entry: the machine, the code, the tables' words (any of lw_tbl by 'hts w (by decide +kernel)'), the script of L ints xs at the cell b, what the Statement gives of the start (any of its parts by flat_of_before) -/
def lw_At (p : Program) (s : State) (m : MethodId) (meth : Method) (c : Code) (b L : Nat) (xs : Nat → Int32) : Prop :=
  p.tables.exec = Jvm.exec ∧ c.code = code ∧ meth.sig.returnType = ret ∧ c.maxLocals = 4 ∧ s.vm.findClass R_law = some m.cls ∧ (∀ w ∈ lw_tbl, w.before #[Value.ref b] s = true) ∧ va_X b L xs s s.heap ∧ b < s.heap.size ∧ meth.locks = false ∧ (Jvm.Cond.and given_1 narrow_1).before #[Value.ref b] s = true
-- ===== the memory at the law's entry =====
def so4 : List Int := [8, 27, 9, 17]
def pa6 : List Int := [0, 0, 1, 2, 0, 0]
def S00 (L : Nat) : MS := [(19, L, []), (19, 4, []), (19, 6, [])]
def I00 (L : Nat) (xs : Nat → Int32) : Nat → Int → Int := fun a i => match a with
  | 0 => if 0 ≤ i ∧ i < (L : Int) then (xs i.toNat).toInt else 0
  | 1 => so4.getD i.toNat 0
  | 2 => pa6.getD i.toNat 0
  | _ => 0
def M00 (L : Nat) (xs : Nat → Int32) : MM := (S00 L, fun _ _ => none, I00 L xs, fun _ _ => 0)
theorem I00_r (L : Nat) (xs : Nat → Int32) (a : Nat) (i : Int) : inR (I00 L xs a i) := by
  unfold I00
  split
  · split
    · exact inR_t _
    · exact inR_0
  · have : ∀ n, inR (so4.getD n 0) := fun n => by
      match n with
      | 0 => unfold inR; decide
      | 1 => unfold inR; decide
      | 2 => unfold inR; decide
      | 3 => unfold inR; decide
      | n + 4 => exact inR_0
    exact this _
  · have : ∀ n, inR (pa6.getD n 0) := fun n => by
      match n with
      | 0 => unfold inR; decide
      | 1 => unfold inR; decide
      | 2 => unfold inR; decide
      | 3 => unfold inR; decide
      | 4 => unfold inR; decide
      | 5 => unfold inR; decide
      | n + 6 => exact inR_0
    exact this _
  · exact inR_0
/-- the static array of a name, out of what the Statement gives of the start -/
theorem stat_arr {args : Array Value} {s : State} {C n : String} {N : Nat} {f : Nat → Value} {A : Nat → Prop} (hN : N < 2 ^ 31) (hl : (Cond.laysStatic C n "[I").before args s = true) (hini : (Cond.initialized C).before args s = true) (harr : (Cond.arrayOf (.static C n "[I") .int).before args s = true) (hlen : (Cond.eq (.length (.static C n "[I")) (.int (Int32.ofNat N))).before args s = true) (hel : ∀ j : Nat, j < N → (Term.elem (.static C n "[I") (.int (Int32.ofNat j))).eval args s none [] s = some (f j)) (hA : ∀ a : Nat, a < s.heap.size → ¬ A a) : ∃ t : Nat, t < s.heap.size ∧ va_Z C n "[I" (.ref t) A s s.heap ∧ arrOK s s.heap t .int N f := by
  obtain ⟨t, ht, cell, c1, c2, c3, c4, c5, c6, c7⟩ := va_Tof hN harr (va_eqt hlen) hel hA
  exact ⟨t, (Array.getElem?_eq_some_iff.mp c1).1, va_Zof hl hini ht hA, cell, c1, c2, c3, ⟨c4, c5⟩, c6, trivial⟩
set_option maxRecDepth 20000 in
theorem lay_in {c : Nat} (hc : c < 10) : ∀ w ∈ u_ws (cnm c) (cT c) (cN c), w ∈ lw_tbl := fun w hw => (List.mem_filter.mp (lay_ok c hc w hw)).1
set_option maxHeartbeats 4000000 in
set_option maxRecDepth 20000 in
/-- the start: the mini-machine's memory stands for the heap -/
theorem rep_start {p : Program} {s : State} {m : MethodId} {meth : Method} {c : Code} {b L : Nat} {xs : Nat → Int32} (hL : L ≤ 2560) (C0 : lw_At p s m meth c b L xs) : ∃ (g : GA) (D : va_G), gB g = s.heap.size ∧ g.1 = b ∧ Rep g D s (M00 L xs) s.heap ∧ Cx D p room_1 s m #[Value.ref b] meth c 0 := by
  obtain ⟨hx, hb, hr, hml, hown, hts, hX, hbl, hlocks, hgv⟩ := id C0
  have hs := flat_of_before _ hgv
  have hA : ∀ a : Nat, a < s.heap.size → ¬ (fun q : Nat => s.heap.size ≤ q) a := fun a ha h => Nat.lt_irrefl _ (Nat.lt_of_lt_of_le ha h)
  obtain ⟨t1, ht1, hz1, ha1⟩ := stat_arr (C := "DictProof") (n := "SO_OF_KINDS") (N := 4) (f := fun i => .int (Int32.ofInt (so4.getD i 0))) (A := fun q => s.heap.size ≤ q) (by decide) (hts _ ls_1) (hts _ (List.mem_filter.mp ini_8).1) (hs _ (by decide +kernel)) (hs _ (by decide +kernel)) (fun i hi => by
    match i, hi with
    | 0, _ => exact va_eqt (hs (Cond.eq (.elem (.static "DictProof" "SO_OF_KINDS" "[I") (.int 0)) (.int 8)) (by decide +kernel))
    | 1, _ => exact va_eqt (hs (Cond.eq (.elem (.static "DictProof" "SO_OF_KINDS" "[I") (.int 1)) (.int 27)) (by decide +kernel))
    | 2, _ => exact va_eqt (hs (Cond.eq (.elem (.static "DictProof" "SO_OF_KINDS" "[I") (.int 2)) (.int 9)) (by decide +kernel))
    | 3, _ => exact va_eqt (hs (Cond.eq (.elem (.static "DictProof" "SO_OF_KINDS" "[I") (.int 3)) (.int 17)) (by decide +kernel))
    | i + 4, h => omega) hA
  obtain ⟨t2, ht2, hz2, ha2⟩ := stat_arr (C := "DictProof$Shape") (n := "PARTS") (N := 6) (f := fun i => .int (Int32.ofInt (pa6.getD i 0))) (A := fun q => s.heap.size ≤ q) (by decide) (hts _ ls_2) (hts _ (List.mem_filter.mp ini_7).1) (hs _ (by decide +kernel)) (hs _ (by decide +kernel)) (fun i hi => by
    match i, hi with
    | 0, _ => exact va_eqt (hs (Cond.eq (.elem (.static "DictProof$Shape" "PARTS" "[I") (.int 0)) (.int 0)) (by decide +kernel))
    | 1, _ => exact va_eqt (hs (Cond.eq (.elem (.static "DictProof$Shape" "PARTS" "[I") (.int 1)) (.int 0)) (by decide +kernel))
    | 2, _ => exact va_eqt (hs (Cond.eq (.elem (.static "DictProof$Shape" "PARTS" "[I") (.int 2)) (.int 1)) (by decide +kernel))
    | 3, _ => exact va_eqt (hs (Cond.eq (.elem (.static "DictProof$Shape" "PARTS" "[I") (.int 3)) (.int 2)) (by decide +kernel))
    | 4, _ => exact va_eqt (hs (Cond.eq (.elem (.static "DictProof$Shape" "PARTS" "[I") (.int 4)) (.int 0)) (by decide +kernel))
    | 5, _ => exact va_eqt (hs (Cond.eq (.elem (.static "DictProof$Shape" "PARTS" "[I") (.int 5)) (.int 0)) (by decide +kernel))
    | i + 6, h => omega) hA
  have hkn : ∀ c : Nat, ∃ q : ClassId × (Nat → Nat), c < 10 → u_Kn s (cnm c) (cT c) (cN c) q.1 q.2 := by
    intro c
    by_cases hc : c < 10
    · obtain ⟨cC, iS, h⟩ := u_known hts (lay_in hc) (hts _ (List.mem_filter.mp (ins_ok c hc)).1)
      exact ⟨(cC, iS), fun _ => h⟩
    · exact ⟨(0, fun _ => 0), fun h => absurd h hc⟩
  have hch : ∃ F : Nat → ClassId × (Nat → Nat), ∀ c, c < 10 → u_Kn s (cnm c) (cT c) (cN c) (F c).1 (F c).2 := ⟨fun c => (hkn c).choose, fun c => (hkn c).choose_spec⟩
  obtain ⟨F, hF⟩ := hch
  have hKn : Kn (fun c => (F c).1, fun c => (F c).2) s := by
    refine ⟨⟨fun c q hq => ?_, fun k q h => by simp at h⟩, fun o e he => va_Nw.of rfl (hts _ (nl_ok o e he)), va_AO.of (hts _ ao_Rule), va_AO.of (hts _ ao_Shape), va_AO.of (hts _ ao_Goal), hts _ ao_int⟩
    have hc : c < 10 := by
      have := (List.getElem?_eq_some_iff.mp hq).1
      exact this
    cases hq.symm.trans (vw_at hc)
    exact hF c hc
  refine ⟨(b, t1, t2, s.heap.size), (fun c => (F c).1, fun c => (F c).2), rfl, rfl, ?_, hx, hb, hml, hown, fun w hw => hts w (List.mem_filter.mp hw).1, hKn, fun h => absurd h (by decide +kernel), by decide +kernel, by decide +kernel⟩
  refine ⟨fun a e he => ?_, fun a ha => ?_, Nat.le_refl 3, rfl, fun a i => I00_r L xs a i, ⟨hbl, ht1, ht2⟩, hz1, hz2⟩
  · match a, he with
    | 0, he =>
      cases he
      refine ⟨fun h => absurd h (by show ¬ 19 < 10; decide), fun _ => ⟨by show 19 ≤ 19 ∧ 19 ≤ 27; decide, ?_⟩, by show L ≤ 100000; omega⟩
      obtain ⟨scr, x1, x2, x3, x4, x5⟩ := hX
      refine ⟨scr, x1, x2, x3, ⟨Nat.le_of_eq x4.symm, by rw [x4] <;> rfl⟩, fun i hi => ?_, trivial⟩
      rw [x5 i hi]
      show some (Value.int (xs i)) = some (Value.int (Int32.ofInt (if 0 ≤ (i : Int) ∧ (i : Int) < (L : Int) then (xs (i : Int).toNat).toInt else 0)))
      have hi : i < L := hi
      rw [if_pos (by omega), Int.toNat_natCast, oi_t]
    | 1, he =>
      cases he
      exact ⟨fun h => absurd h (by decide), fun _ => ⟨by decide, ha1⟩, by decide⟩
    | 2, he =>
      cases he
      exact ⟨fun h => absurd h (by decide), fun _ => ⟨by decide, ha2⟩, by decide⟩
    | a + 3, he => cases he
  · match a, ha with
    | 0, _ => rfl
    | 1, _ => rfl
    | 2, _ => rfl
    | a + 3, h => omega
