-- ===== grids, calls, answers =====
theorem cat_sum (l : List Value) : (l.map fun v => v.category).sum ≤ 2 * l.length := by
  induction l with
  | nil => simp
  | cons v r ih =>
    simp only [List.map_cons, List.sum_cons, List.length_cons]
    have := lv_cat v
    omega
section SIM6
variable {g : GA} {D : va_G} {l : Launch} {p : Program} {e : Env} {R : Room} {s : State} {m : MethodId} {args : Array Value} {below : List Frame} {meth : Method} {c : Code} {PQ : State → Prop} {k j j' : Nat} {ls st ls' st' : List MV} {b b' : Nat × Nat} {M M' : MM} {H : Heap} {locs : List Loc} {cells slots : Nat} {la : Array Slot} {rest : List Value} {pc a ci fk idx : Nat}
theorem si_multianewarray {dm : Nat} (hC : Cx D p R s m args meth c k) (hok : okOp k j = true) (hi : (opAt k j).1 = .multianewarray idx dm) (hs : (pI2 st fun x y r => gd (decide (x = 6) && decide (y = 2)) (mNew ((27, 6, (List.range 6).map fun i => some (M.1.length + 1 + i)) :: List.replicate 6 (20, 2, [])) 7 18 j ls r b M)) = some (Sum.inl (j', ls', st', b', M'))) (IH : Sim g D l p e R s m args below meth c PQ k j' ls' st' b' M') : Sim g D l p e R s m args below meth c PQ k j ls st b M := by
  obtain ⟨hd, h2⟩ := ok1 hok hi (fun h => by cases h)
  unfold okI at h2
  simp only [hi, Bool.and_eq_true, decide_eq_true_eq, fl1] at h2
  obtain ⟨⟨⟨⟨hlen, hpc⟩, rfl⟩, rfl⟩, how⟩ := h2
  rw [hlen] at hd hpc
  obtain ⟨x, y, r, rfl, hs⟩ := pI2_inv hs
  obtain ⟨hg, hs⟩ := gd_inv hs
  simp only [Bool.and_eq_true, decide_eq_true_eq] at hg
  obtain ⟨rfl, rfl⟩ := hg
  obtain ⟨hb1, hb2, rfl, rfl, rfl, rfl, rfl⟩ := mNew_inv (nc := 7) rfl hs
  intro H locs cells slots la hRep hLR hst hlocs hcl hsl
  obtain ⟨hx, hb, hml, hown, hts, hK, hnm, hf1, hf2⟩ := hC
  have hst2 : ∀ w ∈ r, vOK w := fun w hw => hst w (List.mem_cons_of_mem _ (List.mem_cons_of_mem _ hw))
  rw [how] at hown
  refine W_mna hx hb hown (hts _ ma_ok) hK.2.2.2.2.2 (hts _ ac_int) (by omega) (by omega) hd (fun H1 e2 e3 e4 e5 => ?_)
  have hRep2 : Rep g D s (newM M ((27, 6, (List.range 6).map fun i => some (M.1.length + 1 + i)) :: List.replicate 6 (20, 2, []))) H1 := by
    refine hRep.new _ e2 e3 (fun i en hen => ?_)
    have hen2 := hen
    cases i with
    | zero =>
      simp at hen
      subst hen
      refine ⟨fun h => absurd h (by show ¬ (27 < 10); decide), fun _ => ⟨by show 19 ≤ 27 ∧ 27 ≤ 27; decide, ?_⟩, by show 6 ≤ 100000; decide⟩
      rw [adr_len hRep]
      refine e4.to (fun q hq => ?_)
      show Value.ref (H.size + 1 + q) = elv g _ (M.1.length + 0) 27 q
      unfold elv
      rw [if_neg (by decide), if_pos (by decide), newM_fz hen2]
      have h9 : ((List.range 6).map fun i => some (M.1.length + 1 + i)).getD q none = some (M.1.length + 1 + q) := by
        rw [List.getD_eq_getElem?_getD, List.getElem?_map, List.getElem?_range hq]; rfl
      simp only [h9]
      show _ = Value.ref (adr g (M.1.length + 1 + q))
      rw [Nat.add_assoc M.1.length, adr_len hRep, Nat.add_assoc]
    | succ i =>
      have hi6 : i < 6 := by have := newM_lt hen; simp at this; omega
      have : en = (20, 2, []) := by
        simp only [List.getElem?_cons_succ, List.getElem?_replicate, hi6, if_true, Option.some.injEq] at hen
        exact hen.symm
      subst this
      refine ⟨fun h => absurd h (by decide), fun _ => ⟨by decide, ?_⟩, by decide⟩
      rw [adr_len hRep]
      rw [show H.size + (i + 1) = H.size + 1 + i by omega]
      refine (e5 i hi6).to (fun q hq => ?_)
      show Value.int 0 = elv g _ (M.1.length + (i + 1)) 20 q
      unfold elv
      rw [if_pos (by decide), newM_I hen2]
      rfl
  have h3 := IH H1 locs (cells + 7) (slots + 18) la hRep2 hLR (vok_cons trivial hst2) hlocs (by show cells + 7 + (b.1 - 7) ≤ _; omega) (by show slots + 18 + (b.2 - 18) ≤ _; omega)
  rw [hpc] at h3
  have ea : adr g M.1.length = H.size := adr_len hRep 0
  have h4 : (vR (some M.1.length) :: r).map (cv g) = .ref H.size :: r.map (cv g) := by
    show Value.ref (adr g M.1.length) :: _ = _
    rw [ea]
  rw [h4] at h3
  exact h3
/-- what a callee's contract says of its end -/
def QcM (g : GA) (D : va_G) (Q' : Option MV → MM → Prop) : State → Outcome → State → Prop := fun _ o t => ∃ (v : Option MV) (M2 : MM), Q' v M2 ∧ o = .returned (v.map (cv g)) ∧ (∀ w, v = some w → vOK w) ∧ Rep g D t M2 t.heap
theorem run_go {mc ms : Nat} {st0 : List Value} {Q' : Option MV → MM → Prop} (hr : va_Run p l e R s m args below meth c H locs cells slots mc ms (F0 m pc la st0) rest (QcM g D Q') (fun q => gB g ≤ q)) (hlocs : ∀ q ∈ locs, gB g ≤ q.base)
    (kk : ∀ (v : Option MV) (M2 : MM) (H1 : Heap) (locs1 : List Loc), Q' v M2 → (∀ w, v = some w → vOK w) → Rep g D s M2 H1 → (∀ q ∈ locs1, gB g ≤ q.base) → W p l e R s m args below meth c H1 locs1 (cells + mc) (slots + ms) PQ (F0 m (pc + 3) la ((v.map (cv g)).toList ++ rest))) : W p l e R s m args below meth c H locs cells slots PQ (F0 m pc la st0) := by
  intro T hT X
  obtain ⟨v, st1, t, T', L, h0, X', hL, e1, e2, ⟨v2, M2, hq, ho, hv, hR⟩, stp⟩ := hr T hT X
  cases ho
  have hal : t.vm.Alike s.vm := by rw [← e2]; exact X'.warmed.alike.symm
  obtain ⟨t2, a1, b1⟩ := kk v2 M2 T'.heap (locs ++ L) hq hv (by rw [e1]; exact hR.moved hal) (fun q hq => by
    rcases List.mem_append.mp hq with h | h
    · exact hlocs q h
    · exact hL q h) T' rfl X'
  exact ⟨t2, stp t2 a1, b1⟩
def rmK (k : Nat) : Room := { frames := dpK k, cells := (buK k).1, slots := (buK k).2, locals := 28 * dpK k }
def wsK (k : Nat) : List Cond := Cond.code (yK k) (cK k) (mxK k) (rtK k) :: lwG
def PcM (g : GA) (D : va_G) (as : List MV) (M : MM) : Array Value → State → Prop := va_Pc (as.map (cv g)) (fun U => Rep g D U M U.heap ∧ Kn D U)
theorem PcM.blind (as : List MV) : FrameBlind (PcM g D as M) := fun a U gg mk h => ⟨h.1, h.2.1.moved (u := U) (U := U.calling gg mk a) (Vm.Alike.refl U.vm), by
  obtain ⟨h1, h2, h3, h4, h5, h6⟩ := h.2.2
  have ha : U.vm.Alike (U.calling gg mk a).vm := Vm.Alike.refl U.vm
  exact ⟨h1.moved ha, fun o e he => va_Nw.same rfl (u := U) (U := U.calling gg mk a) rfl (h2 o e he), h3.moved ha, h4.moved ha, h5.moved ha, h6.moved ha⟩⟩
theorem good_lwG {w : Cond} (h : w ∈ lwG) : (w.onTables && w.keeps) = true ∨ ∃ ty, w = .arrayClass ty := good_of_word (List.mem_filter.mp h).2
theorem goodIn_K {k' : Nat} (hm : mOK k') : GoodIn lwG (wsK k') := fun w hw => by
  rcases List.mem_cons.mp hw with rfl | hw
  · exact ⟨hm.1, good_lwG hm.1⟩
  · exact ⟨hw, good_lwG hw⟩
theorem mPl_of {k' : Nat} (h : mPl k' = true) : plainFor (yK k') = true ∧ (yK k').cls ≠ "java/lang/invoke/MethodHandle" ∧ (yK k').cls ≠ "java/lang/invoke/VarHandle" ∧ (parseMethodDescriptor (yK k').desc).map (fun d => d.parameters.length) = some (naK k') ∧ (yK k').cls = cnm (owK k') ∧ owK k' < 14 := by
  unfold mPl at h
  simp only [Bool.and_eq_true, decide_eq_true_eq] at h
  obtain ⟨⟨⟨⟨⟨h1, h2⟩, h3⟩, h4⟩, h5⟩, h6⟩ := h
  exact ⟨h1, h2, h3, h4, h5, h6⟩
theorem mInv_inv {k0 n mc ms mx k' : Nat} {rc : Option Nat} {as : List MV} (h : mInv k0 n rc mc ms mx j ls st b M = some (Sum.inr (Sum.inl (k', as, (j', ls', st', b', M'))))) : k' = k0 ∧ j' = j + 1 ∧ ls' = ls ∧ b' = (b.1 - mc, b.2 - ms) ∧ M' = M ∧ st = as.reverse ++ st' ∧ as.length = n ∧ st'.length ≤ 4 ∧ mc ≤ b.1 ∧ ms ≤ b.2 ∧ (flL as).length ≤ mx ∧ (∀ ci, rc = some ci → ∃ a as2, as = vR (some a) :: as2 ∧ kd M.1 a = ci) := by
  unfold mInv at h
  obtain ⟨hg, h⟩ := gd_inv h
  simp only [Bool.and_eq_true, decide_eq_true_eq] at hg
  obtain ⟨⟨⟨⟨⟨g1, g2⟩, g3⟩, g4⟩, g5⟩, g6⟩ := hg
  cases h
  refine ⟨rfl, rfl, rfl, rfl, rfl, ?_, ?_, g2, g3, g4, g5, ?_⟩
  · rw [List.reverse_reverse, List.take_append_drop]
  · rw [List.length_reverse, List.length_take]; omega
  · intro ci hci
    subst hci
    simp only at g6
    split at g6
    · rename_i a r hr; exact ⟨a, r, hr, of_decide_eq_true g6⟩
    · cases g6
theorem okInv_of {o : Op} (h : okInv k o idx = true) : 0 < n0 o ∧ n0 o < 224 ∧ ((n5 o = 1 ∧ (idx, n0 o) ∈ nlT.getD (owK k) []) ∨ (n5 o ≠ 1 ∧ (idx, n0 o) ∈ mlT.getD (owK k) [])) ∧ (n3 o, n4 o) = buK (n0 o) ∧ dpK (n0 o) + 1 ≤ dpK k ∧ n6 o = mxK (n0 o) := by
  unfold okInv isMet at h
  simp only [Bool.and_eq_true, decide_eq_true_eq] at h
  obtain ⟨⟨⟨⟨⟨h1, h2⟩, h3⟩, h4⟩, h5⟩, h6⟩ := h
  refine ⟨h1, h2, ?_, h4, h5, h6⟩
  by_cases hn : n5 o = 1
  · rw [if_pos hn] at h3; exact Or.inl ⟨hn, List.contains_iff_mem.mp h3⟩
  · rw [if_neg hn] at h3; exact Or.inr ⟨hn, List.contains_iff_mem.mp h3⟩
theorem mxK_le : ∀ k, k < 224 → mxK k ≤ 9 := by decide +kernel
/-- what a call takes of the caller's room -/
theorem room_call {k' : Nat} (hC : Cx D p R s m args meth c k) (hd : dpK k' + 1 ≤ dpK k) (hk : k' < 224) : (rmK k').frames + 1 ≤ R.frames ∧ 8 + (mxK k' + 11) + (rmK k').locals ≤ R.locals := by
  obtain ⟨hx, hb, hml, hown, hts, hK, hnm, hf1, hf2⟩ := hC
  have := mxK_le k' hk
  refine ⟨by show dpK k' + 1 ≤ _; omega, ?_⟩
  show 8 + (mxK k' + 11) + 28 * dpK k' ≤ R.locals
  have : 28 * (dpK k' + 1) ≤ 28 * dpK k := Nat.mul_le_mul_left 28 hd
  omega
theorem call_B {k' : Nat} (hC : Cx D p R s m args meth c k) (h0 : 0 < k') (hk : k' < 224) (hd : dpK k' + 1 ≤ dpK k) (hl : (idx, k') ∈ mlT.getD (owK k) []) : CallB R s args (cnm (owK k)) idx (yK k') (cK k') (mxK k') (rtK k') (wsK k') (rmK k') (buK k').1 (buK k').2 (naK k') := by
  have hC2 := hC
  obtain ⟨hx, hb, hml, hown, hts, hK, hnm, hf1, hf2⟩ := hC2
  have hm := mok_all k' h0 hk
  obtain ⟨p1, p2, p3, p4, p5, p6⟩ := mPl_of (mpl_all k' hk)
  exact callB_of (naK k') hts (goodIn_K hm) rfl rfl rfl (by rw [p5]; exact hts _ (ini_ok _ p6)) (hts _ (ml_ok (owK k) _ hl)) ⟨p2, p3, p4⟩ (room_call hC hd hk)
theorem call_N {k' : Nat} (hC : Cx D p R s m args meth c k) (h0 : 0 < k') (hk : k' < 224) (hd : dpK k' + 1 ≤ dpK k) (hl : (idx, k') ∈ nlT.getD (owK k) []) : va_CN R s args (cnm (owK k)) idx (yK k') "DictProof" (cK k') (mxK k') (rtK k') (wsK k') (rmK k') (buK k').1 (buK k').2 (naK k') := by
  have hC2 := hC
  obtain ⟨hx, hb, hml, hown, hts, hK, hnm, hf1, hf2⟩ := hC2
  have hm := mok_all k' h0 hk
  obtain ⟨p1, p2, p3, p4, p5, p6⟩ := mPl_of (mpl_all k' hk)
  exact va_cnB (naK k') hts (goodIn_K hm) rfl rfl rfl (hK.2.1 (owK k) _ hl) (by rw [p5]; exact hts _ (ini_ok _ p6)) ⟨p2, p3, p4⟩ (room_call hC hd hk)
set_option maxHeartbeats 4000000 in
theorem mstep_call {o : Op} {x : Nat × List MV × MC} (h : mstep o j ls st b M = some (Sum.inr (Sum.inl x))) : (∃ i, o.1 = .invokevirtual i) ∨ (∃ i, o.1 = .invokestatic i) ∨ (∃ i, o.1 = .invokespecial i ∧ n5 o ≠ 9) := by
  unfold mstep at h
  split at h
  all_goals first
    | exact Or.inl ⟨_, by assumption⟩
    | exact Or.inr (Or.inl ⟨_, by assumption⟩)
    | (split at h
       · exfalso
         simp only [pR, gd, nx] at h
         repeat' split at h
         all_goals cases h
       · exact Or.inr (Or.inr ⟨_, by assumption, by assumption⟩))
    | (exfalso
       simp only [gtI, gtL, gtR, pI, pI2, pL, pL2, pIL, pQ, pR, pIR, pIIR, pRIR, pLR, pQR, gd, br, cndI, nx, mGet, mPut, mNew, mArr] at h
       repeat' split at h
       all_goals cases h)
    | (exfalso; repeat' split at h
       all_goals cases h)
/-- a call of the mini-machine -/
theorem sim_call {k' : Nat} {as : List MV} {Q' : Option MV → MM → Prop} (hC : Cx D p R s m args meth c k) (hok : okOp k j = true) (hs : mstep (opAt k j) j ls st b M = some (Sum.inr (Sum.inl (k', as, (j', ls', st', b', M')))))
    (hMet : (∀ w ∈ as, vOK w) → (flL as).length ≤ mxK k' → 0 < k' → k' < 224 → Met l (yK k') (wsK k') (rmK k') (PcM g D as M') (fun _ => QcM g D Q') (buK k').1 (buK k').2 (fun q => gB g ≤ q)) (hcont : ∀ v M2, Q' v M2 → Sim g D l p e R s m args below meth c PQ k j' ls' (v.toList ++ st') b' M2) : Sim g D l p e R s m args below meth c PQ k j ls st b M := by
  intro H locs cells slots la hRep hLR hst hlocs hcl hsl
  have hC2 := hC
  obtain ⟨hx, hb, hml, hown, hts, hK, hnm, hf1, hf2⟩ := hC2
  have fin : ∀ (mc ms : Nat), b' = (b.1 - mc, b.2 - ms) → mc ≤ b.1 → ms ≤ b.2 → ls' = ls → pcK k j' = pcK k j + 3 → (∀ w ∈ st', vOK w) → ∀ (v : Option MV) (M2 : MM) (H1 : Heap) (locs1 : List Loc), Q' v M2 → (∀ w, v = some w → vOK w) → Rep g D s M2 H1 → (∀ q ∈ locs1, gB g ≤ q.base) → W p l e R s m args below meth c H1 locs1 (cells + mc) (slots + ms) PQ (F0 m (pcK k j + 3) la ((v.map (cv g)).toList ++ st'.map (cv g))) := by
    intro mc ms hb' hm1 hm2 hls hpc hst2 v M2 H1 locs1 hq hv hR hl1
    subst hb'
    subst hls
    have h3 := hcont v M2 hq H1 locs1 (cells + mc) (slots + ms) la hR hLR (fun w hw => by
      rcases List.mem_append.mp hw with h | h
      · cases v with
        | none => simp at h
        | some x => simp at h; subst h; exact hv _ rfl
      · exact hst2 w h) hl1 (by show cells + mc + (b.1 - mc) ≤ _; omega) (by show slots + ms + (b.2 - ms) ≤ _; omega)
    rw [hpc] at h3
    have e9 : (v.toList ++ st').map (cv g) = (v.map (cv g)).toList ++ st'.map (cv g) := by cases v <;> simp
    rw [e9] at h3
    exact h3
  have hroom : ∀ (x : Nat), st'.length ≤ 4 → 2 * (F0 m x la (st.map (cv g))).monitorRoom + ((st'.map (cv g)).map fun v => v.category).sum ≤ 8 := fun x h4 => by
    refine lv_room (m := m) (pc := x) (ls := la) ?_
    have := cat_sum (st'.map (cv g))
    rw [List.length_map] at this
    omega
  have stackV : ∀ (a : Nat) (as2 : List MV), as = vR (some a) :: as2 → st = as.reverse ++ st' → st.map (cv g) = (as2.map (cv g)).reverse ++ .ref (adr g a) :: st'.map (cv g) := by
    intro a as2 h1 h2
    rw [h2, h1]
    simp [cv, va_rf]
  have hpcU : ∀ U : State, U.heap = H → s.WarmedH U.vm → Rep g D U M U.heap ∧ Kn D U := fun U hU hW => ⟨by rw [hU]; exact hRep.moved hW.alike, hK.moved hW⟩
  rcases mstep_call hs with ⟨idx, hi⟩ | ⟨idx, hi⟩ | ⟨idx, hi, h9⟩
  · obtain ⟨hd, h2⟩ := ok1 hok hi (fun h => by cases h)
    unfold okI at h2
    simp only [hi, Bool.and_eq_true, Bool.not_eq_true', decide_eq_true_eq, fl1] at h2
    obtain ⟨⟨⟨⟨⟨⟨⟨hlen, hpc⟩, hinv⟩, hstt⟩, hna⟩, how⟩, how2⟩, hnn⟩ := h2
    rw [hlen] at hd hpc
    unfold mstep at hs
    simp only [hi] at hs
    obtain ⟨rfl, rfl, rfl, rfl, rfl, hst0, hal, hl4, hm1, hm2, hfl, hrc⟩ := mInv_inv hs
    obtain ⟨h0, hk, hlink, hbu, hdp, hmx⟩ := okInv_of hinv
    obtain ⟨a, as2, has, hka⟩ := hrc _ rfl
    rw [hmx] at hfl
    have hb1 : n3 (opAt k j) = (buK (n0 (opAt k j))).1 := congrArg Prod.fst hbu
    have hb2 : n4 (opAt k j) = (buK (n0 (opAt k j))).2 := congrArg Prod.snd hbu
    have hvas : ∀ w ∈ as, vOK w := fun w hw => hst w (by rw [hst0]; exact List.mem_append_left _ (List.mem_reverse.mpr hw))
    have hM := hMet hvas hfl h0 hk
    have hmok := mok_all _ h0 hk
    rw [mOK, if_neg (by rw [hstt]; decide)] at hmok
    have hsel := hmok.2.2.resolve_left hnn
    have hpl := mPl_of (mpl_all _ hk)
    obtain ⟨en, he, hen1⟩ := kd_ex hka (by omega)
    have hci : en.1 < 10 := by rw [hen1]; exact how2
    obtain ⟨cell, q1, q2, q3, -⟩ := (hRep.1 a en he).1 hci
    have hpre : PreV s H (yK (n0 (opAt k j))).cls (adr g a) (PcM g D as M') (as2.map (cv g)) := by
      refine ⟨PcM.blind as, ⟨cell, q1, by rw [q3]; rfl, ?_⟩, fun U hU hW => ⟨by rw [has]; simp [cv, va_rf], hpcU U hU hW⟩⟩
      rw [hpl.2.2.2.2.1, ← how, ← hen1, q2]
      exact (hK.1.1 en.1 _ (vw_at hci)).2.1
    have hstk := stackV a as2 has hst0
    have hasl : (as2.map (cv g)).length = naK (n0 (opAt k j)) := by
      rw [List.length_map]
      rw [has, List.length_cons, hna] at hal
      omega
    have f9 := fin _ _ rfl hm1 hm2 rfl hpc (fun w hw => hst w (by rw [hst0]; exact List.mem_append_right _ hw))
    rw [hb1] at hm1
    rw [hb2] at hm2
    rw [hb1, hb2] at f9
    rcases hlink with ⟨hn5, hlink⟩ | ⟨hn5, hlink⟩
    · exact run_go (va_runVN ⟨hx, hb, hml, hown, hts⟩ hM ⟨call_N hC h0 hk hdp hlink, hts _ hmok.2.1, hts _ hsel⟩ hpre rfl hasl hLR.2.2.1 hstk (hroom _ hl4) hd ⟨by omega, by omega⟩) hlocs f9
    · exact run_go (va_runV ⟨hx, hb, hml, hown, hts⟩ hM ⟨call_B hC h0 hk hdp hlink, hts _ hmok.2.1, hts _ hsel⟩ hpre rfl hasl hLR.2.2.1 hstk (hroom _ hl4) hd ⟨by omega, by omega⟩) hlocs f9
  · obtain ⟨hd, h2⟩ := ok1 hok hi (fun h => by cases h)
    unfold okI at h2
    simp only [hi, Bool.and_eq_true, decide_eq_true_eq, fl1] at h2
    obtain ⟨⟨⟨⟨hlen, hpc⟩, hinv⟩, hstt⟩, hna⟩ := h2
    rw [hlen] at hd hpc
    unfold mstep at hs
    simp only [hi] at hs
    obtain ⟨rfl, rfl, rfl, rfl, rfl, hst0, hal, hl4, hm1, hm2, hfl, -⟩ := mInv_inv hs
    obtain ⟨h0, hk, hlink, hbu, hdp, hmx⟩ := okInv_of hinv
    rw [hmx] at hfl
    have hb1 : n3 (opAt k j) = (buK (n0 (opAt k j))).1 := congrArg Prod.fst hbu
    have hb2 : n4 (opAt k j) = (buK (n0 (opAt k j))).2 := congrArg Prod.snd hbu
    have hvas : ∀ w ∈ as, vOK w := fun w hw => hst w (by rw [hst0]; exact List.mem_append_left _ (List.mem_reverse.mpr hw))
    have hM := hMet hvas hfl h0 hk
    have hmok := mok_all _ h0 hk
    rw [mOK, if_pos hstt] at hmok
    have hpre : PreS s H (PcM g D as M') (as.map (cv g)) := ⟨PcM.blind as, fun U hU hW => ⟨rfl, hpcU U hU hW⟩⟩
    have hstk : st.map (cv g) = (as.map (cv g)).reverse ++ st'.map (cv g) := by rw [hst0]; simp
    have hasl : (as.map (cv g)).length = naK (n0 (opAt k j)) := by rw [List.length_map, hal, hna]
    have f9 := fin _ _ rfl hm1 hm2 rfl hpc (fun w hw => hst w (by rw [hst0]; exact List.mem_append_right _ hw))
    rw [hb1] at hm1
    rw [hb2] at hm2
    rw [hb1, hb2] at f9
    rcases hlink with ⟨hn5, hlink⟩ | ⟨hn5, hlink⟩
    · exact run_go (va_runSN ⟨hx, hb, hml, hown, hts⟩ hM ⟨call_N hC h0 hk hdp hlink, hts _ hmok.2, trivial⟩ hpre rfl hasl hLR.2.2.1 hstk (hroom _ hl4) hd ⟨by omega, by omega⟩) hlocs f9
    · exact run_go (va_runS ⟨hx, hb, hml, hown, hts⟩ hM ⟨call_B hC h0 hk hdp hlink, hts _ hmok.2⟩ hpre rfl hasl hLR.2.2.1 hstk (hroom _ hl4) hd ⟨by omega, by omega⟩) hlocs f9
  · obtain ⟨hd, h2⟩ := ok1 hok hi (fun h => by cases h)
    unfold okI at h2
    simp only [hi, Bool.and_eq_true, decide_eq_true_eq, fl1] at h2
    obtain ⟨⟨hlen, hpc⟩, h2⟩ := h2
    rw [hlen] at hd hpc
    rw [if_neg h9] at h2
    simp only [Bool.and_eq_true, Bool.not_eq_true', decide_eq_true_eq] at h2
    obtain ⟨⟨⟨⟨hinv, hstt⟩, hna⟩, hnn⟩, hret⟩ := h2
    unfold mstep at hs
    simp only [hi] at hs
    rw [if_neg h9] at hs
    obtain ⟨rfl, rfl, rfl, rfl, rfl, hst0, hal, hl4, hm1, hm2, hfl, hrc⟩ := mInv_inv hs
    obtain ⟨h0, hk, hlink, hbu, hdp, hmx⟩ := okInv_of hinv
    obtain ⟨a, as2, has, hka⟩ := hrc _ rfl
    rw [hmx] at hfl
    have hb1 : n3 (opAt k j) = (buK (n0 (opAt k j))).1 := congrArg Prod.fst hbu
    have hb2 : n4 (opAt k j) = (buK (n0 (opAt k j))).2 := congrArg Prod.snd hbu
    have hvas : ∀ w ∈ as, vOK w := fun w hw => hst w (by rw [hst0]; exact List.mem_append_left _ (List.mem_reverse.mpr hw))
    have hM := hMet hvas hfl h0 hk
    have hmok := mok_all _ h0 hk
    rw [mOK, if_neg (by rw [hstt]; decide)] at hmok
    have hstk := stackV a as2 has hst0
    have hpre : PreS s H (PcM g D as M') (.ref (adr g a) :: as2.map (cv g)) := ⟨PcM.blind as, fun U hU hW => ⟨by rw [has]; simp [cv, va_rf], hpcU U hU hW⟩⟩
    have hasl : (as2.map (cv g)).length = naK (n0 (opAt k j)) := by
      rw [List.length_map]
      rw [has, List.length_cons, hna] at hal
      omega
    have f9 := fin _ _ rfl hm1 hm2 rfl hpc (fun w hw => hst w (by rw [hst0]; exact List.mem_append_right _ hw))
    rw [hb1] at hm1
    rw [hb2] at hm2
    rw [hb1, hb2] at f9
    rcases hlink with ⟨hn5, hlink⟩ | ⟨hn5, hlink⟩
    · have hcn := call_N hC h0 hk hdp hlink
      rw [hret] at hcn
      exact run_go (va_runIN ⟨hx, hb, hml, hown, hts⟩ hM ⟨hcn, hnn, hts _ hmok.2.1⟩ hpre rfl hasl hLR.2.2.1 hstk (hroom _ hl4) hd ⟨by omega, by omega⟩) hlocs f9
    · have hcn := call_B hC h0 hk hdp hlink
      rw [hret] at hcn
      exact run_go (va_runI ⟨hx, hb, hml, hown, hts⟩ hM ⟨hcn, hnn, hts _ hmok.2.1⟩ hpre rfl hasl hLR.2.2.1 hstk (hroom _ hl4) hd ⟨by omega, by omega⟩) hlocs f9
end SIM6
