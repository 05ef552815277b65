-- ===== arrays =====
theorem ix_of {i : Int} (hr : inR i) : (Int32.ofInt i).toNatClampNeg = i.toNat := by
  show ((Int32.ofInt i).toInt).toNat = i.toNat
  rw [toI_of hr]
theorem inB_of {S : MS} {a : Nat} {i : Int} (h : inB S a i = true) : 0 ≤ i ∧ i < (ln S a : Int) := by
  unfold inB at h
  simp only [Bool.and_eq_true, decide_eq_true_eq] at h
  exact h
theorem inX {S : MS} {a n : Nat} {i : Int} (hr : inR i) (h : inB S a i = true) (hn : ln S a ≤ n) : ¬ (Int32.ofInt i < 0 ∨ n ≤ (Int32.ofInt i).toNatClampNeg) := by
  obtain ⟨h1, h2⟩ := inB_of h
  rw [ix_of hr, show (0 : Int32) = Int32.ofInt 0 from ofi_0.symm, oi_lt hr inR_0]
  omega
theorem arr_at {g : GA} {D : va_G} {s : State} {M : MM} {H : Heap} {a kk : Nat} (hRep : Rep g D s M H) (hk : kd M.1 a = kk) (h1 : 19 ≤ kk) (h2 : kk ≤ 27) : ∃ cell : Cell, H[adr g a]? = some cell ∧ s.isArrayOf cell (aty kk) ∧ cell.vm ≠ .unknown ∧ (ln M.1 a ≤ cell.slots.size ∧ cell.slots.size.toInt32 = Int32.ofNat (ln M.1 a)) ∧ (∀ j, j < ln M.1 a → cell.slots[j]? = some (elv g M a kk j)) ∧ (match aty kk with
  | .object C => va_RA s cell.cls (.object C)
  | _ => True) := by
  obtain ⟨en, he, rfl⟩ := kd_ex hk (by omega)
  rw [ln_at he]
  exact ((hRep.1 a en he).2.1 (by omega)).2
theorem elv_i {g : GA} {M : MM} {a kk : Nat} (h : kk ≤ 22) {i : Int} (h0 : 0 ≤ i) : elv g M a kk i.toNat = cv g (vI (M.2.2.1 a i)) := by
  unfold elv
  rw [if_pos h, show ((i.toNat : Nat) : Int) = i by omega]
  rfl
theorem elv_q {g : GA} {M : MM} {a kk : Nat} (h : 23 ≤ kk) {i : Int} (h0 : 0 ≤ i) : elv g M a kk i.toNat = cv g (vR (if frK kk = true then fz M.1 a i.toNat else M.2.1 a i)) := by
  unfold elv
  rw [if_neg (by omega), show ((i.toNat : Nat) : Int) = i by omega]
  split <;> rfl
section SIM4
variable {g : GA} {D : va_G} {l : Launch} {p : Program} {e : Env} {R : Room} {s : State} {m : MethodId} {args : Array Value} {below : List Frame} {meth : Method} {c : Code} {PQ : State → Prop} {k j j' : Nat} {ls st ls' st' : List MV} {b b' : Nat × Nat} {M M' : MM} {H : Heap} {locs : List Loc} {cells slots : Nat} {la : Array Slot} {rest : List Value} {pc a ci fk idx : Nat}
theorem si_iaload (hC : Cx D p R s m args meth c k) (hok : okOp k j = true) (hi : (opAt k j).1 = .iaload) (hs : (pIR st fun a i r => gd ((decide (kd M.1 a = 20) || decide (kd M.1 a = 19)) && inB M.1 a i) (nx (j + 1) ls (vI (M.2.2.1 a i) :: r) b M)) = some (Sum.inl (j', ls', st', b', M'))) (IH : Sim g D l p e R s m args below meth c PQ k j' ls' st' b' M') : Sim g D l p e R s m args below meth c PQ k j ls st b M := by
  obtain ⟨hd, h2⟩ := ok1 hok hi (fun h => by cases h)
  unfold okI at h2
  simp only [hi, Bool.and_eq_true, decide_eq_true_eq, fl1] at h2
  obtain ⟨hlen, hpc⟩ := h2
  rw [hlen] at hd hpc
  obtain ⟨a, i, r, rfl, hs⟩ := pIR_inv hs
  obtain ⟨hg, hs⟩ := gd_inv hs
  cases hs
  simp only [Bool.and_eq_true, Bool.or_eq_true, decide_eq_true_eq] at hg
  intro H locs cells slots la hRep hLR hst hlocs hcl hsl
  obtain ⟨hx, hb, hml, hown, hts, hK, hnm, hf1, hf2⟩ := hC
  have hir : inR i := hst (vI i) List.mem_cons_self
  have h3 := IH H locs cells slots la hRep hLR (vok_cons (vok_fI hRep _) (fun w hw => hst w (List.mem_cons_of_mem _ (List.mem_cons_of_mem _ hw)))) hlocs hcl hsl
  rw [hpc] at h3
  have hty : aty (kd M.1 a) = .int := by rcases hg.1 with h | h <;> rw [h] <;> rfl
  obtain ⟨cell, c1, c2, c3, c4, c5, -⟩ := arr_at (a := a) hRep rfl (by omega) (by omega)
  rw [hty] at c2
  obtain ⟨b1, b2⟩ := inB_of hg.2
  refine W.iald (v := cv g (vI (M.2.2.1 a i))) hx hb c1 c2 c3 (inX hir hg.2 c4.1) ?_ rfl rfl hd h3
  rw [ix_of hir, c5 i.toNat (by omega), elv_i (by omega) b1]
theorem si_baload (hC : Cx D p R s m args meth c k) (hok : okOp k j = true) (hi : (opAt k j).1 = .baload) (hs : (pIR st fun a i r => gd ((decide (kd M.1 a = 21) || decide (kd M.1 a = 22)) && inB M.1 a i) (nx (j + 1) ls (vI (M.2.2.1 a i) :: r) b M)) = some (Sum.inl (j', ls', st', b', M'))) (IH : Sim g D l p e R s m args below meth c PQ k j' ls' st' b' M') : Sim g D l p e R s m args below meth c PQ k j ls st b M := by
  obtain ⟨hd, h2⟩ := ok1 hok hi (fun h => by cases h)
  unfold okI at h2
  simp only [hi, Bool.and_eq_true, decide_eq_true_eq, fl1] at h2
  obtain ⟨hlen, hpc⟩ := h2
  rw [hlen] at hd hpc
  obtain ⟨a, i, r, rfl, hs⟩ := pIR_inv hs
  obtain ⟨hg, hs⟩ := gd_inv hs
  cases hs
  simp only [Bool.and_eq_true, Bool.or_eq_true, decide_eq_true_eq] at hg
  intro H locs cells slots la hRep hLR hst hlocs hcl hsl
  obtain ⟨hx, hb, hml, hown, hts, hK, hnm, hf1, hf2⟩ := hC
  have hir : inR i := hst (vI i) List.mem_cons_self
  have h3 := IH H locs cells slots la hRep hLR (vok_cons (vok_fI hRep _) (fun w hw => hst w (List.mem_cons_of_mem _ (List.mem_cons_of_mem _ hw)))) hlocs hcl hsl
  rw [hpc] at h3
  obtain ⟨cell, c1, c2, c3, c4, c5, -⟩ := arr_at (a := a) hRep rfl (by omega) (by omega)
  obtain ⟨b1, b2⟩ := inB_of hg.2
  have hv : cell.slots[(Int32.ofInt i).toNatClampNeg]? = some (cv g (vI (M.2.2.1 a i))) := by rw [ix_of hir, c5 i.toNat (by omega), elv_i (by omega) b1]
  rcases hg.1 with h | h
  · rw [h] at c2
    exact W.bald (v := cv g (vI (M.2.2.1 a i))) hx hb c1 c2 c3 (inX hir hg.2 c4.1) hv rfl rfl hd h3
  · rw [h] at c2
    exact W.zald (v := cv g (vI (M.2.2.1 a i))) hx hb c1 c2 c3 (inX hir hg.2 c4.1) hv rfl rfl hd h3
theorem aty_ref {kk : Nat} (h1 : 23 ≤ kk) (h2 : kk ≤ 27) : (aty kk).isReference = true := by
  have : kk = 23 ∨ kk = 24 ∨ kk = 25 ∨ kk = 26 ∨ kk = 27 := by omega
  rcases this with rfl | rfl | rfl | rfl | rfl <;> rfl
theorem si_aaload (hC : Cx D p R s m args meth c k) (hok : okOp k j = true) (hi : (opAt k j).1 = .aaload) (hs : (pIR st fun a i r => gd (decide (23 ≤ kd M.1 a) && decide (kd M.1 a ≤ 27) && inB M.1 a i) (nx (j + 1) ls (vR (if frK (kd M.1 a) = true then fz M.1 a i.toNat else M.2.1 a i) :: r) b M)) = some (Sum.inl (j', ls', st', b', M'))) (IH : Sim g D l p e R s m args below meth c PQ k j' ls' st' b' M') : Sim g D l p e R s m args below meth c PQ k j ls st b M := by
  obtain ⟨hd, h2⟩ := ok1 hok hi (fun h => by cases h)
  unfold okI at h2
  simp only [hi, Bool.and_eq_true, decide_eq_true_eq, fl1] at h2
  obtain ⟨hlen, hpc⟩ := h2
  rw [hlen] at hd hpc
  obtain ⟨a, i, r, rfl, hs⟩ := pIR_inv hs
  obtain ⟨hg, hs⟩ := gd_inv hs
  cases hs
  simp only [Bool.and_eq_true, decide_eq_true_eq] at hg
  intro H locs cells slots la hRep hLR hst hlocs hcl hsl
  obtain ⟨hx, hb, hml, hown, hts, hK, hnm, hf1, hf2⟩ := hC
  have hir : inR i := hst (vI i) List.mem_cons_self
  have h3 := IH H locs cells slots la hRep hLR (vok_cons trivial (fun w hw => hst w (List.mem_cons_of_mem _ (List.mem_cons_of_mem _ hw)))) hlocs hcl hsl
  rw [hpc] at h3
  obtain ⟨cell, c1, c2, c3, c4, c5, -⟩ := arr_at (a := a) hRep rfl (by omega) (by omega)
  obtain ⟨b1, b2⟩ := inB_of hg.2
  refine W.aald (v := cv g (vR (if frK (kd M.1 a) = true then fz M.1 a i.toNat else M.2.1 a i))) hx hb c1 c2 (aty_ref hg.1.1 hg.1.2) c3 (inX hir hg.2 c4.1) ?_ rfl rfl hd h3
  rw [ix_of hir, c5 i.toNat (by omega), elv_q hg.1.1 b1]
theorem si_arraylength (hC : Cx D p R s m args meth c k) (hok : okOp k j = true) (hi : (opAt k j).1 = .arraylength) (hs : (pR st fun a r => gd (decide (19 ≤ kd M.1 a) && decide (kd M.1 a ≤ 22)) (nx (j + 1) ls (vI (ln M.1 a) :: r) b M)) = some (Sum.inl (j', ls', st', b', M'))) (IH : Sim g D l p e R s m args below meth c PQ k j' ls' st' b' M') : Sim g D l p e R s m args below meth c PQ k j ls st b M := by
  obtain ⟨hd, h2⟩ := ok1 hok hi (fun h => by cases h)
  unfold okI at h2
  simp only [hi, Bool.and_eq_true, decide_eq_true_eq, fl1] at h2
  obtain ⟨hlen, hpc⟩ := h2
  rw [hlen] at hd hpc
  obtain ⟨a, r, rfl, hs⟩ := pR_inv hs
  obtain ⟨hg, hs⟩ := gd_inv hs
  cases hs
  simp only [Bool.and_eq_true, decide_eq_true_eq] at hg
  intro H locs cells slots la hRep hLR hst hlocs hcl hsl
  obtain ⟨hx, hb, hml, hown, hts, hK, hnm, hf1, hf2⟩ := hC
  obtain ⟨en, he, -⟩ := kd_ex (S := M.1) (a := a) rfl (by omega)
  have hln : ln M.1 a ≤ 100000 := by rw [ln_at he]; exact (hRep.1 a en he).2.2
  have h3 := IH H locs cells slots la hRep hLR (vok_cons (show inR _ by unfold inR; omega) (fun w hw => hst w (List.mem_cons_of_mem _ hw))) hlocs hcl hsl
  rw [hpc] at h3
  obtain ⟨cell, c1, c2, c3, c4, c5, -⟩ := arr_at (a := a) hRep rfl (by omega) (by omega)
  refine W.alen (n := Int32.ofInt (ln M.1 a : Int)) hx hb c1 c2 ?_ rfl rfl hd h3
  rw [c4.2]
  rfl
theorem si_getstatic (hC : Cx D p R s m args meth c k) (hok : okOp k j = true) (hi : (opAt k j).1 = .getstatic idx) (hs : nx (j + 1) ls (vR (some (n0 (opAt k j))) :: st) b M = some (Sum.inl (j', ls', st', b', M'))) (IH : Sim g D l p e R s m args below meth c PQ k j' ls' st' b' M') : Sim g D l p e R s m args below meth c PQ k j ls st b M := by
  obtain ⟨hd, h2⟩ := ok1 hok hi (fun h => by cases h)
  unfold okI at h2
  simp only [hi, Bool.and_eq_true, Bool.or_eq_true, decide_eq_true_eq, fl1] at h2
  obtain ⟨⟨⟨hlen, hpc⟩, hmem⟩, hn⟩ := h2
  rw [hlen] at hd hpc
  cases hs
  intro H locs cells slots la hRep hLR hst hlocs hcl hsl
  obtain ⟨hx, hb, hml, hown, hts, hK, hnm, hf1, hf2⟩ := hC
  have h3 := IH H locs cells slots la hRep hLR (vok_cons trivial hst) hlocs hcl hsl
  rw [hpc] at h3
  have hl := hts _ (st_ok (owK k) _ (List.contains_iff_mem.mp hmem))
  rcases hn with hn | hn
  · rw [hn] at hl h3
    obtain ⟨cf, kf, fi, f, a, cell, g1, g2, g3, g4, g5, g6, g7, g8⟩ := hRep.2.2.2.2.2.2.1
    exact W.gets hx hb hown hl g1 g2 g3 g4 g5 (fun q => by rw [q] at g6; cases g6) g7 rfl hd h3
  · rw [hn] at hl h3
    obtain ⟨cf, kf, fi, f, a, cell, g1, g2, g3, g4, g5, g6, g7, g8⟩ := hRep.2.2.2.2.2.2.2
    exact W.gets hx hb hown hl g1 g2 g3 g4 g5 (fun q => by rw [q] at g6; cases g6) g7 rfl hd h3
/-- the memory behind a store into an array -/
theorem Rep.ast {kk : Nat} (hRep : Rep g D s M H) (hk : kd M.1 a = kk) (h1 : 20 ≤ kk) (h2 : kk ≤ 27) {H1 : Heap} {i : Nat} {v : Value} {M2 : MM} {cell : Cell} (hcell : H[adr g a]? = some cell) (he : H1[adr g a]? = some (cell.setSlot i v)) (hz : H1.size = H.size) (hq : ∀ q, q ≠ adr g a → H1[q]? = H[q]?) (hi : i < ln M.1 a)
    (hl2 : M2.1.length = M.1.length) (hS2 : ∀ b, b ≠ a → M2.1[b]? = M.1[b]?) (hR2 : ∀ b, b ≠ a → M2.2.1 b = M.2.1 b) (hI2 : ∀ b, b ≠ a → M2.2.2.1 b = M.2.2.1 b) (hJ2 : ∀ b, b ≠ a → M2.2.2.2 b = M.2.2.2 b) (hrg : ∀ i, inR (M2.2.2.1 a i)) (hen : ∀ en, M.1[a]? = some en → ∃ en2, M2.1[a]? = some en2 ∧ en2.1 = en.1 ∧ en2.2.1 = en.2.1)
    (hv : elv g M2 a kk i = v) (hf : ∀ z, z < ln M.1 a → z ≠ i → elv g M2 a kk z = elv g M a kk z) : Rep g D s M2 H1 := by
  have ha3 : 3 ≤ a := hRep.hi hk (by omega)
  refine hRep.put ha3 hz hq hl2 hS2 hR2 hI2 hJ2 hrg (fun en2 hen2 => ?_)
  obtain ⟨en, he0, hen1⟩ := kd_ex hk (by omega)
  obtain ⟨en3, h7, h8, h9⟩ := hen en he0
  cases hen2.symm.trans h7
  have hc := hRep.1 a en he0
  refine ⟨fun h10 => absurd h10 (by rw [h8, hen1]; omega), fun h10 => ⟨by rw [h8, hen1]; omega, ?_⟩, by rw [h9]; exact hc.2.2⟩
  have h11 := (hc.2.1 (by rw [hen1]; omega)).2
  rw [h8, h9]
  refine h11.set (i := i) (v := v) (fun c2 hc2 => ?_) (by rw [← ln_at he0]; exact hi) (by rw [hen1]; exact hv) (fun z hz hne => by rw [hen1]; exact hf z (by rw [ln_at he0]; exact hz) hne)
  cases hcell.symm.trans hc2
  exact he
theorem loc_ok (hRep : Rep g D s M H) (hlocs : ∀ q ∈ locs, gB g ≤ q.base) (ha : 3 ≤ a) (i : Nat) : ∀ q ∈ locs ++ [⟨adr g a, i⟩], gB g ≤ q.base := fun q hq => by
  rcases List.mem_append.mp hq with h | h
  · exact hlocs q h
  · rw [List.mem_singleton.mp h]
    show gB g ≤ adr g a
    rw [adr_hi ha]; omega
theorem si_iastore (hC : Cx D p R s m args meth c k) (hok : okOp k j = true) (hi : (opAt k j).1 = .iastore) (hs : (pIIR st fun a i z r => gd (decide (kd M.1 a = 20) && inB M.1 a i) (nx (j + 1) ls r b (M.1, M.2.1, upM M.2.2.1 a i z, M.2.2.2))) = some (Sum.inl (j', ls', st', b', M'))) (IH : Sim g D l p e R s m args below meth c PQ k j' ls' st' b' M') : Sim g D l p e R s m args below meth c PQ k j ls st b M := by
  obtain ⟨hd, h2⟩ := ok1 hok hi (fun h => by cases h)
  unfold okI at h2
  simp only [hi, Bool.and_eq_true, decide_eq_true_eq, fl1] at h2
  obtain ⟨hlen, hpc⟩ := h2
  rw [hlen] at hd hpc
  obtain ⟨a, i, z, r, rfl, hs⟩ := pIIR_inv hs
  obtain ⟨hg, hs⟩ := gd_inv hs
  cases hs
  simp only [Bool.and_eq_true, decide_eq_true_eq] at hg
  intro H locs cells slots la hRep hLR hst hlocs hcl hsl
  obtain ⟨hx, hb, hml, hown, hts, hK, hnm, hf1, hf2⟩ := hC
  have hzr : inR z := hst (vI z) List.mem_cons_self
  have hir : inR i := hst (vI i) (List.mem_cons_of_mem _ List.mem_cons_self)
  obtain ⟨cell, c1, c2, c3, c4, c5, -⟩ := arr_at hRep hg.1 (by omega) (by omega)
  obtain ⟨b1, b2⟩ := inB_of hg.2
  refine W.iast hx hb c1 c2 c3 (inX hir hg.2 c4.1) rfl rfl hd (fun H1 e1 e2 e3 => ?_)
  rw [ix_of hir] at e1 ⊢
  have hRep2 : Rep g D s (M.1, M.2.1, upM M.2.2.1 a i z, M.2.2.2) H1 := by
    refine hRep.ast hg.1 (by omega) (by omega) c1 e1 e2 e3 (by omega) rfl (fun _ _ => rfl) (fun _ _ => rfl) (fun b hb => upM_ne hb) (fun _ _ => rfl) (fun q => ?_) (fun en he => ⟨en, he, rfl, rfl⟩) ?_ (fun q hq hne => ?_)
    · show inR (upM M.2.2.1 a i z a q)
      rw [upM_eq]; unfold upr; split
      · exact hzr
      · exact hRep.2.2.2.2.1 a q
    · rw [elv_i (by omega) b1]
      show cv g (vI (upM M.2.2.1 a i z a i)) = _
      rw [upM_eq, upr_eq]; rfl
    · unfold elv
      rw [if_pos (by omega), if_pos (by omega)]
      show Value.int (Int32.ofInt (upM M.2.2.1 a i z a q)) = _
      rw [upM_eq, upr_ne (by omega)]
  have h3 := IH H1 _ cells slots la hRep2 hLR (fun w hw => hst w (List.mem_cons_of_mem _ (List.mem_cons_of_mem _ (List.mem_cons_of_mem _ hw)))) (loc_ok hRep hlocs (hRep.hi hg.1 (by omega)) i.toNat) hcl hsl
  rw [hpc] at h3
  exact h3
theorem ib8_01 {z : Int} (h : z01 z = true) : narrow .boolean (.int (Int32.ofInt z)) = .int (Int32.ofInt (ib8 z)) := by
  unfold z01 at h
  simp only [Bool.or_eq_true, decide_eq_true_eq] at h
  rcases h with rfl | rfl <;> decide +kernel
theorem si_bastore (hC : Cx D p R s m args meth c k) (hok : okOp k j = true) (hi : (opAt k j).1 = .bastore) (hs : (pIIR st fun a i z r => gd ((decide (kd M.1 a = 21) || (decide (kd M.1 a = 22) && z01 z)) && inB M.1 a i) (nx (j + 1) ls r b (M.1, M.2.1, upM M.2.2.1 a i (ib8 z), M.2.2.2))) = some (Sum.inl (j', ls', st', b', M'))) (IH : Sim g D l p e R s m args below meth c PQ k j' ls' st' b' M') : Sim g D l p e R s m args below meth c PQ k j ls st b M := by
  obtain ⟨hd, h2⟩ := ok1 hok hi (fun h => by cases h)
  unfold okI at h2
  simp only [hi, Bool.and_eq_true, decide_eq_true_eq, fl1] at h2
  obtain ⟨hlen, hpc⟩ := h2
  rw [hlen] at hd hpc
  obtain ⟨a, i, z, r, rfl, hs⟩ := pIIR_inv hs
  obtain ⟨hg, hs⟩ := gd_inv hs
  cases hs
  simp only [Bool.and_eq_true, Bool.or_eq_true, decide_eq_true_eq] at hg
  intro H locs cells slots la hRep hLR hst hlocs hcl hsl
  obtain ⟨hx, hb, hml, hown, hts, hK, hnm, hf1, hf2⟩ := hC
  have hir : inR i := hst (vI i) (List.mem_cons_of_mem _ List.mem_cons_self)
  have hkk : kd M.1 a = 21 ∨ kd M.1 a = 22 := by rcases hg.1 with h | h; exact Or.inl h; exact Or.inr h.1
  obtain ⟨cell, c1, c2, c3, c4, c5, -⟩ := arr_at (a := a) hRep rfl (by omega) (by omega)
  obtain ⟨b1, b2⟩ := inB_of hg.2
  have key : ∀ H1 : Heap, H1[adr g a]? = some (cell.setSlot (Int32.ofInt i).toNatClampNeg (.int (Int32.ofInt (ib8 z)))) → H1.size = H.size → (∀ q, q ≠ adr g a → H1[q]? = H[q]?) → W p l e R s m args below meth c H1 (locs ++ [⟨adr g a, (Int32.ofInt i).toNatClampNeg⟩]) cells slots PQ (F0 m (pcK k j + 1) la (st'.map (cv g))) := by
    intro H1 e1 e2 e3
    rw [ix_of hir] at e1 ⊢
    have hRep2 : Rep g D s (M.1, M.2.1, upM M.2.2.1 a i (ib8 z), M.2.2.2) H1 := by
      refine hRep.ast rfl (by omega) (by omega) c1 e1 e2 e3 (by omega) rfl (fun _ _ => rfl) (fun _ _ => rfl) (fun b hb => upM_ne hb) (fun _ _ => rfl) (fun q => ?_) (fun en he => ⟨en, he, rfl, rfl⟩) ?_ (fun q hq hne => ?_)
      · show inR (upM M.2.2.1 a i (ib8 z) a q)
        rw [upM_eq]; unfold upr; split
        · exact inR_t _
        · exact hRep.2.2.2.2.1 a q
      · rw [elv_i (by omega) b1]
        show cv g (vI (upM M.2.2.1 a i (ib8 z) a i)) = _
        rw [upM_eq, upr_eq]; rfl
      · unfold elv
        rw [if_pos (by omega), if_pos (by omega)]
        show Value.int (Int32.ofInt (upM M.2.2.1 a i (ib8 z) a q)) = _
        rw [upM_eq, upr_ne (by omega)]
    have h3 := IH H1 _ cells slots la hRep2 hLR (fun w hw => hst w (List.mem_cons_of_mem _ (List.mem_cons_of_mem _ (List.mem_cons_of_mem _ hw)))) (loc_ok hRep hlocs (hRep.hi (a := a) rfl (by omega)) i.toNat) hcl hsl
    rw [hpc] at h3
    exact h3
  rcases hg.1 with h | h
  · rw [h] at c2
    refine W.bast hx hb c1 c2 c3 (inX hir hg.2 c4.1) rfl rfl hd (fun H1 e1 e2 e3 => key H1 ?_ e2 e3)
    rw [e1, show narrow .byte (.int (Int32.ofInt z)) = .int (Int32.ofInt (ib8 z)) by unfold ib8; rw [oi_t]; rfl]
  · rw [h.1] at c2
    refine W.zast hx hb c1 c2 c3 (inX hir hg.2 c4.1) rfl rfl hd (fun H1 e1 e2 e3 => key H1 ?_ e2 e3)
    rw [e1, ib8_01 h.2]
end SIM4
