-- ===== branches, fields, arrays of the mini-machine are the JVM's =====
theorem br_inv {cn : Bool} {j1 j2 : Nat} {ls st : List MV} {b : Nat × Nat} {M : MM} {j' : Nat} {ls' st' : List MV} {b' : Nat × Nat} {M' : MM} (h : br cn j1 j2 ls st b M = some (Sum.inl (j', ls', st', b', M'))) : j' = (if cn = true then j1 else j2) ∧ ls' = ls ∧ st' = st ∧ b' = b ∧ M' = M := by
  unfold br at h
  split at h <;> (rename_i hc; cases h; simp [hc])
section SIM2
variable {g : GA} {D : va_G} {l : Launch} {p : Program} {e : Env} {R : Room} {s : State} {m : MethodId} {args : Array Value} {below : List Frame} {meth : Method} {c : Code} {PQ : State → Prop} {k j j' : Nat} {ls st ls' st' : List MV} {b b' : Nat × Nat} {M M' : MM}
theorem si_if_icmp {cd : Jvm.ClassFile.Cond} {off : Int} (hC : Cx D p R s m args meth c k) (hok : okOp k j = true) (hi : (opAt k j).1 = .if_icmp cd off) (hs : (pI2 st fun x y r => cndI cd x y (tg (opAt k j)) (j + 1) ls r b M) = some (Sum.inl (j', ls', st', b', M'))) (IH : Sim g D l p e R s m args below meth c PQ k j' ls' st' b' M') : Sim g D l p e R s m args below meth c PQ k j ls st b M := by
  obtain ⟨hd, h2⟩ := ok1 hok hi (fun h => by cases h)
  unfold okI at h2
  simp only [hi, Bool.and_eq_true, decide_eq_true_eq, fl1] at h2
  obtain ⟨⟨hlen, hpc⟩, ht⟩ := h2
  rw [hlen] at hd hpc
  obtain ⟨x, y, r, rfl, hs⟩ := pI2_inv hs
  intro H locs cells slots la hRep hLR hst hlocs hcl hsl
  obtain ⟨hx, hb, hml, hown, hts, hK, hnm, hf1, hf2⟩ := hC
  have hyr : inR y := hst (vI y) List.mem_cons_self
  have hxr : inR x := hst (vI x) (List.mem_cons_of_mem _ List.mem_cons_self)
  have hst2 : ∀ w ∈ r, vOK w := fun w hw => hst w (List.mem_cons_of_mem _ (List.mem_cons_of_mem _ hw))
  unfold cndI at hs
  cases cd with
  | eq =>
    obtain ⟨e1, rfl, rfl, rfl, rfl⟩ := br_inv hs
    have h3 := IH H locs cells slots la hRep hLR hst2 hlocs hcl hsl
    have h0 : (0 : Int32) = Int32.ofInt 0 := ofi_0.symm
    refine lv_icmp_eq hx hb hd ht (fun q => ?_) (fun q => ?_)
    · have hc : (x = y) := by
        exact (oi_inj hxr hyr).mp q
      rw [show j' = tg (opAt k j) by rw [e1]; simp [hc]] at h3
      exact h3
    · have hc : ¬ (x = y) := by
        exact fun z => q ((oi_inj hxr hyr).mpr z)
      rw [show j' = j + 1 by rw [e1]; simp [hc]] at h3
      rw [hpc] at h3
      exact h3
  | ne =>
    obtain ⟨e1, rfl, rfl, rfl, rfl⟩ := br_inv hs
    have h3 := IH H locs cells slots la hRep hLR hst2 hlocs hcl hsl
    have h0 : (0 : Int32) = Int32.ofInt 0 := ofi_0.symm
    refine lv_icmp_ne hx hb hd ht (fun q => ?_) (fun q => ?_)
    · have hc : ¬ (x = y) := by
        exact fun z => q ((oi_inj hxr hyr).mpr z)
      rw [show j' = tg (opAt k j) by rw [e1]; simp [hc]] at h3
      exact h3
    · have hc : (x = y) := by
        exact (oi_inj hxr hyr).mp q
      rw [show j' = j + 1 by rw [e1]; simp [hc]] at h3
      rw [hpc] at h3
      exact h3
  | lt =>
    obtain ⟨e1, rfl, rfl, rfl, rfl⟩ := br_inv hs
    have h3 := IH H locs cells slots la hRep hLR hst2 hlocs hcl hsl
    have h0 : (0 : Int32) = Int32.ofInt 0 := ofi_0.symm
    refine lv_icmp_lt hx hb hd ht (fun q => ?_) (fun q => ?_)
    · have hc : (x < y) := by
        exact (oi_lt hxr hyr).mp q
      rw [show j' = tg (opAt k j) by rw [e1]; simp [hc]] at h3
      exact h3
    · have hc : ¬ (x < y) := by
        exact fun z => q ((oi_lt hxr hyr).mpr z)
      rw [show j' = j + 1 by rw [e1]; simp [hc]] at h3
      rw [hpc] at h3
      exact h3
  | ge =>
    obtain ⟨e1, rfl, rfl, rfl, rfl⟩ := br_inv hs
    have h3 := IH H locs cells slots la hRep hLR hst2 hlocs hcl hsl
    have h0 : (0 : Int32) = Int32.ofInt 0 := ofi_0.symm
    refine lv_icmp_ge hx hb hd ht (fun q => ?_) (fun q => ?_)
    · have hc : ¬ (x < y) := by
        exact Int.not_lt.mpr ((oi_le hyr hxr).mp q)
      rw [show j' = tg (opAt k j) by rw [e1]; simp [hc]] at h3
      exact h3
    · have hc : (x < y) := by
        exact Int.not_le.mp (fun z => q ((oi_le hyr hxr).mpr z))
      rw [show j' = j + 1 by rw [e1]; simp [hc]] at h3
      rw [hpc] at h3
      exact h3
  | gt =>
    obtain ⟨e1, rfl, rfl, rfl, rfl⟩ := br_inv hs
    have h3 := IH H locs cells slots la hRep hLR hst2 hlocs hcl hsl
    have h0 : (0 : Int32) = Int32.ofInt 0 := ofi_0.symm
    refine lv_icmp_gt hx hb hd ht (fun q => ?_) (fun q => ?_)
    · have hc : ¬ (x ≤ y) := by
        exact Int.not_le.mpr ((oi_lt hyr hxr).mp q)
      rw [show j' = tg (opAt k j) by rw [e1]; simp [hc]] at h3
      exact h3
    · have hc : (x ≤ y) := by
        exact Int.not_lt.mp (fun z => q ((oi_lt hyr hxr).mpr z))
      rw [show j' = j + 1 by rw [e1]; simp [hc]] at h3
      rw [hpc] at h3
      exact h3
  | le =>
    obtain ⟨e1, rfl, rfl, rfl, rfl⟩ := br_inv hs
    have h3 := IH H locs cells slots la hRep hLR hst2 hlocs hcl hsl
    have h0 : (0 : Int32) = Int32.ofInt 0 := ofi_0.symm
    refine lv_icmp_le hx hb hd ht (fun q => ?_) (fun q => ?_)
    · have hc : (x ≤ y) := by
        exact (oi_le hxr hyr).mp q
      rw [show j' = tg (opAt k j) by rw [e1]; simp [hc]] at h3
      exact h3
    · have hc : ¬ (x ≤ y) := by
        exact fun z => q ((oi_le hxr hyr).mpr z)
      rw [show j' = j + 1 by rw [e1]; simp [hc]] at h3
      rw [hpc] at h3
      exact h3
theorem si_ifCond {cd : Jvm.ClassFile.Cond} {off : Int} (hC : Cx D p R s m args meth c k) (hok : okOp k j = true) (hi : (opAt k j).1 = .ifCond cd off) (hs : (pI st fun x r => cndI cd x 0 (tg (opAt k j)) (j + 1) ls r b M) = some (Sum.inl (j', ls', st', b', M'))) (IH : Sim g D l p e R s m args below meth c PQ k j' ls' st' b' M') : Sim g D l p e R s m args below meth c PQ k j ls st b M := by
  obtain ⟨hd, h2⟩ := ok1 hok hi (fun h => by cases h)
  unfold okI at h2
  simp only [hi, Bool.and_eq_true, decide_eq_true_eq, fl1] at h2
  obtain ⟨⟨hlen, hpc⟩, ht⟩ := h2
  rw [hlen] at hd hpc
  obtain ⟨x, r, rfl, hs⟩ := pI_inv hs
  intro H locs cells slots la hRep hLR hst hlocs hcl hsl
  obtain ⟨hx, hb, hml, hown, hts, hK, hnm, hf1, hf2⟩ := hC
  have hxr : inR x := hst (vI x) List.mem_cons_self
  have hst2 : ∀ w ∈ r, vOK w := fun w hw => hst w (List.mem_cons_of_mem _ hw)
  unfold cndI at hs
  cases cd with
  | eq =>
    obtain ⟨e1, rfl, rfl, rfl, rfl⟩ := br_inv hs
    have h3 := IH H locs cells slots la hRep hLR hst2 hlocs hcl hsl
    have h0 : (0 : Int32) = Int32.ofInt 0 := ofi_0.symm
    refine lv_if_eq hx hb hd ht (fun q => ?_) (fun q => ?_)
    · have hc : (x = 0) := by
        rw [h0] at q
        exact (oi_inj hxr inR_0).mp q
      rw [show j' = tg (opAt k j) by rw [e1]; simp [hc]] at h3
      exact h3
    · have hc : ¬ (x = 0) := by
        rw [h0] at q
        exact fun z => q ((oi_inj hxr inR_0).mpr z)
      rw [show j' = j + 1 by rw [e1]; simp [hc]] at h3
      rw [hpc] at h3
      exact h3
  | ne =>
    obtain ⟨e1, rfl, rfl, rfl, rfl⟩ := br_inv hs
    have h3 := IH H locs cells slots la hRep hLR hst2 hlocs hcl hsl
    have h0 : (0 : Int32) = Int32.ofInt 0 := ofi_0.symm
    refine lv_if_ne hx hb hd ht (fun q => ?_) (fun q => ?_)
    · have hc : ¬ (x = 0) := by
        rw [h0] at q
        exact fun z => q ((oi_inj hxr inR_0).mpr z)
      rw [show j' = tg (opAt k j) by rw [e1]; simp [hc]] at h3
      exact h3
    · have hc : (x = 0) := by
        rw [h0] at q
        exact (oi_inj hxr inR_0).mp q
      rw [show j' = j + 1 by rw [e1]; simp [hc]] at h3
      rw [hpc] at h3
      exact h3
  | lt =>
    obtain ⟨e1, rfl, rfl, rfl, rfl⟩ := br_inv hs
    have h3 := IH H locs cells slots la hRep hLR hst2 hlocs hcl hsl
    have h0 : (0 : Int32) = Int32.ofInt 0 := ofi_0.symm
    refine lv_if_lt hx hb hd ht (fun q => ?_) (fun q => ?_)
    · have hc : (x < 0) := by
        rw [h0] at q
        exact (oi_lt hxr inR_0).mp q
      rw [show j' = tg (opAt k j) by rw [e1]; simp [hc]] at h3
      exact h3
    · have hc : ¬ (x < 0) := by
        rw [h0] at q
        exact fun z => q ((oi_lt hxr inR_0).mpr z)
      rw [show j' = j + 1 by rw [e1]; simp [hc]] at h3
      rw [hpc] at h3
      exact h3
  | ge =>
    obtain ⟨e1, rfl, rfl, rfl, rfl⟩ := br_inv hs
    have h3 := IH H locs cells slots la hRep hLR hst2 hlocs hcl hsl
    have h0 : (0 : Int32) = Int32.ofInt 0 := ofi_0.symm
    refine lv_if_ge hx hb hd ht (fun q => ?_) (fun q => ?_)
    · have hc : ¬ (x < 0) := by
        rw [h0] at q
        exact Int.not_lt.mpr ((oi_le inR_0 hxr).mp q)
      rw [show j' = tg (opAt k j) by rw [e1]; simp [hc]] at h3
      exact h3
    · have hc : (x < 0) := by
        rw [h0] at q
        exact Int.not_le.mp (fun z => q ((oi_le inR_0 hxr).mpr z))
      rw [show j' = j + 1 by rw [e1]; simp [hc]] at h3
      rw [hpc] at h3
      exact h3
  | gt =>
    obtain ⟨e1, rfl, rfl, rfl, rfl⟩ := br_inv hs
    have h3 := IH H locs cells slots la hRep hLR hst2 hlocs hcl hsl
    have h0 : (0 : Int32) = Int32.ofInt 0 := ofi_0.symm
    refine lv_if_gt hx hb hd ht (fun q => ?_) (fun q => ?_)
    · have hc : ¬ (x ≤ 0) := by
        rw [h0] at q
        exact Int.not_le.mpr ((oi_lt inR_0 hxr).mp q)
      rw [show j' = tg (opAt k j) by rw [e1]; simp [hc]] at h3
      exact h3
    · have hc : (x ≤ 0) := by
        rw [h0] at q
        exact Int.not_lt.mp (fun z => q ((oi_lt inR_0 hxr).mpr z))
      rw [show j' = j + 1 by rw [e1]; simp [hc]] at h3
      rw [hpc] at h3
      exact h3
  | le =>
    obtain ⟨e1, rfl, rfl, rfl, rfl⟩ := br_inv hs
    have h3 := IH H locs cells slots la hRep hLR hst2 hlocs hcl hsl
    have h0 : (0 : Int32) = Int32.ofInt 0 := ofi_0.symm
    refine lv_if_le hx hb hd ht (fun q => ?_) (fun q => ?_)
    · have hc : (x ≤ 0) := by
        rw [h0] at q
        exact (oi_le hxr inR_0).mp q
      rw [show j' = tg (opAt k j) by rw [e1]; simp [hc]] at h3
      exact h3
    · have hc : ¬ (x ≤ 0) := by
        rw [h0] at q
        exact fun z => q ((oi_le hxr inR_0).mpr z)
      rw [show j' = j + 1 by rw [e1]; simp [hc]] at h3
      rw [hpc] at h3
      exact h3
theorem si_goto {off : Int} (hC : Cx D p R s m args meth c k) (hok : okOp k j = true) (hi : (opAt k j).1 = .goto off) (hs : nx (tg (opAt k j)) ls st b M = some (Sum.inl (j', ls', st', b', M'))) (IH : Sim g D l p e R s m args below meth c PQ k j' ls' st' b' M') : Sim g D l p e R s m args below meth c PQ k j ls st b M := by
  obtain ⟨hd, h2⟩ := ok1 hok hi (fun h => by cases h)
  unfold okI at h2
  simp only [hi, Bool.and_eq_true, decide_eq_true_eq, fl1] at h2
  obtain ⟨hlen, ht⟩ := h2
  rw [hlen] at hd
  cases hs
  intro H locs cells slots la hRep hLR hst hlocs hcl hsl
  obtain ⟨hx, hb, hml, hown, hts, hK, hnm, hf1, hf2⟩ := hC
  have h3 := IH H locs cells slots la hRep hLR hst hlocs hcl hsl
  exact lv_goto hx hb hd ht h3
theorem si_ifnull {off : Int} (hC : Cx D p R s m args meth c k) (hok : okOp k j = true) (hi : (opAt k j).1 = .ifnull off) (hs : (pQ st fun q r => br q.isNone (tg (opAt k j)) (j + 1) ls r b M) = some (Sum.inl (j', ls', st', b', M'))) (IH : Sim g D l p e R s m args below meth c PQ k j' ls' st' b' M') : Sim g D l p e R s m args below meth c PQ k j ls st b M := by
  obtain ⟨hd, h2⟩ := ok1 hok hi (fun h => by cases h)
  unfold okI at h2
  simp only [hi, Bool.and_eq_true, decide_eq_true_eq, fl1] at h2
  obtain ⟨⟨hlen, hpc⟩, ht⟩ := h2
  rw [hlen] at hd hpc
  obtain ⟨q, r, rfl, hs⟩ := pQ_inv hs
  obtain ⟨e1, rfl, rfl, rfl, rfl⟩ := br_inv hs
  intro H locs cells slots la hRep hLR hst hlocs hcl hsl
  obtain ⟨hx, hb, hml, hown, hts, hK, hnm, hf1, hf2⟩ := hC
  have h3 := IH H locs cells slots la hRep hLR (fun w hw => hst w (List.mem_cons_of_mem _ hw)) hlocs hcl hsl
  cases q with
  | none =>
    rw [show j' = tg (opAt k j) by rw [e1]; rfl] at h3
    exact lv_ifnullN hx hb hd ht h3
  | some a =>
    rw [show j' = j + 1 by rw [e1]; rfl, hpc] at h3
    exact lv_ifnull hx hb hd h3
theorem si_ifnonnull {off : Int} (hC : Cx D p R s m args meth c k) (hok : okOp k j = true) (hi : (opAt k j).1 = .ifnonnull off) (hs : (pQ st fun q r => br q.isNone (j + 1) (tg (opAt k j)) ls r b M) = some (Sum.inl (j', ls', st', b', M'))) (IH : Sim g D l p e R s m args below meth c PQ k j' ls' st' b' M') : Sim g D l p e R s m args below meth c PQ k j ls st b M := by
  obtain ⟨hd, h2⟩ := ok1 hok hi (fun h => by cases h)
  unfold okI at h2
  simp only [hi, Bool.and_eq_true, decide_eq_true_eq, fl1] at h2
  obtain ⟨⟨hlen, hpc⟩, ht⟩ := h2
  rw [hlen] at hd hpc
  obtain ⟨q, r, rfl, hs⟩ := pQ_inv hs
  obtain ⟨e1, rfl, rfl, rfl, rfl⟩ := br_inv hs
  intro H locs cells slots la hRep hLR hst hlocs hcl hsl
  obtain ⟨hx, hb, hml, hown, hts, hK, hnm, hf1, hf2⟩ := hC
  have h3 := IH H locs cells slots la hRep hLR (fun w hw => hst w (List.mem_cons_of_mem _ hw)) hlocs hcl hsl
  cases q with
  | none =>
    rw [show j' = j + 1 by rw [e1]; rfl, hpc] at h3
    exact lv_ifnonnullN hx hb hd h3
  | some a =>
    rw [show j' = tg (opAt k j) by rw [e1]; rfl] at h3
    exact lv_ifnonnull hx hb hd ht h3
theorem swT_in (k pc : Nat) (x : Int) (d : Nat) : ∀ (sw : List (Int × Nat)) (lo : Int) (offs : List Int), sw.map (fun e => e.1) = (List.range offs.length).map (fun (i : Nat) => lo + (i : Int)) → sw.map (fun e => (pcK k e.2 : Int)) = offs.map (fun e => (pc : Int) + e) → lo ≤ x → x < lo + offs.length → ∃ off, offs[(x - lo).toNat]? = some off ∧ (pc : Int) + off = (pcK k (swT x d sw) : Int) := by
  intro sw
  induction sw with
  | nil =>
    intro lo offs h1 h2 h3 h4
    cases offs with
    | nil => simp at h4; omega
    | cons a r => simp at h2
  | cons c r ih =>
    intro lo offs h1 h2 h3 h4
    cases offs with
    | nil => simp at h2
    | cons a t =>
      obtain ⟨c1, c2⟩ := c
      simp only [List.map_cons, List.cons.injEq] at h2
      rw [List.length_cons, List.range_succ_eq_map, List.map_cons, List.map_cons] at h1
      simp only [List.cons.injEq] at h1
      unfold swT
      by_cases hx : x = c1
      · rw [if_pos hx]
        have e0 : (x - lo).toNat = 0 := by have := h1.1; simp at this; omega
        rw [e0]
        exact ⟨a, rfl, h2.1.symm⟩
      · rw [if_neg hx]
        have e0 : c1 = lo := by have := h1.1; simpa using this
        have h5 : r.map (fun e => e.1) = (List.range t.length).map (fun (i : Nat) => (lo + 1) + (i : Int)) := by
          rw [h1.2, List.map_map]
          apply List.map_congr_left
          intro i _
          simp only [Function.comp]
          omega
        obtain ⟨off, h6, h7⟩ := ih (lo + 1) t h5 h2.2 (by omega) (by simp only [List.length_cons] at h4; omega)
        refine ⟨off, ?_, h7⟩
        rw [show (x - lo).toNat = (x - (lo + 1)).toNat + 1 by omega]
        simpa using h6
theorem swT_out (x : Int) (d : Nat) : ∀ (sw : List (Int × Nat)), (∀ e ∈ sw, e.1 ≠ x) → swT x d sw = d := by
  intro sw
  induction sw with
  | nil => intro _; rfl
  | cons c r ih =>
    intro h
    unfold swT
    rw [if_neg (fun q => h c List.mem_cons_self q.symm)]
    exact ih (fun e he => h e (List.mem_cons_of_mem _ he))
theorem swT_look (k pc : Nat) (x d : Int) (dn : Nat) (hd : (pc : Int) + d = (pcK k dn : Int)) : ∀ (sw : List (Int × Nat)) (ps : List (Int × Int)), sw.map (fun e => e.1) = ps.map (fun e => e.1) → sw.map (fun e => (pcK k e.2 : Int)) = ps.map (fun e => (pc : Int) + e.2) → (pc : Int) + Op.lookupswitch.offset ps d x = (pcK k (swT x dn sw) : Int) := by
  intro sw
  induction sw with
  | nil =>
    intro ps h1 h2
    cases ps with
    | nil => exact hd
    | cons a r => simp at h1
  | cons c r ih =>
    intro ps h1 h2
    cases ps with
    | nil => simp at h1
    | cons a t =>
      obtain ⟨c1, c2⟩ := c
      obtain ⟨a1, a2⟩ := a
      simp only [List.map_cons, List.cons.injEq] at h1 h2
      rw [Op.lookupswitch.offset_cons]
      unfold swT
      by_cases hx : x = c1
      · rw [if_pos hx, if_pos (by rw [← h1.1]; exact hx.symm)]
        exact h2.1.symm
      · rw [if_neg hx, if_neg (by rw [← h1.1]; exact fun q => hx q.symm)]
        exact ih t h1.2 h2.2
theorem si_lookupswitch {d : Int} {ps : Array (Int × Int)} (hC : Cx D p R s m args meth c k) (hok : okOp k j = true) (hi : (opAt k j).1 = .lookupswitch d ps) (hs : (pI st fun x r => nx (swT x (tg (opAt k j)) (opAt k j).2.2.2.2) ls r b M) = some (Sum.inl (j', ls', st', b', M'))) (IH : Sim g D l p e R s m args below meth c PQ k j' ls' st' b' M') : Sim g D l p e R s m args below meth c PQ k j ls st b M := by
  obtain ⟨hd, h2⟩ := ok1 hok hi (fun h => by cases h)
  unfold okI at h2
  simp only [hi, Bool.and_eq_true, decide_eq_true_eq, fl1] at h2
  obtain ⟨⟨⟨h5, h6⟩, h7⟩, h8⟩ := h2
  obtain ⟨x, r, rfl, hs⟩ := pI_inv hs
  cases hs
  intro H locs cells slots la hRep hLR hst hlocs hcl hsl
  obtain ⟨hx, hb, hml, hown, hts, hK, hnm, hf1, hf2⟩ := hC
  have hxr : inR x := hst (vI x) List.mem_cons_self
  have h3 := IH H locs cells slots la hRep hLR (fun w hw => hst w (List.mem_cons_of_mem _ hw)) hlocs hcl hsl
  have h9 := swT_look k (pcK k j) x d (n0 (opAt k j)) h5 _ _ h6 h7
  exact lv_lookup hx hb hd h8 rfl (by rw [toI_of hxr]; exact h9) h3
theorem si_tableswitch {d lo hi2 : Int} {offs : Array Int} (hC : Cx D p R s m args meth c k) (hok : okOp k j = true) (hi : (opAt k j).1 = .tableswitch d lo hi2 offs) (hs : (pI st fun x r => nx (swT x (tg (opAt k j)) (opAt k j).2.2.2.2) ls r b M) = some (Sum.inl (j', ls', st', b', M'))) (IH : Sim g D l p e R s m args below meth c PQ k j' ls' st' b' M') : Sim g D l p e R s m args below meth c PQ k j ls st b M := by
  obtain ⟨hd, h2⟩ := ok1 hok hi (fun h => by cases h)
  unfold okI at h2
  simp only [hi, Bool.and_eq_true, decide_eq_true_eq, fl1] at h2
  obtain ⟨⟨⟨h5, h6⟩, h7⟩, h8⟩ := h2
  obtain ⟨x, r, rfl, hs⟩ := pI_inv hs
  cases hs
  intro H locs cells slots la hRep hLR hst hlocs hcl hsl
  obtain ⟨hx, hb, hml, hown, hts, hK, hnm, hf1, hf2⟩ := hC
  have hxr : inR x := hst (vI x) List.mem_cons_self
  have h3 := IH H locs cells slots la hRep hLR (fun w hw => hst w (List.mem_cons_of_mem _ hw)) hlocs hcl hsl
  have hsz : offs.size = offs.toList.length := by simp
  by_cases hr : lo ≤ x ∧ x ≤ hi2
  · obtain ⟨off, h9, h10⟩ := swT_in k (pcK k j) x (n0 (opAt k j)) (opAt k j).2.2.2.2 lo offs.toList (by rw [← hsz]; exact h7) h8 hr.1 (by rw [← hsz]; omega)
    exact lv_tableIn hx hb hd (by rw [toI_of hxr]; omega) (by rw [toI_of hxr]; omega) (by rw [toI_of hxr, ← Array.getElem?_toList]; exact h9) h10 h3
  · have h9 : swT x (n0 (opAt k j)) (opAt k j).2.2.2.2 = n0 (opAt k j) := by
      apply swT_out
      intro q hq hq2
      have hm : q.1 ∈ (opAt k j).2.2.2.2.map (fun e => e.1) := List.mem_map.mpr ⟨q, hq, rfl⟩
      rw [h7] at hm
      obtain ⟨i, hi3, hi4⟩ := List.mem_map.mp hm
      have := List.mem_range.mp hi3
      omega
    rw [show swT x (tg (opAt k j)) (opAt k j).2.2.2.2 = n0 (opAt k j) from h9] at h3
    exact lv_tableOut hx hb hd (by rw [toI_of hxr]; omega) h5 h3
theorem si_nop (hC : Cx D p R s m args meth c k) (hok : okOp k j = true) (hi : (opAt k j).1 = .nop) (hs : nx (j + 1) (killL ls (opAt k j).2.2.1) st b M = some (Sum.inl (j', ls', st', b', M'))) (IH : Sim g D l p e R s m args below meth c PQ k j' ls' st' b' M') : Sim g D l p e R s m args below meth c PQ k j ls st b M := by
  unfold okOp at hok
  simp only [hi] at hok
  rw [if_pos trivial] at hok
  simp only [decide_eq_true_eq] at hok
  cases hs
  intro H locs cells slots la hRep hLR hst hlocs hcl hsl
  have h3 := IH H locs cells slots la hRep (hLR.kill _) hst hlocs hcl hsl
  rw [hok] at h3
  exact h3
end SIM2
