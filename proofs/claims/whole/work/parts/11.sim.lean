-- ===== each instruction of the mini-machine is the JVM's =====
def Cx (D : va_G) (p : Program) (R : Room) (s : State) (m : MethodId) (args : Array Value) (meth : Method) (c : Code) (k : Nat) : Prop := p.tables.exec = Jvm.exec ∧ c.code = cK k ∧ c.maxLocals = mxK k ∧ s.vm.findClass (cnm (owK k)) = some m.cls ∧ (∀ w ∈ lwG, w.before args s = true) ∧ Kn D s ∧ ((yK k).name = "<init>" → meth.name = "<init>") ∧ dpK k ≤ R.frames ∧ 28 * dpK k ≤ R.locals
def Sim (g : GA) (D : va_G) (l : Launch) (p : Program) (e : Env) (R : Room) (s : State) (m : MethodId) (args : Array Value) (below : List Frame) (meth : Method) (c : Code) (PQ : State → Prop) (k j : Nat) (ls st : List MV) (b : Nat × Nat) (M : MM) : Prop :=
  ∀ (H : Heap) (locs : List Loc) (cells slots : Nat) (la : Array Slot), Rep g D s M H → LR g (mxK k) ls la → (∀ v ∈ st, vOK v) → (∀ q ∈ locs, gB g ≤ q.base) → cells + b.1 ≤ R.cells → slots + b.2 ≤ R.slots → W p l e R s m args below meth c H locs cells slots PQ (F0 m (pcK k j) la (st.map (cv g)))
theorem gtI_inv {ls : List MV} {i : Nat} {f : Int → Option MO} {o : MO} (h : gtI ls i f = some o) : ∃ z, ls[i]? = some (vI z) ∧ f z = some o := by
  unfold gtI at h
  split at h
  · rename_i z hz; exact ⟨z, hz, h⟩
  · cases h
theorem gtL_inv {ls : List MV} {i : Nat} {f : Int64 → Option MO} {o : MO} (h : gtL ls i f = some o) : ∃ z, ls[i]? = some (vL z) ∧ f z = some o := by
  unfold gtL at h
  split at h
  · rename_i z hz; exact ⟨z, hz, h⟩
  · cases h
theorem gtR_inv {ls : List MV} {i : Nat} {f : Option Nat → Option MO} {o : MO} (h : gtR ls i f = some o) : ∃ z, ls[i]? = some (vR z) ∧ f z = some o := by
  unfold gtR at h
  split at h
  · rename_i z hz; exact ⟨z, hz, h⟩
  · cases h
theorem gd_inv {c : Bool} {o : Option MO} {x : MO} (h : gd c o = some x) : c = true ∧ o = some x := by
  unfold gd at h
  split at h
  · rename_i hc; exact ⟨hc, h⟩
  · cases h
theorem pI_inv {st : List MV} {f : Int → List MV → Option MO} {o : MO} (h : pI st f = some o) : ∃ x r, st = vI x :: r ∧ f x r = some o := by
  unfold pI at h
  split at h
  · exact ⟨_, _, rfl, h⟩
  · cases h
theorem pI2_inv {st : List MV} {f : Int → Int → List MV → Option MO} {o : MO} (h : pI2 st f = some o) : ∃ x y r, st = vI y :: vI x :: r ∧ f x y r = some o := by
  unfold pI2 at h
  split at h
  · exact ⟨_, _, _, rfl, h⟩
  · cases h
theorem pL_inv {st : List MV} {f : Int64 → List MV → Option MO} {o : MO} (h : pL st f = some o) : ∃ x r, st = vL x :: r ∧ f x r = some o := by
  unfold pL at h
  split at h
  · exact ⟨_, _, rfl, h⟩
  · cases h
theorem pL2_inv {st : List MV} {f : Int64 → Int64 → List MV → Option MO} {o : MO} (h : pL2 st f = some o) : ∃ x y r, st = vL y :: vL x :: r ∧ f x y r = some o := by
  unfold pL2 at h
  split at h
  · exact ⟨_, _, _, rfl, h⟩
  · cases h
theorem pIL_inv {st : List MV} {f : Int64 → Int → List MV → Option MO} {o : MO} (h : pIL st f = some o) : ∃ x y r, st = vI y :: vL x :: r ∧ f x y r = some o := by
  unfold pIL at h
  split at h
  · exact ⟨_, _, _, rfl, h⟩
  · cases h
theorem pQ_inv {st : List MV} {f : Option Nat → List MV → Option MO} {o : MO} (h : pQ st f = some o) : ∃ q r, st = vR q :: r ∧ f q r = some o := by
  unfold pQ at h
  split at h
  · exact ⟨_, _, rfl, h⟩
  · cases h
theorem pR_inv {st : List MV} {f : Nat → List MV → Option MO} {o : MO} (h : pR st f = some o) : ∃ a r, st = vR (some a) :: r ∧ f a r = some o := by
  unfold pR at h
  split at h
  · exact ⟨_, _, rfl, h⟩
  · cases h
theorem pIR_inv {st : List MV} {f : Nat → Int → List MV → Option MO} {o : MO} (h : pIR st f = some o) : ∃ a i r, st = vI i :: vR (some a) :: r ∧ f a i r = some o := by
  unfold pIR at h
  split at h
  · exact ⟨_, _, _, rfl, h⟩
  · cases h
theorem pIIR_inv {st : List MV} {f : Nat → Int → Int → List MV → Option MO} {o : MO} (h : pIIR st f = some o) : ∃ a i z r, st = vI z :: vI i :: vR (some a) :: r ∧ f a i z r = some o := by
  unfold pIIR at h
  split at h
  · exact ⟨_, _, _, _, rfl, h⟩
  · cases h
theorem pRIR_inv {st : List MV} {f : Nat → Int → Nat → List MV → Option MO} {o : MO} (h : pRIR st f = some o) : ∃ a i v r, st = vR (some v) :: vI i :: vR (some a) :: r ∧ f a i v r = some o := by
  unfold pRIR at h
  split at h
  · exact ⟨_, _, _, _, rfl, h⟩
  · cases h
theorem pLR_inv {st : List MV} {f : Nat → Int64 → List MV → Option MO} {o : MO} (h : pLR st f = some o) : ∃ a x r, st = vL x :: vR (some a) :: r ∧ f a x r = some o := by
  unfold pLR at h
  split at h
  · exact ⟨_, _, _, rfl, h⟩
  · cases h
theorem pQR_inv {st : List MV} {f : Nat → Option Nat → List MV → Option MO} {o : MO} (h : pQR st f = some o) : ∃ a q r, st = vR q :: vR (some a) :: r ∧ f a q r = some o := by
  unfold pQR at h
  split at h
  · exact ⟨_, _, _, rfl, h⟩
  · cases h
theorem ok1 {k j : Nat} {i : Instr} (hok : okOp k j = true) (hi : (opAt k j).1 = i) (hn : i ≠ .nop) : decode (cK k) (pcK k j) = .ok (i, (opAt k j).2.1.2) ∧ okI k j (opAt k j) (pcK k j) = true := by
  unfold okOp at hok
  simp only [hi] at hok
  rw [if_neg hn] at hok
  simp only [Bool.and_eq_true, decide_eq_true_eq] at hok
  exact hok
theorem vok_i (t : Int32) : vOK (vI t.toInt) := inR_t t
theorem vok_w (z : Int) : vOK (vI (w32 z)) := inR_t _
theorem vok_cons {v : MV} {r : List MV} (hv : vOK v) (hr : ∀ w ∈ r, vOK w) : ∀ w ∈ v :: r, vOK w := List.forall_mem_cons.mpr ⟨hv, hr⟩
section SIM
variable {g : GA} {D : va_G} {l : Launch} {p : Program} {e : Env} {R : Room} {s : State} {m : MethodId} {args : Array Value} {below : List Frame} {meth : Method} {c : Code} {PQ : State → Prop} {k j j' : Nat} {ls st ls' st' : List MV} {b b' : Nat × Nat} {M M' : MM}
theorem si_iadd (hC : Cx D p R s m args meth c k) (hok : okOp k j = true) (hi : (opAt k j).1 = .iadd) (hs : (pI2 st fun x y r => nx (j + 1) ls (vI (w32 (x + y)) :: r) b M) = some (Sum.inl (j', ls', st', b', M'))) (IH : Sim g D l p e R s m args below meth c PQ k j' ls' st' b' M') : Sim g D l p e R s m args below meth c PQ k j ls st b M := by
  obtain ⟨hd, h2⟩ := ok1 hok hi (fun h => by cases h)
  unfold okI at h2
  simp only [hi, Bool.and_eq_true, decide_eq_true_eq, fl1] at h2
  obtain ⟨hlen, hpc⟩ := h2
  rw [hlen] at hd hpc
  obtain ⟨x, y, r, rfl, hs⟩ := pI2_inv hs
  cases hs
  intro H locs cells slots la hRep hLR hst hlocs hcl hsl
  obtain ⟨hx, hb, hml, hown, hts, hK, hnm, hf1, hf2⟩ := hC
  have h3 := IH H locs cells slots la hRep hLR (vok_cons (inR_t _) (fun w hw => hst w (List.mem_cons_of_mem _ (List.mem_cons_of_mem _ hw)))) hlocs hcl hsl
  rw [hpc] at h3
  have e1 : Int32.ofInt (w32 (x + y)) = Int32.ofInt x + Int32.ofInt y := by rw [oi_w32, Int32.ofInt_add]
  refine lv_iadd hx hb hd ?_
  rw [← e1]
  exact h3
theorem si_isub (hC : Cx D p R s m args meth c k) (hok : okOp k j = true) (hi : (opAt k j).1 = .isub) (hs : (pI2 st fun x y r => nx (j + 1) ls (vI (w32 (x - y)) :: r) b M) = some (Sum.inl (j', ls', st', b', M'))) (IH : Sim g D l p e R s m args below meth c PQ k j' ls' st' b' M') : Sim g D l p e R s m args below meth c PQ k j ls st b M := by
  obtain ⟨hd, h2⟩ := ok1 hok hi (fun h => by cases h)
  unfold okI at h2
  simp only [hi, Bool.and_eq_true, decide_eq_true_eq, fl1] at h2
  obtain ⟨hlen, hpc⟩ := h2
  rw [hlen] at hd hpc
  obtain ⟨x, y, r, rfl, hs⟩ := pI2_inv hs
  cases hs
  intro H locs cells slots la hRep hLR hst hlocs hcl hsl
  obtain ⟨hx, hb, hml, hown, hts, hK, hnm, hf1, hf2⟩ := hC
  have h3 := IH H locs cells slots la hRep hLR (vok_cons (inR_t _) (fun w hw => hst w (List.mem_cons_of_mem _ (List.mem_cons_of_mem _ hw)))) hlocs hcl hsl
  rw [hpc] at h3
  have e1 : Int32.ofInt (w32 (x - y)) = Int32.ofInt x - Int32.ofInt y := by rw [oi_w32, Int32.ofInt_sub]
  refine lv_isub hx hb hd ?_
  rw [← e1]
  exact h3
theorem si_imul (hC : Cx D p R s m args meth c k) (hok : okOp k j = true) (hi : (opAt k j).1 = .imul) (hs : (pI2 st fun x y r => nx (j + 1) ls (vI (w32 (x * y)) :: r) b M) = some (Sum.inl (j', ls', st', b', M'))) (IH : Sim g D l p e R s m args below meth c PQ k j' ls' st' b' M') : Sim g D l p e R s m args below meth c PQ k j ls st b M := by
  obtain ⟨hd, h2⟩ := ok1 hok hi (fun h => by cases h)
  unfold okI at h2
  simp only [hi, Bool.and_eq_true, decide_eq_true_eq, fl1] at h2
  obtain ⟨hlen, hpc⟩ := h2
  rw [hlen] at hd hpc
  obtain ⟨x, y, r, rfl, hs⟩ := pI2_inv hs
  cases hs
  intro H locs cells slots la hRep hLR hst hlocs hcl hsl
  obtain ⟨hx, hb, hml, hown, hts, hK, hnm, hf1, hf2⟩ := hC
  have h3 := IH H locs cells slots la hRep hLR (vok_cons (inR_t _) (fun w hw => hst w (List.mem_cons_of_mem _ (List.mem_cons_of_mem _ hw)))) hlocs hcl hsl
  rw [hpc] at h3
  have e1 : Int32.ofInt (w32 (x * y)) = Int32.ofInt x * Int32.ofInt y := by rw [oi_w32, Int32.ofInt_mul]
  refine lv_imul hx hb hd ?_
  rw [← e1]
  exact h3
theorem si_iand (hC : Cx D p R s m args meth c k) (hok : okOp k j = true) (hi : (opAt k j).1 = .iand) (hs : (pI2 st fun x y r => nx (j + 1) ls (vI (iand x y) :: r) b M) = some (Sum.inl (j', ls', st', b', M'))) (IH : Sim g D l p e R s m args below meth c PQ k j' ls' st' b' M') : Sim g D l p e R s m args below meth c PQ k j ls st b M := by
  obtain ⟨hd, h2⟩ := ok1 hok hi (fun h => by cases h)
  unfold okI at h2
  simp only [hi, Bool.and_eq_true, decide_eq_true_eq, fl1] at h2
  obtain ⟨hlen, hpc⟩ := h2
  rw [hlen] at hd hpc
  obtain ⟨x, y, r, rfl, hs⟩ := pI2_inv hs
  cases hs
  intro H locs cells slots la hRep hLR hst hlocs hcl hsl
  obtain ⟨hx, hb, hml, hown, hts, hK, hnm, hf1, hf2⟩ := hC
  have h3 := IH H locs cells slots la hRep hLR (vok_cons (inR_t _) (fun w hw => hst w (List.mem_cons_of_mem _ (List.mem_cons_of_mem _ hw)))) hlocs hcl hsl
  rw [hpc] at h3
  have e1 : Int32.ofInt (iand x y) = Int32.ofInt x &&& Int32.ofInt y := oi_t _
  refine lv_iand hx hb hd ?_
  rw [← e1]
  exact h3
theorem si_ior (hC : Cx D p R s m args meth c k) (hok : okOp k j = true) (hi : (opAt k j).1 = .ior) (hs : (pI2 st fun x y r => nx (j + 1) ls (vI (ior x y) :: r) b M) = some (Sum.inl (j', ls', st', b', M'))) (IH : Sim g D l p e R s m args below meth c PQ k j' ls' st' b' M') : Sim g D l p e R s m args below meth c PQ k j ls st b M := by
  obtain ⟨hd, h2⟩ := ok1 hok hi (fun h => by cases h)
  unfold okI at h2
  simp only [hi, Bool.and_eq_true, decide_eq_true_eq, fl1] at h2
  obtain ⟨hlen, hpc⟩ := h2
  rw [hlen] at hd hpc
  obtain ⟨x, y, r, rfl, hs⟩ := pI2_inv hs
  cases hs
  intro H locs cells slots la hRep hLR hst hlocs hcl hsl
  obtain ⟨hx, hb, hml, hown, hts, hK, hnm, hf1, hf2⟩ := hC
  have h3 := IH H locs cells slots la hRep hLR (vok_cons (inR_t _) (fun w hw => hst w (List.mem_cons_of_mem _ (List.mem_cons_of_mem _ hw)))) hlocs hcl hsl
  rw [hpc] at h3
  have e1 : Int32.ofInt (ior x y) = Int32.ofInt x ||| Int32.ofInt y := oi_t _
  refine lv_ior hx hb hd ?_
  rw [← e1]
  exact h3
theorem si_ixor (hC : Cx D p R s m args meth c k) (hok : okOp k j = true) (hi : (opAt k j).1 = .ixor) (hs : (pI2 st fun x y r => nx (j + 1) ls (vI (ixor x y) :: r) b M) = some (Sum.inl (j', ls', st', b', M'))) (IH : Sim g D l p e R s m args below meth c PQ k j' ls' st' b' M') : Sim g D l p e R s m args below meth c PQ k j ls st b M := by
  obtain ⟨hd, h2⟩ := ok1 hok hi (fun h => by cases h)
  unfold okI at h2
  simp only [hi, Bool.and_eq_true, decide_eq_true_eq, fl1] at h2
  obtain ⟨hlen, hpc⟩ := h2
  rw [hlen] at hd hpc
  obtain ⟨x, y, r, rfl, hs⟩ := pI2_inv hs
  cases hs
  intro H locs cells slots la hRep hLR hst hlocs hcl hsl
  obtain ⟨hx, hb, hml, hown, hts, hK, hnm, hf1, hf2⟩ := hC
  have h3 := IH H locs cells slots la hRep hLR (vok_cons (inR_t _) (fun w hw => hst w (List.mem_cons_of_mem _ (List.mem_cons_of_mem _ hw)))) hlocs hcl hsl
  rw [hpc] at h3
  have e1 : Int32.ofInt (ixor x y) = Int32.ofInt x ^^^ Int32.ofInt y := oi_t _
  refine lv_ixor hx hb hd ?_
  rw [← e1]
  exact h3
theorem si_ishl (hC : Cx D p R s m args meth c k) (hok : okOp k j = true) (hi : (opAt k j).1 = .ishl) (hs : (pI2 st fun x y r => nx (j + 1) ls (vI (ishl x y) :: r) b M) = some (Sum.inl (j', ls', st', b', M'))) (IH : Sim g D l p e R s m args below meth c PQ k j' ls' st' b' M') : Sim g D l p e R s m args below meth c PQ k j ls st b M := by
  obtain ⟨hd, h2⟩ := ok1 hok hi (fun h => by cases h)
  unfold okI at h2
  simp only [hi, Bool.and_eq_true, decide_eq_true_eq, fl1] at h2
  obtain ⟨hlen, hpc⟩ := h2
  rw [hlen] at hd hpc
  obtain ⟨x, y, r, rfl, hs⟩ := pI2_inv hs
  cases hs
  intro H locs cells slots la hRep hLR hst hlocs hcl hsl
  obtain ⟨hx, hb, hml, hown, hts, hK, hnm, hf1, hf2⟩ := hC
  have h3 := IH H locs cells slots la hRep hLR (vok_cons (inR_t _) (fun w hw => hst w (List.mem_cons_of_mem _ (List.mem_cons_of_mem _ hw)))) hlocs hcl hsl
  rw [hpc] at h3
  have e1 : Int32.ofInt (ishl x y) = Int32.ofInt x <<< (Int32.ofInt y &&& 31) := oi_t _
  refine lv_ishl hx hb hd ?_
  rw [← e1]
  exact h3
theorem si_ishr (hC : Cx D p R s m args meth c k) (hok : okOp k j = true) (hi : (opAt k j).1 = .ishr) (hs : (pI2 st fun x y r => nx (j + 1) ls (vI (ishr x y) :: r) b M) = some (Sum.inl (j', ls', st', b', M'))) (IH : Sim g D l p e R s m args below meth c PQ k j' ls' st' b' M') : Sim g D l p e R s m args below meth c PQ k j ls st b M := by
  obtain ⟨hd, h2⟩ := ok1 hok hi (fun h => by cases h)
  unfold okI at h2
  simp only [hi, Bool.and_eq_true, decide_eq_true_eq, fl1] at h2
  obtain ⟨hlen, hpc⟩ := h2
  rw [hlen] at hd hpc
  obtain ⟨x, y, r, rfl, hs⟩ := pI2_inv hs
  cases hs
  intro H locs cells slots la hRep hLR hst hlocs hcl hsl
  obtain ⟨hx, hb, hml, hown, hts, hK, hnm, hf1, hf2⟩ := hC
  have h3 := IH H locs cells slots la hRep hLR (vok_cons (inR_t _) (fun w hw => hst w (List.mem_cons_of_mem _ (List.mem_cons_of_mem _ hw)))) hlocs hcl hsl
  rw [hpc] at h3
  have e1 : Int32.ofInt (ishr x y) = Int32.ofInt x >>> (Int32.ofInt y &&& 31) := oi_t _
  refine lv_ishr hx hb hd ?_
  rw [← e1]
  exact h3
theorem si_iushr (hC : Cx D p R s m args meth c k) (hok : okOp k j = true) (hi : (opAt k j).1 = .iushr) (hs : (pI2 st fun x y r => nx (j + 1) ls (vI (iushr x y) :: r) b M) = some (Sum.inl (j', ls', st', b', M'))) (IH : Sim g D l p e R s m args below meth c PQ k j' ls' st' b' M') : Sim g D l p e R s m args below meth c PQ k j ls st b M := by
  obtain ⟨hd, h2⟩ := ok1 hok hi (fun h => by cases h)
  unfold okI at h2
  simp only [hi, Bool.and_eq_true, decide_eq_true_eq, fl1] at h2
  obtain ⟨hlen, hpc⟩ := h2
  rw [hlen] at hd hpc
  obtain ⟨x, y, r, rfl, hs⟩ := pI2_inv hs
  cases hs
  intro H locs cells slots la hRep hLR hst hlocs hcl hsl
  obtain ⟨hx, hb, hml, hown, hts, hK, hnm, hf1, hf2⟩ := hC
  have h3 := IH H locs cells slots la hRep hLR (vok_cons (inR_t _) (fun w hw => hst w (List.mem_cons_of_mem _ (List.mem_cons_of_mem _ hw)))) hlocs hcl hsl
  rw [hpc] at h3
  have e1 : Int32.ofInt (iushr x y) = ((Int32.ofInt x).toUInt32 >>> ((Int32.ofInt y).toUInt32 &&& Int32.toUInt32 31)).toInt32 := oi_t _
  exact lv_iushr hx hb hd e1.symm h3
theorem si_idiv (hC : Cx D p R s m args meth c k) (hok : okOp k j = true) (hi : (opAt k j).1 = .idiv) (hs : (pI2 st fun x y r => gd (decide (¬ y = 0)) (nx (j + 1) ls (vI (w32 (x.tdiv y)) :: r) b M)) = some (Sum.inl (j', ls', st', b', M'))) (IH : Sim g D l p e R s m args below meth c PQ k j' ls' st' b' M') : Sim g D l p e R s m args below meth c PQ k j ls st b M := by
  obtain ⟨hd, h2⟩ := ok1 hok hi (fun h => by cases h)
  unfold okI at h2
  simp only [hi, Bool.and_eq_true, decide_eq_true_eq, fl1] at h2
  obtain ⟨hlen, hpc⟩ := h2
  rw [hlen] at hd hpc
  obtain ⟨x, y, r, rfl, hs⟩ := pI2_inv hs
  obtain ⟨hy, hs⟩ := gd_inv hs
  cases hs
  intro H locs cells slots la hRep hLR hst hlocs hcl hsl
  obtain ⟨hx, hb, hml, hown, hts, hK, hnm, hf1, hf2⟩ := hC
  have hy0 : ¬ y = 0 := of_decide_eq_true hy
  have hyr : inR y := hst (vI y) List.mem_cons_self
  have hxr : inR x := hst (vI x) (List.mem_cons_of_mem _ List.mem_cons_self)
  have hne : ¬ Int32.ofInt y = 0 := fun h => hy0 ((oi_inj hyr inR_0).mp (by rw [h, ofi_0]))
  have e0 : (Int32.ofInt x / Int32.ofInt y).toInt = w32 (x.tdiv y) := by rw [Int32.toInt_div, toI_of hxr, toI_of hyr]; unfold w32; rw [Int32.toInt_ofInt]
  have e1 : Int32.ofInt (w32 (x.tdiv y)) = Int32.ofInt x / Int32.ofInt y := by rw [← e0]; exact oi_t _
  have h3 := IH H locs cells slots la hRep hLR (vok_cons (by rw [← e0]; exact inR_t _) (fun w hw => hst w (List.mem_cons_of_mem _ (List.mem_cons_of_mem _ hw)))) hlocs hcl hsl
  rw [hpc] at h3
  refine lv_idiv hx hb hd hne ?_
  rw [← e1]
  exact h3
theorem si_irem (hC : Cx D p R s m args meth c k) (hok : okOp k j = true) (hi : (opAt k j).1 = .irem) (hs : (pI2 st fun x y r => gd (decide (¬ y = 0)) (nx (j + 1) ls (vI (x.tmod y) :: r) b M)) = some (Sum.inl (j', ls', st', b', M'))) (IH : Sim g D l p e R s m args below meth c PQ k j' ls' st' b' M') : Sim g D l p e R s m args below meth c PQ k j ls st b M := by
  obtain ⟨hd, h2⟩ := ok1 hok hi (fun h => by cases h)
  unfold okI at h2
  simp only [hi, Bool.and_eq_true, decide_eq_true_eq, fl1] at h2
  obtain ⟨hlen, hpc⟩ := h2
  rw [hlen] at hd hpc
  obtain ⟨x, y, r, rfl, hs⟩ := pI2_inv hs
  obtain ⟨hy, hs⟩ := gd_inv hs
  cases hs
  intro H locs cells slots la hRep hLR hst hlocs hcl hsl
  obtain ⟨hx, hb, hml, hown, hts, hK, hnm, hf1, hf2⟩ := hC
  have hy0 : ¬ y = 0 := of_decide_eq_true hy
  have hyr : inR y := hst (vI y) List.mem_cons_self
  have hxr : inR x := hst (vI x) (List.mem_cons_of_mem _ List.mem_cons_self)
  have hne : ¬ Int32.ofInt y = 0 := fun h => hy0 ((oi_inj hyr inR_0).mp (by rw [h, ofi_0]))
  have e0 : (Int32.ofInt x - Int32.ofInt x / Int32.ofInt y * Int32.ofInt y).toInt = x.tmod y := by rw [rem_toInt, toI_of hxr, toI_of hyr]
  have e1 : Int32.ofInt (x.tmod y) = Int32.ofInt x - Int32.ofInt x / Int32.ofInt y * Int32.ofInt y := by rw [← e0]; exact oi_t _
  have h3 := IH H locs cells slots la hRep hLR (vok_cons (by rw [← e0]; exact inR_t _) (fun w hw => hst w (List.mem_cons_of_mem _ (List.mem_cons_of_mem _ hw)))) hlocs hcl hsl
  rw [hpc] at h3
  refine lv_irem hx hb hd hne ?_
  rw [← e1]
  exact h3
theorem si_ladd (hC : Cx D p R s m args meth c k) (hok : okOp k j = true) (hi : (opAt k j).1 = .ladd) (hs : (pL2 st fun x y r => nx (j + 1) ls (vL (x + y) :: r) b M) = some (Sum.inl (j', ls', st', b', M'))) (IH : Sim g D l p e R s m args below meth c PQ k j' ls' st' b' M') : Sim g D l p e R s m args below meth c PQ k j ls st b M := by
  obtain ⟨hd, h2⟩ := ok1 hok hi (fun h => by cases h)
  unfold okI at h2
  simp only [hi, Bool.and_eq_true, decide_eq_true_eq, fl1] at h2
  obtain ⟨hlen, hpc⟩ := h2
  rw [hlen] at hd hpc
  obtain ⟨x, y, r, rfl, hs⟩ := pL2_inv hs
  cases hs
  intro H locs cells slots la hRep hLR hst hlocs hcl hsl
  obtain ⟨hx, hb, hml, hown, hts, hK, hnm, hf1, hf2⟩ := hC
  have h3 := IH H locs cells slots la hRep hLR (vok_cons trivial (fun w hw => hst w (List.mem_cons_of_mem _ (List.mem_cons_of_mem _ hw)))) hlocs hcl hsl
  rw [hpc] at h3
  exact lv_ladd hx hb hd h3
theorem si_lsub (hC : Cx D p R s m args meth c k) (hok : okOp k j = true) (hi : (opAt k j).1 = .lsub) (hs : (pL2 st fun x y r => nx (j + 1) ls (vL (x - y) :: r) b M) = some (Sum.inl (j', ls', st', b', M'))) (IH : Sim g D l p e R s m args below meth c PQ k j' ls' st' b' M') : Sim g D l p e R s m args below meth c PQ k j ls st b M := by
  obtain ⟨hd, h2⟩ := ok1 hok hi (fun h => by cases h)
  unfold okI at h2
  simp only [hi, Bool.and_eq_true, decide_eq_true_eq, fl1] at h2
  obtain ⟨hlen, hpc⟩ := h2
  rw [hlen] at hd hpc
  obtain ⟨x, y, r, rfl, hs⟩ := pL2_inv hs
  cases hs
  intro H locs cells slots la hRep hLR hst hlocs hcl hsl
  obtain ⟨hx, hb, hml, hown, hts, hK, hnm, hf1, hf2⟩ := hC
  have h3 := IH H locs cells slots la hRep hLR (vok_cons trivial (fun w hw => hst w (List.mem_cons_of_mem _ (List.mem_cons_of_mem _ hw)))) hlocs hcl hsl
  rw [hpc] at h3
  exact lv_lsub hx hb hd h3
theorem si_lmul (hC : Cx D p R s m args meth c k) (hok : okOp k j = true) (hi : (opAt k j).1 = .lmul) (hs : (pL2 st fun x y r => nx (j + 1) ls (vL (x * y) :: r) b M) = some (Sum.inl (j', ls', st', b', M'))) (IH : Sim g D l p e R s m args below meth c PQ k j' ls' st' b' M') : Sim g D l p e R s m args below meth c PQ k j ls st b M := by
  obtain ⟨hd, h2⟩ := ok1 hok hi (fun h => by cases h)
  unfold okI at h2
  simp only [hi, Bool.and_eq_true, decide_eq_true_eq, fl1] at h2
  obtain ⟨hlen, hpc⟩ := h2
  rw [hlen] at hd hpc
  obtain ⟨x, y, r, rfl, hs⟩ := pL2_inv hs
  cases hs
  intro H locs cells slots la hRep hLR hst hlocs hcl hsl
  obtain ⟨hx, hb, hml, hown, hts, hK, hnm, hf1, hf2⟩ := hC
  have h3 := IH H locs cells slots la hRep hLR (vok_cons trivial (fun w hw => hst w (List.mem_cons_of_mem _ (List.mem_cons_of_mem _ hw)))) hlocs hcl hsl
  rw [hpc] at h3
  exact lv_lmul hx hb hd h3
theorem si_land (hC : Cx D p R s m args meth c k) (hok : okOp k j = true) (hi : (opAt k j).1 = .land) (hs : (pL2 st fun x y r => nx (j + 1) ls (vL (x &&& y) :: r) b M) = some (Sum.inl (j', ls', st', b', M'))) (IH : Sim g D l p e R s m args below meth c PQ k j' ls' st' b' M') : Sim g D l p e R s m args below meth c PQ k j ls st b M := by
  obtain ⟨hd, h2⟩ := ok1 hok hi (fun h => by cases h)
  unfold okI at h2
  simp only [hi, Bool.and_eq_true, decide_eq_true_eq, fl1] at h2
  obtain ⟨hlen, hpc⟩ := h2
  rw [hlen] at hd hpc
  obtain ⟨x, y, r, rfl, hs⟩ := pL2_inv hs
  cases hs
  intro H locs cells slots la hRep hLR hst hlocs hcl hsl
  obtain ⟨hx, hb, hml, hown, hts, hK, hnm, hf1, hf2⟩ := hC
  have h3 := IH H locs cells slots la hRep hLR (vok_cons trivial (fun w hw => hst w (List.mem_cons_of_mem _ (List.mem_cons_of_mem _ hw)))) hlocs hcl hsl
  rw [hpc] at h3
  exact lv_land hx hb hd h3
theorem si_lor (hC : Cx D p R s m args meth c k) (hok : okOp k j = true) (hi : (opAt k j).1 = .lor) (hs : (pL2 st fun x y r => nx (j + 1) ls (vL (x ||| y) :: r) b M) = some (Sum.inl (j', ls', st', b', M'))) (IH : Sim g D l p e R s m args below meth c PQ k j' ls' st' b' M') : Sim g D l p e R s m args below meth c PQ k j ls st b M := by
  obtain ⟨hd, h2⟩ := ok1 hok hi (fun h => by cases h)
  unfold okI at h2
  simp only [hi, Bool.and_eq_true, decide_eq_true_eq, fl1] at h2
  obtain ⟨hlen, hpc⟩ := h2
  rw [hlen] at hd hpc
  obtain ⟨x, y, r, rfl, hs⟩ := pL2_inv hs
  cases hs
  intro H locs cells slots la hRep hLR hst hlocs hcl hsl
  obtain ⟨hx, hb, hml, hown, hts, hK, hnm, hf1, hf2⟩ := hC
  have h3 := IH H locs cells slots la hRep hLR (vok_cons trivial (fun w hw => hst w (List.mem_cons_of_mem _ (List.mem_cons_of_mem _ hw)))) hlocs hcl hsl
  rw [hpc] at h3
  exact lv_lor hx hb hd h3
theorem si_ldiv (hC : Cx D p R s m args meth c k) (hok : okOp k j = true) (hi : (opAt k j).1 = .ldiv) (hs : (pL2 st fun x y r => gd (decide (¬ y = 0)) (nx (j + 1) ls (vL (x / y) :: r) b M)) = some (Sum.inl (j', ls', st', b', M'))) (IH : Sim g D l p e R s m args below meth c PQ k j' ls' st' b' M') : Sim g D l p e R s m args below meth c PQ k j ls st b M := by
  obtain ⟨hd, h2⟩ := ok1 hok hi (fun h => by cases h)
  unfold okI at h2
  simp only [hi, Bool.and_eq_true, decide_eq_true_eq, fl1] at h2
  obtain ⟨hlen, hpc⟩ := h2
  rw [hlen] at hd hpc
  obtain ⟨x, y, r, rfl, hs⟩ := pL2_inv hs
  obtain ⟨hy, hs⟩ := gd_inv hs
  cases hs
  intro H locs cells slots la hRep hLR hst hlocs hcl hsl
  obtain ⟨hx, hb, hml, hown, hts, hK, hnm, hf1, hf2⟩ := hC
  have h3 := IH H locs cells slots la hRep hLR (vok_cons trivial (fun w hw => hst w (List.mem_cons_of_mem _ (List.mem_cons_of_mem _ hw)))) hlocs hcl hsl
  rw [hpc] at h3
  exact lv_ldiv hx hb hd (of_decide_eq_true hy) h3
theorem si_lrem (hC : Cx D p R s m args meth c k) (hok : okOp k j = true) (hi : (opAt k j).1 = .lrem) (hs : (pL2 st fun x y r => gd (decide (¬ y = 0)) (nx (j + 1) ls (vL (x - x / y * y) :: r) b M)) = some (Sum.inl (j', ls', st', b', M'))) (IH : Sim g D l p e R s m args below meth c PQ k j' ls' st' b' M') : Sim g D l p e R s m args below meth c PQ k j ls st b M := by
  obtain ⟨hd, h2⟩ := ok1 hok hi (fun h => by cases h)
  unfold okI at h2
  simp only [hi, Bool.and_eq_true, decide_eq_true_eq, fl1] at h2
  obtain ⟨hlen, hpc⟩ := h2
  rw [hlen] at hd hpc
  obtain ⟨x, y, r, rfl, hs⟩ := pL2_inv hs
  obtain ⟨hy, hs⟩ := gd_inv hs
  cases hs
  intro H locs cells slots la hRep hLR hst hlocs hcl hsl
  obtain ⟨hx, hb, hml, hown, hts, hK, hnm, hf1, hf2⟩ := hC
  have h3 := IH H locs cells slots la hRep hLR (vok_cons trivial (fun w hw => hst w (List.mem_cons_of_mem _ (List.mem_cons_of_mem _ hw)))) hlocs hcl hsl
  rw [hpc] at h3
  exact lv_lrem hx hb hd (of_decide_eq_true hy) h3
theorem si_lcmp (hC : Cx D p R s m args meth c k) (hok : okOp k j = true) (hi : (opAt k j).1 = .lcmp) (hs : (pL2 st fun x y r => nx (j + 1) ls (vI (lcmpI x y) :: r) b M) = some (Sum.inl (j', ls', st', b', M'))) (IH : Sim g D l p e R s m args below meth c PQ k j' ls' st' b' M') : Sim g D l p e R s m args below meth c PQ k j ls st b M := by
  obtain ⟨hd, h2⟩ := ok1 hok hi (fun h => by cases h)
  unfold okI at h2
  simp only [hi, Bool.and_eq_true, decide_eq_true_eq, fl1] at h2
  obtain ⟨hlen, hpc⟩ := h2
  rw [hlen] at hd hpc
  obtain ⟨x, y, r, rfl, hs⟩ := pL2_inv hs
  cases hs
  intro H locs cells slots la hRep hLR hst hlocs hcl hsl
  obtain ⟨hx, hb, hml, hown, hts, hK, hnm, hf1, hf2⟩ := hC
  have h3 := IH H locs cells slots la hRep hLR (vok_cons (inR_t _) (fun w hw => hst w (List.mem_cons_of_mem _ (List.mem_cons_of_mem _ hw)))) hlocs hcl hsl
  rw [hpc] at h3
  refine W.lcmp hx hb hd ?_
  rw [← oi_t (lg_cmp x y)]
  exact h3
theorem si_lushr (hC : Cx D p R s m args meth c k) (hok : okOp k j = true) (hi : (opAt k j).1 = .lushr) (hs : (pIL st fun x y r => nx (j + 1) ls (vL (lushr x y) :: r) b M) = some (Sum.inl (j', ls', st', b', M'))) (IH : Sim g D l p e R s m args below meth c PQ k j' ls' st' b' M') : Sim g D l p e R s m args below meth c PQ k j ls st b M := by
  obtain ⟨hd, h2⟩ := ok1 hok hi (fun h => by cases h)
  unfold okI at h2
  simp only [hi, Bool.and_eq_true, decide_eq_true_eq, fl1] at h2
  obtain ⟨hlen, hpc⟩ := h2
  rw [hlen] at hd hpc
  obtain ⟨x, y, r, rfl, hs⟩ := pIL_inv hs
  cases hs
  intro H locs cells slots la hRep hLR hst hlocs hcl hsl
  obtain ⟨hx, hb, hml, hown, hts, hK, hnm, hf1, hf2⟩ := hC
  have h3 := IH H locs cells slots la hRep hLR (vok_cons trivial (fun w hw => hst w (List.mem_cons_of_mem _ (List.mem_cons_of_mem _ hw)))) hlocs hcl hsl
  rw [hpc] at h3
  exact lv_lushr hx hb hd rfl h3
theorem si_lshl (hC : Cx D p R s m args meth c k) (hok : okOp k j = true) (hi : (opAt k j).1 = .lshl) (hs : (pIL st fun x y r => nx (j + 1) ls (vL (lshl x y) :: r) b M) = some (Sum.inl (j', ls', st', b', M'))) (IH : Sim g D l p e R s m args below meth c PQ k j' ls' st' b' M') : Sim g D l p e R s m args below meth c PQ k j ls st b M := by
  obtain ⟨hd, h2⟩ := ok1 hok hi (fun h => by cases h)
  unfold okI at h2
  simp only [hi, Bool.and_eq_true, decide_eq_true_eq, fl1] at h2
  obtain ⟨hlen, hpc⟩ := h2
  rw [hlen] at hd hpc
  obtain ⟨x, y, r, rfl, hs⟩ := pIL_inv hs
  cases hs
  intro H locs cells slots la hRep hLR hst hlocs hcl hsl
  obtain ⟨hx, hb, hml, hown, hts, hK, hnm, hf1, hf2⟩ := hC
  have h3 := IH H locs cells slots la hRep hLR (vok_cons trivial (fun w hw => hst w (List.mem_cons_of_mem _ (List.mem_cons_of_mem _ hw)))) hlocs hcl hsl
  rw [hpc] at h3
  exact lv_lshl hx hb hd rfl h3
theorem si_i2l (hC : Cx D p R s m args meth c k) (hok : okOp k j = true) (hi : (opAt k j).1 = .i2l) (hs : (pI st fun x r => nx (j + 1) ls (vL (Int64.ofInt x) :: r) b M) = some (Sum.inl (j', ls', st', b', M'))) (IH : Sim g D l p e R s m args below meth c PQ k j' ls' st' b' M') : Sim g D l p e R s m args below meth c PQ k j ls st b M := by
  obtain ⟨hd, h2⟩ := ok1 hok hi (fun h => by cases h)
  unfold okI at h2
  simp only [hi, Bool.and_eq_true, decide_eq_true_eq, fl1] at h2
  obtain ⟨hlen, hpc⟩ := h2
  rw [hlen] at hd hpc
  obtain ⟨x, r, rfl, hs⟩ := pI_inv hs
  cases hs
  intro H locs cells slots la hRep hLR hst hlocs hcl hsl
  obtain ⟨hx, hb, hml, hown, hts, hK, hnm, hf1, hf2⟩ := hC
  have h3 := IH H locs cells slots la hRep hLR (vok_cons trivial (fun w hw => hst w (List.mem_cons_of_mem _ hw))) hlocs hcl hsl
  rw [hpc] at h3
  have hxr : inR x := hst (vI x) List.mem_cons_self
  have e1 : (Int32.ofInt x).toInt64 = Int64.ofInt x := by
    rw [← Int64.ofInt_toInt (Int32.ofInt x).toInt64, Int32.toInt_toInt64, toI_of hxr]
  exact lv_i2l hx hb hd e1 h3
theorem si_l2i (hC : Cx D p R s m args meth c k) (hok : okOp k j = true) (hi : (opAt k j).1 = .l2i) (hs : (pL st fun x r => nx (j + 1) ls (vI x.toInt32.toInt :: r) b M) = some (Sum.inl (j', ls', st', b', M'))) (IH : Sim g D l p e R s m args below meth c PQ k j' ls' st' b' M') : Sim g D l p e R s m args below meth c PQ k j ls st b M := by
  obtain ⟨hd, h2⟩ := ok1 hok hi (fun h => by cases h)
  unfold okI at h2
  simp only [hi, Bool.and_eq_true, decide_eq_true_eq, fl1] at h2
  obtain ⟨hlen, hpc⟩ := h2
  rw [hlen] at hd hpc
  obtain ⟨x, r, rfl, hs⟩ := pL_inv hs
  cases hs
  intro H locs cells slots la hRep hLR hst hlocs hcl hsl
  obtain ⟨hx, hb, hml, hown, hts, hK, hnm, hf1, hf2⟩ := hC
  have h3 := IH H locs cells slots la hRep hLR (vok_cons (inR_t _) (fun w hw => hst w (List.mem_cons_of_mem _ hw))) hlocs hcl hsl
  rw [hpc] at h3
  exact lv_l2i hx hb hd (oi_t _).symm h3
theorem si_i2b (hC : Cx D p R s m args meth c k) (hok : okOp k j = true) (hi : (opAt k j).1 = .i2b) (hs : (pI st fun x r => nx (j + 1) ls (vI (ib8 x) :: r) b M) = some (Sum.inl (j', ls', st', b', M'))) (IH : Sim g D l p e R s m args below meth c PQ k j' ls' st' b' M') : Sim g D l p e R s m args below meth c PQ k j ls st b M := by
  obtain ⟨hd, h2⟩ := ok1 hok hi (fun h => by cases h)
  unfold okI at h2
  simp only [hi, Bool.and_eq_true, decide_eq_true_eq, fl1] at h2
  obtain ⟨hlen, hpc⟩ := h2
  rw [hlen] at hd hpc
  obtain ⟨x, r, rfl, hs⟩ := pI_inv hs
  cases hs
  intro H locs cells slots la hRep hLR hst hlocs hcl hsl
  obtain ⟨hx, hb, hml, hown, hts, hK, hnm, hf1, hf2⟩ := hC
  have h3 := IH H locs cells slots la hRep hLR (vok_cons (inR_t _) (fun w hw => hst w (List.mem_cons_of_mem _ hw))) hlocs hcl hsl
  rw [hpc] at h3
  exact lv_i2b hx hb hd (oi_t _).symm h3
theorem inRb_of {z : Int} (h : inRb z = true) : inR z := by unfold inRb at h; simp only [Bool.and_eq_true, decide_eq_true_eq] at h; exact h
theorem si_iconst {n : Int} (hC : Cx D p R s m args meth c k) (hok : okOp k j = true) (hi : (opAt k j).1 = .iconst n) (hs : nx (j + 1) ls (vI n :: st) b M = some (Sum.inl (j', ls', st', b', M'))) (IH : Sim g D l p e R s m args below meth c PQ k j' ls' st' b' M') : Sim g D l p e R s m args below meth c PQ k j ls st b M := by
  obtain ⟨hd, h2⟩ := ok1 hok hi (fun h => by cases h)
  unfold okI at h2
  simp only [hi, Bool.and_eq_true, decide_eq_true_eq, fl1] at h2
  obtain ⟨⟨hlen, hpc⟩, hr⟩ := h2
  rw [hlen] at hd hpc
  cases hs
  intro H locs cells slots la hRep hLR hst hlocs hcl hsl
  obtain ⟨hx, hb, hml, hown, hts, hK, hnm, hf1, hf2⟩ := hC
  have h3 := IH H locs cells slots la hRep hLR (vok_cons (inRb_of hr) hst) hlocs hcl hsl
  rw [hpc] at h3
  exact lv_iconst hx hb hd rfl h3
theorem si_bipush {n : Int} (hC : Cx D p R s m args meth c k) (hok : okOp k j = true) (hi : (opAt k j).1 = .bipush n) (hs : nx (j + 1) ls (vI n :: st) b M = some (Sum.inl (j', ls', st', b', M'))) (IH : Sim g D l p e R s m args below meth c PQ k j' ls' st' b' M') : Sim g D l p e R s m args below meth c PQ k j ls st b M := by
  obtain ⟨hd, h2⟩ := ok1 hok hi (fun h => by cases h)
  unfold okI at h2
  simp only [hi, Bool.and_eq_true, decide_eq_true_eq, fl1] at h2
  obtain ⟨⟨⟨hlen, hpc⟩, hr⟩, h2⟩ := h2
  rw [hlen] at hd hpc
  cases hs
  intro H locs cells slots la hRep hLR hst hlocs hcl hsl
  obtain ⟨hx, hb, hml, hown, hts, hK, hnm, hf1, hf2⟩ := hC
  have h3 := IH H locs cells slots la hRep hLR (vok_cons (inRb_of hr) hst) hlocs hcl hsl
  rw [hpc] at h3
  exact lv_bipush hx hb hd h2 h3
theorem si_sipush {n : Int} (hC : Cx D p R s m args meth c k) (hok : okOp k j = true) (hi : (opAt k j).1 = .sipush n) (hs : nx (j + 1) ls (vI n :: st) b M = some (Sum.inl (j', ls', st', b', M'))) (IH : Sim g D l p e R s m args below meth c PQ k j' ls' st' b' M') : Sim g D l p e R s m args below meth c PQ k j ls st b M := by
  obtain ⟨hd, h2⟩ := ok1 hok hi (fun h => by cases h)
  unfold okI at h2
  simp only [hi, Bool.and_eq_true, decide_eq_true_eq, fl1] at h2
  obtain ⟨⟨⟨hlen, hpc⟩, hr⟩, h2⟩ := h2
  rw [hlen] at hd hpc
  cases hs
  intro H locs cells slots la hRep hLR hst hlocs hcl hsl
  obtain ⟨hx, hb, hml, hown, hts, hK, hnm, hf1, hf2⟩ := hC
  have h3 := IH H locs cells slots la hRep hLR (vok_cons (inRb_of hr) hst) hlocs hcl hsl
  rw [hpc] at h3
  exact lv_sipush hx hb hd h2 h3
theorem si_aconst_null (hC : Cx D p R s m args meth c k) (hok : okOp k j = true) (hi : (opAt k j).1 = .aconst_null) (hs : nx (j + 1) ls (vR none :: st) b M = some (Sum.inl (j', ls', st', b', M'))) (IH : Sim g D l p e R s m args below meth c PQ k j' ls' st' b' M') : Sim g D l p e R s m args below meth c PQ k j ls st b M := by
  obtain ⟨hd, h2⟩ := ok1 hok hi (fun h => by cases h)
  unfold okI at h2
  simp only [hi, Bool.and_eq_true, decide_eq_true_eq, fl1] at h2
  obtain ⟨hlen, hpc⟩ := h2
  rw [hlen] at hd hpc
  cases hs
  intro H locs cells slots la hRep hLR hst hlocs hcl hsl
  obtain ⟨hx, hb, hml, hown, hts, hK, hnm, hf1, hf2⟩ := hC
  have h3 := IH H locs cells slots la hRep hLR (vok_cons trivial hst) hlocs hcl hsl
  rw [hpc] at h3
  exact lv_null hx hb hd h3
theorem si_lconst {n : Fin 2} (hC : Cx D p R s m args meth c k) (hok : okOp k j = true) (hi : (opAt k j).1 = .lconst n) (hs : nx (j + 1) ls (vL (Int64.ofInt n.val) :: st) b M = some (Sum.inl (j', ls', st', b', M'))) (IH : Sim g D l p e R s m args below meth c PQ k j' ls' st' b' M') : Sim g D l p e R s m args below meth c PQ k j ls st b M := by
  obtain ⟨hd, h2⟩ := ok1 hok hi (fun h => by cases h)
  unfold okI at h2
  simp only [hi, Bool.and_eq_true, decide_eq_true_eq, fl1] at h2
  obtain ⟨hlen, hpc⟩ := h2
  rw [hlen] at hd hpc
  cases hs
  intro H locs cells slots la hRep hLR hst hlocs hcl hsl
  obtain ⟨hx, hb, hml, hown, hts, hK, hnm, hf1, hf2⟩ := hC
  have h3 := IH H locs cells slots la hRep hLR (vok_cons trivial hst) hlocs hcl hsl
  rw [hpc] at h3
  exact lv_lconst hx hb hd (by first | rfl | (match n with | 0 => rfl | 1 => rfl)) h3
theorem si_ldc_w {idx : Nat} (hC : Cx D p R s m args meth c k) (hok : okOp k j = true) (hi : (opAt k j).1 = .ldc_w idx) (hs : nx (j + 1) ls (vI (opAt k j).2.2.2.1 :: st) b M = some (Sum.inl (j', ls', st', b', M'))) (IH : Sim g D l p e R s m args below meth c PQ k j' ls' st' b' M') : Sim g D l p e R s m args below meth c PQ k j ls st b M := by
  obtain ⟨hd, h2⟩ := ok1 hok hi (fun h => by cases h)
  unfold okI at h2
  simp only [hi, Bool.and_eq_true, decide_eq_true_eq, fl1] at h2
  obtain ⟨⟨⟨hlen, hpc⟩, hr⟩, h2⟩ := h2
  rw [hlen] at hd hpc
  cases hs
  intro H locs cells slots la hRep hLR hst hlocs hcl hsl
  obtain ⟨hx, hb, hml, hown, hts, hK, hnm, hf1, hf2⟩ := hC
  have h3 := IH H locs cells slots la hRep hLR (vok_cons (inRb_of hr) hst) hlocs hcl hsl
  rw [hpc] at h3
  exact lv_ldcw hx hb hown (hts _ (ki_ok (owK k) _ (List.contains_iff_mem.mp h2))) hd h3
theorem si_ldc2_w {idx : Nat} (hC : Cx D p R s m args meth c k) (hok : okOp k j = true) (hi : (opAt k j).1 = .ldc2_w idx) (hs : nx (j + 1) ls (vL (Int64.ofInt (opAt k j).2.2.2.1) :: st) b M = some (Sum.inl (j', ls', st', b', M'))) (IH : Sim g D l p e R s m args below meth c PQ k j' ls' st' b' M') : Sim g D l p e R s m args below meth c PQ k j ls st b M := by
  obtain ⟨hd, h2⟩ := ok1 hok hi (fun h => by cases h)
  unfold okI at h2
  simp only [hi, Bool.and_eq_true, decide_eq_true_eq, fl1] at h2
  obtain ⟨⟨hlen, hpc⟩, h2⟩ := h2
  rw [hlen] at hd hpc
  cases hs
  intro H locs cells slots la hRep hLR hst hlocs hcl hsl
  obtain ⟨hx, hb, hml, hown, hts, hK, hnm, hf1, hf2⟩ := hC
  have h3 := IH H locs cells slots la hRep hLR (vok_cons trivial hst) hlocs hcl hsl
  rw [hpc] at h3
  exact lv_ldc2 hx hb hown (hts _ (kl_ok (owK k) _ (List.contains_iff_mem.mp h2))) hd h3
theorem si_iload_n {i : Fin 4} (hC : Cx D p R s m args meth c k) (hok : okOp k j = true) (hi : (opAt k j).1 = .iload_n i) (hs : (gtI ls i.val fun z => nx (j + 1) ls (vI z :: st) b M) = some (Sum.inl (j', ls', st', b', M'))) (IH : Sim g D l p e R s m args below meth c PQ k j' ls' st' b' M') : Sim g D l p e R s m args below meth c PQ k j ls st b M := by
  obtain ⟨hd, h2⟩ := ok1 hok hi (fun h => by cases h)
  unfold okI at h2
  simp only [hi, Bool.and_eq_true, decide_eq_true_eq, fl1] at h2
  obtain ⟨hlen, hpc⟩ := h2
  rw [hlen] at hd hpc
  obtain ⟨z, hz, hs⟩ := gtI_inv hs
  cases hs
  intro H locs cells slots la hRep hLR hst hlocs hcl hsl
  obtain ⟨hx, hb, hml, hown, hts, hK, hnm, hf1, hf2⟩ := hC
  have hn : vI z ≠ vU := fun h => by cases h
  have h3 := IH H locs cells slots la hRep hLR (vok_cons (hLR.ok hz hn) hst) hlocs hcl hsl
  rw [hpc] at h3
  exact lv_iload_n hx hb hd rfl (hLR.at hz hn) h3
theorem si_iload {i : Nat} (hC : Cx D p R s m args meth c k) (hok : okOp k j = true) (hi : (opAt k j).1 = .iload i) (hs : (gtI ls i fun z => nx (j + 1) ls (vI z :: st) b M) = some (Sum.inl (j', ls', st', b', M'))) (IH : Sim g D l p e R s m args below meth c PQ k j' ls' st' b' M') : Sim g D l p e R s m args below meth c PQ k j ls st b M := by
  obtain ⟨hd, h2⟩ := ok1 hok hi (fun h => by cases h)
  unfold okI at h2
  simp only [hi, Bool.and_eq_true, decide_eq_true_eq, fl1] at h2
  obtain ⟨hlen, hpc⟩ := h2
  rw [hlen] at hd hpc
  obtain ⟨z, hz, hs⟩ := gtI_inv hs
  cases hs
  intro H locs cells slots la hRep hLR hst hlocs hcl hsl
  obtain ⟨hx, hb, hml, hown, hts, hK, hnm, hf1, hf2⟩ := hC
  have hn : vI z ≠ vU := fun h => by cases h
  have h3 := IH H locs cells slots la hRep hLR (vok_cons (hLR.ok hz hn) hst) hlocs hcl hsl
  rw [hpc] at h3
  exact lv_iload hx hb hd (hLR.at hz hn) h3
theorem si_lload_n {i : Fin 4} (hC : Cx D p R s m args meth c k) (hok : okOp k j = true) (hi : (opAt k j).1 = .lload_n i) (hs : (gtL ls i.val fun z => nx (j + 1) ls (vL z :: st) b M) = some (Sum.inl (j', ls', st', b', M'))) (IH : Sim g D l p e R s m args below meth c PQ k j' ls' st' b' M') : Sim g D l p e R s m args below meth c PQ k j ls st b M := by
  obtain ⟨hd, h2⟩ := ok1 hok hi (fun h => by cases h)
  unfold okI at h2
  simp only [hi, Bool.and_eq_true, decide_eq_true_eq, fl1] at h2
  obtain ⟨hlen, hpc⟩ := h2
  rw [hlen] at hd hpc
  obtain ⟨z, hz, hs⟩ := gtL_inv hs
  cases hs
  intro H locs cells slots la hRep hLR hst hlocs hcl hsl
  obtain ⟨hx, hb, hml, hown, hts, hK, hnm, hf1, hf2⟩ := hC
  have hn : vL z ≠ vU := fun h => by cases h
  have h3 := IH H locs cells slots la hRep hLR (vok_cons (hLR.ok hz hn) hst) hlocs hcl hsl
  rw [hpc] at h3
  exact lv_lload_n hx hb hd rfl (hLR.at hz hn) h3
theorem si_lload {i : Nat} (hC : Cx D p R s m args meth c k) (hok : okOp k j = true) (hi : (opAt k j).1 = .lload i) (hs : (gtL ls i fun z => nx (j + 1) ls (vL z :: st) b M) = some (Sum.inl (j', ls', st', b', M'))) (IH : Sim g D l p e R s m args below meth c PQ k j' ls' st' b' M') : Sim g D l p e R s m args below meth c PQ k j ls st b M := by
  obtain ⟨hd, h2⟩ := ok1 hok hi (fun h => by cases h)
  unfold okI at h2
  simp only [hi, Bool.and_eq_true, decide_eq_true_eq, fl1] at h2
  obtain ⟨hlen, hpc⟩ := h2
  rw [hlen] at hd hpc
  obtain ⟨z, hz, hs⟩ := gtL_inv hs
  cases hs
  intro H locs cells slots la hRep hLR hst hlocs hcl hsl
  obtain ⟨hx, hb, hml, hown, hts, hK, hnm, hf1, hf2⟩ := hC
  have hn : vL z ≠ vU := fun h => by cases h
  have h3 := IH H locs cells slots la hRep hLR (vok_cons (hLR.ok hz hn) hst) hlocs hcl hsl
  rw [hpc] at h3
  exact lv_lload hx hb hd (hLR.at hz hn) h3
theorem si_aload_n {i : Fin 4} (hC : Cx D p R s m args meth c k) (hok : okOp k j = true) (hi : (opAt k j).1 = .aload_n i) (hs : (gtR ls i.val fun z => nx (j + 1) ls (vR z :: st) b M) = some (Sum.inl (j', ls', st', b', M'))) (IH : Sim g D l p e R s m args below meth c PQ k j' ls' st' b' M') : Sim g D l p e R s m args below meth c PQ k j ls st b M := by
  obtain ⟨hd, h2⟩ := ok1 hok hi (fun h => by cases h)
  unfold okI at h2
  simp only [hi, Bool.and_eq_true, decide_eq_true_eq, fl1] at h2
  obtain ⟨hlen, hpc⟩ := h2
  rw [hlen] at hd hpc
  obtain ⟨z, hz, hs⟩ := gtR_inv hs
  cases hs
  intro H locs cells slots la hRep hLR hst hlocs hcl hsl
  obtain ⟨hx, hb, hml, hown, hts, hK, hnm, hf1, hf2⟩ := hC
  have hn : vR z ≠ vU := fun h => by cases h
  have h3 := IH H locs cells slots la hRep hLR (vok_cons (hLR.ok hz hn) hst) hlocs hcl hsl
  rw [hpc] at h3
  have h4 := hLR.at hz hn
  cases z with
  | none => exact lv_aload_nN hx hb hd rfl h4 h3
  | some a => exact lv_aload_n hx hb hd rfl h4 h3
theorem si_aload {i : Nat} (hC : Cx D p R s m args meth c k) (hok : okOp k j = true) (hi : (opAt k j).1 = .aload i) (hs : (gtR ls i fun z => nx (j + 1) ls (vR z :: st) b M) = some (Sum.inl (j', ls', st', b', M'))) (IH : Sim g D l p e R s m args below meth c PQ k j' ls' st' b' M') : Sim g D l p e R s m args below meth c PQ k j ls st b M := by
  obtain ⟨hd, h2⟩ := ok1 hok hi (fun h => by cases h)
  unfold okI at h2
  simp only [hi, Bool.and_eq_true, decide_eq_true_eq, fl1] at h2
  obtain ⟨hlen, hpc⟩ := h2
  rw [hlen] at hd hpc
  obtain ⟨z, hz, hs⟩ := gtR_inv hs
  cases hs
  intro H locs cells slots la hRep hLR hst hlocs hcl hsl
  obtain ⟨hx, hb, hml, hown, hts, hK, hnm, hf1, hf2⟩ := hC
  have hn : vR z ≠ vU := fun h => by cases h
  have h3 := IH H locs cells slots la hRep hLR (vok_cons (hLR.ok hz hn) hst) hlocs hcl hsl
  rw [hpc] at h3
  have h4 := hLR.at hz hn
  cases z with
  | none => exact lv_aloadN hx hb hd h4 h3
  | some a => exact lv_aload hx hb hd h4 h3
theorem si_istore_n {i : Fin 4} (hC : Cx D p R s m args meth c k) (hok : okOp k j = true) (hi : (opAt k j).1 = .istore_n i) (hs : (pI st fun z r => nx (j + 1) (stL ls i.val (vI z)) r b M) = some (Sum.inl (j', ls', st', b', M'))) (IH : Sim g D l p e R s m args below meth c PQ k j' ls' st' b' M') : Sim g D l p e R s m args below meth c PQ k j ls st b M := by
  obtain ⟨hd, h2⟩ := ok1 hok hi (fun h => by cases h)
  unfold okI at h2
  simp only [hi, Bool.and_eq_true, decide_eq_true_eq, fl1] at h2
  obtain ⟨⟨hlen, hpc⟩, hn⟩ := h2
  rw [hlen] at hd hpc
  obtain ⟨z, r, rfl, hs⟩ := pI_inv hs
  cases hs
  intro H locs cells slots la hRep hLR hst hlocs hcl hsl
  obtain ⟨hx, hb, hml, hown, hts, hK, hnm, hf1, hf2⟩ := hC
  have hv : vOK (vI z) := hst (vI z) List.mem_cons_self
  have h3 : ∀ la2 : Array Slot, lv_has la2 (mxK k) ((i.val, cv g (vI z)) :: (toL g 0 ls).filter (fun q => !(q.1 == i.val) && !(q.1 + 1 == i.val && q.2.category == 2))) → W p l e R s m args below meth c H locs cells slots PQ (F0 m (pcK k j + 1) la2 (st'.map (cv g))) := fun la2 h4 => by
    have h5 := IH H locs cells slots la2 hRep (hLR.st hv h4) (fun w hw => hst w (List.mem_cons_of_mem _ hw)) hlocs hcl hsl
    rw [hpc] at h5
    exact h5
  exact lv_istore_n hx hb hd rfl hLR.2.2 hn rfl h3
theorem si_istore {i : Nat} (hC : Cx D p R s m args meth c k) (hok : okOp k j = true) (hi : (opAt k j).1 = .istore i) (hs : (pI st fun z r => nx (j + 1) (stL ls i (vI z)) r b M) = some (Sum.inl (j', ls', st', b', M'))) (IH : Sim g D l p e R s m args below meth c PQ k j' ls' st' b' M') : Sim g D l p e R s m args below meth c PQ k j ls st b M := by
  obtain ⟨hd, h2⟩ := ok1 hok hi (fun h => by cases h)
  unfold okI at h2
  simp only [hi, Bool.and_eq_true, decide_eq_true_eq, fl1] at h2
  obtain ⟨⟨hlen, hpc⟩, hn⟩ := h2
  rw [hlen] at hd hpc
  obtain ⟨z, r, rfl, hs⟩ := pI_inv hs
  cases hs
  intro H locs cells slots la hRep hLR hst hlocs hcl hsl
  obtain ⟨hx, hb, hml, hown, hts, hK, hnm, hf1, hf2⟩ := hC
  have hv : vOK (vI z) := hst (vI z) List.mem_cons_self
  have h3 : ∀ la2 : Array Slot, lv_has la2 (mxK k) ((i, cv g (vI z)) :: (toL g 0 ls).filter (fun q => !(q.1 == i) && !(q.1 + 1 == i && q.2.category == 2))) → W p l e R s m args below meth c H locs cells slots PQ (F0 m (pcK k j + 2) la2 (st'.map (cv g))) := fun la2 h4 => by
    have h5 := IH H locs cells slots la2 hRep (hLR.st hv h4) (fun w hw => hst w (List.mem_cons_of_mem _ hw)) hlocs hcl hsl
    rw [hpc] at h5
    exact h5
  exact lv_istore hx hb hd hLR.2.2 hn rfl h3
theorem si_astore_n {i : Fin 4} (hC : Cx D p R s m args meth c k) (hok : okOp k j = true) (hi : (opAt k j).1 = .astore_n i) (hs : (pQ st fun z r => nx (j + 1) (stL ls i.val (vR z)) r b M) = some (Sum.inl (j', ls', st', b', M'))) (IH : Sim g D l p e R s m args below meth c PQ k j' ls' st' b' M') : Sim g D l p e R s m args below meth c PQ k j ls st b M := by
  obtain ⟨hd, h2⟩ := ok1 hok hi (fun h => by cases h)
  unfold okI at h2
  simp only [hi, Bool.and_eq_true, decide_eq_true_eq, fl1] at h2
  obtain ⟨⟨hlen, hpc⟩, hn⟩ := h2
  rw [hlen] at hd hpc
  obtain ⟨z, r, rfl, hs⟩ := pQ_inv hs
  cases hs
  intro H locs cells slots la hRep hLR hst hlocs hcl hsl
  obtain ⟨hx, hb, hml, hown, hts, hK, hnm, hf1, hf2⟩ := hC
  have hv : vOK (vR z) := hst (vR z) List.mem_cons_self
  have h3 : ∀ la2 : Array Slot, lv_has la2 (mxK k) ((i.val, cv g (vR z)) :: (toL g 0 ls).filter (fun q => !(q.1 == i.val) && !(q.1 + 1 == i.val && q.2.category == 2))) → W p l e R s m args below meth c H locs cells slots PQ (F0 m (pcK k j + 1) la2 (st'.map (cv g))) := fun la2 h4 => by
    have h5 := IH H locs cells slots la2 hRep (hLR.st hv h4) (fun w hw => hst w (List.mem_cons_of_mem _ hw)) hlocs hcl hsl
    rw [hpc] at h5
    exact h5
  cases z with
  | none => exact lv_astore_nN hx hb hd rfl hLR.2.2 hn rfl h3
  | some a => exact lv_astore_n hx hb hd rfl hLR.2.2 hn rfl h3
theorem si_astore {i : Nat} (hC : Cx D p R s m args meth c k) (hok : okOp k j = true) (hi : (opAt k j).1 = .astore i) (hs : (pQ st fun z r => nx (j + 1) (stL ls i (vR z)) r b M) = some (Sum.inl (j', ls', st', b', M'))) (IH : Sim g D l p e R s m args below meth c PQ k j' ls' st' b' M') : Sim g D l p e R s m args below meth c PQ k j ls st b M := by
  obtain ⟨hd, h2⟩ := ok1 hok hi (fun h => by cases h)
  unfold okI at h2
  simp only [hi, Bool.and_eq_true, decide_eq_true_eq, fl1] at h2
  obtain ⟨⟨hlen, hpc⟩, hn⟩ := h2
  rw [hlen] at hd hpc
  obtain ⟨z, r, rfl, hs⟩ := pQ_inv hs
  cases hs
  intro H locs cells slots la hRep hLR hst hlocs hcl hsl
  obtain ⟨hx, hb, hml, hown, hts, hK, hnm, hf1, hf2⟩ := hC
  have hv : vOK (vR z) := hst (vR z) List.mem_cons_self
  have h3 : ∀ la2 : Array Slot, lv_has la2 (mxK k) ((i, cv g (vR z)) :: (toL g 0 ls).filter (fun q => !(q.1 == i) && !(q.1 + 1 == i && q.2.category == 2))) → W p l e R s m args below meth c H locs cells slots PQ (F0 m (pcK k j + 2) la2 (st'.map (cv g))) := fun la2 h4 => by
    have h5 := IH H locs cells slots la2 hRep (hLR.st hv h4) (fun w hw => hst w (List.mem_cons_of_mem _ hw)) hlocs hcl hsl
    rw [hpc] at h5
    exact h5
  cases z with
  | none => exact lv_astoreN hx hb hd hLR.2.2 hn rfl h3
  | some a => exact lv_astore hx hb hd hLR.2.2 hn rfl h3
theorem si_lstore_n {i : Fin 4} (hC : Cx D p R s m args meth c k) (hok : okOp k j = true) (hi : (opAt k j).1 = .lstore_n i) (hs : (pL st fun z r => nx (j + 1) ((stL ls i.val (vL z)).set (i.val + 1) vU) r b M) = some (Sum.inl (j', ls', st', b', M'))) (IH : Sim g D l p e R s m args below meth c PQ k j' ls' st' b' M') : Sim g D l p e R s m args below meth c PQ k j ls st b M := by
  obtain ⟨hd, h2⟩ := ok1 hok hi (fun h => by cases h)
  unfold okI at h2
  simp only [hi, Bool.and_eq_true, decide_eq_true_eq, fl1] at h2
  obtain ⟨⟨hlen, hpc⟩, hn⟩ := h2
  rw [hlen] at hd hpc
  obtain ⟨z, r, rfl, hs⟩ := pL_inv hs
  cases hs
  intro H locs cells slots la hRep hLR hst hlocs hcl hsl
  obtain ⟨hx, hb, hml, hown, hts, hK, hnm, hf1, hf2⟩ := hC
  refine lv_lstore_n hx hb hd rfl hLR.2.2 hn rfl (fun la2 h4 => ?_)
  have h5 := IH H locs cells slots la2 hRep (hLR.stl h4) (fun w hw => hst w (List.mem_cons_of_mem _ hw)) hlocs hcl hsl
  rw [hpc] at h5
  exact h5
theorem si_lstore {i : Nat} (hC : Cx D p R s m args meth c k) (hok : okOp k j = true) (hi : (opAt k j).1 = .lstore i) (hs : (pL st fun z r => nx (j + 1) ((stL ls i (vL z)).set (i + 1) vU) r b M) = some (Sum.inl (j', ls', st', b', M'))) (IH : Sim g D l p e R s m args below meth c PQ k j' ls' st' b' M') : Sim g D l p e R s m args below meth c PQ k j ls st b M := by
  obtain ⟨hd, h2⟩ := ok1 hok hi (fun h => by cases h)
  unfold okI at h2
  simp only [hi, Bool.and_eq_true, decide_eq_true_eq, fl1] at h2
  obtain ⟨⟨hlen, hpc⟩, hn⟩ := h2
  rw [hlen] at hd hpc
  obtain ⟨z, r, rfl, hs⟩ := pL_inv hs
  cases hs
  intro H locs cells slots la hRep hLR hst hlocs hcl hsl
  obtain ⟨hx, hb, hml, hown, hts, hK, hnm, hf1, hf2⟩ := hC
  refine lv_lstore hx hb hd hLR.2.2 hn rfl (fun la2 h4 => ?_)
  have h5 := IH H locs cells slots la2 hRep (hLR.stl h4) (fun w hw => hst w (List.mem_cons_of_mem _ hw)) hlocs hcl hsl
  rw [hpc] at h5
  exact h5
theorem si_iinc {i : Nat} {n : Int} (hC : Cx D p R s m args meth c k) (hok : okOp k j = true) (hi : (opAt k j).1 = .iinc i n) (hs : (gtI ls i fun z => nx (j + 1) (stL ls i (vI (w32 (z + n)))) st b M) = some (Sum.inl (j', ls', st', b', M'))) (IH : Sim g D l p e R s m args below meth c PQ k j' ls' st' b' M') : Sim g D l p e R s m args below meth c PQ k j ls st b M := by
  obtain ⟨hd, h2⟩ := ok1 hok hi (fun h => by cases h)
  unfold okI at h2
  simp only [hi, Bool.and_eq_true, decide_eq_true_eq, fl1] at h2
  obtain ⟨⟨hlen, hpc⟩, hn⟩ := h2
  rw [hlen] at hd hpc
  obtain ⟨z, hz, hs⟩ := gtI_inv hs
  cases hs
  intro H locs cells slots la hRep hLR hst hlocs hcl hsl
  obtain ⟨hx, hb, hml, hown, hts, hK, hnm, hf1, hf2⟩ := hC
  have hm : (i, cv g (vI z)) ∈ toL g 0 ls := (toL_mem g ls 0 i _).mpr ⟨i, vI z, by omega, hz, (fun h => by cases h), rfl⟩
  obtain ⟨q, hq⟩ := List.getElem?_of_mem hm
  have e1 : Int32.ofInt z + Int32.ofInt n = Int32.ofInt (w32 (z + n)) := by rw [oi_w32, Int32.ofInt_add]
  refine lv_iinc hx hb hd hLR.2.2 hq e1 hn rfl (fun la2 h4 => ?_)
  have h5 := IH H locs cells slots la2 hRep (hLR.st (v := vI (w32 (z + n))) (inR_t _) h4) hst hlocs hcl hsl
  rw [hpc] at h5
  exact h5
theorem si_dup (hC : Cx D p R s m args meth c k) (hok : okOp k j = true) (hi : (opAt k j).1 = .dup) (hs : (match st with
    | Sum.inl z :: r => nx (j + 1) ls (vI z :: vI z :: r) b M
    | Sum.inr (Sum.inr (Sum.inl q)) :: r => nx (j + 1) ls (vR q :: vR q :: r) b M
    | _ => none) = some (Sum.inl (j', ls', st', b', M'))) (IH : Sim g D l p e R s m args below meth c PQ k j' ls' st' b' M') : Sim g D l p e R s m args below meth c PQ k j ls st b M := by
  obtain ⟨hd, h2⟩ := ok1 hok hi (fun h => by cases h)
  unfold okI at h2
  simp only [hi, Bool.and_eq_true, decide_eq_true_eq, fl1] at h2
  obtain ⟨hlen, hpc⟩ := h2
  rw [hlen] at hd hpc
  intro H locs cells slots la hRep hLR hst hlocs hcl hsl
  obtain ⟨hx, hb, hml, hown, hts, hK, hnm, hf1, hf2⟩ := hC
  split at hs
  · cases hs
    have h3 := IH H locs cells slots la hRep hLR (vok_cons (hst _ List.mem_cons_self) hst) hlocs hcl hsl
    rw [hpc] at h3
    exact lv_dup hx hb hd rfl h3
  · cases hs
    have h3 := IH H locs cells slots la hRep hLR (vok_cons (hst _ List.mem_cons_self) hst) hlocs hcl hsl
    rw [hpc] at h3
    rename_i q r
    exact lv_dup hx hb hd (by cases q <;> rfl) h3
  · cases hs
theorem si_dup2 (hC : Cx D p R s m args meth c k) (hok : okOp k j = true) (hi : (opAt k j).1 = .dup2) (hs : (match st with
    | Sum.inl z :: Sum.inr (Sum.inr (Sum.inl q)) :: r => nx (j + 1) ls (vI z :: vR q :: vI z :: vR q :: r) b M
    | _ => none) = some (Sum.inl (j', ls', st', b', M'))) (IH : Sim g D l p e R s m args below meth c PQ k j' ls' st' b' M') : Sim g D l p e R s m args below meth c PQ k j ls st b M := by
  obtain ⟨hd, h2⟩ := ok1 hok hi (fun h => by cases h)
  unfold okI at h2
  simp only [hi, Bool.and_eq_true, decide_eq_true_eq, fl1] at h2
  obtain ⟨hlen, hpc⟩ := h2
  rw [hlen] at hd hpc
  intro H locs cells slots la hRep hLR hst hlocs hcl hsl
  obtain ⟨hx, hb, hml, hown, hts, hK, hnm, hf1, hf2⟩ := hC
  split at hs
  · cases hs
    rename_i z q r
    have h3 := IH H locs cells slots la hRep hLR (vok_cons (hst _ List.mem_cons_self) (vok_cons (v := vR q) trivial hst)) hlocs hcl hsl
    rw [hpc] at h3
    exact lv_dup2_11 hx hb hd rfl (by cases q <;> rfl) h3
  · cases hs
theorem si_pop (hC : Cx D p R s m args meth c k) (hok : okOp k j = true) (hi : (opAt k j).1 = .pop) (hs : (pI st fun _ r => nx (j + 1) ls r b M) = some (Sum.inl (j', ls', st', b', M'))) (IH : Sim g D l p e R s m args below meth c PQ k j' ls' st' b' M') : Sim g D l p e R s m args below meth c PQ k j ls st b M := by
  obtain ⟨hd, h2⟩ := ok1 hok hi (fun h => by cases h)
  unfold okI at h2
  simp only [hi, Bool.and_eq_true, decide_eq_true_eq, fl1] at h2
  obtain ⟨hlen, hpc⟩ := h2
  rw [hlen] at hd hpc
  obtain ⟨x, r, rfl, hs⟩ := pI_inv hs
  cases hs
  intro H locs cells slots la hRep hLR hst hlocs hcl hsl
  obtain ⟨hx, hb, hml, hown, hts, hK, hnm, hf1, hf2⟩ := hC
  have h3 := IH H locs cells slots la hRep hLR (fun w hw => hst w (List.mem_cons_of_mem _ hw)) hlocs hcl hsl
  rw [hpc] at h3
  exact lv_pop hx hb hd rfl h3
end SIM
