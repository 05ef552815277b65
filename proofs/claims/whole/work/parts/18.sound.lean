-- ===== what the mini-machine comes to, the JVM comes to =====
theorem lgsl_len (g : GA) : ∀ as : List MV, (lg_sl (as.map (cv g))).length = (flL as).length
  | [] => rfl
  | Sum.inl z :: r => by
    have := lgsl_len g r
    unfold lg_sl at this ⊢
    simp only [List.map_cons, List.flatMap_cons, List.length_append, this, flL, List.length_cons]
    simp [cv, Value.category]; omega
  | Sum.inr (Sum.inl z) :: r => by
    have := lgsl_len g r
    unfold lg_sl at this ⊢
    simp only [List.map_cons, List.flatMap_cons, List.length_append, this, flL, List.length_cons]
    simp [cv, Value.category]; omega
  | Sum.inr (Sum.inr (Sum.inl q)) :: r => by
    have := lgsl_len g r
    unfold lg_sl at this ⊢
    simp only [List.map_cons, List.flatMap_cons, List.length_append, this, flL, List.length_cons]
    cases q <;> (simp [cv, va_rf, Value.category]; omega)
  | Sum.inr (Sum.inr (Sum.inr ())) :: r => by
    have := lgsl_len g r
    unfold lg_sl at this ⊢
    simp only [List.map_cons, List.flatMap_cons, List.length_append, this, flL, List.length_cons]
    simp [cv, Value.category]; omega
theorem flL_mem : ∀ (as : List MV) (w : MV), w ∈ flL as → w = vU ∨ w ∈ as
  | [], w, h => by simp [flL] at h
  | Sum.inl z :: r, w, h => by
    rcases List.mem_cons.mp (show w ∈ vI z :: flL r from h) with h | h
    · exact Or.inr (by rw [h]; exact List.mem_cons_self)
    · exact (flL_mem r w h).imp id (List.mem_cons_of_mem _)
  | Sum.inr (Sum.inl z) :: r, w, h => by
    rcases List.mem_cons.mp (show w ∈ vL z :: vU :: flL r from h) with h | h
    · exact Or.inr (by rw [h]; exact List.mem_cons_self)
    · rcases List.mem_cons.mp h with h | h
      · exact Or.inl h
      · exact (flL_mem r w h).imp id (List.mem_cons_of_mem _)
  | Sum.inr (Sum.inr (Sum.inl q)) :: r, w, h => by
    rcases List.mem_cons.mp (show w ∈ vR q :: flL r from h) with h | h
    · exact Or.inr (by rw [h]; exact List.mem_cons_self)
    · exact (flL_mem r w h).imp id (List.mem_cons_of_mem _)
  | Sum.inr (Sum.inr (Sum.inr ())) :: r, w, h => by
    rcases List.mem_cons.mp (show w ∈ vU :: flL r from h) with h | h
    · exact Or.inl h
    · exact (flL_mem r w h).imp id (List.mem_cons_of_mem _)
theorem LR_entry (g : GA) {k : Nat} {as : List MV} (hv : ∀ w ∈ as, vOK w) (hl : (flL as).length ≤ mxK k) : LR g (mxK k) (entL k as) ((lg_sl (as.map (cv g)) ++ List.replicate (mxK k - (lg_sl (as.map (cv g))).length) Slot.unset).toArray) := by
  have he := lv_entry (as.map (cv g)) (n := mxK k) (by rw [lgsl_len]; exact hl)
  refine ⟨?_, fun w hw => ?_, he.1, he.2.1, fun q hq => ?_⟩
  · unfold entL; rw [List.length_append, List.length_replicate]; omega
  · unfold entL at hw
    rcases List.mem_append.mp hw with h | h
    · rcases flL_mem as w h with h | h
      · exact Or.inl h
      · exact Or.inr (hv w h)
    · exact Or.inl (List.eq_of_mem_replicate h)
  · obtain ⟨q1, q2⟩ := q
    obtain ⟨n, w, e1, e2, e3, e4⟩ := (toL_mem g _ 0 q1 q2).mp hq
    unfold entL at e2
    by_cases hn : n < (flL as).length
    · rw [List.getElem?_append_left hn] at e2
      exact he.2.2 _ (lvargs_fl g as 0 q1 q2 n w e1 e2 e3 e4)
    · rw [List.getElem?_append_right (by omega), List.getElem?_replicate] at e2
      split at e2
      · exact absurd (Option.some.inj e2).symm e3
      · cases e2
theorem pcK_0 : (List.range 224).all (fun k => decide (pcK k 0 = 0)) = true := by decide +kernel
section SND
variable {g : GA} {D : va_G} {l : Launch}
def HRet (g : GA) (D : va_G) (l : Launch) (p : Program) (e : Env) (R : Room) (s : State) (m : MethodId) (args : Array Value) (below : List Frame) (meth : Method) (c : Code) (PQ : State → Prop) (k : Nat) (Q : Option MV → MM → Prop) : Prop :=
  ∀ (v : Option MV) (M2 : MM) (H1 : Heap) (locs1 : List Loc) (cells1 slots1 : Nat) (la1 : Array Slot) (pc : Nat), Q v M2 → retOK (rtK k) v → (∀ w, v = some w → vOK w) → Rep g D s M2 H1 → (∀ q ∈ locs1, gB g ≤ q.base) → cells1 ≤ R.cells → slots1 ≤ R.slots → decode (cK k) pc = .ok (retI (rtK k), 1) → W p l e R s m args below meth c H1 locs1 cells1 slots1 PQ (F0 m pc la1 (v.map (cv g)).toList)
theorem met_of {k' : Nat} {as : List MV} {M : MM} {Q' : Option MV → MM → Prop} (hI : ∀ {p : Program} {e : Env} {R : Room} {s : State} {m : MethodId} {args : Array Value} {below : List Frame} {meth : Method} {c : Code} {PQ : State → Prop}, Cx D p R s m args meth c k' → HRet g D l p e R s m args below meth c PQ k' Q' → Sim g D l p e R s m args below meth c PQ k' 0 (entL k' as) [] (buK k') M)
    (hvas : ∀ w ∈ as, vOK w) (hfl : (flL as).length ≤ mxK k') (h0 : 0 < k') (hk : k' < 224) : Met l (yK k') (wsK k') (rmK k') (PcM g D as M) (fun _ => QcM g D Q') (buK k').1 (buK k').2 (fun q => gB g ≤ q) := by
  obtain ⟨p1, p2, p3, p4, p5, p6⟩ := mPl_of (mpl_all k' hk)
  refine va_MetF (cc := cK k') (maxL := mxK k') (ret := rtK k') p1 rfl ?_
  intro p e s m args below meth c s1 B hml hv
  obtain ⟨rfl, hRep, hKn⟩ := hv
  have hx := B.exec
  have hb := B.bytes
  have hr := B.returns
  have hts := atoms_spec (ws := wsK k') B.pre
  have hown : s.vm.findClass (yK k').cls = some m.cls := findClass_of_methodNamed B.named
  have hlocks := B.notSynchronized
  have hnm : meth.name = (yK k').name := (name_of_methodNamed B.named B.method).1
  have hC : Cx D p (rmK k') s m ((as.map (cv g)).toArray) meth c k' := ⟨hx, hb, hml, by rw [← p5]; exact hown, fun w hw => hts w (List.mem_cons_of_mem _ hw), hKn, fun h => by rw [hnm]; exact h, Nat.le_refl _, Nat.le_refl _⟩
  have hS := hI (p := p) (e := e) (R := rmK k') (s := s) (m := m) (below := below) (PQ := MQ below (fun _ => QcM g D Q') ((as.map (cv g)).toArray) s (buK k').1 (buK k').2 (fun q => gB g ≤ q)) hC (by
    intro v M2 H1 locs1 cells1 slots1 la1 pc hQ hret hvv hR hl1 hc1 hs1 hd
    refine W.widen (k := (buK k').1) (n := (buK k').2) hc1 hs1 ?_
    have hend : ∀ t : State, t.heap = H1 → s.WarmedH t.vm → QcM g D Q' s (.returned (v.map (cv g))) t := fun t ht hW => ⟨v, M2, hQ, rfl, hvv, by rw [ht]; exact hR.moved hW.alike⟩
    unfold retOK at hret
    split at hret
    · rename_i hrt
      subst hret
      rw [hrt] at hr hd
      exact W.vret hx hb hr hend hl1 hd
    · rename_i hrt
      obtain ⟨z, rfl⟩ := hret
      rw [hrt] at hr hd
      exact W.iret hx hb hr hend hl1 hd
    · rename_i hrt
      obtain ⟨z, rfl, hz⟩ := hret
      rw [hrt] at hr hd
      exact W.zret hx hb hr (nar_z hz).1 hend hl1 hd
    · rename_i hrt
      obtain ⟨z, rfl⟩ := hret
      rw [hrt] at hr hd
      exact W.lret hx hb hr hend hl1 hd
    · rename_i hrt
      obtain ⟨z, rfl⟩ := hret
      rw [hrt] at hr hd
      exact W.aret hx hb hr (Or.inl ⟨_, rfl⟩) (by cases z; exact Or.inl rfl; exact Or.inr ⟨_, rfl⟩) hend hl1 hd
    · rename_i hrt
      obtain ⟨z, rfl⟩ := hret
      rw [hrt] at hr hd
      exact W.aret hx hb hr (Or.inr ⟨_, rfl⟩) (by cases z; exact Or.inl rfl; exact Or.inr ⟨_, rfl⟩) hend hl1 hd
    · cases hret)
  have h3 := hS s.heap [] 0 0 _ hRep (LR_entry g hvas hfl) (fun w hw => by cases hw) (fun q hq => by cases hq) (by show 0 + (buK k').1 ≤ (buK k').1; omega) (by show 0 + (buK k').2 ≤ (buK k').2; omega)
  have hpc : pcK k' 0 = 0 := of_decide_eq_true (List.all_eq_true.mp pcK_0 k' (List.mem_range.mpr hk))
  rw [hpc] at h3
  rw [lg_entry_eq]
  exact h3
theorem snd_all : ∀ (n : Nat) {k j : Nat} {ls st : List MV} {b : Nat × Nat} {M : MM} {Q : Option MV → MM → Prop}, wpf n k j ls st b M Q → ∀ {p : Program} {e : Env} {R : Room} {s : State} {m : MethodId} {args : Array Value} {below : List Frame} {meth : Method} {c : Code} {PQ : State → Prop}, Cx D p R s m args meth c k → HRet g D l p e R s m args below meth c PQ k Q → Sim g D l p e R s m args below meth c PQ k j ls st b M := by
  intro n
  induction n with
  | zero => intro k j ls st b M Q h; exact False.elim h
  | succ n ih =>
    intro k j ls st b M Q h p e R s m args below meth c PQ hC hret
    rw [wpf] at h
    have hbad : mstep (opAt k j) j ls st b M ≠ none → opAt k j ≠ opBad := by
      intro h1 h2
      rw [h2] at h1
      exact h1 rfl
    split at h
    · exact False.elim h
    · rename_i j' ls' st' b' M' hs
      have hok := (ok_of (hbad (by rw [hs]; exact fun q => by cases q))).2
      exact sim_nx hC hok hs (ih h hC hret)
    · rename_i k' as j' ls' st' b' M' hs
      have hok := (ok_of (hbad (by rw [hs]; exact fun q => by cases q))).2
      exact sim_call hC hok hs (met_of (fun hC2 hr2 => ih h hC2 hr2)) (fun v M2 hq => ih hq hC hret)
    · rename_i v hs
      have hok := (ok_of (hbad (by rw [hs]; exact fun q => by cases q))).2
      intro H locs cells slots la hRep hLR hst hlocs hcl hsl
      obtain ⟨h1, h2, h3, h4⟩ := sim_ret (g := g) hok hs hst
      rw [h3]
      exact hret v M H locs cells slots la (pcK k j) h h1 h4 hRep hlocs (by omega) (by omega) h2
end SND
