-- ===== new int[6][2] (vr_outer: out of claim/NAMES.whole.lean.txt) =====
theorem vr_outer (c : ClassId) (N h0 : Nat) : ∀ i : Nat, Jvm.Free.Multi.outerC c N h0 i = arrV c N (fun j => va_rf (if j < i then some (h0 + 1 + j) else none))
  | 0 => by
    show ({ cls := c, slots := Array.replicate N .null, vm := .none } : Cell) = _
    rw [arrV_new]
    refine congrArg (arrV c N) (funext fun j => ?_)
    simp [va_rf]
  | i + 1 => by
    show (Jvm.Free.Multi.outerC c N h0 i).setSlot i (.ref (h0 + 1 + i)) = _
    rw [vr_outer c N h0 i, arrV_store]
    refine congrArg (arrV c N) (funext fun j => ?_)
    by_cases e : j = i
    · subst e
      simp [updV, va_rf]
    · by_cases h : j < i
      · simp [updV, e, h, Nat.lt_succ_of_lt h]
      · simp [updV, e, h, show ¬ j < i + 1 by omega]
theorem ra_outer (c : ClassId) (h0 : Nat) : Jvm.Free.Multi.outerC c 6 h0 6 = arrV c 6 (fun j => if j < 6 then .ref (h0 + 1 + j) else .null) := by
  rw [vr_outer]
  refine congrArg (arrV c 6) (funext fun j => ?_)
  by_cases h : j < 6
  · simp [h, va_rf]
  · simp [h, va_rf]
theorem ra_inner (c : ClassId) (K : Nat) : Jvm.Free.Multi.innerC c K (.int 0) = arrV c K (fun _ => .int 0) := by
  show ({ cls := c, slots := Array.replicate K (.int 0), vm := .none } : Cell) = _
  rw [arrV_new]
section MNA
variable {p : Program} {l : Launch} {e : Env} {R : Room} {s : State} {m : MethodId} {args : Array Value} {below : List Frame} {meth : Method} {c : Code} {H : Heap} {locs : List Loc} {cells slots : Nat} {Q : State → Prop} {cc : ByteArray} {pc : Nat} {ls : Array Slot} {rest : List Value}
theorem W_mna (hexec : p.tables.exec = Jvm.exec) (hb : c.code = cc) {own : String} {index : Nat} (hown : s.vm.findClass own = some m.cls) (hclink : (Cond.classLink own index "[[I").before args s = true) (hover : (Cond.arrayOver (.array .int)).before args s = true) (harr : (Cond.arrayClass .int).before args s = true) (hcells : cells + 7 ≤ R.cells) (hslots : slots + 18 ≤ R.slots) (hdg : decode cc pc = .ok (.multianewarray index 2, 4))
    (kk : ∀ H1 : Heap, H1.size = H.size + 7 → (∀ q, q < H.size → H1[q]? = H[q]?) → arrOK s H1 H.size (.array .int) 6 (fun j => .ref (H.size + 1 + j)) → (∀ i, i < 6 → arrOK s H1 (H.size + 1 + i) .int 2 (fun _ => .int 0)) → W p l e R s m args below meth c H1 locs (cells + 7) (slots + 18) Q (F0 m (pc + 4) ls (.ref H.size :: rest))) : W p l e R s m args below meth c H locs cells slots Q (F0 m pc ls (.int 2 :: .int 6 :: rest)) := by
  intro T hT Xs
  have e6 : (6 : Int32).toNatClampNeg = 6 := by decide
  have e2 : (2 : Int32).toNatClampNeg = 2 := by decide
  obtain ⟨vm1, cA, comp, -, fA, fC, hO, hI, X', step⟩ := Xs.multianewarray2F hexec hown hclink hover harr (g := F0 m pc ls (.int 2 :: .int 6 :: rest)) rfl (by rw [hb]; exact hdg) rfl (by decide) (by decide) (by rw [e6]; decide) (by rw [e2]; decide) (by rw [e2]; decide) rfl rfl (by rw [e6]; omega) (by rw [e6, e2]; omega)
  rw [e6, e2] at X' step
  generalize hF : Jvm.Free.Multi.fill (T.setVm vm1) cA comp 6 2 (defaultValue .int) 6 = F at X' step
  have hTh : (T.setVm vm1).heap = H := hT
  obtain ⟨f1, f2, -, -⟩ := Jvm.Free.Multi.fill_facts (T.setVm vm1) cA comp 6 2 (defaultValue .int) 6
  rw [hF, hTh] at f1 f2
  have hold : ∀ x : Nat, x < H.size → F.heap[x]? = H[x]? := fun x hx => by
    have := Jvm.Free.Multi.fill_old (T.setVm vm1) cA comp 6 2 (defaultValue .int) (a := x) (by rw [hTh]; exact hx) 6
    rw [hF, hTh] at this
    exact this
  have hrow : ∀ i : Nat, i < 6 → F.heap[H.size + 1 + i]? = some (arrV comp 2 (fun _ => .int 0)) := fun i hi => by
    have := Jvm.Free.Multi.fill_inner (T.setVm vm1) cA comp 6 2 (defaultValue .int) 6 i hi
    rw [hF, hTh, show defaultValue .int = .int 0 from rfl, ra_inner] at this
    exact this
  rw [ra_outer] at f2
  have hO1 := hO 6 H.size 6
  rw [ra_outer] at hO1
  have hI1 := hI 2 (.int 0)
  rw [ra_inner] at hI1
  obtain ⟨t, a1, b1⟩ := kk F.heap (by rw [f1]) hold ⟨_, f2, hO1.1, hO1.2, ⟨Nat.le_of_eq (arrV_size _ _ _).symm, by rw [arrV_size] <;> rfl⟩, fun i hi => by rw [arrV_read _ _ hi, if_pos hi], trivial⟩ (fun i hi => ⟨_, hrow i hi, hI1.1, hI1.2, ⟨Nat.le_of_eq (arrV_size _ _ _).symm, by rw [arrV_size] <;> rfl⟩, fun q hq => by rw [arrV_read _ _ hq], trivial⟩) F rfl X'
  refine ⟨t, step t ?_, b1⟩
  have e : T.heap.size = H.size := by rw [hT]
  rw [e]
  exact a1
end MNA
