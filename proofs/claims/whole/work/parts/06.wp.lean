-- ===== the tables are looked through: each instruction is the one in the code, its links are there =====
def inRb (z : Int) : Bool := decide (-2147483648 ≤ z) && decide (z ≤ 2147483647)
def fl1 (i : Instr) : Nat := match i with
  | .bipush _ | .iload _ | .lload _ | .aload _ | .istore _ | .lstore _ | .astore _ | .newarray _ => 2
  | .sipush _ | .ldc_w _ | .ldc2_w _ | .iinc _ _ | .ifCond _ _ | .if_icmp _ _ | .goto _ | .ifnull _ | .ifnonnull _ | .getfield _ | .putfield _ | .getstatic _ | .new _ | .anewarray _ | .invokevirtual _ | .invokestatic _ | .invokespecial _ => 3
  | .multianewarray _ _ => 4
  | _ => 1
/-- a field's kind: int, boolean, long, a reference, a reference that is final -/
def fkind (c k : Nat) : Nat := match cTy c k with
  | .int => 0
  | .boolean => 1
  | .long => 2
  | .object _ => if (cT c k).2.2.2 = true then 4 else 3
  | .array _ => if (cT c k).2.2.2 = true then 4 else 3
  | _ => 9
def isMet : Nat := 224
def okInv (k : Nat) (o : Op) (idx : Nat) : Bool := decide (0 < n0 o) && decide (n0 o < isMet) && (if n5 o = 1 then (nlT.getD (owK k) []).contains (idx, n0 o) else (mlT.getD (owK k) []).contains (idx, n0 o)) && decide ((n3 o, n4 o) = buK (n0 o)) && decide (dpK (n0 o) + 1 ≤ dpK k) && decide (n6 o = mxK (n0 o))
def okI (k j : Nat) (o : Op) (pc : Nat) : Bool :=
  let fall : Bool := decide (o.2.1.2 = fl1 o.1) && decide (pcK k (j + 1) = pc + o.2.1.2)
  match o.1 with
  | .aconst_null | .iadd | .isub | .imul | .iand | .ior | .ixor | .ishl | .ishr | .iushr | .idiv | .irem | .ladd | .lsub | .lmul | .land | .lor | .ldiv | .lrem | .lcmp | .lushr | .lshl | .i2l | .l2i | .i2b | .dup | .dup2 | .pop | .arraylength | .iaload | .baload | .aaload | .iastore | .bastore | .aastore => fall
  | .iload_n _ | .lload_n _ | .aload_n _ | .iload _ | .lload _ | .aload _ | .lconst _ => fall
  | .iconst n => fall && inRb n
  | .bipush n => fall && inRb n && decide ((Int8.ofInt n).toInt32 = Int32.ofInt n)
  | .sipush n => fall && inRb n && decide ((Int16.ofInt n).toInt32 = Int32.ofInt n)
  | .ldc_w idx => fall && inRb o.2.2.2.1 && (kiT.getD (owK k) []).contains (idx, o.2.2.2.1)
  | .ldc2_w idx => fall && (klT.getD (owK k) []).contains (idx, o.2.2.2.1)
  | .istore_n i => fall && decide (i.val < mxK k)
  | .astore_n i => fall && decide (i.val < mxK k)
  | .istore i => fall && decide (i < mxK k)
  | .astore i => fall && decide (i < mxK k)
  | .lstore_n i => fall && decide (i.val + 1 < mxK k)
  | .lstore i => fall && decide (i + 1 < mxK k)
  | .iinc i _ => fall && decide (i < mxK k)
  | .ifCond _ off => fall && decide ((pc : Int) + off = (pcK k (n0 o) : Int))
  | .if_icmp _ off => fall && decide ((pc : Int) + off = (pcK k (n0 o) : Int))
  | .ifnull off => fall && decide ((pc : Int) + off = (pcK k (n0 o) : Int))
  | .ifnonnull off => fall && decide ((pc : Int) + off = (pcK k (n0 o) : Int))
  | .goto off => decide (o.2.1.2 = 3) && decide ((pc : Int) + off = (pcK k (n0 o) : Int))
  | .tableswitch d lo hi offs => decide ((pc : Int) + d = (pcK k (n0 o) : Int)) && decide (hi = lo + offs.size - 1) && decide (o.2.2.2.2.map (fun e => e.1) = (List.range offs.size).map (fun (i : Nat) => lo + (i : Int))) && decide (o.2.2.2.2.map (fun e => (pcK k e.2 : Int)) = offs.toList.map (fun e => (pc : Int) + e))
  | .lookupswitch d ps => decide ((pc : Int) + d = (pcK k (n0 o) : Int)) && decide (o.2.2.2.2.map (fun e => e.1) = ps.toList.map (fun e => e.1)) && decide (o.2.2.2.2.map (fun e => (pcK k e.2 : Int)) = ps.toList.map (fun e => (pc : Int) + e.2)) && (ps.toList.zip (ps.toList.drop 1)).all (fun (a, next) => a.1 < next.1)
  | .getfield idx => fall && (flT.getD (owK k) []).contains (idx, n0 o, n1 o) && decide (n0 o < 10) && decide (n1 o < cN (n0 o)) && decide (n2 o = fkind (n0 o) (n1 o)) && decide (n2 o ≤ 4)
  | .putfield idx => fall && (flT.getD (owK k) []).contains (idx, n0 o, n1 o) && decide (n0 o < 10) && decide (n1 o < cN (n0 o)) && decide (n2 o = fkind (n0 o) (n1 o)) && decide (n2 o ≤ 4) && (if n2 o = 4 then decide ((yK k).name = "<init>") && decide ((cT (n0 o) (n1 o)).1 = cnm (owK k)) else !(cT (n0 o) (n1 o)).2.2.2)
  | .getstatic idx => fall && (stT.getD (owK k) []).contains (idx, n0 o) && (decide (n0 o = 1) || decide (n0 o = 2))
  | .newarray t => fall && ((decide (t = .int) && decide (n0 o = 20)) || (decide (t = .byte) && decide (n0 o = 21)) || (decide (t = .boolean) && decide (n0 o = 22)))
  | .anewarray idx => fall && decide (23 ≤ n0 o) && decide (n0 o ≤ 26) && (clT.getD (owK k) []).contains (idx, elK (n0 o))
  | .new idx => fall && (clT.getD (owK k) []).contains (idx, n0 o) && decide (n0 o < 10) && decide (n1 o = cN (n0 o))
  | .multianewarray idx d => fall && decide (idx = 21) && decide (d = 2) && decide (owK k = 2)
  | .invokevirtual idx => fall && okInv k o idx && !stK (n0 o) && decide (n1 o = naK (n0 o) + 1) && decide (n2 o = owK (n0 o)) && decide (n2 o < 10) && decide ((yK (n0 o)).name ≠ "<init>")
  | .invokestatic idx => fall && okInv k o idx && stK (n0 o) && decide (n1 o = naK (n0 o))
  | .invokespecial idx => fall && (if n5 o = 9 then (oiT.getD (owK k) []).contains idx && decide (1 ≤ dpK k) else okInv k o idx && !stK (n0 o) && decide (n1 o = naK (n0 o) + 1) && decide ((yK (n0 o)).name = "<init>") && decide (rtK (n0 o) = none))
  | .ireturn => decide (o.2.1.2 = 1) && ((decide (rtK k = some .int) && decide (n0 o = 0)) || (decide (rtK k = some .boolean) && decide (n0 o = 1)))
  | .lreturn => decide (o.2.1.2 = 1) && decide (rtK k = some .long)
  | .areturn => decide (o.2.1.2 = 1) && (match rtK k with
    | some (.object _) => true
    | some (.array _) => true
    | _ => false)
  | .return_ => decide (o.2.1.2 = 1) && decide (rtK k = none)
  | _ => false
def okOp (k j : Nat) : Bool := let o := opAt k j
  if o.1 = .nop then decide (pcK k (j + 1) = o.2.1.1) else decide (decode (cK k) o.2.1.1 = .ok (o.1, o.2.1.2)) && okI k j o o.2.1.1
def okM (k : Nat) : Bool := (List.range (prog.getD k []).length).all (fun j => okOp k j)
-- ===== what the mini-machine comes to: by fuel; then 'some fuel' =====
def entL (k : Nat) (as : List MV) : List MV := flL as ++ List.replicate (mxK k - (flL as).length) vU
def wpf : Nat → Nat → Nat → List MV → List MV → Nat × Nat → MM → (Option MV → MM → Prop) → Prop
  | 0, _, _, _, _, _, _, _ => False
  | n + 1, k, j, ls, st, b, M, Q => match mstep (opAt k j) j ls st b M with
    | none => False
    | some (Sum.inl (j', ls', st', b', M')) => wpf n k j' ls' st' b' M' Q
    | some (Sum.inr (Sum.inl (k', as, (j', ls', st', b', M')))) => wpf n k' 0 (entL k' as) [] (buK k') M' (fun v M2 => wpf n k j' ls' (v.toList ++ st') b' M2 Q)
    | some (Sum.inr (Sum.inr v)) => Q v M
def wpc (k j : Nat) (ls st : List MV) (b : Nat × Nat) (M : MM) (Q : Option MV → MM → Prop) : Prop := ∃ n, wpf n k j ls st b M Q
/-- a call, from its entry -/
def wpC (k : Nat) (as : List MV) (M : MM) (Q : Option MV → MM → Prop) : Prop := wpc k 0 (entL k as) [] (buK k) M Q
theorem wpf_mono : ∀ (n : Nat) {k j : Nat} {ls st : List MV} {b : Nat × Nat} {M : MM} {Q Q' : Option MV → MM → Prop}, (∀ v M, Q v M → Q' v M) → wpf n k j ls st b M Q → wpf n k j ls st b M Q' := by
  intro n
  induction n with
  | zero => intro k j ls st b M Q Q' hq h; exact h
  | succ n ih =>
    intro k j ls st b M Q Q' hq h
    unfold wpf at h ⊢
    split at h
    · exact h
    · exact ih hq h
    · exact ih (fun v M2 h2 => ih hq h2) h
    · exact hq _ _ h
theorem wpf_succ : ∀ (n : Nat) {k j : Nat} {ls st : List MV} {b : Nat × Nat} {M : MM} {Q : Option MV → MM → Prop}, wpf n k j ls st b M Q → wpf (n + 1) k j ls st b M Q := by
  intro n
  induction n with
  | zero => intro k j ls st b M Q h; exact False.elim h
  | succ n ih =>
    intro k j ls st b M Q h
    rw [wpf] at h ⊢
    split at h
    · exact h
    · exact ih h
    · exact ih (wpf_mono _ (fun v M2 h2 => ih h2) h)
    · exact h
theorem wpf_le {n m : Nat} (hm : n ≤ m) {k j : Nat} {ls st : List MV} {b : Nat × Nat} {M : MM} {Q : Option MV → MM → Prop} (h : wpf n k j ls st b M Q) : wpf m k j ls st b M Q := by
  induction hm with
  | refl => exact h
  | step _ ih => exact wpf_succ _ ih
/-- one run only: what holds of its end by fuel of any height holds by one -/
theorem wpf_cont : ∀ (n : Nat) {k j : Nat} {ls st : List MV} {b : Nat × Nat} {M : MM} {P : Nat → Option MV → MM → Prop}, (∀ i v M, P i v M → P (i + 1) v M) → wpf n k j ls st b M (fun v M2 => ∃ i, P i v M2) → ∃ i, wpf n k j ls st b M (P i) := by
  intro n
  induction n with
  | zero => intro k j ls st b M P hp h; exact False.elim h
  | succ n ih =>
    intro k j ls st b M P hp h
    rw [wpf] at h
    simp only [wpf]
    split at h
    · exact False.elim h
    · exact ih hp h
    · rename_i k' as j' ls' st' b' M' hs
      have h2 : wpf n k' 0 (entL k' as) [] (buK k') M' (fun v M2 => ∃ i, wpf n k j' ls' (v.toList ++ st') b' M2 (P i)) := wpf_mono _ (fun v M2 h3 => ih hp h3) h
      exact ih (fun i v M2 h3 => wpf_mono _ (hp i) h3) h2
    · exact h
theorem wpc_nx {k j j' : Nat} {ls st ls' st' : List MV} {b b' : Nat × Nat} {M M' : MM} {Q : Option MV → MM → Prop} (h : mstep (opAt k j) j ls st b M = some (Sum.inl (j', ls', st', b', M'))) : wpc k j ls st b M Q ↔ wpc k j' ls' st' b' M' Q := by
  constructor
  · rintro ⟨n, hn⟩
    cases n with
    | zero => exact False.elim hn
    | succ n => rw [wpf, h] at hn; exact ⟨n, hn⟩
  · rintro ⟨n, hn⟩
    exact ⟨n + 1, by rw [wpf, h]; exact hn⟩
theorem wpc_no {k j : Nat} {ls st : List MV} {b : Nat × Nat} {M : MM} {Q : Option MV → MM → Prop} (h : mstep (opAt k j) j ls st b M = none) : wpc k j ls st b M Q ↔ False := by
  constructor
  · rintro ⟨n, hn⟩
    cases n with
    | zero => exact hn
    | succ n => rw [wpf, h] at hn; exact hn
  · exact False.elim
theorem wpc_ret {k j : Nat} {ls st : List MV} {b : Nat × Nat} {M : MM} {v : Option MV} {Q : Option MV → MM → Prop} (h : mstep (opAt k j) j ls st b M = some (Sum.inr (Sum.inr v))) : wpc k j ls st b M Q ↔ Q v M := by
  constructor
  · rintro ⟨n, hn⟩
    cases n with
    | zero => exact False.elim hn
    | succ n => rw [wpf, h] at hn; exact hn
  · intro hq
    exact ⟨1, by rw [wpf, h]; exact hq⟩
theorem wpc_call {k j k' j' : Nat} {ls st as ls' st' : List MV} {b b' : Nat × Nat} {M M' : MM} {Q : Option MV → MM → Prop} (h : mstep (opAt k j) j ls st b M = some (Sum.inr (Sum.inl (k', as, (j', ls', st', b', M'))))) : wpc k j ls st b M Q ↔ wpC k' as M' (fun v M2 => wpc k j' ls' (v.toList ++ st') b' M2 Q) := by
  constructor
  · rintro ⟨n, hn⟩
    cases n with
    | zero => exact False.elim hn
    | succ n => rw [wpf, h] at hn; exact ⟨n, wpf_mono _ (fun v M2 h2 => ⟨n, h2⟩) hn⟩
  · rintro ⟨n, hn⟩
    obtain ⟨i, hi⟩ := wpf_cont n (P := fun i v M2 => wpf i k j' ls' (v.toList ++ st') b' M2 Q) (fun i v M2 h2 => wpf_succ _ h2) hn
    refine ⟨(max n i) + 1, ?_⟩
    rw [wpf, h]
    exact wpf_le (Nat.le_max_left n i) (wpf_mono _ (fun v M2 h2 => wpf_le (Nat.le_max_right n i) h2) hi)
theorem wpc_mono {k j : Nat} {ls st : List MV} {b : Nat × Nat} {M : MM} {Q Q' : Option MV → MM → Prop} (hq : ∀ v M, Q v M → Q' v M) (h : wpc k j ls st b M Q) : wpc k j ls st b M Q' := by
  obtain ⟨n, hn⟩ := h
  exact ⟨n, wpf_mono _ hq hn⟩
theorem wpC_mono {k : Nat} {as : List MV} {M : MM} {Q Q' : Option MV → MM → Prop} (hq : ∀ v M, Q v M → Q' v M) (h : wpC k as M Q) : wpC k as M Q' := wpc_mono hq h
