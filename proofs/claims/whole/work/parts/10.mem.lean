-- ===== the memory =====
abbrev clRule : String := "DictProof$Rule"
abbrev clShape : String := "DictProof$Shape"
abbrev clGoal : String := "DictProof$Goal"
def aty (k : Nat) : FieldType := match k with
  | 21 => .byte
  | 22 => .boolean
  | 23 => .object clRule
  | 24 => .object clShape
  | 25 => .object clGoal
  | 26 => .object clGoal
  | 27 => .array .int
  | _ => .int
def fvl (g : GA) (M : MM) (a c k : Nat) : Value := match fkind c k with
  | 0 => .int (Int32.ofInt (M.2.2.1 a k))
  | 1 => .int (Int32.ofInt (M.2.2.1 a k))
  | 2 => .long (M.2.2.2 a k)
  | 3 => va_rf ((M.2.1 a k).map (adr g))
  | _ => va_rf ((fz M.1 a k).map (adr g))
def elv (g : GA) (M : MM) (a kind i : Nat) : Value := if kind ≤ 22 then .int (Int32.ofInt (M.2.2.1 a i)) else if frK kind = true then va_rf ((fz M.1 a i).map (adr g)) else va_rf ((M.2.1 a i).map (adr g))
def arrOK (U : State) (H : Heap) (q : Nat) (ty : FieldType) (n : Nat) (f : Nat → Value) : Prop := ∃ cell : Cell, H[q]? = some cell ∧ U.isArrayOf cell ty ∧ cell.vm ≠ .unknown ∧ (n ≤ cell.slots.size ∧ cell.slots.size.toInt32 = Int32.ofNat n) ∧ (∀ j, j < n → cell.slots[j]? = some (f j)) ∧ (match ty with
  | .object C => va_RA U cell.cls (.object C)
  | _ => True)
def celOK (g : GA) (D : va_G) (U : State) (M : MM) (H : Heap) (a : Nat) (e : Nat × Nat × List (Option Nat)) : Prop :=
  (e.1 < 10 → t_OB (adr g a) (D.1 e.1) (cN e.1) (D.2 e.1) H (fun k => fvl g M a e.1 k)) ∧ (¬ e.1 < 10 → (19 ≤ e.1 ∧ e.1 ≤ 27) ∧ arrOK U H (adr g a) (aty e.1) e.2.1 (fun i => elv g M a e.1 i)) ∧ e.2.1 ≤ 100000
def gA (g : GA) : Nat → Prop := fun q => gB g ≤ q
def Rep (g : GA) (D : va_G) (U : State) (M : MM) (H : Heap) : Prop :=
  (∀ (a : Nat) (e : Nat × Nat × List (Option Nat)), M.1[a]? = some e → celOK g D U M H a e) ∧ (∀ a, a < 3 → kd M.1 a = 19) ∧ 3 ≤ M.1.length ∧ H.size = gB g + (M.1.length - 3) ∧ (∀ (a : Nat) (i : Int), inR (M.2.2.1 a i)) ∧ (g.1 < gB g ∧ g.2.1 < gB g ∧ g.2.2.1 < gB g) ∧
  va_Z "DictProof" "SO_OF_KINDS" "[I" (.ref g.2.1) (gA g) U H ∧ va_Z "DictProof$Shape" "PARTS" "[I" (.ref g.2.2.1) (gA g) U H
def aoI (U : State) : Prop := (Cond.arrayOver (.array .int)).before #[] U = true
def Kn (D : va_G) (U : State) : Prop := va_K D vwCl [] U ∧ (∀ o, ∀ e ∈ nlT.getD o [], va_Nw (.methodLinkNest (cnm o) e.1 (yK e.2) "DictProof") U) ∧ va_AO clRule U ∧ va_AO clShape U ∧ va_AO clGoal U ∧ aoI U
theorem arrOK.moved {u U : State} (hvm : u.vm.Alike U.vm) {H : Heap} {q : Nat} {ty : FieldType} {n : Nat} {f : Nat → Value} (h : arrOK u H q ty n f) : arrOK U H q ty n f := by
  obtain ⟨cell, h1, h2, h3, h4, h5, h6⟩ := h
  refine ⟨cell, h1, State.isArrayOf_alike hvm h2, h3, h4, h5, ?_⟩
  split
  · exact va_RA.moved hvm h6
  · trivial
theorem arrOK.kept {U : State} {H H1 : Heap} {q : Nat} {ty : FieldType} {n : Nat} {f : Nat → Value} (h : arrOK U H q ty n f) (hq : H1[q]? = H[q]?) : arrOK U H1 q ty n f := by
  obtain ⟨cell, h1, h2⟩ := h
  exact ⟨cell, by rw [hq]; exact h1, h2⟩
theorem arrOK.to {U : State} {H : Heap} {q : Nat} {ty : FieldType} {n : Nat} {f f' : Nat → Value} (h : arrOK U H q ty n f) (hf : ∀ j, j < n → f j = f' j) : arrOK U H q ty n f' := by
  obtain ⟨cell, h1, h2, h3, h4, h5, h6⟩ := h
  exact ⟨cell, h1, h2, h3, h4, fun j hj => by rw [← hf j hj]; exact h5 j hj, h6⟩
theorem celOK.moved {u U : State} (hvm : u.vm.Alike U.vm) {g : GA} {D : va_G} {M : MM} {H : Heap} {a : Nat} {e : Nat × Nat × List (Option Nat)} (h : celOK g D u M H a e) : celOK g D U M H a e := ⟨h.1, fun h2 => ⟨(h.2.1 h2).1, (h.2.1 h2).2.moved hvm⟩, h.2.2⟩
theorem Rep.moved {u U : State} (hvm : u.vm.Alike U.vm) {g : GA} {D : va_G} {M : MM} {H : Heap} (h : Rep g D u M H) : Rep g D U M H := by
  obtain ⟨h1, h2, h3, h4, h5, h6, h7, h8⟩ := h
  exact ⟨fun a e he => (h1 a e he).moved hvm, h2, h3, h4, h5, h6, h7.moved hvm, h8.moved hvm⟩
theorem aoI.moved {u U : State} (hvm : u.vm.Alike U.vm) (h : aoI u) : aoI U := by
  have h2 := Cond.arrayOver_setVmC (args := #[]) (s := u) hvm (.array .int)
  have h3 : (Cond.arrayOver (.array .int)).before #[] (u.setVm U.vm) = true := h2.trans h
  exact h3
theorem Kn.moved {D : va_G} {u U : State} (hW : u.WarmedH U.vm) (h : Kn D u) : Kn D U := by
  obtain ⟨h1, h2, h3, h4, h5, h6⟩ := h
  exact ⟨h1.moved hW.alike, fun o e he => va_Nw.warmM hW (h2 o e he), h3.moved hW.alike, h4.moved hW.alike, h5.moved hW.alike, h6.moved hW.alike⟩
theorem adr_hi {g : GA} {a : Nat} (h : 3 ≤ a) : adr g a = gB g + (a - 3) := by
  unfold adr gB
  rw [if_neg (by omega), if_neg (by omega), if_neg (by omega)]
theorem adr_lo {g : GA} {a : Nat} (hg : g.1 < gB g ∧ g.2.1 < gB g ∧ g.2.2.1 < gB g) (h : a < 3) : adr g a < gB g := by
  unfold adr
  split
  · exact hg.1
  · split
    · exact hg.2.1
    · split
      · exact hg.2.2
      · omega
theorem adr_ne {g : GA} {a b : Nat} (hg : g.1 < gB g ∧ g.2.1 < gB g ∧ g.2.2.1 < gB g) (ha : 3 ≤ a) (h : b ≠ a) : adr g b ≠ adr g a := by
  rw [adr_hi ha]
  by_cases hb : b < 3
  · have := adr_lo hg hb; omega
  · rw [adr_hi (by omega)]; omega
theorem kd_at {S : MS} {a : Nat} {e : Nat × Nat × List (Option Nat)} (h : S[a]? = some e) : kd S a = e.1 := by unfold kd; rw [h]
theorem ln_at {S : MS} {a : Nat} {e : Nat × Nat × List (Option Nat)} (h : S[a]? = some e) : ln S a = e.2.1 := by unfold ln; rw [h]
theorem fz_at {S : MS} {a : Nat} {e : Nat × Nat × List (Option Nat)} (h : S[a]? = some e) (k : Nat) : fz S a k = e.2.2.getD k none := by unfold fz; rw [h]
theorem kd_ex {S : MS} {a k : Nat} (h : kd S a = k) (hk : k < 999) : ∃ e, S[a]? = some e ∧ e.1 = k := by
  unfold kd at h
  split at h
  · rename_i e he; exact ⟨e, he, h⟩
  · omega
theorem Rep.hi {g : GA} {D : va_G} {U : State} {M : MM} {H : Heap} (h : Rep g D U M H) {a k : Nat} (hk : kd M.1 a = k) (h9 : k ≠ 19) : 3 ≤ a := by
  apply Nat.le_of_not_lt
  intro ha
  exact h9 (by rw [← hk]; exact h.2.1 a ha)
/-- the heap changes at one cell of ours alone, and the memory there alone -/
theorem Rep.put {g : GA} {D : va_G} {U : State} {M M' : MM} {H H1 : Heap} (h : Rep g D U M H) {a : Nat} (ha : 3 ≤ a) (hz : H1.size = H.size) (hq : ∀ q, q ≠ adr g a → H1[q]? = H[q]?) (hlen : M'.1.length = M.1.length) (hS : ∀ b, b ≠ a → M'.1[b]? = M.1[b]?) (hR : ∀ b, b ≠ a → M'.2.1 b = M.2.1 b) (hI : ∀ b, b ≠ a → M'.2.2.1 b = M.2.2.1 b) (hJ : ∀ b, b ≠ a → M'.2.2.2 b = M.2.2.2 b)
    (hrng : ∀ i, inR (M'.2.2.1 a i)) (hc : ∀ e, M'.1[a]? = some e → celOK g D U M' H1 a e) : Rep g D U M' H1 := by
  obtain ⟨h1, h2, h3, h4, h5, h6, h7, h8⟩ := h
  have hk : ∀ q : Nat, q < H.size → ¬ gA g q → H1[q]? = H[q]? := fun q _ hn => hq q (fun e => hn (by unfold gA; rw [e, adr_hi ha]; omega))
  refine ⟨fun b e he => ?_, fun b hb => ?_, by omega, by rw [hz, h4, hlen], fun b i => ?_, h6, h7.kept hk, h8.kept hk⟩
  · by_cases hb : b = a
    · subst hb; exact hc e he
    · rw [hS b hb] at he
      have hcell := h1 b e he
      have hqb := hq (adr g b) (adr_ne h6 ha hb)
      have hfz : ∀ k, fz M'.1 b k = fz M.1 b k := fun k => by unfold fz; rw [hS b hb]
      refine ⟨fun h9 => ?_, fun h9 => ⟨(hcell.2.1 h9).1, ?_⟩, hcell.2.2⟩
      · refine ((hcell.1 h9).kept hqb).to (fun k _ => ?_)
        show fvl g M b e.1 k = fvl g M' b e.1 k
        unfold fvl
        rw [hfz, hR b hb, hI b hb, hJ b hb]
      · refine ((hcell.2.1 h9).2.kept hqb).to (fun k _ => ?_)
        show elv g M b e.1 k = elv g M' b e.1 k
        unfold elv
        rw [hfz, hR b hb, hI b hb]
  · rw [show kd M'.1 b = kd M.1 b by unfold kd; rw [hS b (by omega)]]; exact h2 b hb
  · by_cases hb : b = a
    · subst hb; exact hrng i
    · rw [hI b hb]; exact h5 b i
theorem upM_ne {α : Type} {I : Nat → Int → α} {a b : Nat} {i : Int} {z : α} (h : b ≠ a) : upM I a i z b = I b := by unfold upM; rw [if_neg h]
theorem upM_eq {α : Type} {I : Nat → Int → α} {a : Nat} {i : Int} {z : α} : upM I a i z a = upr (I a) i z := by unfold upM; rw [if_pos rfl]
theorem upr_eq {α : Type} {f : Int → α} {i : Int} {z : α} : upr f i z i = z := by unfold upr; rw [if_pos rfl]
theorem upr_ne {α : Type} {f : Int → α} {i k : Int} {z : α} (h : k ≠ i) : upr f i z k = f k := by unfold upr; rw [if_neg h]
/-- a cell of an array, one place changed -/
theorem arrOK.set {U : State} {H H1 : Heap} {q : Nat} {ty : FieldType} {n : Nat} {f f' : Nat → Value} (h : arrOK U H q ty n f) {i : Nat} {v : Value} (hc : ∀ cell, H[q]? = some cell → H1[q]? = some (cell.setSlot i v)) (hi : i < n) (hv : f' i = v) (hf : ∀ j, j < n → j ≠ i → f' j = f j) : arrOK U H1 q ty n f' := by
  obtain ⟨cell, h1, h2, h3, h4, h5, h6⟩ := h
  refine ⟨cell.setSlot i v, hc cell h1, ?_, h3, ?_, fun j hj => ?_, h6⟩
  · obtain ⟨g1, k, g2, comp, g3⟩ := h2
    exact ⟨g1, k, g2, comp, g3⟩
  · simp only [Cell.setSlot, Array.size_setIfInBounds]; exact h4
  · by_cases e : j = i
    · subst e
      have h9 : j < cell.slots.size := Nat.lt_of_lt_of_le hj h4.1
      simp [Cell.setSlot, h9, hv]
    · rw [hf j hj e, ← h5 j hj]
      simp [Cell.setSlot, Array.getElem?_setIfInBounds, Ne.symm e]
theorem adr_len {g : GA} {D : va_G} {U : State} {M : MM} {H : Heap} (h : Rep g D U M H) (i : Nat) : adr g (M.1.length + i) = H.size + i := by
  have h3 := h.2.2.1
  rw [adr_hi (by omega), h.2.2.2.1]
  omega
theorem adr_in {g : GA} {D : va_G} {U : State} {M : MM} {H : Heap} (h : Rep g D U M H) {a : Nat} (ha : a < M.1.length) : adr g a < H.size := by
  have h3 := h.2.2.1
  rw [h.2.2.2.1]
  by_cases hb : a < 3
  · have := adr_lo h.2.2.2.2.2.1 hb; omega
  · rw [adr_hi (by omega)]; omega
def newM (M : MM) (es : MS) : MM := (M.1 ++ es, zrN M.2.1 M.1.length es.length none, zrN M.2.2.1 M.1.length es.length 0, zrN M.2.2.2 M.1.length es.length 0)
theorem zrN_lo {α : Type} {I : Nat → Int → α} {a n b : Nat} {d : α} (h : b < a) : zrN I a n d b = I b := by unfold zrN; rw [if_neg (by omega)]
theorem zrN_in {α : Type} {I : Nat → Int → α} {a n b : Nat} {d : α} (h : a ≤ b) (h2 : b < a + n) : zrN I a n d b = fun _ => d := by unfold zrN; rw [if_pos ⟨h, h2⟩]
/-- new cells come -/
theorem Rep.new {g : GA} {D : va_G} {U : State} {M : MM} {H H1 : Heap} (h : Rep g D U M H) (es : MS) (hz : H1.size = H.size + es.length) (ho : ∀ q, q < H.size → H1[q]? = H[q]?) (hn : ∀ (i : Nat) (e : Nat × Nat × List (Option Nat)), es[i]? = some e → celOK g D U (newM M es) H1 (M.1.length + i) e) : Rep g D U (newM M es) H1 := by
  have hh := h
  obtain ⟨h1, h2, h3, h4, h5, h6, h7, h8⟩ := h
  have hk : ∀ q : Nat, q < H.size → ¬ gA g q → H1[q]? = H[q]? := fun q hq _ => ho q hq
  refine ⟨fun b e he => ?_, fun b hb => ?_, ?_, ?_, fun b i => ?_, h6, h7.kept hk, h8.kept hk⟩
  · by_cases hb : b < M.1.length
    · have he2 : M.1[b]? = some e := by
        have : (M.1 ++ es)[b]? = some e := he
        rwa [List.getElem?_append_left hb] at this
      have hcell := h1 b e he2
      have hqb := ho (adr g b) (adr_in hh hb)
      have hfz : ∀ k, fz (newM M es).1 b k = fz M.1 b k := fun k => by
        show fz (M.1 ++ es) b k = _
        unfold fz; rw [List.getElem?_append_left hb]
      have hR : (newM M es).2.1 b = M.2.1 b := zrN_lo hb
      have hI : (newM M es).2.2.1 b = M.2.2.1 b := zrN_lo hb
      have hJ : (newM M es).2.2.2 b = M.2.2.2 b := zrN_lo hb
      refine ⟨fun h9 => ?_, fun h9 => ⟨(hcell.2.1 h9).1, ?_⟩, hcell.2.2⟩
      · refine ((hcell.1 h9).kept hqb).to (fun k _ => ?_)
        show fvl g M b e.1 k = fvl g (newM M es) b e.1 k
        unfold fvl
        rw [hfz, hR, hI, hJ]
      · refine ((hcell.2.1 h9).2.kept hqb).to (fun k _ => ?_)
        show elv g M b e.1 k = elv g (newM M es) b e.1 k
        unfold elv
        rw [hfz, hR, hI]
    · have : (M.1 ++ es)[b]? = some e := he
      rw [List.getElem?_append_right (by omega)] at this
      have := hn _ _ this
      rwa [show M.1.length + (b - M.1.length) = b by omega] at this
  · rw [show kd (newM M es).1 b = kd M.1 b by show kd (M.1 ++ es) b = _; unfold kd; rw [List.getElem?_append_left (by omega)]]; exact h2 b hb
  · show 3 ≤ (M.1 ++ es).length
    rw [List.length_append]; omega
  · show H1.size = gB g + ((M.1 ++ es).length - 3)
    rw [List.length_append, hz, h4]; omega
  · show inR (zrN M.2.2.1 M.1.length es.length 0 b i)
    unfold zrN
    split
    · exact inR_0
    · exact h5 b i
