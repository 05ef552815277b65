-- ===== how the mini-machine's values and memory stand for the JVM's =====
def inR (z : Int) : Prop := -2147483648 ≤ z ∧ z ≤ 2147483647
def vOK (v : MV) : Prop := match v with
  | Sum.inl z => inR z
  | Sum.inr (Sum.inl _) => True
  | Sum.inr (Sum.inr (Sum.inl _)) => True
  | Sum.inr (Sum.inr (Sum.inr _)) => False
theorem oi_t (t : Int32) : Int32.ofInt t.toInt = t := Int32.ofInt_toInt t
theorem inR_t (t : Int32) : inR t.toInt := ⟨by have := Int32.le_toInt t; simpa using this, by have := Int32.toInt_lt t; omega⟩
theorem toI_of {z : Int} (h : inR z) : (Int32.ofInt z).toInt = z := Int32.toInt_ofInt_of_le (by have := h.1; simpa using this) (by have := h.2; omega)
theorem w32_eq {z : Int} (h1 : -2147483648 ≤ z) (h2 : z ≤ 2147483647) : w32 z = z := toI_of ⟨h1, h2⟩
theorem oi_w32 (z : Int) : Int32.ofInt (w32 z) = Int32.ofInt z := oi_t _
theorem oi_inj {x y : Int} (hx : inR x) (hy : inR y) : Int32.ofInt x = Int32.ofInt y ↔ x = y := by
  constructor
  · intro h
    rw [← toI_of hx, ← toI_of hy, h]
  · intro h; rw [h]
theorem oi_lt {x y : Int} (hx : inR x) (hy : inR y) : Int32.ofInt x < Int32.ofInt y ↔ x < y := by rw [Int32.lt_iff_toInt_lt, toI_of hx, toI_of hy]
theorem oi_le {x y : Int} (hx : inR x) (hy : inR y) : Int32.ofInt x ≤ Int32.ofInt y ↔ x ≤ y := by rw [Int32.le_iff_toInt_le, toI_of hx, toI_of hy]
theorem ofi_0 : Int32.ofInt 0 = 0 := by decide
theorem inR_0 : inR 0 := by unfold inR; omega
/-- where the cells are: the script, the two static arrays, then from a base on -/
abbrev GA : Type := Nat × Nat × Nat × Nat
def gB (g : GA) : Nat := g.2.2.2
def adr (g : GA) (a : Nat) : Nat := if a = 0 then g.1 else if a = 1 then g.2.1 else if a = 2 then g.2.2.1 else g.2.2.2 + (a - 3)
def cv (g : GA) (v : MV) : Value := match v with
  | Sum.inl z => .int (Int32.ofInt z)
  | Sum.inr (Sum.inl x) => .long x
  | Sum.inr (Sum.inr (Sum.inl r)) => va_rf (r.map (adr g))
  | Sum.inr (Sum.inr (Sum.inr _)) => .null
def toL (g : GA) : Nat → List MV → List (Nat × Value)
  | _, [] => []
  | i, Sum.inr (Sum.inr (Sum.inr _)) :: r => toL g (i + 1) r
  | i, v :: r => (i, cv g v) :: toL g (i + 1) r
theorem toL_mem (g : GA) : ∀ (ls : List MV) (i q : Nat) (w : Value), (q, w) ∈ toL g i ls ↔ ∃ (n : Nat) (v : MV), q = i + n ∧ ls[n]? = some v ∧ v ≠ vU ∧ w = cv g v := by
  intro ls
  induction ls with
  | nil => intro i q w; simp [toL]
  | cons v r ih =>
    intro i q w
    have key : (∃ (n : Nat) (v1 : MV), q = i + n ∧ (v :: r)[n]? = some v1 ∧ v1 ≠ vU ∧ w = cv g v1) ↔ (q = i ∧ v ≠ vU ∧ w = cv g v) ∨ ∃ (n : Nat) (v1 : MV), q = (i + 1) + n ∧ r[n]? = some v1 ∧ v1 ≠ vU ∧ w = cv g v1 := by
      constructor
      · rintro ⟨n, v1, h1, h2, h3, h4⟩
        cases n with
        | zero => simp at h2; subst h2; exact Or.inl ⟨by omega, h3, h4⟩
        | succ n => simp at h2; exact Or.inr ⟨n, v1, by omega, h2, h3, h4⟩
      · rintro (⟨h1, h2, h3⟩ | ⟨n, v1, h1, h2, h3, h4⟩)
        · exact ⟨0, v, by omega, by simp, h2, h3⟩
        · exact ⟨n + 1, v1, by omega, by simpa using h2, h3, h4⟩
    rw [key, ← ih]
    match v with
    | Sum.inl z => simp [toL]
    | Sum.inr (Sum.inl x) => simp [toL]
    | Sum.inr (Sum.inr (Sum.inl x)) => simp [toL]
    | Sum.inr (Sum.inr (Sum.inr ())) => simp [toL]
/-- the places of a frame -/
def LR (g : GA) (nL : Nat) (ls : List MV) (la : Array Slot) : Prop := ls.length = nL ∧ (∀ v ∈ ls, v = vU ∨ vOK v) ∧ lv_has la nL (toL g 0 ls)
theorem LR.at {g : GA} {nL : Nat} {ls : List MV} {la : Array Slot} (h : LR g nL ls la) {i : Nat} {v : MV} (hv : ls[i]? = some v) (hn : v ≠ vU) : la[i]? = some (.val (cv g v)) :=
  h.2.2.2.2 (i, cv g v) ((toL_mem g ls 0 i _).mpr ⟨i, v, by omega, hv, hn, rfl⟩)
theorem LR.ok {g : GA} {nL : Nat} {ls : List MV} {la : Array Slot} (h : LR g nL ls la) {i : Nat} {v : MV} (hv : ls[i]? = some v) (hn : v ≠ vU) : vOK v := (h.2.1 v (List.mem_of_getElem? hv)).resolve_left hn
theorem stL_len (ls : List MV) (i : Nat) (v : MV) : (stL ls i v).length = ls.length := by
  unfold stL
  split
  · simp
  · split <;> simp
theorem stL_at (ls : List MV) (i : Nat) (v : MV) {n : Nat} {w : MV} (h : (stL ls i v)[n]? = some w) : (n = i ∧ w = v) ∨ (n ≠ i ∧ (w = vU ∨ (ls[n]? = some w ∧ ¬ (n + 1 = i ∧ ∃ x, w = vL x)))) := by
  unfold stL at h
  split at h
  · rw [List.getElem?_set] at h
    split at h
    · rename_i h1; split at h <;> simp_all
    · rename_i h1; exact Or.inr ⟨fun e => h1 e.symm, Or.inr ⟨h, by omega⟩⟩
  · rename_i i'
    split at h
    · rename_i x hx
      rw [List.getElem?_set] at h
      split at h
      · rename_i h1; split at h <;> simp_all
      · rename_i h1
        rw [List.getElem?_set] at h
        split at h
        · rename_i h2; split at h
          · exact Or.inr ⟨fun e => h1 e.symm, Or.inl (Option.some.inj h).symm⟩
          · cases h
        · rename_i h2; exact Or.inr ⟨fun e => h1 e.symm, Or.inr ⟨h, by omega⟩⟩
    · rename_i hx
      rw [List.getElem?_set] at h
      split at h
      · rename_i h1; split at h <;> simp_all
      · rename_i h1
        refine Or.inr ⟨fun e => h1 e.symm, Or.inr ⟨h, ?_⟩⟩
        rintro ⟨h2, x, rfl⟩
        have : n = i' := by omega
        subst this
        exact hx x h
theorem cv_cat {g : GA} {v : MV} (h : (cv g v).category = 2) : ∃ x, v = vL x := by
  match v with
  | Sum.inl z => simp [cv, Value.category] at h
  | Sum.inr (Sum.inl x) => exact ⟨x, rfl⟩
  | Sum.inr (Sum.inr (Sum.inl r)) => cases r <;> simp [cv, va_rf, Value.category] at h
  | Sum.inr (Sum.inr (Sum.inr _)) => simp [cv, Value.category] at h
/-- a value of one place is stored -/
theorem LR.st {g : GA} {nL : Nat} {ls : List MV} {la : Array Slot} (h : LR g nL ls la) {i : Nat} {v : MV} (hv : vOK v) {la' : Array Slot} (hl : lv_has la' nL ((i, cv g v) :: (toL g 0 ls).filter (fun q => !(q.1 == i) && !(q.1 + 1 == i && q.2.category == 2)))) : LR g nL (stL ls i v) la' := by
  refine ⟨by rw [stL_len]; exact h.1, fun w hw => ?_, hl.1, hl.2.1, fun q hq => ?_⟩
  · obtain ⟨n, hn⟩ := List.getElem?_of_mem hw
    rcases stL_at ls i v hn with ⟨-, rfl⟩ | ⟨-, h1 | ⟨h1, -⟩⟩
    · exact Or.inr hv
    · exact Or.inl h1
    · exact h.2.1 w (List.mem_of_getElem? h1)
  · obtain ⟨q1, q2⟩ := q
    obtain ⟨n, w, e1, e2, e3, e4⟩ := (toL_mem g _ 0 q1 q2).mp hq
    rw [Nat.zero_add] at e1
    subst e1; subst e4
    rcases stL_at ls i v e2 with ⟨rfl, rfl⟩ | ⟨h0, h1 | ⟨h1, h2⟩⟩
    · exact hl.2.2 _ List.mem_cons_self
    · exact absurd h1 e3
    · refine hl.2.2 _ (List.mem_cons_of_mem _ (List.mem_filter.mpr ⟨(toL_mem g ls 0 q1 _).mpr ⟨q1, w, by omega, h1, e3, rfl⟩, ?_⟩))
      simp only [Bool.and_eq_true, Bool.not_eq_true', beq_eq_false_iff_ne, Bool.and_eq_false_iff, ne_eq]
      refine ⟨h0, ?_⟩
      by_cases hc : (cv g w).category = 2
      · exact Or.inl fun e => h2 ⟨e, cv_cat hc⟩
      · exact Or.inr hc
theorem LR.stl {g : GA} {nL : Nat} {ls : List MV} {la : Array Slot} (h : LR g nL ls la) {i : Nat} {x : Int64} {la' : Array Slot} (hl : lv_has la' nL ((i, Value.long x) :: (toL g 0 ls).filter (fun q => !(q.1 == i) && (!(q.1 == i + 1) && !(q.1 + 1 == i && q.2.category == 2))))) : LR g nL ((stL ls i (vL x)).set (i + 1) vU) la' := by
  refine ⟨by rw [List.length_set, stL_len]; exact h.1, fun w hw => ?_, hl.1, hl.2.1, fun q hq => ?_⟩
  · rcases List.mem_or_eq_of_mem_set hw with hw | rfl
    · obtain ⟨n, hn⟩ := List.getElem?_of_mem hw
      rcases stL_at ls i _ hn with ⟨-, rfl⟩ | ⟨-, h1 | ⟨h1, -⟩⟩
      · exact Or.inr trivial
      · exact Or.inl h1
      · exact h.2.1 w (List.mem_of_getElem? h1)
    · exact Or.inl rfl
  · obtain ⟨q1, q2⟩ := q
    obtain ⟨n, w, e1, e2, e3, e4⟩ := (toL_mem g _ 0 q1 q2).mp hq
    rw [Nat.zero_add] at e1
    subst e1; subst e4
    rw [List.getElem?_set] at e2
    split at e2
    · split at e2
      · exact absurd (Option.some.inj e2).symm e3
      · cases e2
    · rename_i h9
      rcases stL_at ls i _ e2 with ⟨rfl, rfl⟩ | ⟨h0, h1 | ⟨h1, h2⟩⟩
      · exact hl.2.2 _ List.mem_cons_self
      · exact absurd h1 e3
      · refine hl.2.2 _ (List.mem_cons_of_mem _ (List.mem_filter.mpr ⟨(toL_mem g ls 0 q1 _).mpr ⟨q1, w, by omega, h1, e3, rfl⟩, ?_⟩))
        simp only [Bool.and_eq_true, Bool.not_eq_true', beq_eq_false_iff_ne, Bool.and_eq_false_iff, ne_eq]
        refine ⟨h0, fun e => h9 e.symm, ?_⟩
        by_cases hc : (cv g w).category = 2
        · exact Or.inl fun e => h2 ⟨e, cv_cat hc⟩
        · exact Or.inr hc
theorem LR.kill1 {g : GA} {nL : Nat} {ls : List MV} {la : Array Slot} (h : LR g nL ls la) (i : Nat) : LR g nL (ls.set i vU) la := by
  refine ⟨by rw [List.length_set]; exact h.1, fun w hw => ?_, h.2.2.1, h.2.2.2.1, fun q hq => ?_⟩
  · rcases List.mem_or_eq_of_mem_set hw with hw | rfl
    · exact h.2.1 w hw
    · exact Or.inl rfl
  · obtain ⟨q1, q2⟩ := q
    obtain ⟨n, w, e1, e2, e3, e4⟩ := (toL_mem g _ 0 q1 q2).mp hq
    rw [Nat.zero_add] at e1
    subst e1; subst e4
    rw [List.getElem?_set] at e2
    split at e2
    · split at e2
      · exact absurd (Option.some.inj e2).symm e3
      · cases e2
    · exact h.2.2.2.2 _ ((toL_mem g ls 0 q1 _).mpr ⟨q1, w, by omega, e2, e3, rfl⟩)
theorem LR.kill {g : GA} {nL : Nat} {la : Array Slot} : ∀ (ns : List Nat) {ls : List MV}, LR g nL ls la → LR g nL (killL ls ns) la
  | [], _, h => h
  | i :: r, _, h => LR.kill r (h.kill1 i)
/-- at a method's entry -/
theorem lvargs_fl (g : GA) : ∀ (as : List MV) (i q : Nat) (w : Value) (n : Nat) (v : MV), q = i + n → (flL as)[n]? = some v → v ≠ vU → w = cv g v → (q, w) ∈ lv_args i (as.map (cv g)) := by
  intro as
  induction as with
  | nil => intro i q w n v h1 h2; simp [flL] at h2
  | cons a r ih =>
    intro i q w n v h1 h2 h3 h4
    match a with
    | Sum.inr (Sum.inl x) =>
      cases n with
      | zero => simp [flL] at h2; subst h2; subst h4; subst h1; simp [lv_args]
      | succ n => cases n with
        | zero => simp [flL] at h2; exact absurd h2.symm h3
        | succ n =>
          have h2' : (flL r)[n]? = some v := by simpa [flL] using h2
          have := ih (i + 2) q w n v (by omega) h2' h3 h4
          simp [lv_args, cv, Value.category]
          exact Or.inr this
    | Sum.inl z =>
      cases n with
      | zero => simp [flL] at h2; subst h2; subst h4; subst h1; simp [lv_args]
      | succ n =>
        have h2' : (flL r)[n]? = some v := by simpa [flL] using h2
        have := ih (i + 1) q w n v (by omega) h2' h3 h4
        simp [lv_args, cv, Value.category]
        exact Or.inr this
    | Sum.inr (Sum.inr (Sum.inl z)) =>
      cases n with
      | zero => simp [flL] at h2; subst h2; subst h4; subst h1; simp [lv_args]
      | succ n =>
        have h2' : (flL r)[n]? = some v := by simpa [flL] using h2
        have := ih (i + 1) q w n v (by omega) h2' h3 h4
        cases z <;> (simp [lv_args, cv, va_rf, Value.category]; exact Or.inr this)
    | Sum.inr (Sum.inr (Sum.inr ())) =>
      cases n with
      | zero => simp [flL] at h2; exact absurd h2.symm h3
      | succ n =>
        have h2' : (flL r)[n]? = some v := by simpa [flL] using h2
        have := ih (i + 1) q w n v (by omega) h2' h3 h4
        simp [lv_args, cv, Value.category]
        exact Or.inr this
