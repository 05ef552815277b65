-- ===== every pair of heads: both ways give one answer =====
noncomputable def rowF (x : HdE) (l : List HdE) : Bool := List.rec true (fun y _ ih => brF (ckF x y) ih false) l
noncomputable def trF (n : Nat) : List HdE → Bool := Nat.rec (motive := fun _ => List HdE → Bool) (fun _ => true) (fun _ ih l => onL l true fun x r => brF (rowF x (x :: r)) (ih r) false) n
theorem hd_all : hdT.map (fun e => e.1) = hdsU 5 := by decide +kernel
def eOK (e : HdE) : Bool := decide (e.1.length ≤ 5) && (decide (e.2.1 < 1048576) && (decide (e.2.2.1 < 1048576) && (decide (e.2.2.2.1 < 1048576) && ((List.range 5).all (fun n => decide (9 - e.2.1 / 16 ^ n % 16 = e.1.getD n 9) && (decide (15 - e.2.2.1 / 16 ^ n % 16 = if e.1.getD n 9 < 6 ∧ 1 < pts (e.1.getD n 9) then en e.1 (n + 1) else 15) && decide (15 - e.2.2.2.1 / 16 ^ n % 16 = if e.1.getD n 9 < 6 ∧ 1 < pts (e.1.getD n 9) then 5 + en e.1 (n + 1) else 15))) && (decide (e.2.2.2.2.1 = cQ e.1 0 e.1.length) && decide (e.2.2.2.2.2 = cQ e.1 5 e.1.length))))))
theorem hd_ok : hdT.all eOK = true := by decide +kernel
theorem allW_mem (h : List Nat) : ∀ k, wfN h k = true → h ∈ allW h.length k := by
  induction h with
  | nil => intro k hk; unfold wfN at hk; have : k = 0 := by simpa using hk
           subst this; exact List.mem_singleton.mpr rfl
  | cons s r ih =>
    intro k hk
    cases k with
    | zero => unfold wfN at hk; simp at hk
    | succ k =>
      obtain ⟨h6, hr⟩ := wf_cons.mp hk
      show s :: r ∈ [0, 1, 2, 3, 4, 5].flatMap (fun s => (allW r.length (k + pts s)).map (fun t => s :: t))
      rw [List.mem_flatMap]
      refine ⟨s, ?_, List.mem_map.mpr ⟨r, ih _ hr, rfl⟩⟩
      have : s = 0 ∨ s = 1 ∨ s = 2 ∨ s = 3 ∨ s = 4 ∨ s = 5 := by omega
      simpa using this
theorem hd_mem {h : List Nat} (hw : wfN h 1 = true) (hl : h.length ≤ 5) : ∃ e, e ∈ hdT ∧ e.1 = h := by
  have h0 := allW_mem h 1 hw
  have hin : h ∈ hdsU 5 := by
    unfold hdsU
    rw [if_pos (by decide), if_pos (by decide)]
    simp only [List.mem_append]
    have : h.length = 0 ∨ h.length = 1 ∨ h.length = 2 ∨ h.length = 3 ∨ h.length = 4 ∨ h.length = 5 := by omega
    rcases this with e | e | e | e | e | e <;> rw [e] at h0
    · exact absurd h0 (by unfold allW; simp)
    · exact Or.inl (Or.inl (Or.inl (Or.inl h0)))
    · exact Or.inl (Or.inl (Or.inl (Or.inr h0)))
    · exact Or.inl (Or.inl (Or.inr h0))
    · exact Or.inl (Or.inr h0)
    · exact Or.inr h0
  rw [← hd_all, List.mem_map] at hin
  exact hin
theorem rowF_ok {x : HdE} : ∀ {l : List HdE}, rowF x l = true → ∀ y, y ∈ l → ckF x y = true := by
  intro l
  induction l with
  | nil => intro _ y hy; exact absurd hy (by simp)
  | cons z r ih =>
    intro h y hy
    have h' : brF (ckF x z) (rowF x r) false = true := h
    cases hz : ckF x z with
    | false => rw [hz] at h'; exact absurd (show false = true from h') (by decide)
    | true =>
      rw [hz] at h'
      rcases List.mem_cons.mp hy with e | e
      · rw [e]; exact hz
      · exact ih h' y e
theorem trF_ok : ∀ (n : Nat) (l : List HdE), trF n l = true → ∀ i j : Nat, i < n → i ≤ j → ∀ x y, l[i]? = some x → l[j]? = some y → ckF x y = true := by
  intro n
  induction n with
  | zero => intro l _ i j hi; omega
  | succ n ih =>
    intro l h i j hi hij x y hx hy
    cases l with
    | nil => exact absurd hx (by simp)
    | cons z r =>
      have h' : brF (rowF z (z :: r)) (trF n r) false = true := h
      cases hz : rowF z (z :: r) with
      | false => rw [hz] at h'; exact absurd (show false = true from h') (by decide)
      | true =>
        rw [hz] at h'
        cases i with
        | zero =>
          have ex : z = x := by simpa using hx
          subst ex
          exact rowF_ok hz y (List.mem_of_getElem? hy)
        | succ i =>
          cases j with
          | zero => omega
          | succ j => exact ih r h' i j (by omega) (by omega) x y (by simpa using hx) (by simpa using hy)
