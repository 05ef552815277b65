-- ===== every pair of heads: the ways agree =====
theorem ck_at {i j : Nat} {x y : HdE} (hij : i ≤ j) (hi : i < 308) (hx : hdT[i]? = some x) (hy : hdT[j]? = some y) : ckF x y = true := by
  have go : ∀ (a n : Nat), trF n (hdT.drop a) = true → a ≤ i → i < a + n → ckF x y = true := by
    intro a n h h1 h2
    refine trF_ok n _ h (i - a) (j - a) (by omega) (by omega) x y ?_ ?_
    · rw [List.getElem?_drop, show a + (i - a) = i by omega]; exact hx
    · rw [List.getElem?_drop, show a + (j - a) = j by omega]; exact hy
  by_cases c1 : i < 22
  · exact go 0 22 tr_1 (by omega) (by omega)
  · by_cases c2 : i < 45
    · exact go 22 23 tr_2 (by omega) (by omega)
    · by_cases c3 : i < 70
      · exact go 45 25 tr_3 (by omega) (by omega)
      · by_cases c4 : i < 95
        · exact go 70 25 tr_4 (by omega) (by omega)
        · by_cases c5 : i < 110
          · exact go 95 15 tr_5 (by omega) (by omega)
          · by_cases c6 : i < 125
            · exact go 110 15 tr_6 (by omega) (by omega)
            · by_cases c7 : i < 140
              · exact go 125 15 tr_7 (by omega) (by omega)
              · by_cases c8 : i < 155
                · exact go 140 15 tr_8 (by omega) (by omega)
                · by_cases c9 : i < 172
                  · exact go 155 17 tr_9 (by omega) (by omega)
                  · by_cases c10 : i < 190
                    · exact go 172 18 tr_10 (by omega) (by omega)
                    · by_cases c11 : i < 210
                      · exact go 190 20 tr_11 (by omega) (by omega)
                      · by_cases c12 : i < 240
                        · exact go 210 30 tr_12 (by omega) (by omega)
                        · exact go 240 68 tr_13 (by omega) (by omega)
theorem ck_any {x y : HdE} (hx : x ∈ hdT) (hy : y ∈ hdT) : ckF x y = true ∨ ckF y x = true := by
  obtain ⟨i, hi⟩ := List.mem_iff_getElem?.mp hx
  obtain ⟨j, hj⟩ := List.mem_iff_getElem?.mp hy
  have hlen : hdT.length = 308 := by decide +kernel
  have li : i < hdT.length := by
    apply Classical.byContradiction; intro q
    rw [List.getElem?_eq_none (by omega)] at hi; exact absurd hi (by simp)
  have lj : j < hdT.length := by
    apply Classical.byContradiction; intro q
    rw [List.getElem?_eq_none (by omega)] at hj; exact absurd hj (by simp)
  by_cases h : i ≤ j
  · exact Or.inl (ck_at h (by omega) hi hj)
  · exact Or.inr (ck_at (by omega) (by omega) hj hi)
theorem nb_two {A B : Nat} (hA : A < 1048576) (n : Nat) : nb (Nat.add A (Nat.mul 1048576 B)) n = if n < 5 then A / 16 ^ n % 16 else B / 16 ^ (n - 5) % 16 := by
  show (A + 1048576 * B) / 16 ^ n % 16 = _
  by_cases h : n < 5
  · rw [if_pos h]
    have : n = 0 ∨ n = 1 ∨ n = 2 ∨ n = 3 ∨ n = 4 := by omega
    rcases this with e | e | e | e | e <;> subst e <;> simp only [Nat.reducePow] <;> omega
  · rw [if_neg h]
    obtain ⟨m, rfl⟩ : ∃ m, n = 5 + m := ⟨n - 5, by omega⟩
    rw [show 5 + m - 5 = m by omega, Nat.pow_add, ← Nat.div_div_eq_div_mul, show (16 : Nat) ^ 5 = 1048576 from rfl, show (A + 1048576 * B) / 1048576 = B by omega]
theorem big_0 {A n : Nat} (hA : A < 1048576) (h : 5 ≤ n) : A / 16 ^ n % 16 = 0 := by
  have : (16 : Nat) ^ 5 ≤ 16 ^ n := Nat.pow_le_pow_right (by decide) h
  rw [Nat.div_eq_of_lt (by rw [show (16 : Nat) ^ 5 = 1048576 from rfl] at this; omega)]
def EnT (e : HdE) : Prop := e.1.length ≤ 5 ∧ e.2.1 < 1048576 ∧ e.2.2.1 < 1048576 ∧ e.2.2.2.1 < 1048576 ∧ (∀ n, n < 5 → 9 - e.2.1 / 16 ^ n % 16 = e.1.getD n 9) ∧ (∀ n, n < 5 → 15 - e.2.2.1 / 16 ^ n % 16 = if e.1.getD n 9 < 6 ∧ 1 < pts (e.1.getD n 9) then en e.1 (n + 1) else 15) ∧ (∀ n, n < 5 → 15 - e.2.2.2.1 / 16 ^ n % 16 = if e.1.getD n 9 < 6 ∧ 1 < pts (e.1.getD n 9) then 5 + en e.1 (n + 1) else 15) ∧ e.2.2.2.2.1 = cQ e.1 0 e.1.length ∧ e.2.2.2.2.2 = cQ e.1 5 e.1.length
theorem EnT.l {e : HdE} (h : EnT e) : e.1.length ≤ 5 := h.1
theorem EnT.t {e : HdE} (h : EnT e) : e.2.1 < 1048576 := h.2.1
theorem EnT.p {e : HdE} (h : EnT e) : e.2.2.1 < 1048576 := h.2.2.1
theorem EnT.p2 {e : HdE} (h : EnT e) : e.2.2.2.1 < 1048576 := h.2.2.2.1
theorem EnT.tn {e : HdE} (h : EnT e) : ∀ n, n < 5 → 9 - e.2.1 / 16 ^ n % 16 = e.1.getD n 9 := h.2.2.2.2.1
theorem EnT.pn {e : HdE} (h : EnT e) : ∀ n, n < 5 → 15 - e.2.2.1 / 16 ^ n % 16 = if e.1.getD n 9 < 6 ∧ 1 < pts (e.1.getD n 9) then en e.1 (n + 1) else 15 := h.2.2.2.2.2.1
theorem EnT.qn {e : HdE} (h : EnT e) : ∀ n, n < 5 → 15 - e.2.2.2.1 / 16 ^ n % 16 = if e.1.getD n 9 < 6 ∧ 1 < pts (e.1.getD n 9) then 5 + en e.1 (n + 1) else 15 := h.2.2.2.2.2.2.1
theorem EnT.q1 {e : HdE} (h : EnT e) : e.2.2.2.2.1 = cQ e.1 0 e.1.length := h.2.2.2.2.2.2.2.1
theorem EnT.q2 {e : HdE} (h : EnT e) : e.2.2.2.2.2 = cQ e.1 5 e.1.length := h.2.2.2.2.2.2.2.2
theorem en_t {e : HdE} (he : e ∈ hdT) : EnT e := by
  have h := List.all_eq_true.mp hd_ok e he
  unfold eOK at h
  simp only [Bool.and_eq_true, decide_eq_true_eq, List.all_eq_true, List.mem_range] at h
  obtain ⟨a1, a2, a3, a4, a5, a6, a7⟩ := h
  exact ⟨a1, a2, a3, a4, fun n hn => (a5 n hn).1, fun n hn => (a5 n hn).2.1, fun n hn => (a5 n hn).2.2, a6, a7⟩
theorem getD_none {l : List Nat} {n d : Nat} (h : l.length ≤ n) : l.getD n d = d := by
  rw [List.getD_eq_getElem?_getD, List.getElem?_eq_none h]; rfl
theorem tT {x y : HdE} (hx : EnT x) (hy : EnT y) (n : Nat) : lF (Nat.add x.2.1 (Nat.mul 1048576 y.2.1)) n = uL x.1 y.1 n := by
  unfold lF uL
  rw [nb_two hx.t]
  show 9 - _ = _
  by_cases h : n < 5
  · rw [if_pos h, if_pos h]; exact hx.tn n h
  · rw [if_neg h, if_neg h]
    by_cases h2 : n - 5 < 5
    · exact hy.tn _ h2
    · rw [big_0 hy.t (by omega), getD_none (Nat.le_trans hy.l (by omega))]
theorem tP {x y : HdE} (hx : EnT x) (hy : EnT y) (n : Nat) : pPF (Nat.add x.2.2.1 (Nat.mul 1048576 y.2.2.2.1)) n = cP x.1 y.1 n := by
  unfold pPF cP uL
  rw [nb_two hx.p]
  show 15 - _ = _
  by_cases h : n < 5
  · rw [if_pos h, if_pos h, if_pos h]; exact hx.pn n h
  · rw [if_neg h, if_neg h, if_neg h]
    by_cases h2 : n - 5 < 5
    · exact hy.qn _ h2
    · rw [big_0 hy.p2 (by omega), getD_none (Nat.le_trans hy.l (by omega)), if_neg (fun q => absurd q.1 (by decide))]
theorem sO_ok {o : Option Bool} {b : Bool} (h : sO o b = true) : o = some b := by
  cases o with
  | none => exact absurd (show false = true from h) (by decide)
  | some c => cases b <;> cases c <;> first | rfl | exact absurd (show false = true from h) (by decide)
theorem ck_ok {x y : HdE} (hx : EnT x) (hy : EnT y) (h : ckF x y = true) : ∃ b, uni x.1 y.1 = some b ∧ uni y.1 x.1 = some b ∧ met x.1 y.1 = some b ∧ met y.1 x.1 = some b := by
  unfold ckF at h
  rw [frc_eq, frc_eq, uniF_eq (tT hx hy), uniF_eq (tT hy hx), hx.q1, hx.q2, hy.q1, hy.q2, metF_eq (tT hx hy) (tP hx hy) hy.l, metF_eq (tT hy hx) (tP hy hx) hx.l] at h
  cases hu : uni x.1 y.1 with
  | none => rw [hu] at h; exact absurd (show false = true from h) (by decide)
  | some b =>
    rw [hu] at h
    have h' : brF (sO (uni y.1 x.1) b) (brF (sO (met x.1 y.1) b) (sO (met y.1 x.1) b) false) false = true := h
    cases c1 : sO (uni y.1 x.1) b with
    | false => rw [c1] at h'; exact absurd (show false = true from h') (by decide)
    | true =>
      rw [c1] at h'
      have h2 : brF (sO (met x.1 y.1) b) (sO (met y.1 x.1) b) false = true := h'
      cases c2 : sO (met x.1 y.1) b with
      | false => rw [c2] at h2; exact absurd (show false = true from h2) (by decide)
      | true =>
        rw [c2] at h2
        exact ⟨b, rfl, sO_ok c1, sO_ok c2, sO_ok h2⟩
/-- of any two heads: both ways, in both orders, give one answer -/
theorem meet_ok {h1 h2 : List Nat} (w1 : wfN h1 1 = true) (l1 : h1.length ≤ 5) (w2 : wfN h2 1 = true) (l2 : h2.length ≤ 5) : ∃ b, uni h1 h2 = some b ∧ uni h2 h1 = some b ∧ met h1 h2 = some b ∧ met h2 h1 = some b := by
  obtain ⟨x, hx, rfl⟩ := hd_mem w1 l1
  obtain ⟨y, hy, rfl⟩ := hd_mem w2 l2
  rcases ck_any hx hy with h | h
  · exact ck_ok (en_t hx) (en_t hy) h
  · obtain ⟨b, a1, a2, a3, a4⟩ := ck_ok (en_t hy) (en_t hx) h
    exact ⟨b, a2, a1, a4, a3⟩
