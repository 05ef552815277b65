-- ===== rules for new cells: a memory of what was there (P, of length p) and what is new (T) =====
def ZF (n : Nat) (R : Nat → Int → Option Nat) (I : Nat → Int → Int) (J : Nat → Int → Int64) : Prop := ∀ a, n ≤ a → ∀ i : Int, R a i = none ∧ I a i = 0 ∧ J a i = 0
theorem ZF.up {n m : Nat} {R : Nat → Int → Option Nat} {I : Nat → Int → Int} {J : Nat → Int → Int64} (h : ZF n R I J) (hm : n ≤ m) : ZF m R I J := fun a ha => h a (by omega)
theorem zrN_id {α : Type} {I : Nat → Int → α} {n c : Nat} {d : α} (h : ∀ a, n ≤ a → ∀ i : Int, I a i = d) : zrN I n c d = I := by
  funext a i
  unfold zrN
  by_cases ha : n ≤ a ∧ a < n + c
  · rw [if_pos ha, h a ha.1 i]
  · rw [if_neg ha]
theorem upM_id {α : Type} {I : Nat → Int → α} {a : Nat} {i : Int} {z : α} (h : I a i = z) : upM I a i z = I := by
  funext b j
  by_cases hb : b = a
  · subst hb
    by_cases hj : j = i
    · subst hj; rw [upM_same, h]
    · rw [upM_i hj]
  · rw [upM_ne hb]
theorem gP {P T : MS} {p i : Nat} (hp : P.length = p) : (P ++ T)[p + i]? = T[i]? := by
  subst hp
  rw [List.getElem?_append_right (by omega), Nat.add_sub_cancel_left]
theorem kdP {P T : MS} {p i : Nat} (hp : P.length = p) : kd (P ++ T) (p + i) = kd T i := by unfold kd; rw [gP hp]
theorem lnP {P T : MS} {p i : Nat} (hp : P.length = p) : ln (P ++ T) (p + i) = ln T i := by unfold ln; rw [gP hp]
theorem fzP {P T : MS} {p i k : Nat} (hp : P.length = p) : fz (P ++ T) (p + i) k = fz T i k := by unfold fz; rw [gP hp]
theorem frLP {P T : MS} {p i : Nat} (hp : P.length = p) : frL (P ++ T) (p + i) = frL T i := by unfold frL; rw [gP hp]
theorem setFzP {P T : MS} {p i k : Nat} {r : Option Nat} (hp : P.length = p) : setFz (P ++ T) (p + i) k r = P ++ setFz T i k r := by
  unfold setFz
  rw [gP hp]
  split
  · subst hp
    rw [List.set_append_right _ _ (by omega), Nat.add_sub_cancel_left]
  · rfl
section YR
variable {k j : Nat} {ls st : List MV} {b : Nat × Nat} {P T : MS} {p : Nat} {R : Nat → Int → Option Nat} {I : Nat → Int → Int} {J : Nat → Int → Int64} {Q : Option MV → MM → Prop} {pl : Nat × Nat} {ns : List Nat} {z : Int} {sw : List (Int × Nat)}
theorem y_pI (i : Nat) {y ci fk : Nat} (hp : P.length = p) (hf : opAt k j = (.putfield y, pl, [ci, fk, 0], z, sw)) (hk : kd T i = ci) (h0 : I (p + i) fk = 0) (h : wpc k (j + 1) ls st b (P ++ T, R, I, J) Q) : wpc k j ls (vI 0 :: vR (some (p + i)) :: st) b (P ++ T, R, I, J) Q := by
  refine (w_pI hf ((kdP hp).trans hk)).mpr ?_
  rw [upM_id h0]; exact h
theorem y_pZ (i : Nat) {y ci fk : Nat} (hp : P.length = p) (hf : opAt k j = (.putfield y, pl, [ci, fk, 1], z, sw)) (hk : kd T i = ci) (h0 : I (p + i) fk = 0) (h : wpc k (j + 1) ls st b (P ++ T, R, I, J) Q) : wpc k j ls (vI 0 :: vR (some (p + i)) :: st) b (P ++ T, R, I, J) Q := by
  refine (w_pZ hf ((kdP hp).trans hk) (Or.inl rfl)).mpr ?_
  rw [upM_id h0]; exact h
theorem y_pJ (i : Nat) {y ci fk : Nat} (hp : P.length = p) (hf : opAt k j = (.putfield y, pl, [ci, fk, 2], z, sw)) (hk : kd T i = ci) (h0 : J (p + i) fk = 0) (h : wpc k (j + 1) ls st b (P ++ T, R, I, J) Q) : wpc k j ls (vL (Int64.ofInt 0) :: vR (some (p + i)) :: st) b (P ++ T, R, I, J) Q := by
  refine (w_pJ hf ((kdP hp).trans hk)).mpr ?_
  rw [upM_id (h0.trans (by decide))]; exact h
theorem y_pN (i : Nat) {y ci fk : Nat} (hp : P.length = p) (hf : opAt k j = (.putfield y, pl, [ci, fk, 3], z, sw)) (hk : kd T i = ci) (h0 : R (p + i) fk = none) (h : wpc k (j + 1) ls st b (P ++ T, R, I, J) Q) : wpc k j ls (vR none :: vR (some (p + i)) :: st) b (P ++ T, R, I, J) Q := by
  refine (w_pR hf ((kdP hp).trans hk)).mpr ?_
  rw [upM_id h0]; exact h
theorem y_pR (i : Nat) {y ci fk : Nat} {v : Option Nat} (hp : P.length = p) (hf : opAt k j = (.putfield y, pl, [ci, fk, 3], z, sw)) (hk : kd T i = ci) (h : wpc k (j + 1) ls st b (P ++ T, upM R (p + i) fk v, I, J) Q) : wpc k j ls (vR v :: vR (some (p + i)) :: st) b (P ++ T, R, I, J) Q := (w_pR hf ((kdP hp).trans hk)).mpr h
theorem y_pS (i : Nat) {y ci fk : Nat} {v : Option Nat} (T' : MS) (hp : P.length = p) (hf : opAt k j = (.putfield y, pl, [ci, fk, 4], z, sw)) (hk : kd T i = ci) (hl : fk < frL T i) (hT : setFz T i fk v = T') (h : wpc k (j + 1) ls st b (P ++ T', R, I, J) Q) : wpc k j ls (vR v :: vR (some (p + i)) :: st) b (P ++ T, R, I, J) Q := by
  refine (w_pS hf ((kdP hp).trans hk) (by rw [frLP hp]; exact hl)).mpr ?_
  rw [setFzP hp, hT]; exact h
theorem y_gS (i : Nat) {y ci fk : Nat} {q : Option Nat} (hp : P.length = p) (hf : opAt k j = (.getfield y, pl, [ci, fk, 4], z, sw)) (hk : kd T i = ci) (hq : fz T i fk = q) (h : wpc k (j + 1) ls (vR q :: st) b (P ++ T, R, I, J) Q) : wpc k j ls (vR (some (p + i)) :: st) b (P ++ T, R, I, J) Q := (w_gS hf ((kdP hp).trans hk) ((fzP hp).trans hq)).mpr h
theorem y_make {e : List (Nat × Nat × List (Option Nat))} {cells slots n : Nat} {r : List MV} (T' : MS) (b' : Nat × Nat) (hp : P.length = p) (hn : T.length = n) (hm : mstep (opAt k j) j ls st b (P ++ T, R, I, J) = mNew e cells slots j ls r b (P ++ T, R, I, J)) (hb : (decide (cells ≤ b.1) && decide (slots ≤ b.2)) = true) (hb' : (b.1 - cells, b.2 - slots) = b') (hz : ZF (p + n) R I J) (hT : T ++ e = T') (h : wpc k (j + 1) ls (vR (some (p + n)) :: r) b' (P ++ T', R, I, J) Q) : wpc k j ls st b (P ++ T, R, I, J) Q := by
  have hl : (P ++ T).length = p + n := by rw [List.length_append, hp, hn]
  refine (wpc_nx (j' := j + 1) (ls' := ls) (st' := vR (some (p + n)) :: r) (b' := b') (M' := (P ++ T', R, I, J)) ?_).mpr h
  rw [hm]
  unfold mNew
  rw [hb]
  show nx (j + 1) ls (vR (some (P ++ T).length) :: r) (b.1 - cells, b.2 - slots) ((P ++ T) ++ e, zrN R (P ++ T).length cells none, zrN I (P ++ T).length cells 0, zrN J (P ++ T).length cells 0) = _
  rw [hl, hb', zrN_id (fun a ha i => (hz a ha i).1), zrN_id (fun a ha i => (hz a ha i).2.1), zrN_id (fun a ha i => (hz a ha i).2.2), List.append_assoc, hT]
  rfl
theorem y_new {y ci nf n : Nat} (T' : MS) (b' : Nat × Nat) (hp : P.length = p) (hn : T.length = n) (hf : opAt k j = (.new y, pl, [ci, nf], z, sw)) (hb : (decide (1 ≤ b.1) && decide (nf ≤ b.2)) = true) (hb' : (b.1 - 1, b.2 - nf) = b') (hz : ZF (p + n) R I J) (hT : T ++ [(ci, nf, List.replicate nf none)] = T') (h : wpc k (j + 1) ls (vR (some (p + n)) :: st) b' (P ++ T', R, I, J) Q) : wpc k j ls st b (P ++ T, R, I, J) Q := y_make T' b' hp hn (by rw [hf]; rfl) hb hb' hz hT h
theorem y_arr {t : Jvm.ClassFile.ArrayType} {kind m n : Nat} (T' : MS) (b' : Nat × Nat) (hp : P.length = p) (hn : T.length = n) (hf : opAt k j = (.newarray t, pl, [kind], z, sw)) (hm : m ≤ 1000) (hb : (decide (1 ≤ b.1) && decide (m ≤ b.2)) = true) (hb' : (b.1 - 1, b.2 - m) = b') (hz : ZF (p + n) R I J) (hT : T ++ [(kind, m, if frK kind = true then List.replicate m none else [])] = T') (h : wpc k (j + 1) ls (vR (some (p + n)) :: st) b' (P ++ T', R, I, J) Q) : wpc k j ls (vI (m : Int) :: st) b (P ++ T, R, I, J) Q := y_make T' b' hp hn (by
  rw [hf]
  show mArr kind j ls (vI (m : Int) :: st) b (P ++ T, R, I, J) = _
  unfold mArr
  show gd (decide (0 ≤ (m : Int)) && decide ((m : Int) ≤ 1000)) _ = _
  rw [decide_eq_true (show 0 ≤ (m : Int) by omega), decide_eq_true (show (m : Int) ≤ 1000 by omega)]
  rfl) hb hb' hz hT h
theorem y_aar {y kind m n : Nat} (T' : MS) (b' : Nat × Nat) (hp : P.length = p) (hn : T.length = n) (hf : opAt k j = (.anewarray y, pl, [kind], z, sw)) (hm : m ≤ 1000) (hb : (decide (1 ≤ b.1) && decide (m ≤ b.2)) = true) (hb' : (b.1 - 1, b.2 - m) = b') (hz : ZF (p + n) R I J) (hT : T ++ [(kind, m, if frK kind = true then List.replicate m none else [])] = T') (h : wpc k (j + 1) ls (vR (some (p + n)) :: st) b' (P ++ T', R, I, J) Q) : wpc k j ls (vI (m : Int) :: st) b (P ++ T, R, I, J) Q := y_make T' b' hp hn (by
  rw [hf]
  show mArr kind j ls (vI (m : Int) :: st) b (P ++ T, R, I, J) = _
  unfold mArr
  show gd (decide (0 ≤ (m : Int)) && decide ((m : Int) ≤ 1000)) _ = _
  rw [decide_eq_true (show 0 ≤ (m : Int) by omega), decide_eq_true (show (m : Int) ≤ 1000 by omega)]
  rfl) hb hb' hz hT h
theorem y_mna {y d n : Nat} (T' : MS) (b' : Nat × Nat) (hp : P.length = p) (hn : T.length = n) (hf : opAt k j = (.multianewarray y d, pl, ns, z, sw)) (hb : (decide (7 ≤ b.1) && decide (18 ≤ b.2)) = true) (hb' : (b.1 - 7, b.2 - 18) = b') (hz : ZF (p + n) R I J) (hT : T ++ ((27, 6, (List.range 6).map fun i => some (p + n + 1 + i)) :: List.replicate 6 (20, 2, [])) = T') (h : wpc k (j + 1) ls (vR (some (p + n)) :: st) b' (P ++ T', R, I, J) Q) : wpc k j ls (vI 2 :: vI 6 :: st) b (P ++ T, R, I, J) Q := by
  have hl : (P ++ T).length = p + n := by rw [List.length_append, hp, hn]
  refine y_make (e := (27, 6, (List.range 6).map fun i => some (p + n + 1 + i)) :: List.replicate 6 (20, 2, [])) T' b' hp hn ?_ hb hb' hz hT h
  rw [hf]
  show gd (decide ((6 : Int) = 6) && decide ((2 : Int) = 2)) (mNew ((27, 6, (List.range 6).map fun i => some ((P ++ T).length + 1 + i)) :: List.replicate 6 (20, 2, [])) 7 18 j ls st b (P ++ T, R, I, J)) = _
  rw [hl]
  rfl
/-- a reference is put into an array of such as stay -/
theorem y_aas (a v : Nat) {i : Nat} (T' : MS) (hp : P.length = p) (hf : opAt k j = (.aastore, pl, ns, z, sw)) (hc : (decide (23 ≤ kd T a) && decide (kd T a ≤ 26) && decide (kd T v = elK (kd T a)) && decide (i < ln T a) && frK (kd T a) && decide (i < frL T a)) = true) (hT : setFz T a i (some (p + v)) = T') (h : wpc k (j + 1) ls st b (P ++ T', R, I, J) Q) : wpc k j ls (vR (some (p + v)) :: vI (i : Int) :: vR (some (p + a)) :: st) b (P ++ T, R, I, J) Q := by
  simp only [Bool.and_eq_true, decide_eq_true_eq] at hc
  obtain ⟨⟨⟨⟨⟨c1, c2⟩, c3⟩, c4⟩, c5⟩, c6⟩ := hc
  refine (wpc_nx (j' := j + 1) (ls' := ls) (st' := st) (b' := b) (M' := (P ++ T', R, I, J)) ?_).mpr h
  rw [hf]
  show gd (decide (23 ≤ kd (P ++ T) (p + a)) && decide (kd (P ++ T) (p + a) ≤ 26) && decide (kd (P ++ T) (p + v) = elK (kd (P ++ T) (p + a))) && inB (P ++ T) (p + a) (i : Int) && (!frK (kd (P ++ T) (p + a)) || decide ((i : Int).toNat < frL (P ++ T) (p + a)))) (nx (j + 1) ls st b (if frK (kd (P ++ T) (p + a)) = true then (setFz (P ++ T) (p + a) (i : Int).toNat (some (p + v)), R, I, J) else (P ++ T, upM R (p + a) (i : Int) (some (p + v)), I, J))) = _
  unfold inB
  rw [kdP hp, kdP hp, lnP hp, frLP hp, Int.toNat_natCast, c5, if_pos rfl, setFzP hp, hT, decide_eq_true c1, decide_eq_true c2, decide_eq_true c3, decide_eq_true c6, decide_eq_true (show 0 ≤ (i : Int) by omega), decide_eq_true (show (i : Int) < (ln T a : Int) by omega)]
  rfl
/-- a constructor is called on the last cell -/
theorem y_call {R' : Nat → Int → Option Nat} {y kk ci mc ms mx n5' n : Nat} {c0 : Nat × Nat × List (Option Nat)} {Bl : MS} (T1 : MS) (T' : MS) (b' : Nat × Nat) (hp : P.length = p) (hn : T1.length = n) (hf : opAt k j = (.invokespecial y, pl, [kk, 1, ci, mc, ms, n5', mx], z, sw)) (h5 : ¬ n5' = 9) (hci : c0.1 = ci) (hst : st.length ≤ 4) (hmx : 1 ≤ mx) (hb : (decide (mc ≤ b.1) && decide (ms ≤ b.2)) = true) (hb' : (b.1 - mc, b.2 - ms) = b') (hk : ∀ (P' : MS) (Q' : Option MV → MM → Prop), P'.length = p + n → Q' none (P' ++ Bl, R', I, J) → wpC kk [vR (some (p + n))] (P' ++ [c0], R, I, J) Q') (hT0 : T = T1 ++ [c0]) (hT : T1 ++ Bl = T') (h : wpc k (j + 1) ls st b' (P ++ T', R', I, J) Q) : wpc k j ls (vR (some (p + n)) :: st) b (P ++ T, R, I, J) Q := by
  have hl : (P ++ T1).length = p + n := by rw [List.length_append, hp, hn]
  have hkd : kd (P ++ T) (p + n) = ci := by
    rw [kdP hp, hT0, ← hci]
    unfold kd
    rw [← hn, List.getElem?_append_right (Nat.le_refl _), Nat.sub_self]
    rfl
  simp only [Bool.and_eq_true, decide_eq_true_eq] at hb
  refine (wpc_call (k' := kk) (as := [vR (some (p + n))]) (j' := j + 1) (ls' := ls) (st' := st) (b' := b') (M' := (P ++ T, R, I, J)) ?_).mpr ?_
  · rw [hf]
    show (if n5' = 9 then _ else mInv kk 1 (some ci) mc ms mx j ls (vR (some (p + n)) :: st) b (P ++ T, R, I, J)) = _
    rw [if_neg h5]
    unfold mInv
    show gd (decide (1 ≤ st.length + 1) && decide (st.length ≤ 4) && decide (mc ≤ b.1) && decide (ms ≤ b.2) && decide (1 ≤ mx) && decide (kd (P ++ T) (p + n) = ci)) (some (Sum.inr (Sum.inl (kk, [vR (some (p + n))], (j + 1, ls, st, (b.1 - mc, b.2 - ms), (P ++ T, R, I, J)))))) = _
    rw [decide_eq_true (show 1 ≤ st.length + 1 by omega), decide_eq_true hst, decide_eq_true hb.1, decide_eq_true hb.2, decide_eq_true hmx, decide_eq_true hkd, hb']
    rfl
  · have h2 := hk (P ++ T1) (fun v M2 => wpc k (j + 1) ls (v.toList ++ st) b' M2 Q) hl (by
      rw [List.append_assoc, hT]; exact h)
    rw [List.append_assoc, ← hT0] at h2
    exact h2
end YR
