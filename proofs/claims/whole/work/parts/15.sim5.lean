-- ===== references into arrays; new cells =====
theorem elK_cl {kk : Nat} (h1 : 23 ≤ kk) (h2 : kk ≤ 26) : elK kk < 10 ∧ aty kk = .object (cnm (elK kk)) := by
  have : kk = 23 ∨ kk = 24 ∨ kk = 25 ∨ kk = 26 := by omega
  rcases this with rfl | rfl | rfl | rfl <;> exact ⟨by decide, rfl⟩
section SIM5
variable {g : GA} {D : va_G} {l : Launch} {p : Program} {e : Env} {R : Room} {s : State} {m : MethodId} {args : Array Value} {below : List Frame} {meth : Method} {c : Code} {PQ : State → Prop} {k j j' : Nat} {ls st ls' st' : List MV} {b b' : Nat × Nat} {M M' : MM} {H : Heap} {locs : List Loc} {cells slots : Nat} {la : Array Slot} {rest : List Value} {pc a ci fk idx : Nat}
theorem si_aastore (hC : Cx D p R s m args meth c k) (hok : okOp k j = true) (hi : (opAt k j).1 = .aastore) (hs : (pRIR st fun a i v r => gd (decide (23 ≤ kd M.1 a) && decide (kd M.1 a ≤ 26) && decide (kd M.1 v = elK (kd M.1 a)) && inB M.1 a i && (!frK (kd M.1 a) || decide (i.toNat < frL M.1 a))) (nx (j + 1) ls r b (if frK (kd M.1 a) = true then (setFz M.1 a i.toNat (some v), M.2.1, M.2.2.1, M.2.2.2) else (M.1, upM M.2.1 a i (some v), M.2.2.1, M.2.2.2)))) = some (Sum.inl (j', ls', st', b', M'))) (IH : Sim g D l p e R s m args below meth c PQ k j' ls' st' b' M') : Sim g D l p e R s m args below meth c PQ k j ls st b M := by
  obtain ⟨hd, h2⟩ := ok1 hok hi (fun h => by cases h)
  unfold okI at h2
  simp only [hi, Bool.and_eq_true, decide_eq_true_eq, fl1] at h2
  obtain ⟨hlen, hpc⟩ := h2
  rw [hlen] at hd hpc
  obtain ⟨a, i, v, r, rfl, hs⟩ := pRIR_inv hs
  obtain ⟨hg, hs⟩ := gd_inv hs
  cases hs
  simp only [Bool.and_eq_true, Bool.or_eq_true, decide_eq_true_eq] at hg
  obtain ⟨⟨⟨⟨hg1, hg2⟩, hg3⟩, hg4⟩, hg5⟩ := hg
  intro H locs cells slots la hRep hLR hst hlocs hcl hsl
  obtain ⟨hx, hb, hml, hown, hts, hK, hnm, hf1, hf2⟩ := hC
  have hir : inR i := hst (vI i) (List.mem_cons_of_mem _ List.mem_cons_self)
  obtain ⟨cell, c1, c2, c3, c4, c5, c6⟩ := arr_at (a := a) hRep rfl (by omega) (by omega)
  obtain ⟨b1, b2⟩ := inB_of hg4
  obtain ⟨hel, hty⟩ := elK_cl hg1 hg2
  rw [hty] at c6
  obtain ⟨kA, comp, k1, k2, k3, -⟩ := (c6 : va_RA s cell.cls (.object (cnm (elK (kd M.1 a)))))
  obtain ⟨env, hev, hev1⟩ := kd_ex hg3 (by omega)
  obtain ⟨cellV, g1, g2, g3, -⟩ := (hRep.1 v env hev).1 (by rw [hev1]; exact hel)
  rw [hev1] at g2
  have hcls := (hK.1.1 (elK (kd M.1 a)) _ (vw_at hel)).2
  have hcomp : comp = D.1 (elK (kd M.1 a)) := Option.some.inj (k3.symm.trans hcls.1)
  subst hcomp
  obtain ⟨kC, hkC, -⟩ := hcls.2
  have hin := inX hir hg4 c4.1
  refine W.aast hx hb c1 c2.1 c3 k1 k2 rfl hkC ⟨fun q => hin (Or.inl q), Nat.lt_of_not_le (fun q => hin (Or.inr q))⟩ g1 (fun q h => by rw [g3] at h; cases h) (by rw [g2]; exact hkC) (by rw [g2]; exact va_assign hcls) rfl rfl hd (fun H1 e1 e2 e3 => ?_)
  rw [ix_of hir] at e1 ⊢
  have hRep2 : Rep g D s (if frK (kd M.1 a) = true then (setFz M.1 a i.toNat (some v), M.2.1, M.2.2.1, M.2.2.2) else (M.1, upM M.2.1 a i (some v), M.2.2.1, M.2.2.2)) H1 := by
    obtain ⟨en, he, hen⟩ := kd_ex (S := M.1) (a := a) rfl (by omega)
    by_cases hfr : frK (kd M.1 a) = true
    · rw [if_pos hfr]
      have hlt : i.toNat < en.2.2.length := by
        have h9 : i.toNat < frL M.1 a := by
          rcases hg5 with h | h
          · rw [hfr] at h; cases h
          · exact h
        unfold frL at h9; rw [he] at h9; exact h9
      refine hRep.ast rfl (by omega) (by omega) c1 e1 e2 e3 (by omega) (setFz_len _ _ _ _) (fun b hb => setFz_ne hb) (fun _ _ => rfl) (fun _ _ => rfl) (fun _ _ => rfl) (fun q => hRep.2.2.2.2.1 a q) (fun en he => ⟨_, setFz_at he, rfl, rfl⟩) ?_ (fun q hq hne => ?_)
      · unfold elv
        rw [if_neg (by omega), if_pos hfr]
        show va_rf ((fz (setFz M.1 a i.toNat (some v)) a i.toNat).map (adr g)) = _
        rw [fz_set he hlt, if_pos rfl]
        rfl
      · unfold elv
        rw [if_neg (by omega), if_pos hfr, if_neg (by omega), if_pos hfr]
        show va_rf ((fz (setFz M.1 a i.toNat (some v)) a q).map (adr g)) = _
        rw [fz_set he hlt, if_neg hne]
    · rw [if_neg hfr]
      refine hRep.ast rfl (by omega) (by omega) c1 e1 e2 e3 (by omega) rfl (fun _ _ => rfl) (fun b hb => upM_ne hb) (fun _ _ => rfl) (fun _ _ => rfl) (fun q => hRep.2.2.2.2.1 a q) (fun en he => ⟨en, he, rfl, rfl⟩) ?_ (fun q hq hne => ?_)
      · unfold elv
        rw [if_neg (by omega), if_neg hfr]
        show va_rf ((upM M.2.1 a i (some v) a (i.toNat : Int)).map (adr g)) = _
        rw [show ((i.toNat : Nat) : Int) = i by omega, upM_eq, upr_eq]
        rfl
      · unfold elv
        rw [if_neg (by omega), if_neg hfr, if_neg (by omega), if_neg hfr]
        show va_rf ((upM M.2.1 a i (some v) a (q : Int)).map (adr g)) = _
        rw [upM_eq, upr_ne (by omega)]
  have h3 := IH H1 _ cells slots la hRep2 hLR (fun w hw => hst w (List.mem_cons_of_mem _ (List.mem_cons_of_mem _ (List.mem_cons_of_mem _ hw)))) (loc_ok hRep hlocs (hRep.hi (a := a) rfl (by omega)) i.toNat) hcl hsl
  rw [hpc] at h3
  exact h3
theorem newM_fz {es : MS} {i : Nat} {en : Nat × Nat × List (Option Nat)} (h : es[i]? = some en) (z : Nat) : fz (newM M es).1 (M.1.length + i) z = en.2.2.getD z none := by
  apply fz_at
  show (M.1 ++ es)[M.1.length + i]? = some en
  rw [List.getElem?_append_right (by omega), show M.1.length + i - M.1.length = i by omega]
  exact h
theorem newM_lt {es : MS} {i : Nat} {en : Nat × Nat × List (Option Nat)} (h : es[i]? = some en) : i < es.length := (List.getElem?_eq_some_iff.mp h).1
theorem newM_I {es : MS} {i : Nat} {en : Nat × Nat × List (Option Nat)} (h : es[i]? = some en) (z : Int) : (newM M es).2.2.1 (M.1.length + i) z = 0 := by
  have := newM_lt h
  show zrN M.2.2.1 M.1.length es.length 0 (M.1.length + i) z = 0
  rw [zrN_in (by omega) (by omega)]
theorem newM_J {es : MS} {i : Nat} {en : Nat × Nat × List (Option Nat)} (h : es[i]? = some en) (z : Int) : (newM M es).2.2.2 (M.1.length + i) z = 0 := by
  have := newM_lt h
  show zrN M.2.2.2 M.1.length es.length 0 (M.1.length + i) z = 0
  rw [zrN_in (by omega) (by omega)]
theorem newM_R {es : MS} {i : Nat} {en : Nat × Nat × List (Option Nat)} (h : es[i]? = some en) (z : Int) : (newM M es).2.1 (M.1.length + i) z = none := by
  have := newM_lt h
  show zrN M.2.1 M.1.length es.length none (M.1.length + i) z = none
  rw [zrN_in (by omega) (by omega)]
theorem mNew_inv {es : MS} {nc ns : Nat} {r : List MV} (hc : nc = es.length) (h : mNew es nc ns j ls r b M = some (Sum.inl (j', ls', st', b', M'))) : nc ≤ b.1 ∧ ns ≤ b.2 ∧ j' = j + 1 ∧ ls' = ls ∧ st' = vR (some M.1.length) :: r ∧ b' = (b.1 - nc, b.2 - ns) ∧ M' = newM M es := by
  unfold mNew at h
  obtain ⟨hg, h⟩ := gd_inv h
  simp only [Bool.and_eq_true, decide_eq_true_eq] at hg
  subst hc
  cases h
  exact ⟨hg.1, hg.2, rfl, rfl, rfl, rfl, rfl⟩
theorem defv_f (c k : Nat) (hk : fkind c k ≤ 4) : defaultValue (cTy c k) = (match fkind c k with
  | 0 => .int (Int32.ofInt 0)
  | 1 => .int (Int32.ofInt 0)
  | 2 => .long 0
  | _ => .null) := by
  have : fkind c k = 0 ∨ fkind c k = 1 ∨ fkind c k = 2 ∨ fkind c k = 3 ∨ fkind c k = 4 := by omega
  rcases this with h | h | h | h | h
  · rw [h, cTy_i h]; rfl
  · rw [h, cTy_z h]; rfl
  · rw [h, cTy_l h]; rfl
  · rw [h]
    rcases cTy_q (Or.inl h) with ⟨n, h⟩ | ⟨n, h⟩ <;> rw [h] <;> rfl
  · rw [h]
    rcases cTy_q (Or.inr h) with ⟨n, h⟩ | ⟨n, h⟩ <;> rw [h] <;> rfl
theorem fk_all : ∀ c, c < 10 → ∀ k, k < cN c → fkind c k ≤ 4 := by decide +kernel
theorem cN_le : ∀ c, c < 10 → cN c ≤ 63 := by decide +kernel
theorem si_new (hC : Cx D p R s m args meth c k) (hok : okOp k j = true) (hi : (opAt k j).1 = .new idx) (hs : mNew [(n0 (opAt k j), n1 (opAt k j), List.replicate (n1 (opAt k j)) none)] 1 (n1 (opAt k j)) j ls st b M = some (Sum.inl (j', ls', st', b', M'))) (IH : Sim g D l p e R s m args below meth c PQ k j' ls' st' b' M') : Sim g D l p e R s m args below meth c PQ k j ls st b M := by
  obtain ⟨hd, h2⟩ := ok1 hok hi (fun h => by cases h)
  unfold okI at h2
  simp only [hi, Bool.and_eq_true, decide_eq_true_eq, fl1] at h2
  obtain ⟨⟨⟨⟨hlen, hpc⟩, hcm⟩, hci⟩, hN⟩ := h2
  rw [hlen] at hd hpc
  obtain ⟨hb1, hb2, rfl, rfl, rfl, rfl, rfl⟩ := mNew_inv (nc := 1) rfl hs
  rw [hN] at IH hb2
  generalize hcc : n0 (opAt k j) = cc at IH hci hcm hb2
  intro H locs cells slots la hRep hLR hst hlocs hcl hsl
  obtain ⟨hx, hb, hml, hown, hts, hK, hnm, hf1, hf2⟩ := hC
  have hKn := hK.1.1 cc _ (vw_at hci)
  refine W.newcK hx hb hown (hts _ (cl_ok (owK k) _ (List.contains_iff_mem.mp hcm))) (hts _ (ins_ok cc hci)) (hts _ (ini_ok cc (by omega))) rfl hd (by omega) (by omega) hKn.2.1 rfl (fun H1 kC hkC e1 e2 e3 => ?_)
  have hRep2 : Rep g D s (newM M [(cc, cN cc, List.replicate (cN cc) none)]) H1 := by
    refine hRep.new _ e2 e3 (fun i en hen => ?_)
    have hi0 : i = 0 := by have := newM_lt hen; simp at this; exact this
    subst hi0
    have hen2 := hen
    simp at hen
    subst hen
    refine ⟨fun _ => ?_, fun h => absurd hci h, by have := cN_le cc hci; simp only; omega⟩
    rw [adr_len hRep]
    refine (u_born (cTy cc) hts (lay_ok cc hci) hKn hkC e1 (cTy_ok hci)).to (fun z hz => ?_)
    show defaultValue (cTy cc z) = fvl g _ (M.1.length + 0) cc z
    rw [defv_f cc z (fk_all cc hci z hz)]
    unfold fvl
    rw [newM_fz hen2, newM_I hen2, newM_J hen2, newM_R hen2]
    have : (List.replicate (cN cc) (none : Option Nat)).getD z none = none := by
      rw [List.getD_eq_getElem?_getD, List.getElem?_replicate]; split <;> rfl
    have h5 : fkind cc z = 0 ∨ fkind cc z = 1 ∨ fkind cc z = 2 ∨ fkind cc z = 3 ∨ fkind cc z = 4 := by have := fk_all cc hci z hz; omega
    rcases h5 with h | h | h | h | h <;> simp only [h, this] <;> rfl
  have h3 := IH H1 locs (cells + 1) (slots + cN cc) la hRep2 hLR (vok_cons trivial hst) hlocs (by show cells + 1 + (b.1 - 1) ≤ _; omega) (by show slots + cN cc + (b.2 - cN cc) ≤ _; omega)
  rw [hpc] at h3
  have ea : adr g M.1.length = H.size := adr_len hRep 0
  have h4 : (vR (some M.1.length) :: st).map (cv g) = .ref H.size :: st.map (cv g) := by
    show Value.ref (adr g M.1.length) :: _ = _
    rw [ea]
  rw [h4] at h3
  exact h3
/-- one new array, its places as a new memory has them -/
theorem Rep.newA (hRep : Rep g D s M H) {H1 : Heap} {kind n : Nat} {fr : List (Option Nat)} {cell : Cell} {dv : Value} (hk1 : 20 ≤ kind) (hk2 : kind ≤ 26) (hn : n ≤ 1000) (e1 : H1[H.size]? = some cell) (e2 : H1.size = H.size + 1) (e3 : ∀ q, q < H.size → H1[q]? = H[q]?) (ha : s.isArrayOf cell (aty kind)) (hu : cell.vm ≠ .unknown) (hz : cell.slots.size = n) (hv : ∀ i, i < n → cell.slots[i]? = some dv) (hdv : dv = if kind ≤ 22 then .int 0 else .null) (hfr : ∀ z, fr.getD z none = none) (hra : ∀ C, aty kind = .object C → va_RA s cell.cls (.object C)) : Rep g D s (newM M [(kind, n, fr)]) H1 := by
  refine hRep.new _ e2 e3 (fun i en hen => ?_)
  have hi0 : i = 0 := by have := newM_lt hen; simp at this; exact this
  subst hi0
  have hen2 := hen
  simp at hen
  subst hen
  refine ⟨fun h => absurd h (by simp only; omega), fun _ => ⟨by simp only; omega, ?_⟩, by simp only; omega⟩
  rw [adr_len hRep]
  refine ⟨cell, e1, ha, hu, ⟨Nat.le_of_eq hz.symm, by rw [hz] <;> rfl⟩, fun i hi => ?_, ?_⟩
  · rw [hv i hi, hdv]
    show _ = some (elv g _ (M.1.length + 0) kind i)
    unfold elv
    rw [newM_fz hen2, newM_I hen2, newM_R hen2]
    by_cases h22 : kind ≤ 22
    · rw [if_pos h22, if_pos h22]; rfl
    · rw [if_neg h22, if_neg h22]
      simp only [hfr]
      split <;> rfl
  · show match aty kind with
      | .object C => va_RA s cell.cls (.object C)
      | _ => True
    split
    · rename_i C hC; exact hra C hC
    · trivial
theorem mArr_inv {kind : Nat} (h : mArr kind j ls st b M = some (Sum.inl (j', ls', st', b', M'))) : ∃ (n : Int) (r : List MV), st = vI n :: r ∧ 0 ≤ n ∧ n ≤ 1000 ∧ 1 ≤ b.1 ∧ n.toNat ≤ b.2 ∧ j' = j + 1 ∧ ls' = ls ∧ st' = vR (some M.1.length) :: r ∧ b' = (b.1 - 1, b.2 - n.toNat) ∧ M' = newM M [(kind, n.toNat, if frK kind = true then List.replicate n.toNat none else [])] := by
  unfold mArr at h
  obtain ⟨n, r, rfl, h⟩ := pI_inv h
  obtain ⟨hg, h⟩ := gd_inv h
  simp only [Bool.and_eq_true, decide_eq_true_eq] at hg
  obtain ⟨h1, h2, h3, h4, h5, h6, h7⟩ := mNew_inv (nc := 1) rfl h
  exact ⟨n, r, rfl, hg.1, hg.2, h1, h2, h3, h4, h5, h6, h7⟩
theorem fr_none (kind n : Nat) : ∀ z, (if frK kind = true then List.replicate n (none : Option Nat) else []).getD z none = none := by
  intro z
  split
  · rw [List.getD_eq_getElem?_getD, List.getElem?_replicate]; split <;> rfl
  · rfl
theorem nneg {n : Int} (hr : inR n) (h : 0 ≤ n) : ¬ Int32.ofInt n < 0 := by
  rw [show (0 : Int32) = Int32.ofInt 0 from ofi_0.symm, oi_lt hr inR_0]; omega
theorem si_newarray {t : ArrayType} (hC : Cx D p R s m args meth c k) (hok : okOp k j = true) (hi : (opAt k j).1 = .newarray t) (hs : mArr (n0 (opAt k j)) j ls st b M = some (Sum.inl (j', ls', st', b', M'))) (IH : Sim g D l p e R s m args below meth c PQ k j' ls' st' b' M') : Sim g D l p e R s m args below meth c PQ k j ls st b M := by
  obtain ⟨hd, h2⟩ := ok1 hok hi (fun h => by cases h)
  unfold okI at h2
  simp only [hi, Bool.and_eq_true, Bool.or_eq_true, decide_eq_true_eq, fl1] at h2
  obtain ⟨⟨hlen, hpc⟩, hkt⟩ := h2
  rw [hlen] at hd hpc
  obtain ⟨n, r, rfl, hn0, hn1, hb1, hb2, rfl, rfl, rfl, rfl, rfl⟩ := mArr_inv hs
  intro H locs cells slots la hRep hLR hst hlocs hcl hsl
  obtain ⟨hx, hb, hml, hown, hts, hK, hnm, hf1, hf2⟩ := hC
  have hnr : inR n := hst (vI n) List.mem_cons_self
  have hst2 : ∀ w ∈ r, vOK w := fun w hw => hst w (List.mem_cons_of_mem _ hw)
  have ea : adr g M.1.length = H.size := adr_len hRep 0
  have key : ∀ (kind : Nat), n0 (opAt k j) = kind → 20 ≤ kind → kind ≤ 22 → newarray.typeOf t = aty kind → Cond.arrayClass (newarray.typeOf t) ∈ lwG → defaultValue (newarray.typeOf t) = .int 0 → componentBytes (newarray.typeOf t) ≤ 4 → W p l e R s m args below meth c H locs cells slots PQ (F0 m (pcK k j) la (.int (Int32.ofInt n) :: r.map (cv g))) := by
    intro kind hkd h20 h22 hty hac hdv hcb
    rw [hkd] at IH
    refine W.newaK hx hb (hts _ hac) rfl hd rfl (nneg hnr hn0) (ix_of hnr) ?_ (by omega) (by omega) rfl (fun H1 cA e1 e2 e3 hAr => ?_)
    · have : n.toNat * componentBytes (newarray.typeOf t) ≤ 1000 * 4 := Nat.mul_le_mul (by omega) hcb
      omega
    have hRep2 := hRep.newA (kind := kind) (n := n.toNat) (fr := if frK kind = true then List.replicate n.toNat none else []) (dv := .int 0) h20 (by omega) (by omega) e1 e2 e3 (by rw [← hty]; exact hAr _ _) (fun h => by cases h) (arrV_size _ _ _) (fun i hi => by rw [arrV_read _ _ hi, hdv]) (by rw [if_pos h22]) (fr_none _ _) (fun C hC => by
      have : kind = 20 ∨ kind = 21 ∨ kind = 22 := by omega
      rcases this with rfl | rfl | rfl <;> cases hC)
    have h3 := IH H1 locs (cells + 1) (slots + n.toNat) la hRep2 hLR (vok_cons trivial hst2) hlocs (by show cells + 1 + (b.1 - 1) ≤ _; omega) (by show slots + n.toNat + (b.2 - n.toNat) ≤ _; omega)
    rw [hpc] at h3
    have h4 : (vR (some M.1.length) :: r).map (cv g) = .ref H.size :: r.map (cv g) := by
      show Value.ref (adr g M.1.length) :: _ = _
      rw [ea]
    rw [h4] at h3
    exact h3
  rcases hkt with (⟨rfl, h⟩ | ⟨rfl, h⟩) | ⟨rfl, h⟩
  · exact key 20 h (by omega) (by omega) rfl ac_int rfl (by decide)
  · exact key 21 h (by omega) (by omega) rfl ac_byte rfl (by decide)
  · exact key 22 h (by omega) (by omega) rfl ac_boolean rfl (by decide)
theorem si_anewarray (hC : Cx D p R s m args meth c k) (hok : okOp k j = true) (hi : (opAt k j).1 = .anewarray idx) (hs : mArr (n0 (opAt k j)) j ls st b M = some (Sum.inl (j', ls', st', b', M'))) (IH : Sim g D l p e R s m args below meth c PQ k j' ls' st' b' M') : Sim g D l p e R s m args below meth c PQ k j ls st b M := by
  obtain ⟨hd, h2⟩ := ok1 hok hi (fun h => by cases h)
  unfold okI at h2
  simp only [hi, Bool.and_eq_true, decide_eq_true_eq, fl1] at h2
  obtain ⟨⟨⟨⟨hlen, hpc⟩, h23⟩, h26⟩, hcm⟩ := h2
  rw [hlen] at hd hpc
  obtain ⟨n, r, rfl, hn0, hn1, hb1, hb2, rfl, rfl, rfl, rfl, rfl⟩ := mArr_inv hs
  generalize n0 (opAt k j) = kind at IH h23 h26 hcm
  intro H locs cells slots la hRep hLR hst hlocs hcl hsl
  obtain ⟨hx, hb, hml, hown, hts, hK, hnm, hf1, hf2⟩ := hC
  have hnr : inR n := hst (vI n) List.mem_cons_self
  have hst2 : ∀ w ∈ r, vOK w := fun w hw => hst w (List.mem_cons_of_mem _ hw)
  have ea : adr g M.1.length = H.size := adr_len hRep 0
  obtain ⟨hel, hty⟩ := elK_cl h23 h26
  have hao : va_AO (cnm (elK kind)) s := by
    have : kind = 23 ∨ kind = 24 ∨ kind = 25 ∨ kind = 26 := by omega
    rcases this with rfl | rfl | rfl | rfl
    · exact hK.2.2.1
    · exact hK.2.2.2.1
    · exact hK.2.2.2.2.1
    · exact hK.2.2.2.2.1
  refine W.anew hx hb hown (hts _ (cl_ok (owK k) _ (List.contains_iff_mem.mp hcm))) (va_AO.use hao) rfl hd rfl (nneg hnr hn0) (by rw [ix_of hnr]; omega) (by omega) (by rw [ix_of hnr]; omega) (fun cA kA comp f1 f2 f3 f4 => ?_)
  rw [ix_of hnr]
  generalize hH1 : H.push { cls := cA, slots := Array.replicate n.toNat .null, vm := .none } = H1
  have e1 : H1[H.size]? = some { cls := cA, slots := Array.replicate n.toNat .null, vm := .none } := by rw [← hH1]; simp
  have e2 : H1.size = H.size + 1 := by rw [← hH1]; simp
  have e3 : ∀ q, q < H.size → H1[q]? = H[q]? := fun q hq => by rw [← hH1, Array.getElem?_push, if_neg (Nat.ne_of_lt hq)]
  have hRep2 := hRep.newA (kind := kind) (n := n.toNat) (fr := if frK kind = true then List.replicate n.toNat none else []) (dv := .null) (by omega) h26 (by omega) e1 e2 e3 (by rw [hty]; exact ⟨fun q h => (by cases h), kA, f2, comp, f3⟩) (fun h => by cases h) (by simp) (fun i hi => by simp [hi]) (by rw [if_neg (by omega)]) (fr_none _ _) (fun C hC => by
    rw [hty] at hC
    cases hC
    exact ⟨kA, comp, f2, f3, f4, f1⟩)
  have h3 := IH H1 locs (cells + 1) (slots + n.toNat) la hRep2 hLR (vok_cons trivial hst2) hlocs (by show cells + 1 + (b.1 - 1) ≤ _; omega) (by show slots + n.toNat + (b.2 - n.toNat) ≤ _; omega)
  rw [hpc] at h3
  have h4 : (vR (some M.1.length) :: r).map (cv g) = .ref H.size :: r.map (cv g) := by
    show Value.ref (adr g M.1.length) :: _ = _
    rw [ea]
  rw [h4] at h3
  exact h3
end SIM5
