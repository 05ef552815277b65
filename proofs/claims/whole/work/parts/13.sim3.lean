-- ===== fields and arrays =====
theorem vw_at {c : Nat} (h : c < 10) : vwCl[c]? = some (cnm c, cT c, cN c) := by
  match c, h with
  | 0, _ => rfl
  | 1, _ => rfl
  | 2, _ => rfl
  | 3, _ => rfl
  | 4, _ => rfl
  | 5, _ => rfl
  | 6, _ => rfl
  | 7, _ => rfl
  | 8, _ => rfl
  | 9, _ => rfl
  | c + 10, h => omega
theorem cT_own : ∀ c, c < 10 → ∀ k, k < cN c → (cT c k).1 = cnm c := by decide +kernel
theorem cT_nm {c : Nat} (h : c < 10) : ∀ a, a < cN c → ∀ b, b < cN c → a ≠ b → (cT c a).2.1 ≠ (cT c b).2.1 := by
  match c, h with
  | 0, _ => exact nmX0
  | 1, _ => exact nmX1
  | 2, _ => exact nmX2
  | 3, _ => exact nmX3
  | 4, _ => exact nmX4
  | 5, _ => exact nmX5
  | 6, _ => exact nmX6
  | 7, _ => exact nmX7
  | 8, _ => exact nmX8
  | 9, _ => exact nmX9
  | c + 10, h => omega
theorem cTy_ok {c : Nat} (h : c < 10) : ∀ k, k < cN c → parseFieldDescriptor (cT c k).2.2.1 = some (cTy c k) := by
  match c, h with
  | 0, _ => exact tyX0_ok
  | 1, _ => exact tyX1_ok
  | 2, _ => exact tyX2_ok
  | 3, _ => exact tyX3_ok
  | 4, _ => exact tyX4_ok
  | 5, _ => exact tyX5_ok
  | 6, _ => exact tyX6_ok
  | 7, _ => exact tyX7_ok
  | 8, _ => exact tyX8_ok
  | 9, _ => exact tyX9_ok
  | c + 10, h => omega
section SIM3
variable {g : GA} {D : va_G} {l : Launch} {p : Program} {e : Env} {R : Room} {s : State} {m : MethodId} {args : Array Value} {below : List Frame} {meth : Method} {c : Code} {PQ : State → Prop} {k j j' : Nat} {ls st ls' st' : List MV} {b b' : Nat × Nat} {M M' : MM} {H : Heap} {locs : List Loc} {cells slots : Nat} {la : Array Slot} {rest : List Value} {pc a ci fk idx : Nat}
theorem rd_field (hC : Cx D p R s m args meth c k) (hRep : Rep g D s M H) (hk : kd M.1 a = ci) (hci : ci < 10) (hfk : fk < cN ci) (hfl : (idx, ci, fk) ∈ flT.getD (owK k) []) (hd : decode (cK k) pc = .ok (.getfield idx, 3))
    (kk : W p l e R s m args below meth c H locs cells slots PQ (F0 m (pc + 3) la (fvl g M a ci fk :: rest))) : W p l e R s m args below meth c H locs cells slots PQ (F0 m pc la (.ref (adr g a) :: rest)) := by
  obtain ⟨hx, hb, hml, hown, hts, hK, hnm, hf1, hf2⟩ := hC
  obtain ⟨en, he, rfl⟩ := kd_ex hk (by omega)
  obtain ⟨cell, q1, q2, q3, q4⟩ := (hRep.1 a en he).1 hci
  obtain ⟨hS, hfc, kC, hkC, hkind⟩ := hK.1.1 en.1 _ (vw_at hci)
  obtain ⟨cf, kf, fi, f, hi, hsl⟩ := hS fk hfk
  have hlink := hts _ (fl_ok (owK k) _ hfl)
  have hi2 : s.fieldFound? (cnm en.1) (cT en.1 fk).2.1 (cT en.1 fk).2.2.1 = some (cf, kf, fi, f) := by rw [← cT_own en.1 hci fk hfk]; exact hi
  refine W.getf hx hb hown hlink hi2 (u_facts hfc hkC (u_lays hts (lay_ok en.1 hci) hfk) hi).1 q1 (by rw [q3]; exact fun h => by cases h) (v := fvl g M a en.1 fk) ?_ rfl rfl hd kk
  rw [hsl, q4 fk hfk]
theorem wr_field (hC : Cx D p R s m args meth c k) (hRep : Rep g D s M H) (hlocs : ∀ q ∈ locs, gB g ≤ q.base) (hk : kd M.1 a = ci) (hci : ci < 10) (hfk : fk < cN ci) (hfl : (idx, ci, fk) ∈ flT.getD (owK k) []) {v : Value} (hn : narrow (cTy ci fk) v = v) (hfit : fits (cTy ci fk) v = true) (hfin : (cT ci fk).2.2.2 = false ∨ (meth.name = "<init>" ∧ (cT ci fk).1 = cnm (owK k) ∧ (cT ci fk).2.2.2 = true)) (hd : decode (cK k) pc = .ok (.putfield idx, 3))
    (kk : ∀ (H1 : Heap) (locs1 : List Loc), H1.size = H.size → (∀ q, q ≠ adr g a → H1[q]? = H[q]?) → t_OB (adr g a) (D.1 ci) (cN ci) (D.2 ci) H1 (updV (fun z => fvl g M a ci z) fk v) → (∀ q ∈ locs1, gB g ≤ q.base) → W p l e R s m args below meth c H1 locs1 cells slots PQ (F0 m (pc + 3) la rest)) : W p l e R s m args below meth c H locs cells slots PQ (F0 m pc la (v :: .ref (adr g a) :: rest)) := by
  obtain ⟨hx, hb, hml, hown, hts, hK, hnm, hf1, hf2⟩ := hC
  have ha3 : 3 ≤ a := hRep.hi hk (by omega)
  obtain ⟨en, he, rfl⟩ := kd_ex hk (by omega)
  obtain ⟨cell, q1, q2, q3, q4⟩ := (hRep.1 a en he).1 hci
  have hap := va_apart (own := cnm en.1) hts (lay_ok en.1 hci) (cTy en.1) (cTy_ok hci) (cT_nm hci) hK.1 (vw_at hci)
  obtain ⟨hS, hfc, kC, hkC, hkind⟩ := hK.1.1 en.1 _ (vw_at hci)
  obtain ⟨cf, kf, fi, f, hi, hsl⟩ := hS fk hfk
  have hlink := hts _ (fl_ok (owK k) _ hfl)
  have hi2 : s.fieldFound? (cnm en.1) (cT en.1 fk).2.1 (cT en.1 fk).2.2.1 = some (cf, kf, fi, f) := by rw [← cT_own en.1 hci fk hfk]; exact hi
  have hst := (u_facts hfc hkC (u_lays hts (lay_ok en.1 hci) hfk) hi).1
  have hlay := hts _ (lay_ok en.1 hci _ (u_in_lay hfk))
  unfold u_lay at hlay
  have hloc2 : ∀ q ∈ locs ++ [⟨adr g a, D.2 en.1 fk⟩], gB g ≤ q.base := fun q hq => by
    rcases List.mem_append.mp hq with h | h
    · exact hlocs q h
    · rw [List.mem_singleton.mp h]
      show gB g ≤ adr g a
      rw [adr_hi ha3]; omega
  have fin : ∀ H' : Heap, H'[adr g a]? = some (cell.setSlot (D.2 en.1 fk) v) → H'.size = H.size → (∀ q, q ≠ adr g a → H'[q]? = H[q]?) → W p l e R s m args below meth c H' (locs ++ [⟨adr g a, D.2 en.1 fk⟩]) cells slots PQ (F0 m (pc + 3) la rest) := fun H' e1 e2 e3 => kk H' _ e2 e3 ⟨_, e1, q2, q3, t_set q4 hap hfk v⟩ hloc2
  rcases hfin with hfin | ⟨hin, hdecl, hfin⟩
  · rw [if_neg (by rw [hfin]; decide)] at hlay
    have h6 := u_store hfc hkC hkind hlay hi (cTy_ok hci fk hfk) hn hfit
    refine W.putK hx hb (f := f) ⟨hown, hlink, ⟨_, _, _, hi2⟩, hst⟩ (by rw [q2]; exact h6) q1 q3 (by rw [hsl]; exact k2_hasslot (q4 fk hfk)) rfl rfl hd fun H' e1 e2 e3 => ?_
    rw [hsl] at e1 ⊢
    exact fin H' e1 e2 e3
  · rw [if_pos hfin] at hlay
    have hcf : m.cls = cf := by
      obtain ⟨_, _, c', _, _, _, -, -, hf', -, -, -, hown2, -⟩ := Cond.laysFinal_spec hlay
      have e1 : c' = cf := by have := hi.symm.trans hf'; simp at this; exact this.1.symm
      rw [hdecl] at hown2
      rw [← e1]; exact Option.some.inj (hown.symm.trans hown2)
    have h6 := u_fits hfc hkC hkind (Or.inr hlay) hi (cTy_ok hci fk hfk) hn hfit
    refine W.putFinK hx hb hown hlink hi2 hst hcf hin (by rw [q2]; exact h6) q1 q3 (by rw [hsl]; exact k2_hasslot (q4 fk hfk)) rfl rfl hd fun H' e1 e2 e3 => ?_
    rw [hsl] at e1 ⊢
    exact fin H' e1 e2 e3
theorem vok_fI (hRep : Rep g D s M H) (i : Int) : vOK (vI (M.2.2.1 a i)) := hRep.2.2.2.2.1 a i
theorem si_getfield (hC : Cx D p R s m args meth c k) (hok : okOp k j = true) (hi : (opAt k j).1 = .getfield idx) (hs : mGet (opAt k j) j ls st b M = some (Sum.inl (j', ls', st', b', M'))) (IH : Sim g D l p e R s m args below meth c PQ k j' ls' st' b' M') : Sim g D l p e R s m args below meth c PQ k j ls st b M := by
  obtain ⟨hd, h2⟩ := ok1 hok hi (fun h => by cases h)
  unfold okI at h2
  simp only [hi, Bool.and_eq_true, decide_eq_true_eq, fl1] at h2
  obtain ⟨⟨⟨⟨⟨⟨hlen, hpc⟩, hfl⟩, hci⟩, hfk⟩, hft⟩, hle⟩ := h2
  rw [hlen] at hd hpc
  have hfl := List.contains_iff_mem.mp hfl
  unfold mGet at hs
  obtain ⟨a, r, rfl, hs⟩ := pR_inv hs
  obtain ⟨hk, hs⟩ := gd_inv hs
  have hk := of_decide_eq_true hk
  intro H locs cells slots la hRep hLR hst hlocs hcl hsl
  have hst2 : ∀ w ∈ r, vOK w := fun w hw => hst w (List.mem_cons_of_mem _ hw)
  refine rd_field hC hRep hk hci hfk hfl hd ?_
  have key : ∀ v : MV, vOK v → nx (j + 1) ls (v :: r) b M = some (Sum.inl (j', ls', st', b', M')) → fvl g M a (n0 (opAt k j)) (n1 (opAt k j)) = cv g v → W p l e R s m args below meth c H locs cells slots PQ (F0 m (pcK k j + 3) la (fvl g M a (n0 (opAt k j)) (n1 (opAt k j)) :: r.map (cv g))) := by
    intro v hv hq e1
    cases hq
    have h3 := IH H locs cells slots la hRep hLR (vok_cons hv hst2) hlocs hcl hsl
    rw [hpc] at h3
    rw [e1]
    exact h3
  split at hs
  · rename_i h0; exact key _ (vok_fI hRep _) hs (by unfold fvl; rw [← hft, h0]; rfl)
  · rename_i h0; exact key _ (vok_fI hRep _) hs (by unfold fvl; rw [← hft, h0]; rfl)
  · rename_i h0; exact key (vL (M.2.2.2 a (n1 (opAt k j)))) trivial hs (by unfold fvl; rw [← hft, h0]; rfl)
  · rename_i h0; exact key (vR (M.2.1 a (n1 (opAt k j)))) trivial hs (by unfold fvl; rw [← hft, h0]; rfl)
  · rename_i h0 h1 h3 h4
    have h0 : ¬ n2 (opAt k j) = 0 := h0
    have h1 : ¬ n2 (opAt k j) = 1 := h1
    have h3 : ¬ n2 (opAt k j) = 2 := h3
    have h4 : ¬ n2 (opAt k j) = 3 := h4
    have e4 : n2 (opAt k j) = 4 := by omega
    exact key (vR (fz M.1 a (n1 (opAt k j)))) trivial hs (by unfold fvl; rw [← hft, e4]; rfl)
theorem cTy_i {c k : Nat} (h : fkind c k = 0) : cTy c k = .int := by
  unfold fkind at h
  split at h <;> first | assumption | (split at h <;> omega) | omega
theorem cTy_z {c k : Nat} (h : fkind c k = 1) : cTy c k = .boolean := by
  unfold fkind at h
  split at h <;> first | assumption | (split at h <;> omega) | omega
theorem cTy_l {c k : Nat} (h : fkind c k = 2) : cTy c k = .long := by
  unfold fkind at h
  split at h <;> first | assumption | (split at h <;> omega) | omega
theorem cTy_q {c k : Nat} (h : fkind c k = 3 ∨ fkind c k = 4) : (∃ n, cTy c k = .object n) ∨ ∃ t, cTy c k = .array t := by
  unfold fkind at h
  split at h
  · omega
  · omega
  · omega
  · exact Or.inl ⟨_, by assumption⟩
  · exact Or.inr ⟨_, by assumption⟩
  · omega
theorem nar_q {ty : FieldType} (h : (∃ n, ty = .object n) ∨ ∃ t, ty = .array t) (r : Option Nat) : narrow ty (va_rf r) = va_rf r ∧ fits ty (va_rf r) = true := by
  rcases h with ⟨n, rfl⟩ | ⟨t, rfl⟩ <;> cases r <;> exact ⟨rfl, rfl⟩
theorem nar_z {z : Int} (h : z01 z = true) : narrow .boolean (.int (Int32.ofInt z)) = .int (Int32.ofInt z) ∧ fits .boolean (.int (Int32.ofInt z)) = true := by
  unfold z01 at h
  simp only [Bool.or_eq_true, decide_eq_true_eq] at h
  rcases h with rfl | rfl
  · exact ⟨by decide +kernel, by decide +kernel⟩
  · exact ⟨by decide +kernel, by decide +kernel⟩
theorem fz_set {S : MS} {a f : Nat} {q : Option Nat} {en : Nat × Nat × List (Option Nat)} (he : S[a]? = some en) (hf : f < en.2.2.length) (z : Nat) : fz (setFz S a f q) a z = if z = f then q else fz S a z := by
  have hl : a < S.length := (List.getElem?_eq_some_iff.mp he).1
  unfold setFz
  rw [he]
  unfold fz
  simp only [List.getElem?_set, hl, if_true, he]
  by_cases hz : z = f
  · subst hz
    simp [List.getD_eq_getElem?_getD, List.getElem?_set, hf]
  · rw [if_neg hz]
    simp [List.getD_eq_getElem?_getD, List.getElem?_set, Ne.symm hz]
theorem setFz_len (S : MS) (a f : Nat) (q : Option Nat) : (setFz S a f q).length = S.length := by
  unfold setFz; split <;> simp
theorem setFz_ne {S : MS} {a b f : Nat} {q : Option Nat} (h : b ≠ a) : (setFz S a f q)[b]? = S[b]? := by
  unfold setFz; split
  · rw [List.getElem?_set, if_neg (Ne.symm h)]
  · rfl
theorem setFz_at {S : MS} {a f : Nat} {q : Option Nat} {en : Nat × Nat × List (Option Nat)} (he : S[a]? = some en) : (setFz S a f q)[a]? = some (en.1, en.2.1, en.2.2.set f q) := by
  have hl : a < S.length := (List.getElem?_eq_some_iff.mp he).1
  unfold setFz; rw [he]
  simp [List.getElem?_set, hl]
theorem si_putfield (hC : Cx D p R s m args meth c k) (hok : okOp k j = true) (hi : (opAt k j).1 = .putfield idx) (hs : mPut (opAt k j) j ls st b M = some (Sum.inl (j', ls', st', b', M'))) (IH : Sim g D l p e R s m args below meth c PQ k j' ls' st' b' M') : Sim g D l p e R s m args below meth c PQ k j ls st b M := by
  obtain ⟨hd, h2⟩ := ok1 hok hi (fun h => by cases h)
  unfold okI at h2
  simp only [hi, Bool.and_eq_true, decide_eq_true_eq, fl1] at h2
  obtain ⟨⟨⟨⟨⟨⟨⟨hlen, hpc⟩, hfl⟩, hci⟩, hfk⟩, hft⟩, hle⟩, hfin⟩ := h2
  rw [hlen] at hd hpc
  have hfl := List.contains_iff_mem.mp hfl
  intro H locs cells slots la hRep hLR hst hlocs hcl hsl
  -- what the store comes to, once the memory behind it is known
  have key : ∀ (a : Nat) (v : Value) (r : List MV) (M2 : MM), (∀ w ∈ r, vOK w) → kd M.1 a = n0 (opAt k j) → narrow (cTy (n0 (opAt k j)) (n1 (opAt k j))) v = v → fits (cTy (n0 (opAt k j)) (n1 (opAt k j))) v = true → nx (j + 1) ls r b M2 = some (Sum.inl (j', ls', st', b', M')) →
      M2.1.length = M.1.length → (∀ b, b ≠ a → M2.1[b]? = M.1[b]?) → (∀ b, b ≠ a → M2.2.1 b = M.2.1 b) → (∀ b, b ≠ a → M2.2.2.1 b = M.2.2.1 b) → (∀ b, b ≠ a → M2.2.2.2 b = M.2.2.2 b) → (∀ i, inR (M2.2.2.1 a i)) → (∀ en, M.1[a]? = some en → ∃ en2, M2.1[a]? = some en2 ∧ en2.1 = en.1 ∧ en2.2.1 = en.2.1) →
      (∀ z, z < cN (n0 (opAt k j)) → updV (fun z => fvl g M a (n0 (opAt k j)) z) (n1 (opAt k j)) v z = fvl g M2 a (n0 (opAt k j)) z) →
      W p l e R s m args below meth c H locs cells slots PQ (F0 m (pcK k j) la (v :: .ref (adr g a) :: r.map (cv g))) := by
    intro a v r M2 hr hk hn hft2 hq hl2 hS2 hR2 hI2 hJ2 hrg hen hval
    cases hq
    have hC2 := hC
    obtain ⟨hx, hb, hml, hown, hts, hK, hnm, hf1, hf2⟩ := hC2
    have hf : (cT (n0 (opAt k j)) (n1 (opAt k j))).2.2.2 = false ∨ (meth.name = "<init>" ∧ (cT (n0 (opAt k j)) (n1 (opAt k j))).1 = cnm (owK k) ∧ (cT (n0 (opAt k j)) (n1 (opAt k j))).2.2.2 = true) := by
      by_cases h4 : n2 (opAt k j) = 4
      · rw [if_pos h4] at hfin
        simp only [Bool.and_eq_true, decide_eq_true_eq] at hfin
        refine Or.inr ⟨hnm hfin.1, hfin.2, ?_⟩
        have h5 : fkind (n0 (opAt k j)) (n1 (opAt k j)) = 4 := by rw [← hft]; exact h4
        unfold fkind at h5
        split at h5 <;> first | omega | (split at h5 <;> first | assumption | omega)
      · rw [if_neg h4] at hfin
        exact Or.inl (by simpa using hfin)
    refine wr_field hC hRep hlocs hk hci hfk hfl hn hft2 hf hd (fun H1 locs1 e2 e3 e4 e5 => ?_)
    have ha3 : 3 ≤ a := hRep.hi hk (by omega)
    have hRep2 : Rep g D s M' H1 := by
      refine hRep.put ha3 e2 e3 hl2 hS2 hR2 hI2 hJ2 hrg (fun en2 hen2 => ?_)
      obtain ⟨en, he, hen1⟩ := kd_ex hk (by omega)
      obtain ⟨en3, h7, h8, h9⟩ := hen en he
      cases hen2.symm.trans h7
      refine ⟨fun _ => ?_, fun h10 => absurd (by rw [h8, hen1]; exact hci) h10, by rw [h9]; exact (hRep.1 a en he).2.2⟩
      rw [h8, hen1]
      exact e4.to hval
    have h3 := IH H1 locs1 cells slots la hRep2 hLR hr e5 hcl hsl
    rw [hpc] at h3
    exact h3
  have hrng : ∀ (a : Nat) (z : Int), inR z → ∀ i, inR (upM M.2.2.1 a (n1 (opAt k j)) z a i) := fun a z hz i => by
    rw [upM_eq]; unfold upr; split
    · exact hz
    · exact hRep.2.2.2.2.1 a i
  have hiu : ∀ (a z : Nat) (x : Int), fkind (n0 (opAt k j)) (n1 (opAt k j)) ≤ 1 → updV (fun z => fvl g M a (n0 (opAt k j)) z) (n1 (opAt k j)) (.int (Int32.ofInt x)) z = fvl g (M.1, M.2.1, upM M.2.2.1 a (n1 (opAt k j)) x, M.2.2.2) a (n0 (opAt k j)) z := by
    intro a z x hle1
    unfold updV
    by_cases hz : z = n1 (opAt k j)
    · subst hz
      rw [if_pos rfl]
      unfold fvl
      have : fkind (n0 (opAt k j)) (n1 (opAt k j)) = 0 ∨ fkind (n0 (opAt k j)) (n1 (opAt k j)) = 1 := by omega
      rcases this with h | h <;> (rw [h]; simp only [upM_eq, upr_eq])
    · rw [if_neg hz]
      unfold fvl
      simp only [upM_eq]
      rw [upr_ne (by omega)]
  unfold mPut at hs
  split at hs
  · rename_i h0
    obtain ⟨a, z, r, rfl, hs⟩ := pIR_inv hs
    obtain ⟨hk, hs⟩ := gd_inv hs
    have hzr : inR z := hst (vI z) List.mem_cons_self
    have hf0 : fkind (n0 (opAt k j)) (n1 (opAt k j)) = 0 := by rw [← hft]; exact h0
    have hty := cTy_i hf0
    exact key a (.int (Int32.ofInt z)) r _ (fun w hw => hst w (List.mem_cons_of_mem _ (List.mem_cons_of_mem _ hw))) (of_decide_eq_true hk) (by rw [hty]; rfl) (by rw [hty]; rfl) hs rfl (fun _ _ => rfl) (fun _ _ => rfl) (fun b hb => upM_ne hb) (fun _ _ => rfl) (hrng a z hzr) (fun en he => ⟨en, he, rfl, rfl⟩) (fun q _ => hiu a q z (by omega))
  · rename_i h0
    obtain ⟨a, z, r, rfl, hs⟩ := pIR_inv hs
    obtain ⟨hk, hs⟩ := gd_inv hs
    simp only [Bool.and_eq_true, decide_eq_true_eq] at hk
    have hzr : inR z := hst (vI z) List.mem_cons_self
    have hf0 : fkind (n0 (opAt k j)) (n1 (opAt k j)) = 1 := by rw [← hft]; exact h0
    have hty := cTy_z hf0
    have hnz := nar_z hk.2
    exact key a (.int (Int32.ofInt z)) r _ (fun w hw => hst w (List.mem_cons_of_mem _ (List.mem_cons_of_mem _ hw))) hk.1 (by rw [hty]; exact hnz.1) (by rw [hty]; exact hnz.2) hs rfl (fun _ _ => rfl) (fun _ _ => rfl) (fun b hb => upM_ne hb) (fun _ _ => rfl) (hrng a z hzr) (fun en he => ⟨en, he, rfl, rfl⟩) (fun q _ => hiu a q z (by omega))
  · rename_i h0
    obtain ⟨a, z, r, rfl, hs⟩ := pLR_inv hs
    obtain ⟨hk, hs⟩ := gd_inv hs
    have hf0 : fkind (n0 (opAt k j)) (n1 (opAt k j)) = 2 := by rw [← hft]; exact h0
    have hty := cTy_l hf0
    refine key a (.long z) r _ (fun w hw => hst w (List.mem_cons_of_mem _ (List.mem_cons_of_mem _ hw))) (of_decide_eq_true hk) (by rw [hty]; rfl) (by rw [hty]; rfl) hs rfl (fun _ _ => rfl) (fun _ _ => rfl) (fun _ _ => rfl) (fun b hb => upM_ne hb) (fun i => hRep.2.2.2.2.1 a i) (fun en he => ⟨en, he, rfl, rfl⟩) (fun q _ => ?_)
    unfold updV
    by_cases hz : q = n1 (opAt k j)
    · subst hz
      rw [if_pos rfl]
      unfold fvl
      rw [hf0]
      simp only [upM_eq, upr_eq]
    · rw [if_neg hz]
      unfold fvl
      simp only [upM_eq]
      rw [upr_ne (by omega)]
  · rename_i h0
    obtain ⟨a, z, r, rfl, hs⟩ := pQR_inv hs
    obtain ⟨hk, hs⟩ := gd_inv hs
    have hf0 : fkind (n0 (opAt k j)) (n1 (opAt k j)) = 3 := by rw [← hft]; exact h0
    have hnq := nar_q (cTy_q (Or.inl hf0)) (z.map (adr g))
    refine key a (va_rf (z.map (adr g))) r _ (fun w hw => hst w (List.mem_cons_of_mem _ (List.mem_cons_of_mem _ hw))) (of_decide_eq_true hk) hnq.1 hnq.2 hs rfl (fun _ _ => rfl) (fun b hb => upM_ne hb) (fun _ _ => rfl) (fun _ _ => rfl) (fun i => hRep.2.2.2.2.1 a i) (fun en he => ⟨en, he, rfl, rfl⟩) (fun q _ => ?_)
    unfold updV
    by_cases hz : q = n1 (opAt k j)
    · subst hz
      rw [if_pos rfl]
      unfold fvl
      rw [hf0]
      simp only [upM_eq, upr_eq]
    · rw [if_neg hz]
      unfold fvl
      simp only [upM_eq]
      rw [upr_ne (by omega)]
  · rename_i h0 h1 h3 h4
    have h0 : ¬ n2 (opAt k j) = 0 := h0
    have h1 : ¬ n2 (opAt k j) = 1 := h1
    have h3 : ¬ n2 (opAt k j) = 2 := h3
    have h4 : ¬ n2 (opAt k j) = 3 := h4
    have e4 : n2 (opAt k j) = 4 := by omega
    obtain ⟨a, z, r, rfl, hs⟩ := pQR_inv hs
    obtain ⟨hk, hs⟩ := gd_inv hs
    simp only [Bool.and_eq_true, decide_eq_true_eq] at hk
    have hf0 : fkind (n0 (opAt k j)) (n1 (opAt k j)) = 4 := by rw [← hft]; exact e4
    have hnq := nar_q (cTy_q (Or.inr hf0)) (z.map (adr g))
    obtain ⟨en, he, hen1⟩ := kd_ex hk.1 (by omega)
    refine key a (va_rf (z.map (adr g))) r _ (fun w hw => hst w (List.mem_cons_of_mem _ (List.mem_cons_of_mem _ hw))) hk.1 hnq.1 hnq.2 hs (setFz_len _ _ _ _) (fun b hb => setFz_ne hb) (fun _ _ => rfl) (fun _ _ => rfl) (fun _ _ => rfl) (fun i => hRep.2.2.2.2.1 a i) (fun en he => ⟨_, setFz_at he, rfl, rfl⟩) (fun q _ => ?_)
    have hfs := fz_set (q := z) he (f := n1 (opAt k j)) (by have h9 := hk.2; unfold frL at h9; rw [he] at h9; exact h9) q
    unfold updV
    by_cases hz : q = n1 (opAt k j)
    · subst hz
      rw [if_pos rfl]
      unfold fvl
      rw [hf0]
      simp only [hfs, if_true]
    · rw [if_neg hz]
      unfold fvl
      simp only [hfs, if_neg hz]
end SIM3
