-- ===== all instructions together =====
section SIM7
variable {g : GA} {D : va_G} {l : Launch} {p : Program} {e : Env} {R : Room} {s : State} {m : MethodId} {args : Array Value} {below : List Frame} {meth : Method} {c : Code} {PQ : State → Prop} {k j j' : Nat} {ls st ls' st' : List MV} {b b' : Nat × Nat} {M M' : MM}
theorem si_objInit {idx : Nat} (hC : Cx D p R s m args meth c k) (hok : okOp k j = true) (hi : (opAt k j).1 = .invokespecial idx) (h9 : n5 (opAt k j) = 9) (hs : (pR st fun _ r => gd (decide (r.length ≤ 4)) (nx (j + 1) ls r b M)) = some (Sum.inl (j', ls', st', b', M'))) (IH : Sim g D l p e R s m args below meth c PQ k j' ls' st' b' M') : Sim g D l p e R s m args below meth c PQ k j ls st b M := by
  obtain ⟨hd, h2⟩ := ok1 hok hi (fun h => by cases h)
  unfold okI at h2
  simp only [hi, Bool.and_eq_true, decide_eq_true_eq, fl1] at h2
  obtain ⟨⟨hlen, hpc⟩, h2⟩ := h2
  rw [hlen] at hd hpc
  rw [if_pos h9] at h2
  simp only [Bool.and_eq_true, decide_eq_true_eq] at h2
  obtain ⟨a, r, rfl, hs⟩ := pR_inv hs
  obtain ⟨hg, hs⟩ := gd_inv hs
  have hg := of_decide_eq_true hg
  cases hs
  intro H locs cells slots la hRep hLR hst hlocs hcl hsl
  obtain ⟨hx, hb, hml, hown, hts, hK, hnm, hf1, hf2⟩ := hC
  have h3 := IH H locs cells slots la hRep hLR (fun w hw => hst w (List.mem_cons_of_mem _ hw)) hlocs hcl hsl
  rw [hpc] at h3
  have hcs := cat_sum (st'.map (cv g))
  rw [List.length_map] at hcs
  refine W.objInit hx hb hown (hts _ (oi_ok (owK k) _ (List.contains_iff_mem.mp h2.1))) (hts _ oi_inst) (hts _ oi_code) rfl (by rw [hml]; exact hLR.2.2.1) rfl hd (by omega) ?_ h3
  show 2 * 0 + ((st'.map (cv g)).map fun v => v.category).sum + 12 ≤ R.locals
  omega
set_option maxHeartbeats 4000000 in
theorem sim_nx (hC : Cx D p R s m args meth c k) (hok : okOp k j = true) (hs : mstep (opAt k j) j ls st b M = some (Sum.inl (j', ls', st', b', M'))) (IH : Sim g D l p e R s m args below meth c PQ k j' ls' st' b' M') : Sim g D l p e R s m args below meth c PQ k j ls st b M := by
  unfold mstep at hs
  split at hs
  · exact si_nop hC hok (by assumption) hs IH
  · exact si_aconst_null hC hok (by assumption) hs IH
  · exact si_iconst hC hok (by assumption) hs IH
  · exact si_bipush hC hok (by assumption) hs IH
  · exact si_sipush hC hok (by assumption) hs IH
  · exact si_ldc_w hC hok (by assumption) hs IH
  · exact si_ldc2_w hC hok (by assumption) hs IH
  · exact si_lconst hC hok (by assumption) hs IH
  · exact si_iload_n hC hok (by assumption) hs IH
  · exact si_iload hC hok (by assumption) hs IH
  · exact si_lload_n hC hok (by assumption) hs IH
  · exact si_lload hC hok (by assumption) hs IH
  · exact si_aload_n hC hok (by assumption) hs IH
  · exact si_aload hC hok (by assumption) hs IH
  · exact si_istore_n hC hok (by assumption) hs IH
  · exact si_istore hC hok (by assumption) hs IH
  · exact si_lstore_n hC hok (by assumption) hs IH
  · exact si_lstore hC hok (by assumption) hs IH
  · exact si_astore_n hC hok (by assumption) hs IH
  · exact si_astore hC hok (by assumption) hs IH
  · exact si_iinc hC hok (by assumption) hs IH
  · exact si_iadd hC hok (by assumption) hs IH
  · exact si_isub hC hok (by assumption) hs IH
  · exact si_imul hC hok (by assumption) hs IH
  · exact si_iand hC hok (by assumption) hs IH
  · exact si_ior hC hok (by assumption) hs IH
  · exact si_ixor hC hok (by assumption) hs IH
  · exact si_ishl hC hok (by assumption) hs IH
  · exact si_ishr hC hok (by assumption) hs IH
  · exact si_iushr hC hok (by assumption) hs IH
  · exact si_idiv hC hok (by assumption) hs IH
  · exact si_irem hC hok (by assumption) hs IH
  · exact si_ladd hC hok (by assumption) hs IH
  · exact si_lsub hC hok (by assumption) hs IH
  · exact si_lmul hC hok (by assumption) hs IH
  · exact si_land hC hok (by assumption) hs IH
  · exact si_lor hC hok (by assumption) hs IH
  · exact si_ldiv hC hok (by assumption) hs IH
  · exact si_lrem hC hok (by assumption) hs IH
  · exact si_lcmp hC hok (by assumption) hs IH
  · exact si_lushr hC hok (by assumption) hs IH
  · exact si_lshl hC hok (by assumption) hs IH
  · exact si_i2l hC hok (by assumption) hs IH
  · exact si_l2i hC hok (by assumption) hs IH
  · exact si_i2b hC hok (by assumption) hs IH
  · exact si_dup hC hok (by assumption) hs IH
  · exact si_dup2 hC hok (by assumption) hs IH
  · exact si_pop hC hok (by assumption) hs IH
  · exact si_ifCond hC hok (by assumption) hs IH
  · exact si_if_icmp hC hok (by assumption) hs IH
  · exact si_goto hC hok (by assumption) hs IH
  · exact si_ifnull hC hok (by assumption) hs IH
  · exact si_ifnonnull hC hok (by assumption) hs IH
  · exact si_tableswitch hC hok (by assumption) hs IH
  · exact si_lookupswitch hC hok (by assumption) hs IH
  · exact si_getfield hC hok (by assumption) hs IH
  · exact si_putfield hC hok (by assumption) hs IH
  · exact si_getstatic hC hok (by assumption) hs IH
  · exact si_arraylength hC hok (by assumption) hs IH
  · exact si_iaload hC hok (by assumption) hs IH
  · exact si_baload hC hok (by assumption) hs IH
  · exact si_aaload hC hok (by assumption) hs IH
  · exact si_iastore hC hok (by assumption) hs IH
  · exact si_bastore hC hok (by assumption) hs IH
  · exact si_aastore hC hok (by assumption) hs IH
  · exact si_new hC hok (by assumption) hs IH
  · exact si_newarray hC hok (by assumption) hs IH
  · exact si_anewarray hC hok (by assumption) hs IH
  · exact si_multianewarray hC hok (by assumption) hs IH
  · exfalso; unfold mInv at hs; have h7 := (gd_inv hs).2; cases h7
  · exfalso; unfold mInv at hs; have h7 := (gd_inv hs).2; cases h7
  · split at hs
    · exact si_objInit hC hok (by assumption) (by assumption) hs IH
    · exfalso; unfold mInv at hs; have h7 := (gd_inv hs).2; cases h7
  · exfalso; split at hs
    · have h7 := (gd_inv hs).2; cases h7
    · cases hs
  · exfalso; split at hs <;> cases hs
  · exfalso; split at hs <;> cases hs
  · exfalso; split at hs <;> cases hs
  · cases hs
/-- which answers a method may give, and by which instruction -/
def retOK (r : Option FieldType) (v : Option MV) : Prop := match r with
  | none => v = none
  | some .int => ∃ z, v = some (vI z)
  | some .boolean => ∃ z, v = some (vI z) ∧ z01 z = true
  | some .long => ∃ x, v = some (vL x)
  | some (.object _) => ∃ q, v = some (vR q)
  | some (.array _) => ∃ q, v = some (vR q)
  | _ => False
def retI (r : Option FieldType) : Instr := match r with
  | none => .return_
  | some .long => .lreturn
  | some (.object _) => .areturn
  | some (.array _) => .areturn
  | _ => .ireturn
theorem sim_ret {v : Option MV} (hok : okOp k j = true) (hs : mstep (opAt k j) j ls st b M = some (Sum.inr (Sum.inr v))) (hst : ∀ w ∈ st, vOK w) : retOK (rtK k) v ∧ decode (cK k) (pcK k j) = .ok (retI (rtK k), 1) ∧ st.map (cv g) = (v.map (cv g)).toList ∧ ∀ w, v = some w → vOK w := by
  have h1 : (opAt k j).1 = .ireturn ∨ (opAt k j).1 = .lreturn ∨ (opAt k j).1 = .areturn ∨ (opAt k j).1 = .return_ := by
    unfold mstep at hs
    split at hs
    all_goals first
      | exact Or.inl (by assumption)
      | exact Or.inr (Or.inl (by assumption))
      | exact Or.inr (Or.inr (Or.inl (by assumption)))
      | exact Or.inr (Or.inr (Or.inr (by assumption)))
      | (exfalso; unfold mInv at hs; have h7 := (gd_inv hs).2; cases h7; done)
      | (exfalso
         split at hs
         · obtain ⟨a7, r7, -, h7⟩ := pR_inv hs
           have h8 := (gd_inv h7).2
           cases h8
         · unfold mInv at hs; have h7 := (gd_inv hs).2; cases h7; done)
      | (exfalso
         simp only [gtI, gtL, gtR, pI, pI2, pL, pL2, pIL, pQ, pR, pIR, pIIR, pRIR, pLR, pQR, gd, br, cndI, nx, mGet, mPut, mNew, mArr] at hs
         repeat' split at hs
         all_goals cases hs)
      | (exfalso; repeat' split at hs
         all_goals cases hs)
  rcases h1 with hi | hi | hi | hi
  · obtain ⟨hd, h2⟩ := ok1 hok hi (fun h => by cases h)
    unfold okI at h2
    simp only [hi, Bool.and_eq_true, Bool.or_eq_true, decide_eq_true_eq] at h2
    obtain ⟨hlen, h2⟩ := h2
    rw [hlen] at hd
    unfold mstep at hs
    simp only [hi] at hs
    split at hs
    · obtain ⟨hg, hs⟩ := gd_inv hs
      cases hs
      rename_i z
      rcases h2 with ⟨hr, hn⟩ | ⟨hr, hn⟩
      · rw [hr]; exact ⟨⟨z, rfl⟩, hd, rfl, fun w hw => by cases hw; exact hst _ List.mem_cons_self⟩
      · rw [hr]
        rw [if_pos hn] at hg
        exact ⟨⟨z, rfl, hg⟩, hd, rfl, fun w hw => by cases hw; exact hst _ List.mem_cons_self⟩
    · cases hs
  · obtain ⟨hd, h2⟩ := ok1 hok hi (fun h => by cases h)
    unfold okI at h2
    simp only [hi, Bool.and_eq_true, decide_eq_true_eq] at h2
    obtain ⟨hlen, hr⟩ := h2
    rw [hlen] at hd
    unfold mstep at hs
    simp only [hi] at hs
    split at hs
    · cases hs
      rw [hr]
      exact ⟨⟨_, rfl⟩, hd, rfl, fun w hw => by cases hw; trivial⟩
    · cases hs
  · obtain ⟨hd, h2⟩ := ok1 hok hi (fun h => by cases h)
    unfold okI at h2
    simp only [hi, Bool.and_eq_true, decide_eq_true_eq] at h2
    obtain ⟨hlen, hr⟩ := h2
    rw [hlen] at hd
    unfold mstep at hs
    simp only [hi] at hs
    split at hs
    · cases hs
      split at hr
      · rename_i hr2; rw [hr2]; exact ⟨⟨_, rfl⟩, hd, rfl, fun w hw => by cases hw; trivial⟩
      · rename_i hr2; rw [hr2]; exact ⟨⟨_, rfl⟩, hd, rfl, fun w hw => by cases hw; trivial⟩
      · cases hr
    · cases hs
  · obtain ⟨hd, h2⟩ := ok1 hok hi (fun h => by cases h)
    unfold okI at h2
    simp only [hi, Bool.and_eq_true, decide_eq_true_eq] at h2
    obtain ⟨hlen, hr⟩ := h2
    rw [hlen] at hd
    unfold mstep at hs
    simp only [hi] at hs
    split at hs
    · cases hs
      rw [hr]
      exact ⟨rfl, hd, rfl, fun w hw => by cases hw⟩
    · cases hs
end SIM7
