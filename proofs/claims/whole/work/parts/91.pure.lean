-- ===== the law over the mini-machine =====
theorem tail_S0 : ([(19, 4, []), (19, 6, [])] : MS) ++ (TDp 3 ++ TMo (3 + 240)) = S0t := by decide +kernel
theorem all_S0 (L : Nat) : S00 L ++ (TDp 3 ++ TMo (3 + 240)) = S0 L := by
  show (19, L, []) :: (([(19, 4, []), (19, 6, [])] : MS) ++ (TDp 3 ++ TMo (3 + 240))) = (19, L, []) :: S0t
  rw [tail_S0]
theorem len_Dp : (TDp 3).length = 240 := by decide +kernel
set_option maxRecDepth 8000 in
theorem law_pure (L : Nat) (xs : Nat → Int32) (hL : L ≤ 2560) : wpC 0 [vR (some 0)] (M00 L xs) (fun v _ => v = some (vI 1)) := by
  have hzI : ∀ a, 3 ≤ a → ∀ i : Int, I00 L xs a i = 0 := by
    intro a ha i
    obtain ⟨a', rfl⟩ : ∃ a', a = a' + 3 := ⟨a - 3, by omega⟩
    rfl
  have hz : ZF 3 (fun _ _ => none) (I00 L xs) (fun _ _ => 0) := fun a ha i => ⟨rfl, hzI a ha i, rfl⟩
  have hz2 : ZF 4 (upM (upM (fun _ _ => none) (3 + 0) 2 (some (3 + 2))) (3 + 0) 3 (some (3 + 52))) (I00 L xs) (fun _ _ => 0) := ((hz.up (by omega : 3 ≤ 4)).pR (a := 3 + 0) (i := 2) (v := some (3 + 2)) (by omega)).pR (a := 3 + 0) (i := 3) (v := some (3 + 52)) (by omega)
  have hT : StI (I00 L xs) := by
    refine ⟨fun s hs => ?_, rfl, rfl, rfl, rfl⟩
    rcases (show s = 0 ∨ s = 1 ∨ s = 2 ∨ s = 3 ∨ s = 4 ∨ s = 5 by omega) with e | e | e | e | e | e <;> subst e <;> rfl
  have hgo : wpc 0 0 [vR (some 0), vU, vU, vU] [] (600000, 7302250) (S00 L ++ [], (fun _ _ => none), I00 L xs, (fun _ _ => 0)) (fun v _ => v = some (vI 1)) := by
    refine y_new (p := 3) (n := 0) [(8, 14, List.replicate 14 none)] (599999, 7302236) rfl rfl rfl rfl rfl (hz.up (by omega)) rfl ?_
    refine (w_st (j' := 2) (ls' := [vR (some 0), vU, vU, vU]) (st' := [vR (some (3 + 0)), vR (some (3 + 0))]) 1 rfl).mpr ?_
    refine y_call (p := 3) (n := 0) (R' := upM (upM (fun _ _ => none) (3 + 0) 2 (some (3 + 2))) (3 + 0) 3 (some (3 + 52))) (c0 := (8, 14, List.replicate 14 none)) (Bl := TDp 3) [] (TDp 3) (599760, 7300626) rfl rfl rfl (by decide) rfl (Nat.le_of_ble_eq_true rfl) (by decide) rfl rfl (fun P' Q' hp' hq => i_Dp (hz.up (by omega)) (fun i => ⟨hzI 3 (by omega) i, rfl⟩) hp' hq) rfl rfl ?_
    refine (w_st (j' := 5) (ls' := [vR (some 0), vR (some (3 + 0)), vU, vU]) (st' := []) 2 rfl).mpr ?_
    refine y_new (p := 3) (n := 240) (TDp 3 ++ [(9, 63, List.replicate 63 none)]) (599759, 7300563) rfl len_Dp rfl rfl rfl (hz2.up (by omega)) rfl ?_
    refine (w_st (j' := 7) (ls' := [vR (some 0), vR (some (3 + 0)), vU, vU]) (st' := [vR (some (3 + 240)), vR (some (3 + 240))]) 1 rfl).mpr ?_
    refine y_call (p := 3) (n := 240) (R' := upM (upM (fun _ _ => none) (3 + 0) 2 (some (3 + 2))) (3 + 0) 3 (some (3 + 52))) (c0 := (9, 63, List.replicate 63 none)) (Bl := TMo (3 + 240)) (TDp 3) (TDp 3 ++ TMo (3 + 240)) (599714, 7299649) rfl len_Dp rfl (by decide) rfl (Nat.le_of_ble_eq_true rfl) (by decide) rfl rfl (fun P' Q' hp' hq => i_Mo (hz2.up (by omega)) hp' hq) rfl rfl ?_
    refine (w_st (j' := 12) (ls' := [vR (some 0), vR (some (3 + 0)), vR (some (3 + 240)), vI 0]) (st' := []) 4 rfl).mpr ?_
    rw [all_S0]
    exact law_loop (z0 := I00 L xs 0) hL (L / 5) 0 (by omega) (by omega) wf_st0 (by show 0 + L / 5 < 90000; omega) (CSt_st0 rfl rfl hzI hT) (MSt_st0 hzI) rfl
  rw [List.append_nil] at hgo
  exact hgo
