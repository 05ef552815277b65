-- ===== the finder's constructor, printed by tool/gen_ctors.py =====
def TFn (i : Nat) : MS := [(2, 5, [some 157, some 158, some 159, none, none]), (25, 36, (List.range 36).map (fun q => if q < i then some (166 + 2 * q) else none)), (20, 5, []), (27, 6, [some 160, some 161, some 162, some 163, some 164, some 165]), (20, 2, []), (20, 2, []), (20, 2, []), (20, 2, []), (20, 2, []), (20, 2, [])] ++ (List.range i).flatMap (fun q => TGo (166 + 2 * q))
def TFi (_p : Nat) : MS := TFn 36
set_option maxRecDepth 4000 in
theorem i_Fi {R : Nat → Int → Option Nat} {I : Nat → Int → Int} {J : Nat → Int → Int64} {P : MS} {Q : Option MV → MM → Prop} (hz : ZF 156 R I J) (hp : P.length = 156) (hQ : Q none (P ++ TFi 156, R, I, J)) : wpC 162 [vR (some 156)] (P ++ [(2, 5, List.replicate 5 none)], R, I, J) Q := by
  show wpc 162 0 [vR (some 156), vU] [] (81, 455) (P ++ [(2, 5, List.replicate 5 none)], R, I, J) Q
  refine (w_st (j' := 4) (ls' := [vR (some 156), vU]) (st' := [vI 36, vR (some 156)]) 4 rfl).mpr ?_
  refine y_aar (p := 156) (n := 1) (m := 36) ([(2, 5, [none, none, none, none, none]), (25, 36, List.replicate 36 none)]) (80, 419) hp rfl rfl (by decide) rfl rfl (hz.up (by omega)) (by decide +kernel) ?_
  refine y_pS (p := 156) 0 ([(2, 5, [some (156 + 1), none, none, none, none]), (25, 36, List.replicate 36 none)]) hp rfl rfl (by decide) (by decide +kernel) ?_
  refine (w_st (j' := 8) (ls' := [vR (some 156), vU]) (st' := [vI 5, vR (some 156)]) 2 rfl).mpr ?_
  refine y_arr (p := 156) (n := 2) (m := 5) ([(2, 5, [some (156 + 1), none, none, none, none]), (25, 36, List.replicate 36 none), (20, 5, [])]) (79, 414) hp rfl rfl (by decide) rfl rfl (hz.up (by omega)) (by decide +kernel) ?_
  refine y_pS (p := 156) 0 ([(2, 5, [some (156 + 1), some (156 + 2), none, none, none]), (25, 36, List.replicate 36 none), (20, 5, [])]) hp rfl rfl (by decide) (by decide +kernel) ?_
  refine (w_st (j' := 13) (ls' := [vR (some 156), vU]) (st' := [vI 2, vI 6, vR (some 156)]) 3 rfl).mpr ?_
  refine y_mna (p := 156) (n := 3) ([(2, 5, [some (156 + 1), some (156 + 2), none, none, none]), (25, 36, List.replicate 36 none), (20, 5, []), (27, 6, [some 160, some 161, some 162, some 163, some 164, some 165]), (20, 2, []), (20, 2, []), (20, 2, []), (20, 2, []), (20, 2, []), (20, 2, [])]) (72, 396) hp rfl rfl rfl rfl (hz.up (by omega)) (by decide +kernel) ?_
  refine y_pS (p := 156) 0 (TFn 0) hp rfl rfl (by decide) (by decide +kernel) ?_
  refine (w_st (j' := 17) (ls' := [vR (some 156), vU]) (st' := [vR none, vR (some 156)]) 2 rfl).mpr ?_
  refine y_pN (p := 156) 0 hp rfl rfl (hz _ (by omega) _).1 ?_
  refine (w_st (j' := 20) (ls' := [vR (some 156), vU]) (st' := [vR none, vR (some 156)]) 2 rfl).mpr ?_
  refine y_pN (p := 156) 0 hp rfl rfl (hz _ (by omega) _).1 ?_
  refine (w_st (j' := 24) (ls' := [vR (some 156), vI 0]) (st' := []) 3 rfl).mpr ?_
  refine (w_st (j' := 26) (ls' := [vR (some 156), vI 0]) (st' := [vI 36, vI 0]) 2 rfl).mpr ?_
  refine (w_cge rfl).mpr ?_
  rw [if_pos (by decide)]
  refine (w_st (j' := 29) (ls' := [vR (some 156), vI 0]) (st' := [vR (some 156)]) 2 rfl).mpr ?_
  refine y_gS (p := 156) 0 (q := some (156 + 1)) hp rfl (by decide +kernel) (by decide +kernel) ?_
  refine (w_st (j' := 31) (ls' := [vR (some 156), vI 0]) (st' := [vI 0, vR (some (156 + 1))]) 1 rfl).mpr ?_
  refine y_new (p := 156) (n := 10) (TFn 0 ++ [(3, 9, List.replicate 9 none)]) (71, 387) hp (by decide +kernel) rfl rfl rfl (hz.up (by omega)) rfl ?_
  refine (w_st (j' := 33) (ls' := [vR (some 156), vI 0]) (st' := [vR (some (156 + 10)), vR (some (156 + 10)), vI 0, vR (some (156 + 1))]) 1 rfl).mpr ?_
  refine y_call (p := 156) (c0 := (3, 9, List.replicate 9 none)) (Bl := TGo (156 + 10)) (n := 10) (TFn 0) (TFn 0 ++ TGo (156 + 10)) (70, 385) hp (by decide +kernel) rfl (by decide) rfl (by decide) (by decide) rfl rfl (fun P' Q' hp' hq => i_Go (hz.up (by omega)) hp' hq) rfl rfl ?_
  refine (w_st (j' := 35) (ls' := [vR (some 156), vI 0]) (st' := [vR (some (156 + 10)), vI 0, vR (some (156 + 1))]) 1 rfl).mpr ?_
  refine y_aas (p := 156) 1 10 (i := 0) (TFn 1) hp rfl (by decide +kernel) (by decide +kernel) ?_
  refine (w_st (j' := 24) (ls' := [vR (some 156), vI (w32 (0 + 1))]) (st' := []) 3 rfl).mpr ?_
  rw [show w32 (0 + 1) = 1 by decide]
  refine (w_st (j' := 26) (ls' := [vR (some 156), vI 1]) (st' := [vI 36, vI 1]) 2 rfl).mpr ?_
  refine (w_cge rfl).mpr ?_
  rw [if_pos (by decide)]
  refine (w_st (j' := 29) (ls' := [vR (some 156), vI 1]) (st' := [vR (some 156)]) 2 rfl).mpr ?_
  refine y_gS (p := 156) 0 (q := some (156 + 1)) hp rfl (by decide +kernel) (by decide +kernel) ?_
  refine (w_st (j' := 31) (ls' := [vR (some 156), vI 1]) (st' := [vI 1, vR (some (156 + 1))]) 1 rfl).mpr ?_
  refine y_new (p := 156) (n := 12) (TFn 1 ++ [(3, 9, List.replicate 9 none)]) (69, 376) hp (by decide +kernel) rfl rfl rfl (hz.up (by omega)) rfl ?_
  refine (w_st (j' := 33) (ls' := [vR (some 156), vI 1]) (st' := [vR (some (156 + 12)), vR (some (156 + 12)), vI 1, vR (some (156 + 1))]) 1 rfl).mpr ?_
  refine y_call (p := 156) (c0 := (3, 9, List.replicate 9 none)) (Bl := TGo (156 + 12)) (n := 12) (TFn 1) (TFn 1 ++ TGo (156 + 12)) (68, 374) hp (by decide +kernel) rfl (by decide) rfl (by decide) (by decide) rfl rfl (fun P' Q' hp' hq => i_Go (hz.up (by omega)) hp' hq) rfl rfl ?_
  refine (w_st (j' := 35) (ls' := [vR (some 156), vI 1]) (st' := [vR (some (156 + 12)), vI 1, vR (some (156 + 1))]) 1 rfl).mpr ?_
  refine y_aas (p := 156) 1 12 (i := 1) (TFn 2) hp rfl (by decide +kernel) (by decide +kernel) ?_
  refine (w_st (j' := 24) (ls' := [vR (some 156), vI (w32 (1 + 1))]) (st' := []) 3 rfl).mpr ?_
  rw [show w32 (1 + 1) = 2 by decide]
  refine (w_st (j' := 26) (ls' := [vR (some 156), vI 2]) (st' := [vI 36, vI 2]) 2 rfl).mpr ?_
  refine (w_cge rfl).mpr ?_
  rw [if_pos (by decide)]
  refine (w_st (j' := 29) (ls' := [vR (some 156), vI 2]) (st' := [vR (some 156)]) 2 rfl).mpr ?_
  refine y_gS (p := 156) 0 (q := some (156 + 1)) hp rfl (by decide +kernel) (by decide +kernel) ?_
  refine (w_st (j' := 31) (ls' := [vR (some 156), vI 2]) (st' := [vI 2, vR (some (156 + 1))]) 1 rfl).mpr ?_
  refine y_new (p := 156) (n := 14) (TFn 2 ++ [(3, 9, List.replicate 9 none)]) (67, 365) hp (by decide +kernel) rfl rfl rfl (hz.up (by omega)) rfl ?_
  refine (w_st (j' := 33) (ls' := [vR (some 156), vI 2]) (st' := [vR (some (156 + 14)), vR (some (156 + 14)), vI 2, vR (some (156 + 1))]) 1 rfl).mpr ?_
  refine y_call (p := 156) (c0 := (3, 9, List.replicate 9 none)) (Bl := TGo (156 + 14)) (n := 14) (TFn 2) (TFn 2 ++ TGo (156 + 14)) (66, 363) hp (by decide +kernel) rfl (by decide) rfl (by decide) (by decide) rfl rfl (fun P' Q' hp' hq => i_Go (hz.up (by omega)) hp' hq) rfl rfl ?_
  refine (w_st (j' := 35) (ls' := [vR (some 156), vI 2]) (st' := [vR (some (156 + 14)), vI 2, vR (some (156 + 1))]) 1 rfl).mpr ?_
  refine y_aas (p := 156) 1 14 (i := 2) (TFn 3) hp rfl (by decide +kernel) (by decide +kernel) ?_
  refine (w_st (j' := 24) (ls' := [vR (some 156), vI (w32 (2 + 1))]) (st' := []) 3 rfl).mpr ?_
  rw [show w32 (2 + 1) = 3 by decide]
  refine (w_st (j' := 26) (ls' := [vR (some 156), vI 3]) (st' := [vI 36, vI 3]) 2 rfl).mpr ?_
  refine (w_cge rfl).mpr ?_
  rw [if_pos (by decide)]
  refine (w_st (j' := 29) (ls' := [vR (some 156), vI 3]) (st' := [vR (some 156)]) 2 rfl).mpr ?_
  refine y_gS (p := 156) 0 (q := some (156 + 1)) hp rfl (by decide +kernel) (by decide +kernel) ?_
  refine (w_st (j' := 31) (ls' := [vR (some 156), vI 3]) (st' := [vI 3, vR (some (156 + 1))]) 1 rfl).mpr ?_
  refine y_new (p := 156) (n := 16) (TFn 3 ++ [(3, 9, List.replicate 9 none)]) (65, 354) hp (by decide +kernel) rfl rfl rfl (hz.up (by omega)) rfl ?_
  refine (w_st (j' := 33) (ls' := [vR (some 156), vI 3]) (st' := [vR (some (156 + 16)), vR (some (156 + 16)), vI 3, vR (some (156 + 1))]) 1 rfl).mpr ?_
  refine y_call (p := 156) (c0 := (3, 9, List.replicate 9 none)) (Bl := TGo (156 + 16)) (n := 16) (TFn 3) (TFn 3 ++ TGo (156 + 16)) (64, 352) hp (by decide +kernel) rfl (by decide) rfl (by decide) (by decide) rfl rfl (fun P' Q' hp' hq => i_Go (hz.up (by omega)) hp' hq) rfl rfl ?_
  refine (w_st (j' := 35) (ls' := [vR (some 156), vI 3]) (st' := [vR (some (156 + 16)), vI 3, vR (some (156 + 1))]) 1 rfl).mpr ?_
  refine y_aas (p := 156) 1 16 (i := 3) (TFn 4) hp rfl (by decide +kernel) (by decide +kernel) ?_
  refine (w_st (j' := 24) (ls' := [vR (some 156), vI (w32 (3 + 1))]) (st' := []) 3 rfl).mpr ?_
  rw [show w32 (3 + 1) = 4 by decide]
  refine (w_st (j' := 26) (ls' := [vR (some 156), vI 4]) (st' := [vI 36, vI 4]) 2 rfl).mpr ?_
  refine (w_cge rfl).mpr ?_
  rw [if_pos (by decide)]
  refine (w_st (j' := 29) (ls' := [vR (some 156), vI 4]) (st' := [vR (some 156)]) 2 rfl).mpr ?_
  refine y_gS (p := 156) 0 (q := some (156 + 1)) hp rfl (by decide +kernel) (by decide +kernel) ?_
  refine (w_st (j' := 31) (ls' := [vR (some 156), vI 4]) (st' := [vI 4, vR (some (156 + 1))]) 1 rfl).mpr ?_
  refine y_new (p := 156) (n := 18) (TFn 4 ++ [(3, 9, List.replicate 9 none)]) (63, 343) hp (by decide +kernel) rfl rfl rfl (hz.up (by omega)) rfl ?_
  refine (w_st (j' := 33) (ls' := [vR (some 156), vI 4]) (st' := [vR (some (156 + 18)), vR (some (156 + 18)), vI 4, vR (some (156 + 1))]) 1 rfl).mpr ?_
  refine y_call (p := 156) (c0 := (3, 9, List.replicate 9 none)) (Bl := TGo (156 + 18)) (n := 18) (TFn 4) (TFn 4 ++ TGo (156 + 18)) (62, 341) hp (by decide +kernel) rfl (by decide) rfl (by decide) (by decide) rfl rfl (fun P' Q' hp' hq => i_Go (hz.up (by omega)) hp' hq) rfl rfl ?_
  refine (w_st (j' := 35) (ls' := [vR (some 156), vI 4]) (st' := [vR (some (156 + 18)), vI 4, vR (some (156 + 1))]) 1 rfl).mpr ?_
  refine y_aas (p := 156) 1 18 (i := 4) (TFn 5) hp rfl (by decide +kernel) (by decide +kernel) ?_
  refine (w_st (j' := 24) (ls' := [vR (some 156), vI (w32 (4 + 1))]) (st' := []) 3 rfl).mpr ?_
  rw [show w32 (4 + 1) = 5 by decide]
  refine (w_st (j' := 26) (ls' := [vR (some 156), vI 5]) (st' := [vI 36, vI 5]) 2 rfl).mpr ?_
  refine (w_cge rfl).mpr ?_
  rw [if_pos (by decide)]
  refine (w_st (j' := 29) (ls' := [vR (some 156), vI 5]) (st' := [vR (some 156)]) 2 rfl).mpr ?_
  refine y_gS (p := 156) 0 (q := some (156 + 1)) hp rfl (by decide +kernel) (by decide +kernel) ?_
  refine (w_st (j' := 31) (ls' := [vR (some 156), vI 5]) (st' := [vI 5, vR (some (156 + 1))]) 1 rfl).mpr ?_
  refine y_new (p := 156) (n := 20) (TFn 5 ++ [(3, 9, List.replicate 9 none)]) (61, 332) hp (by decide +kernel) rfl rfl rfl (hz.up (by omega)) rfl ?_
  refine (w_st (j' := 33) (ls' := [vR (some 156), vI 5]) (st' := [vR (some (156 + 20)), vR (some (156 + 20)), vI 5, vR (some (156 + 1))]) 1 rfl).mpr ?_
  refine y_call (p := 156) (c0 := (3, 9, List.replicate 9 none)) (Bl := TGo (156 + 20)) (n := 20) (TFn 5) (TFn 5 ++ TGo (156 + 20)) (60, 330) hp (by decide +kernel) rfl (by decide) rfl (by decide) (by decide) rfl rfl (fun P' Q' hp' hq => i_Go (hz.up (by omega)) hp' hq) rfl rfl ?_
  refine (w_st (j' := 35) (ls' := [vR (some 156), vI 5]) (st' := [vR (some (156 + 20)), vI 5, vR (some (156 + 1))]) 1 rfl).mpr ?_
  refine y_aas (p := 156) 1 20 (i := 5) (TFn 6) hp rfl (by decide +kernel) (by decide +kernel) ?_
  refine (w_st (j' := 24) (ls' := [vR (some 156), vI (w32 (5 + 1))]) (st' := []) 3 rfl).mpr ?_
  rw [show w32 (5 + 1) = 6 by decide]
  refine (w_st (j' := 26) (ls' := [vR (some 156), vI 6]) (st' := [vI 36, vI 6]) 2 rfl).mpr ?_
  refine (w_cge rfl).mpr ?_
  rw [if_pos (by decide)]
  refine (w_st (j' := 29) (ls' := [vR (some 156), vI 6]) (st' := [vR (some 156)]) 2 rfl).mpr ?_
  refine y_gS (p := 156) 0 (q := some (156 + 1)) hp rfl (by decide +kernel) (by decide +kernel) ?_
  refine (w_st (j' := 31) (ls' := [vR (some 156), vI 6]) (st' := [vI 6, vR (some (156 + 1))]) 1 rfl).mpr ?_
  refine y_new (p := 156) (n := 22) (TFn 6 ++ [(3, 9, List.replicate 9 none)]) (59, 321) hp (by decide +kernel) rfl rfl rfl (hz.up (by omega)) rfl ?_
  refine (w_st (j' := 33) (ls' := [vR (some 156), vI 6]) (st' := [vR (some (156 + 22)), vR (some (156 + 22)), vI 6, vR (some (156 + 1))]) 1 rfl).mpr ?_
  refine y_call (p := 156) (c0 := (3, 9, List.replicate 9 none)) (Bl := TGo (156 + 22)) (n := 22) (TFn 6) (TFn 6 ++ TGo (156 + 22)) (58, 319) hp (by decide +kernel) rfl (by decide) rfl (by decide) (by decide) rfl rfl (fun P' Q' hp' hq => i_Go (hz.up (by omega)) hp' hq) rfl rfl ?_
  refine (w_st (j' := 35) (ls' := [vR (some 156), vI 6]) (st' := [vR (some (156 + 22)), vI 6, vR (some (156 + 1))]) 1 rfl).mpr ?_
  refine y_aas (p := 156) 1 22 (i := 6) (TFn 7) hp rfl (by decide +kernel) (by decide +kernel) ?_
  refine (w_st (j' := 24) (ls' := [vR (some 156), vI (w32 (6 + 1))]) (st' := []) 3 rfl).mpr ?_
  rw [show w32 (6 + 1) = 7 by decide]
  refine (w_st (j' := 26) (ls' := [vR (some 156), vI 7]) (st' := [vI 36, vI 7]) 2 rfl).mpr ?_
  refine (w_cge rfl).mpr ?_
  rw [if_pos (by decide)]
  refine (w_st (j' := 29) (ls' := [vR (some 156), vI 7]) (st' := [vR (some 156)]) 2 rfl).mpr ?_
  refine y_gS (p := 156) 0 (q := some (156 + 1)) hp rfl (by decide +kernel) (by decide +kernel) ?_
  refine (w_st (j' := 31) (ls' := [vR (some 156), vI 7]) (st' := [vI 7, vR (some (156 + 1))]) 1 rfl).mpr ?_
  refine y_new (p := 156) (n := 24) (TFn 7 ++ [(3, 9, List.replicate 9 none)]) (57, 310) hp (by decide +kernel) rfl rfl rfl (hz.up (by omega)) rfl ?_
  refine (w_st (j' := 33) (ls' := [vR (some 156), vI 7]) (st' := [vR (some (156 + 24)), vR (some (156 + 24)), vI 7, vR (some (156 + 1))]) 1 rfl).mpr ?_
  refine y_call (p := 156) (c0 := (3, 9, List.replicate 9 none)) (Bl := TGo (156 + 24)) (n := 24) (TFn 7) (TFn 7 ++ TGo (156 + 24)) (56, 308) hp (by decide +kernel) rfl (by decide) rfl (by decide) (by decide) rfl rfl (fun P' Q' hp' hq => i_Go (hz.up (by omega)) hp' hq) rfl rfl ?_
  refine (w_st (j' := 35) (ls' := [vR (some 156), vI 7]) (st' := [vR (some (156 + 24)), vI 7, vR (some (156 + 1))]) 1 rfl).mpr ?_
  refine y_aas (p := 156) 1 24 (i := 7) (TFn 8) hp rfl (by decide +kernel) (by decide +kernel) ?_
  refine (w_st (j' := 24) (ls' := [vR (some 156), vI (w32 (7 + 1))]) (st' := []) 3 rfl).mpr ?_
  rw [show w32 (7 + 1) = 8 by decide]
  refine (w_st (j' := 26) (ls' := [vR (some 156), vI 8]) (st' := [vI 36, vI 8]) 2 rfl).mpr ?_
  refine (w_cge rfl).mpr ?_
  rw [if_pos (by decide)]
  refine (w_st (j' := 29) (ls' := [vR (some 156), vI 8]) (st' := [vR (some 156)]) 2 rfl).mpr ?_
  refine y_gS (p := 156) 0 (q := some (156 + 1)) hp rfl (by decide +kernel) (by decide +kernel) ?_
  refine (w_st (j' := 31) (ls' := [vR (some 156), vI 8]) (st' := [vI 8, vR (some (156 + 1))]) 1 rfl).mpr ?_
  refine y_new (p := 156) (n := 26) (TFn 8 ++ [(3, 9, List.replicate 9 none)]) (55, 299) hp (by decide +kernel) rfl rfl rfl (hz.up (by omega)) rfl ?_
  refine (w_st (j' := 33) (ls' := [vR (some 156), vI 8]) (st' := [vR (some (156 + 26)), vR (some (156 + 26)), vI 8, vR (some (156 + 1))]) 1 rfl).mpr ?_
  refine y_call (p := 156) (c0 := (3, 9, List.replicate 9 none)) (Bl := TGo (156 + 26)) (n := 26) (TFn 8) (TFn 8 ++ TGo (156 + 26)) (54, 297) hp (by decide +kernel) rfl (by decide) rfl (by decide) (by decide) rfl rfl (fun P' Q' hp' hq => i_Go (hz.up (by omega)) hp' hq) rfl rfl ?_
  refine (w_st (j' := 35) (ls' := [vR (some 156), vI 8]) (st' := [vR (some (156 + 26)), vI 8, vR (some (156 + 1))]) 1 rfl).mpr ?_
  refine y_aas (p := 156) 1 26 (i := 8) (TFn 9) hp rfl (by decide +kernel) (by decide +kernel) ?_
  refine (w_st (j' := 24) (ls' := [vR (some 156), vI (w32 (8 + 1))]) (st' := []) 3 rfl).mpr ?_
  rw [show w32 (8 + 1) = 9 by decide]
  refine (w_st (j' := 26) (ls' := [vR (some 156), vI 9]) (st' := [vI 36, vI 9]) 2 rfl).mpr ?_
  refine (w_cge rfl).mpr ?_
  rw [if_pos (by decide)]
  refine (w_st (j' := 29) (ls' := [vR (some 156), vI 9]) (st' := [vR (some 156)]) 2 rfl).mpr ?_
  refine y_gS (p := 156) 0 (q := some (156 + 1)) hp rfl (by decide +kernel) (by decide +kernel) ?_
  refine (w_st (j' := 31) (ls' := [vR (some 156), vI 9]) (st' := [vI 9, vR (some (156 + 1))]) 1 rfl).mpr ?_
  refine y_new (p := 156) (n := 28) (TFn 9 ++ [(3, 9, List.replicate 9 none)]) (53, 288) hp (by decide +kernel) rfl rfl rfl (hz.up (by omega)) rfl ?_
  refine (w_st (j' := 33) (ls' := [vR (some 156), vI 9]) (st' := [vR (some (156 + 28)), vR (some (156 + 28)), vI 9, vR (some (156 + 1))]) 1 rfl).mpr ?_
  refine y_call (p := 156) (c0 := (3, 9, List.replicate 9 none)) (Bl := TGo (156 + 28)) (n := 28) (TFn 9) (TFn 9 ++ TGo (156 + 28)) (52, 286) hp (by decide +kernel) rfl (by decide) rfl (by decide) (by decide) rfl rfl (fun P' Q' hp' hq => i_Go (hz.up (by omega)) hp' hq) rfl rfl ?_
  refine (w_st (j' := 35) (ls' := [vR (some 156), vI 9]) (st' := [vR (some (156 + 28)), vI 9, vR (some (156 + 1))]) 1 rfl).mpr ?_
  refine y_aas (p := 156) 1 28 (i := 9) (TFn 10) hp rfl (by decide +kernel) (by decide +kernel) ?_
  refine (w_st (j' := 24) (ls' := [vR (some 156), vI (w32 (9 + 1))]) (st' := []) 3 rfl).mpr ?_
  rw [show w32 (9 + 1) = 10 by decide]
  refine (w_st (j' := 26) (ls' := [vR (some 156), vI 10]) (st' := [vI 36, vI 10]) 2 rfl).mpr ?_
  refine (w_cge rfl).mpr ?_
  rw [if_pos (by decide)]
  refine (w_st (j' := 29) (ls' := [vR (some 156), vI 10]) (st' := [vR (some 156)]) 2 rfl).mpr ?_
  refine y_gS (p := 156) 0 (q := some (156 + 1)) hp rfl (by decide +kernel) (by decide +kernel) ?_
  refine (w_st (j' := 31) (ls' := [vR (some 156), vI 10]) (st' := [vI 10, vR (some (156 + 1))]) 1 rfl).mpr ?_
  refine y_new (p := 156) (n := 30) (TFn 10 ++ [(3, 9, List.replicate 9 none)]) (51, 277) hp (by decide +kernel) rfl rfl rfl (hz.up (by omega)) rfl ?_
  refine (w_st (j' := 33) (ls' := [vR (some 156), vI 10]) (st' := [vR (some (156 + 30)), vR (some (156 + 30)), vI 10, vR (some (156 + 1))]) 1 rfl).mpr ?_
  refine y_call (p := 156) (c0 := (3, 9, List.replicate 9 none)) (Bl := TGo (156 + 30)) (n := 30) (TFn 10) (TFn 10 ++ TGo (156 + 30)) (50, 275) hp (by decide +kernel) rfl (by decide) rfl (by decide) (by decide) rfl rfl (fun P' Q' hp' hq => i_Go (hz.up (by omega)) hp' hq) rfl rfl ?_
  refine (w_st (j' := 35) (ls' := [vR (some 156), vI 10]) (st' := [vR (some (156 + 30)), vI 10, vR (some (156 + 1))]) 1 rfl).mpr ?_
  refine y_aas (p := 156) 1 30 (i := 10) (TFn 11) hp rfl (by decide +kernel) (by decide +kernel) ?_
  refine (w_st (j' := 24) (ls' := [vR (some 156), vI (w32 (10 + 1))]) (st' := []) 3 rfl).mpr ?_
  rw [show w32 (10 + 1) = 11 by decide]
  refine (w_st (j' := 26) (ls' := [vR (some 156), vI 11]) (st' := [vI 36, vI 11]) 2 rfl).mpr ?_
  refine (w_cge rfl).mpr ?_
  rw [if_pos (by decide)]
  refine (w_st (j' := 29) (ls' := [vR (some 156), vI 11]) (st' := [vR (some 156)]) 2 rfl).mpr ?_
  refine y_gS (p := 156) 0 (q := some (156 + 1)) hp rfl (by decide +kernel) (by decide +kernel) ?_
  refine (w_st (j' := 31) (ls' := [vR (some 156), vI 11]) (st' := [vI 11, vR (some (156 + 1))]) 1 rfl).mpr ?_
  refine y_new (p := 156) (n := 32) (TFn 11 ++ [(3, 9, List.replicate 9 none)]) (49, 266) hp (by decide +kernel) rfl rfl rfl (hz.up (by omega)) rfl ?_
  refine (w_st (j' := 33) (ls' := [vR (some 156), vI 11]) (st' := [vR (some (156 + 32)), vR (some (156 + 32)), vI 11, vR (some (156 + 1))]) 1 rfl).mpr ?_
  refine y_call (p := 156) (c0 := (3, 9, List.replicate 9 none)) (Bl := TGo (156 + 32)) (n := 32) (TFn 11) (TFn 11 ++ TGo (156 + 32)) (48, 264) hp (by decide +kernel) rfl (by decide) rfl (by decide) (by decide) rfl rfl (fun P' Q' hp' hq => i_Go (hz.up (by omega)) hp' hq) rfl rfl ?_
  refine (w_st (j' := 35) (ls' := [vR (some 156), vI 11]) (st' := [vR (some (156 + 32)), vI 11, vR (some (156 + 1))]) 1 rfl).mpr ?_
  refine y_aas (p := 156) 1 32 (i := 11) (TFn 12) hp rfl (by decide +kernel) (by decide +kernel) ?_
  refine (w_st (j' := 24) (ls' := [vR (some 156), vI (w32 (11 + 1))]) (st' := []) 3 rfl).mpr ?_
  rw [show w32 (11 + 1) = 12 by decide]
  refine (w_st (j' := 26) (ls' := [vR (some 156), vI 12]) (st' := [vI 36, vI 12]) 2 rfl).mpr ?_
  refine (w_cge rfl).mpr ?_
  rw [if_pos (by decide)]
  refine (w_st (j' := 29) (ls' := [vR (some 156), vI 12]) (st' := [vR (some 156)]) 2 rfl).mpr ?_
  refine y_gS (p := 156) 0 (q := some (156 + 1)) hp rfl (by decide +kernel) (by decide +kernel) ?_
  refine (w_st (j' := 31) (ls' := [vR (some 156), vI 12]) (st' := [vI 12, vR (some (156 + 1))]) 1 rfl).mpr ?_
  refine y_new (p := 156) (n := 34) (TFn 12 ++ [(3, 9, List.replicate 9 none)]) (47, 255) hp (by decide +kernel) rfl rfl rfl (hz.up (by omega)) rfl ?_
  refine (w_st (j' := 33) (ls' := [vR (some 156), vI 12]) (st' := [vR (some (156 + 34)), vR (some (156 + 34)), vI 12, vR (some (156 + 1))]) 1 rfl).mpr ?_
  refine y_call (p := 156) (c0 := (3, 9, List.replicate 9 none)) (Bl := TGo (156 + 34)) (n := 34) (TFn 12) (TFn 12 ++ TGo (156 + 34)) (46, 253) hp (by decide +kernel) rfl (by decide) rfl (by decide) (by decide) rfl rfl (fun P' Q' hp' hq => i_Go (hz.up (by omega)) hp' hq) rfl rfl ?_
  refine (w_st (j' := 35) (ls' := [vR (some 156), vI 12]) (st' := [vR (some (156 + 34)), vI 12, vR (some (156 + 1))]) 1 rfl).mpr ?_
  refine y_aas (p := 156) 1 34 (i := 12) (TFn 13) hp rfl (by decide +kernel) (by decide +kernel) ?_
  refine (w_st (j' := 24) (ls' := [vR (some 156), vI (w32 (12 + 1))]) (st' := []) 3 rfl).mpr ?_
  rw [show w32 (12 + 1) = 13 by decide]
  refine (w_st (j' := 26) (ls' := [vR (some 156), vI 13]) (st' := [vI 36, vI 13]) 2 rfl).mpr ?_
  refine (w_cge rfl).mpr ?_
  rw [if_pos (by decide)]
  refine (w_st (j' := 29) (ls' := [vR (some 156), vI 13]) (st' := [vR (some 156)]) 2 rfl).mpr ?_
  refine y_gS (p := 156) 0 (q := some (156 + 1)) hp rfl (by decide +kernel) (by decide +kernel) ?_
  refine (w_st (j' := 31) (ls' := [vR (some 156), vI 13]) (st' := [vI 13, vR (some (156 + 1))]) 1 rfl).mpr ?_
  refine y_new (p := 156) (n := 36) (TFn 13 ++ [(3, 9, List.replicate 9 none)]) (45, 244) hp (by decide +kernel) rfl rfl rfl (hz.up (by omega)) rfl ?_
  refine (w_st (j' := 33) (ls' := [vR (some 156), vI 13]) (st' := [vR (some (156 + 36)), vR (some (156 + 36)), vI 13, vR (some (156 + 1))]) 1 rfl).mpr ?_
  refine y_call (p := 156) (c0 := (3, 9, List.replicate 9 none)) (Bl := TGo (156 + 36)) (n := 36) (TFn 13) (TFn 13 ++ TGo (156 + 36)) (44, 242) hp (by decide +kernel) rfl (by decide) rfl (by decide) (by decide) rfl rfl (fun P' Q' hp' hq => i_Go (hz.up (by omega)) hp' hq) rfl rfl ?_
  refine (w_st (j' := 35) (ls' := [vR (some 156), vI 13]) (st' := [vR (some (156 + 36)), vI 13, vR (some (156 + 1))]) 1 rfl).mpr ?_
  refine y_aas (p := 156) 1 36 (i := 13) (TFn 14) hp rfl (by decide +kernel) (by decide +kernel) ?_
  refine (w_st (j' := 24) (ls' := [vR (some 156), vI (w32 (13 + 1))]) (st' := []) 3 rfl).mpr ?_
  rw [show w32 (13 + 1) = 14 by decide]
  refine (w_st (j' := 26) (ls' := [vR (some 156), vI 14]) (st' := [vI 36, vI 14]) 2 rfl).mpr ?_
  refine (w_cge rfl).mpr ?_
  rw [if_pos (by decide)]
  refine (w_st (j' := 29) (ls' := [vR (some 156), vI 14]) (st' := [vR (some 156)]) 2 rfl).mpr ?_
  refine y_gS (p := 156) 0 (q := some (156 + 1)) hp rfl (by decide +kernel) (by decide +kernel) ?_
  refine (w_st (j' := 31) (ls' := [vR (some 156), vI 14]) (st' := [vI 14, vR (some (156 + 1))]) 1 rfl).mpr ?_
  refine y_new (p := 156) (n := 38) (TFn 14 ++ [(3, 9, List.replicate 9 none)]) (43, 233) hp (by decide +kernel) rfl rfl rfl (hz.up (by omega)) rfl ?_
  refine (w_st (j' := 33) (ls' := [vR (some 156), vI 14]) (st' := [vR (some (156 + 38)), vR (some (156 + 38)), vI 14, vR (some (156 + 1))]) 1 rfl).mpr ?_
  refine y_call (p := 156) (c0 := (3, 9, List.replicate 9 none)) (Bl := TGo (156 + 38)) (n := 38) (TFn 14) (TFn 14 ++ TGo (156 + 38)) (42, 231) hp (by decide +kernel) rfl (by decide) rfl (by decide) (by decide) rfl rfl (fun P' Q' hp' hq => i_Go (hz.up (by omega)) hp' hq) rfl rfl ?_
  refine (w_st (j' := 35) (ls' := [vR (some 156), vI 14]) (st' := [vR (some (156 + 38)), vI 14, vR (some (156 + 1))]) 1 rfl).mpr ?_
  refine y_aas (p := 156) 1 38 (i := 14) (TFn 15) hp rfl (by decide +kernel) (by decide +kernel) ?_
  refine (w_st (j' := 24) (ls' := [vR (some 156), vI (w32 (14 + 1))]) (st' := []) 3 rfl).mpr ?_
  rw [show w32 (14 + 1) = 15 by decide]
  refine (w_st (j' := 26) (ls' := [vR (some 156), vI 15]) (st' := [vI 36, vI 15]) 2 rfl).mpr ?_
  refine (w_cge rfl).mpr ?_
  rw [if_pos (by decide)]
  refine (w_st (j' := 29) (ls' := [vR (some 156), vI 15]) (st' := [vR (some 156)]) 2 rfl).mpr ?_
  refine y_gS (p := 156) 0 (q := some (156 + 1)) hp rfl (by decide +kernel) (by decide +kernel) ?_
  refine (w_st (j' := 31) (ls' := [vR (some 156), vI 15]) (st' := [vI 15, vR (some (156 + 1))]) 1 rfl).mpr ?_
  refine y_new (p := 156) (n := 40) (TFn 15 ++ [(3, 9, List.replicate 9 none)]) (41, 222) hp (by decide +kernel) rfl rfl rfl (hz.up (by omega)) rfl ?_
  refine (w_st (j' := 33) (ls' := [vR (some 156), vI 15]) (st' := [vR (some (156 + 40)), vR (some (156 + 40)), vI 15, vR (some (156 + 1))]) 1 rfl).mpr ?_
  refine y_call (p := 156) (c0 := (3, 9, List.replicate 9 none)) (Bl := TGo (156 + 40)) (n := 40) (TFn 15) (TFn 15 ++ TGo (156 + 40)) (40, 220) hp (by decide +kernel) rfl (by decide) rfl (by decide) (by decide) rfl rfl (fun P' Q' hp' hq => i_Go (hz.up (by omega)) hp' hq) rfl rfl ?_
  refine (w_st (j' := 35) (ls' := [vR (some 156), vI 15]) (st' := [vR (some (156 + 40)), vI 15, vR (some (156 + 1))]) 1 rfl).mpr ?_
  refine y_aas (p := 156) 1 40 (i := 15) (TFn 16) hp rfl (by decide +kernel) (by decide +kernel) ?_
  refine (w_st (j' := 24) (ls' := [vR (some 156), vI (w32 (15 + 1))]) (st' := []) 3 rfl).mpr ?_
  rw [show w32 (15 + 1) = 16 by decide]
  refine (w_st (j' := 26) (ls' := [vR (some 156), vI 16]) (st' := [vI 36, vI 16]) 2 rfl).mpr ?_
  refine (w_cge rfl).mpr ?_
  rw [if_pos (by decide)]
  refine (w_st (j' := 29) (ls' := [vR (some 156), vI 16]) (st' := [vR (some 156)]) 2 rfl).mpr ?_
  refine y_gS (p := 156) 0 (q := some (156 + 1)) hp rfl (by decide +kernel) (by decide +kernel) ?_
  refine (w_st (j' := 31) (ls' := [vR (some 156), vI 16]) (st' := [vI 16, vR (some (156 + 1))]) 1 rfl).mpr ?_
  refine y_new (p := 156) (n := 42) (TFn 16 ++ [(3, 9, List.replicate 9 none)]) (39, 211) hp (by decide +kernel) rfl rfl rfl (hz.up (by omega)) rfl ?_
  refine (w_st (j' := 33) (ls' := [vR (some 156), vI 16]) (st' := [vR (some (156 + 42)), vR (some (156 + 42)), vI 16, vR (some (156 + 1))]) 1 rfl).mpr ?_
  refine y_call (p := 156) (c0 := (3, 9, List.replicate 9 none)) (Bl := TGo (156 + 42)) (n := 42) (TFn 16) (TFn 16 ++ TGo (156 + 42)) (38, 209) hp (by decide +kernel) rfl (by decide) rfl (by decide) (by decide) rfl rfl (fun P' Q' hp' hq => i_Go (hz.up (by omega)) hp' hq) rfl rfl ?_
  refine (w_st (j' := 35) (ls' := [vR (some 156), vI 16]) (st' := [vR (some (156 + 42)), vI 16, vR (some (156 + 1))]) 1 rfl).mpr ?_
  refine y_aas (p := 156) 1 42 (i := 16) (TFn 17) hp rfl (by decide +kernel) (by decide +kernel) ?_
  refine (w_st (j' := 24) (ls' := [vR (some 156), vI (w32 (16 + 1))]) (st' := []) 3 rfl).mpr ?_
  rw [show w32 (16 + 1) = 17 by decide]
  refine (w_st (j' := 26) (ls' := [vR (some 156), vI 17]) (st' := [vI 36, vI 17]) 2 rfl).mpr ?_
  refine (w_cge rfl).mpr ?_
  rw [if_pos (by decide)]
  refine (w_st (j' := 29) (ls' := [vR (some 156), vI 17]) (st' := [vR (some 156)]) 2 rfl).mpr ?_
  refine y_gS (p := 156) 0 (q := some (156 + 1)) hp rfl (by decide +kernel) (by decide +kernel) ?_
  refine (w_st (j' := 31) (ls' := [vR (some 156), vI 17]) (st' := [vI 17, vR (some (156 + 1))]) 1 rfl).mpr ?_
  refine y_new (p := 156) (n := 44) (TFn 17 ++ [(3, 9, List.replicate 9 none)]) (37, 200) hp (by decide +kernel) rfl rfl rfl (hz.up (by omega)) rfl ?_
  refine (w_st (j' := 33) (ls' := [vR (some 156), vI 17]) (st' := [vR (some (156 + 44)), vR (some (156 + 44)), vI 17, vR (some (156 + 1))]) 1 rfl).mpr ?_
  refine y_call (p := 156) (c0 := (3, 9, List.replicate 9 none)) (Bl := TGo (156 + 44)) (n := 44) (TFn 17) (TFn 17 ++ TGo (156 + 44)) (36, 198) hp (by decide +kernel) rfl (by decide) rfl (by decide) (by decide) rfl rfl (fun P' Q' hp' hq => i_Go (hz.up (by omega)) hp' hq) rfl rfl ?_
  refine (w_st (j' := 35) (ls' := [vR (some 156), vI 17]) (st' := [vR (some (156 + 44)), vI 17, vR (some (156 + 1))]) 1 rfl).mpr ?_
  refine y_aas (p := 156) 1 44 (i := 17) (TFn 18) hp rfl (by decide +kernel) (by decide +kernel) ?_
  refine (w_st (j' := 24) (ls' := [vR (some 156), vI (w32 (17 + 1))]) (st' := []) 3 rfl).mpr ?_
  rw [show w32 (17 + 1) = 18 by decide]
  refine (w_st (j' := 26) (ls' := [vR (some 156), vI 18]) (st' := [vI 36, vI 18]) 2 rfl).mpr ?_
  refine (w_cge rfl).mpr ?_
  rw [if_pos (by decide)]
  refine (w_st (j' := 29) (ls' := [vR (some 156), vI 18]) (st' := [vR (some 156)]) 2 rfl).mpr ?_
  refine y_gS (p := 156) 0 (q := some (156 + 1)) hp rfl (by decide +kernel) (by decide +kernel) ?_
  refine (w_st (j' := 31) (ls' := [vR (some 156), vI 18]) (st' := [vI 18, vR (some (156 + 1))]) 1 rfl).mpr ?_
  refine y_new (p := 156) (n := 46) (TFn 18 ++ [(3, 9, List.replicate 9 none)]) (35, 189) hp (by decide +kernel) rfl rfl rfl (hz.up (by omega)) rfl ?_
  refine (w_st (j' := 33) (ls' := [vR (some 156), vI 18]) (st' := [vR (some (156 + 46)), vR (some (156 + 46)), vI 18, vR (some (156 + 1))]) 1 rfl).mpr ?_
  refine y_call (p := 156) (c0 := (3, 9, List.replicate 9 none)) (Bl := TGo (156 + 46)) (n := 46) (TFn 18) (TFn 18 ++ TGo (156 + 46)) (34, 187) hp (by decide +kernel) rfl (by decide) rfl (by decide) (by decide) rfl rfl (fun P' Q' hp' hq => i_Go (hz.up (by omega)) hp' hq) rfl rfl ?_
  refine (w_st (j' := 35) (ls' := [vR (some 156), vI 18]) (st' := [vR (some (156 + 46)), vI 18, vR (some (156 + 1))]) 1 rfl).mpr ?_
  refine y_aas (p := 156) 1 46 (i := 18) (TFn 19) hp rfl (by decide +kernel) (by decide +kernel) ?_
  refine (w_st (j' := 24) (ls' := [vR (some 156), vI (w32 (18 + 1))]) (st' := []) 3 rfl).mpr ?_
  rw [show w32 (18 + 1) = 19 by decide]
  refine (w_st (j' := 26) (ls' := [vR (some 156), vI 19]) (st' := [vI 36, vI 19]) 2 rfl).mpr ?_
  refine (w_cge rfl).mpr ?_
  rw [if_pos (by decide)]
  refine (w_st (j' := 29) (ls' := [vR (some 156), vI 19]) (st' := [vR (some 156)]) 2 rfl).mpr ?_
  refine y_gS (p := 156) 0 (q := some (156 + 1)) hp rfl (by decide +kernel) (by decide +kernel) ?_
  refine (w_st (j' := 31) (ls' := [vR (some 156), vI 19]) (st' := [vI 19, vR (some (156 + 1))]) 1 rfl).mpr ?_
  refine y_new (p := 156) (n := 48) (TFn 19 ++ [(3, 9, List.replicate 9 none)]) (33, 178) hp (by decide +kernel) rfl rfl rfl (hz.up (by omega)) rfl ?_
  refine (w_st (j' := 33) (ls' := [vR (some 156), vI 19]) (st' := [vR (some (156 + 48)), vR (some (156 + 48)), vI 19, vR (some (156 + 1))]) 1 rfl).mpr ?_
  refine y_call (p := 156) (c0 := (3, 9, List.replicate 9 none)) (Bl := TGo (156 + 48)) (n := 48) (TFn 19) (TFn 19 ++ TGo (156 + 48)) (32, 176) hp (by decide +kernel) rfl (by decide) rfl (by decide) (by decide) rfl rfl (fun P' Q' hp' hq => i_Go (hz.up (by omega)) hp' hq) rfl rfl ?_
  refine (w_st (j' := 35) (ls' := [vR (some 156), vI 19]) (st' := [vR (some (156 + 48)), vI 19, vR (some (156 + 1))]) 1 rfl).mpr ?_
  refine y_aas (p := 156) 1 48 (i := 19) (TFn 20) hp rfl (by decide +kernel) (by decide +kernel) ?_
  refine (w_st (j' := 24) (ls' := [vR (some 156), vI (w32 (19 + 1))]) (st' := []) 3 rfl).mpr ?_
  rw [show w32 (19 + 1) = 20 by decide]
  refine (w_st (j' := 26) (ls' := [vR (some 156), vI 20]) (st' := [vI 36, vI 20]) 2 rfl).mpr ?_
  refine (w_cge rfl).mpr ?_
  rw [if_pos (by decide)]
  refine (w_st (j' := 29) (ls' := [vR (some 156), vI 20]) (st' := [vR (some 156)]) 2 rfl).mpr ?_
  refine y_gS (p := 156) 0 (q := some (156 + 1)) hp rfl (by decide +kernel) (by decide +kernel) ?_
  refine (w_st (j' := 31) (ls' := [vR (some 156), vI 20]) (st' := [vI 20, vR (some (156 + 1))]) 1 rfl).mpr ?_
  refine y_new (p := 156) (n := 50) (TFn 20 ++ [(3, 9, List.replicate 9 none)]) (31, 167) hp (by decide +kernel) rfl rfl rfl (hz.up (by omega)) rfl ?_
  refine (w_st (j' := 33) (ls' := [vR (some 156), vI 20]) (st' := [vR (some (156 + 50)), vR (some (156 + 50)), vI 20, vR (some (156 + 1))]) 1 rfl).mpr ?_
  refine y_call (p := 156) (c0 := (3, 9, List.replicate 9 none)) (Bl := TGo (156 + 50)) (n := 50) (TFn 20) (TFn 20 ++ TGo (156 + 50)) (30, 165) hp (by decide +kernel) rfl (by decide) rfl (by decide) (by decide) rfl rfl (fun P' Q' hp' hq => i_Go (hz.up (by omega)) hp' hq) rfl rfl ?_
  refine (w_st (j' := 35) (ls' := [vR (some 156), vI 20]) (st' := [vR (some (156 + 50)), vI 20, vR (some (156 + 1))]) 1 rfl).mpr ?_
  refine y_aas (p := 156) 1 50 (i := 20) (TFn 21) hp rfl (by decide +kernel) (by decide +kernel) ?_
  refine (w_st (j' := 24) (ls' := [vR (some 156), vI (w32 (20 + 1))]) (st' := []) 3 rfl).mpr ?_
  rw [show w32 (20 + 1) = 21 by decide]
  refine (w_st (j' := 26) (ls' := [vR (some 156), vI 21]) (st' := [vI 36, vI 21]) 2 rfl).mpr ?_
  refine (w_cge rfl).mpr ?_
  rw [if_pos (by decide)]
  refine (w_st (j' := 29) (ls' := [vR (some 156), vI 21]) (st' := [vR (some 156)]) 2 rfl).mpr ?_
  refine y_gS (p := 156) 0 (q := some (156 + 1)) hp rfl (by decide +kernel) (by decide +kernel) ?_
  refine (w_st (j' := 31) (ls' := [vR (some 156), vI 21]) (st' := [vI 21, vR (some (156 + 1))]) 1 rfl).mpr ?_
  refine y_new (p := 156) (n := 52) (TFn 21 ++ [(3, 9, List.replicate 9 none)]) (29, 156) hp (by decide +kernel) rfl rfl rfl (hz.up (by omega)) rfl ?_
  refine (w_st (j' := 33) (ls' := [vR (some 156), vI 21]) (st' := [vR (some (156 + 52)), vR (some (156 + 52)), vI 21, vR (some (156 + 1))]) 1 rfl).mpr ?_
  refine y_call (p := 156) (c0 := (3, 9, List.replicate 9 none)) (Bl := TGo (156 + 52)) (n := 52) (TFn 21) (TFn 21 ++ TGo (156 + 52)) (28, 154) hp (by decide +kernel) rfl (by decide) rfl (by decide) (by decide) rfl rfl (fun P' Q' hp' hq => i_Go (hz.up (by omega)) hp' hq) rfl rfl ?_
  refine (w_st (j' := 35) (ls' := [vR (some 156), vI 21]) (st' := [vR (some (156 + 52)), vI 21, vR (some (156 + 1))]) 1 rfl).mpr ?_
  refine y_aas (p := 156) 1 52 (i := 21) (TFn 22) hp rfl (by decide +kernel) (by decide +kernel) ?_
  refine (w_st (j' := 24) (ls' := [vR (some 156), vI (w32 (21 + 1))]) (st' := []) 3 rfl).mpr ?_
  rw [show w32 (21 + 1) = 22 by decide]
  refine (w_st (j' := 26) (ls' := [vR (some 156), vI 22]) (st' := [vI 36, vI 22]) 2 rfl).mpr ?_
  refine (w_cge rfl).mpr ?_
  rw [if_pos (by decide)]
  refine (w_st (j' := 29) (ls' := [vR (some 156), vI 22]) (st' := [vR (some 156)]) 2 rfl).mpr ?_
  refine y_gS (p := 156) 0 (q := some (156 + 1)) hp rfl (by decide +kernel) (by decide +kernel) ?_
  refine (w_st (j' := 31) (ls' := [vR (some 156), vI 22]) (st' := [vI 22, vR (some (156 + 1))]) 1 rfl).mpr ?_
  refine y_new (p := 156) (n := 54) (TFn 22 ++ [(3, 9, List.replicate 9 none)]) (27, 145) hp (by decide +kernel) rfl rfl rfl (hz.up (by omega)) rfl ?_
  refine (w_st (j' := 33) (ls' := [vR (some 156), vI 22]) (st' := [vR (some (156 + 54)), vR (some (156 + 54)), vI 22, vR (some (156 + 1))]) 1 rfl).mpr ?_
  refine y_call (p := 156) (c0 := (3, 9, List.replicate 9 none)) (Bl := TGo (156 + 54)) (n := 54) (TFn 22) (TFn 22 ++ TGo (156 + 54)) (26, 143) hp (by decide +kernel) rfl (by decide) rfl (by decide) (by decide) rfl rfl (fun P' Q' hp' hq => i_Go (hz.up (by omega)) hp' hq) rfl rfl ?_
  refine (w_st (j' := 35) (ls' := [vR (some 156), vI 22]) (st' := [vR (some (156 + 54)), vI 22, vR (some (156 + 1))]) 1 rfl).mpr ?_
  refine y_aas (p := 156) 1 54 (i := 22) (TFn 23) hp rfl (by decide +kernel) (by decide +kernel) ?_
  refine (w_st (j' := 24) (ls' := [vR (some 156), vI (w32 (22 + 1))]) (st' := []) 3 rfl).mpr ?_
  rw [show w32 (22 + 1) = 23 by decide]
  refine (w_st (j' := 26) (ls' := [vR (some 156), vI 23]) (st' := [vI 36, vI 23]) 2 rfl).mpr ?_
  refine (w_cge rfl).mpr ?_
  rw [if_pos (by decide)]
  refine (w_st (j' := 29) (ls' := [vR (some 156), vI 23]) (st' := [vR (some 156)]) 2 rfl).mpr ?_
  refine y_gS (p := 156) 0 (q := some (156 + 1)) hp rfl (by decide +kernel) (by decide +kernel) ?_
  refine (w_st (j' := 31) (ls' := [vR (some 156), vI 23]) (st' := [vI 23, vR (some (156 + 1))]) 1 rfl).mpr ?_
  refine y_new (p := 156) (n := 56) (TFn 23 ++ [(3, 9, List.replicate 9 none)]) (25, 134) hp (by decide +kernel) rfl rfl rfl (hz.up (by omega)) rfl ?_
  refine (w_st (j' := 33) (ls' := [vR (some 156), vI 23]) (st' := [vR (some (156 + 56)), vR (some (156 + 56)), vI 23, vR (some (156 + 1))]) 1 rfl).mpr ?_
  refine y_call (p := 156) (c0 := (3, 9, List.replicate 9 none)) (Bl := TGo (156 + 56)) (n := 56) (TFn 23) (TFn 23 ++ TGo (156 + 56)) (24, 132) hp (by decide +kernel) rfl (by decide) rfl (by decide) (by decide) rfl rfl (fun P' Q' hp' hq => i_Go (hz.up (by omega)) hp' hq) rfl rfl ?_
  refine (w_st (j' := 35) (ls' := [vR (some 156), vI 23]) (st' := [vR (some (156 + 56)), vI 23, vR (some (156 + 1))]) 1 rfl).mpr ?_
  refine y_aas (p := 156) 1 56 (i := 23) (TFn 24) hp rfl (by decide +kernel) (by decide +kernel) ?_
  refine (w_st (j' := 24) (ls' := [vR (some 156), vI (w32 (23 + 1))]) (st' := []) 3 rfl).mpr ?_
  rw [show w32 (23 + 1) = 24 by decide]
  refine (w_st (j' := 26) (ls' := [vR (some 156), vI 24]) (st' := [vI 36, vI 24]) 2 rfl).mpr ?_
  refine (w_cge rfl).mpr ?_
  rw [if_pos (by decide)]
  refine (w_st (j' := 29) (ls' := [vR (some 156), vI 24]) (st' := [vR (some 156)]) 2 rfl).mpr ?_
  refine y_gS (p := 156) 0 (q := some (156 + 1)) hp rfl (by decide +kernel) (by decide +kernel) ?_
  refine (w_st (j' := 31) (ls' := [vR (some 156), vI 24]) (st' := [vI 24, vR (some (156 + 1))]) 1 rfl).mpr ?_
  refine y_new (p := 156) (n := 58) (TFn 24 ++ [(3, 9, List.replicate 9 none)]) (23, 123) hp (by decide +kernel) rfl rfl rfl (hz.up (by omega)) rfl ?_
  refine (w_st (j' := 33) (ls' := [vR (some 156), vI 24]) (st' := [vR (some (156 + 58)), vR (some (156 + 58)), vI 24, vR (some (156 + 1))]) 1 rfl).mpr ?_
  refine y_call (p := 156) (c0 := (3, 9, List.replicate 9 none)) (Bl := TGo (156 + 58)) (n := 58) (TFn 24) (TFn 24 ++ TGo (156 + 58)) (22, 121) hp (by decide +kernel) rfl (by decide) rfl (by decide) (by decide) rfl rfl (fun P' Q' hp' hq => i_Go (hz.up (by omega)) hp' hq) rfl rfl ?_
  refine (w_st (j' := 35) (ls' := [vR (some 156), vI 24]) (st' := [vR (some (156 + 58)), vI 24, vR (some (156 + 1))]) 1 rfl).mpr ?_
  refine y_aas (p := 156) 1 58 (i := 24) (TFn 25) hp rfl (by decide +kernel) (by decide +kernel) ?_
  refine (w_st (j' := 24) (ls' := [vR (some 156), vI (w32 (24 + 1))]) (st' := []) 3 rfl).mpr ?_
  rw [show w32 (24 + 1) = 25 by decide]
  refine (w_st (j' := 26) (ls' := [vR (some 156), vI 25]) (st' := [vI 36, vI 25]) 2 rfl).mpr ?_
  refine (w_cge rfl).mpr ?_
  rw [if_pos (by decide)]
  refine (w_st (j' := 29) (ls' := [vR (some 156), vI 25]) (st' := [vR (some 156)]) 2 rfl).mpr ?_
  refine y_gS (p := 156) 0 (q := some (156 + 1)) hp rfl (by decide +kernel) (by decide +kernel) ?_
  refine (w_st (j' := 31) (ls' := [vR (some 156), vI 25]) (st' := [vI 25, vR (some (156 + 1))]) 1 rfl).mpr ?_
  refine y_new (p := 156) (n := 60) (TFn 25 ++ [(3, 9, List.replicate 9 none)]) (21, 112) hp (by decide +kernel) rfl rfl rfl (hz.up (by omega)) rfl ?_
  refine (w_st (j' := 33) (ls' := [vR (some 156), vI 25]) (st' := [vR (some (156 + 60)), vR (some (156 + 60)), vI 25, vR (some (156 + 1))]) 1 rfl).mpr ?_
  refine y_call (p := 156) (c0 := (3, 9, List.replicate 9 none)) (Bl := TGo (156 + 60)) (n := 60) (TFn 25) (TFn 25 ++ TGo (156 + 60)) (20, 110) hp (by decide +kernel) rfl (by decide) rfl (by decide) (by decide) rfl rfl (fun P' Q' hp' hq => i_Go (hz.up (by omega)) hp' hq) rfl rfl ?_
  refine (w_st (j' := 35) (ls' := [vR (some 156), vI 25]) (st' := [vR (some (156 + 60)), vI 25, vR (some (156 + 1))]) 1 rfl).mpr ?_
  refine y_aas (p := 156) 1 60 (i := 25) (TFn 26) hp rfl (by decide +kernel) (by decide +kernel) ?_
  refine (w_st (j' := 24) (ls' := [vR (some 156), vI (w32 (25 + 1))]) (st' := []) 3 rfl).mpr ?_
  rw [show w32 (25 + 1) = 26 by decide]
  refine (w_st (j' := 26) (ls' := [vR (some 156), vI 26]) (st' := [vI 36, vI 26]) 2 rfl).mpr ?_
  refine (w_cge rfl).mpr ?_
  rw [if_pos (by decide)]
  refine (w_st (j' := 29) (ls' := [vR (some 156), vI 26]) (st' := [vR (some 156)]) 2 rfl).mpr ?_
  refine y_gS (p := 156) 0 (q := some (156 + 1)) hp rfl (by decide +kernel) (by decide +kernel) ?_
  refine (w_st (j' := 31) (ls' := [vR (some 156), vI 26]) (st' := [vI 26, vR (some (156 + 1))]) 1 rfl).mpr ?_
  refine y_new (p := 156) (n := 62) (TFn 26 ++ [(3, 9, List.replicate 9 none)]) (19, 101) hp (by decide +kernel) rfl rfl rfl (hz.up (by omega)) rfl ?_
  refine (w_st (j' := 33) (ls' := [vR (some 156), vI 26]) (st' := [vR (some (156 + 62)), vR (some (156 + 62)), vI 26, vR (some (156 + 1))]) 1 rfl).mpr ?_
  refine y_call (p := 156) (c0 := (3, 9, List.replicate 9 none)) (Bl := TGo (156 + 62)) (n := 62) (TFn 26) (TFn 26 ++ TGo (156 + 62)) (18, 99) hp (by decide +kernel) rfl (by decide) rfl (by decide) (by decide) rfl rfl (fun P' Q' hp' hq => i_Go (hz.up (by omega)) hp' hq) rfl rfl ?_
  refine (w_st (j' := 35) (ls' := [vR (some 156), vI 26]) (st' := [vR (some (156 + 62)), vI 26, vR (some (156 + 1))]) 1 rfl).mpr ?_
  refine y_aas (p := 156) 1 62 (i := 26) (TFn 27) hp rfl (by decide +kernel) (by decide +kernel) ?_
  refine (w_st (j' := 24) (ls' := [vR (some 156), vI (w32 (26 + 1))]) (st' := []) 3 rfl).mpr ?_
  rw [show w32 (26 + 1) = 27 by decide]
  refine (w_st (j' := 26) (ls' := [vR (some 156), vI 27]) (st' := [vI 36, vI 27]) 2 rfl).mpr ?_
  refine (w_cge rfl).mpr ?_
  rw [if_pos (by decide)]
  refine (w_st (j' := 29) (ls' := [vR (some 156), vI 27]) (st' := [vR (some 156)]) 2 rfl).mpr ?_
  refine y_gS (p := 156) 0 (q := some (156 + 1)) hp rfl (by decide +kernel) (by decide +kernel) ?_
  refine (w_st (j' := 31) (ls' := [vR (some 156), vI 27]) (st' := [vI 27, vR (some (156 + 1))]) 1 rfl).mpr ?_
  refine y_new (p := 156) (n := 64) (TFn 27 ++ [(3, 9, List.replicate 9 none)]) (17, 90) hp (by decide +kernel) rfl rfl rfl (hz.up (by omega)) rfl ?_
  refine (w_st (j' := 33) (ls' := [vR (some 156), vI 27]) (st' := [vR (some (156 + 64)), vR (some (156 + 64)), vI 27, vR (some (156 + 1))]) 1 rfl).mpr ?_
  refine y_call (p := 156) (c0 := (3, 9, List.replicate 9 none)) (Bl := TGo (156 + 64)) (n := 64) (TFn 27) (TFn 27 ++ TGo (156 + 64)) (16, 88) hp (by decide +kernel) rfl (by decide) rfl (by decide) (by decide) rfl rfl (fun P' Q' hp' hq => i_Go (hz.up (by omega)) hp' hq) rfl rfl ?_
  refine (w_st (j' := 35) (ls' := [vR (some 156), vI 27]) (st' := [vR (some (156 + 64)), vI 27, vR (some (156 + 1))]) 1 rfl).mpr ?_
  refine y_aas (p := 156) 1 64 (i := 27) (TFn 28) hp rfl (by decide +kernel) (by decide +kernel) ?_
  refine (w_st (j' := 24) (ls' := [vR (some 156), vI (w32 (27 + 1))]) (st' := []) 3 rfl).mpr ?_
  rw [show w32 (27 + 1) = 28 by decide]
  refine (w_st (j' := 26) (ls' := [vR (some 156), vI 28]) (st' := [vI 36, vI 28]) 2 rfl).mpr ?_
  refine (w_cge rfl).mpr ?_
  rw [if_pos (by decide)]
  refine (w_st (j' := 29) (ls' := [vR (some 156), vI 28]) (st' := [vR (some 156)]) 2 rfl).mpr ?_
  refine y_gS (p := 156) 0 (q := some (156 + 1)) hp rfl (by decide +kernel) (by decide +kernel) ?_
  refine (w_st (j' := 31) (ls' := [vR (some 156), vI 28]) (st' := [vI 28, vR (some (156 + 1))]) 1 rfl).mpr ?_
  refine y_new (p := 156) (n := 66) (TFn 28 ++ [(3, 9, List.replicate 9 none)]) (15, 79) hp (by decide +kernel) rfl rfl rfl (hz.up (by omega)) rfl ?_
  refine (w_st (j' := 33) (ls' := [vR (some 156), vI 28]) (st' := [vR (some (156 + 66)), vR (some (156 + 66)), vI 28, vR (some (156 + 1))]) 1 rfl).mpr ?_
  refine y_call (p := 156) (c0 := (3, 9, List.replicate 9 none)) (Bl := TGo (156 + 66)) (n := 66) (TFn 28) (TFn 28 ++ TGo (156 + 66)) (14, 77) hp (by decide +kernel) rfl (by decide) rfl (by decide) (by decide) rfl rfl (fun P' Q' hp' hq => i_Go (hz.up (by omega)) hp' hq) rfl rfl ?_
  refine (w_st (j' := 35) (ls' := [vR (some 156), vI 28]) (st' := [vR (some (156 + 66)), vI 28, vR (some (156 + 1))]) 1 rfl).mpr ?_
  refine y_aas (p := 156) 1 66 (i := 28) (TFn 29) hp rfl (by decide +kernel) (by decide +kernel) ?_
  refine (w_st (j' := 24) (ls' := [vR (some 156), vI (w32 (28 + 1))]) (st' := []) 3 rfl).mpr ?_
  rw [show w32 (28 + 1) = 29 by decide]
  refine (w_st (j' := 26) (ls' := [vR (some 156), vI 29]) (st' := [vI 36, vI 29]) 2 rfl).mpr ?_
  refine (w_cge rfl).mpr ?_
  rw [if_pos (by decide)]
  refine (w_st (j' := 29) (ls' := [vR (some 156), vI 29]) (st' := [vR (some 156)]) 2 rfl).mpr ?_
  refine y_gS (p := 156) 0 (q := some (156 + 1)) hp rfl (by decide +kernel) (by decide +kernel) ?_
  refine (w_st (j' := 31) (ls' := [vR (some 156), vI 29]) (st' := [vI 29, vR (some (156 + 1))]) 1 rfl).mpr ?_
  refine y_new (p := 156) (n := 68) (TFn 29 ++ [(3, 9, List.replicate 9 none)]) (13, 68) hp (by decide +kernel) rfl rfl rfl (hz.up (by omega)) rfl ?_
  refine (w_st (j' := 33) (ls' := [vR (some 156), vI 29]) (st' := [vR (some (156 + 68)), vR (some (156 + 68)), vI 29, vR (some (156 + 1))]) 1 rfl).mpr ?_
  refine y_call (p := 156) (c0 := (3, 9, List.replicate 9 none)) (Bl := TGo (156 + 68)) (n := 68) (TFn 29) (TFn 29 ++ TGo (156 + 68)) (12, 66) hp (by decide +kernel) rfl (by decide) rfl (by decide) (by decide) rfl rfl (fun P' Q' hp' hq => i_Go (hz.up (by omega)) hp' hq) rfl rfl ?_
  refine (w_st (j' := 35) (ls' := [vR (some 156), vI 29]) (st' := [vR (some (156 + 68)), vI 29, vR (some (156 + 1))]) 1 rfl).mpr ?_
  refine y_aas (p := 156) 1 68 (i := 29) (TFn 30) hp rfl (by decide +kernel) (by decide +kernel) ?_
  refine (w_st (j' := 24) (ls' := [vR (some 156), vI (w32 (29 + 1))]) (st' := []) 3 rfl).mpr ?_
  rw [show w32 (29 + 1) = 30 by decide]
  refine (w_st (j' := 26) (ls' := [vR (some 156), vI 30]) (st' := [vI 36, vI 30]) 2 rfl).mpr ?_
  refine (w_cge rfl).mpr ?_
  rw [if_pos (by decide)]
  refine (w_st (j' := 29) (ls' := [vR (some 156), vI 30]) (st' := [vR (some 156)]) 2 rfl).mpr ?_
  refine y_gS (p := 156) 0 (q := some (156 + 1)) hp rfl (by decide +kernel) (by decide +kernel) ?_
  refine (w_st (j' := 31) (ls' := [vR (some 156), vI 30]) (st' := [vI 30, vR (some (156 + 1))]) 1 rfl).mpr ?_
  refine y_new (p := 156) (n := 70) (TFn 30 ++ [(3, 9, List.replicate 9 none)]) (11, 57) hp (by decide +kernel) rfl rfl rfl (hz.up (by omega)) rfl ?_
  refine (w_st (j' := 33) (ls' := [vR (some 156), vI 30]) (st' := [vR (some (156 + 70)), vR (some (156 + 70)), vI 30, vR (some (156 + 1))]) 1 rfl).mpr ?_
  refine y_call (p := 156) (c0 := (3, 9, List.replicate 9 none)) (Bl := TGo (156 + 70)) (n := 70) (TFn 30) (TFn 30 ++ TGo (156 + 70)) (10, 55) hp (by decide +kernel) rfl (by decide) rfl (by decide) (by decide) rfl rfl (fun P' Q' hp' hq => i_Go (hz.up (by omega)) hp' hq) rfl rfl ?_
  refine (w_st (j' := 35) (ls' := [vR (some 156), vI 30]) (st' := [vR (some (156 + 70)), vI 30, vR (some (156 + 1))]) 1 rfl).mpr ?_
  refine y_aas (p := 156) 1 70 (i := 30) (TFn 31) hp rfl (by decide +kernel) (by decide +kernel) ?_
  refine (w_st (j' := 24) (ls' := [vR (some 156), vI (w32 (30 + 1))]) (st' := []) 3 rfl).mpr ?_
  rw [show w32 (30 + 1) = 31 by decide]
  refine (w_st (j' := 26) (ls' := [vR (some 156), vI 31]) (st' := [vI 36, vI 31]) 2 rfl).mpr ?_
  refine (w_cge rfl).mpr ?_
  rw [if_pos (by decide)]
  refine (w_st (j' := 29) (ls' := [vR (some 156), vI 31]) (st' := [vR (some 156)]) 2 rfl).mpr ?_
  refine y_gS (p := 156) 0 (q := some (156 + 1)) hp rfl (by decide +kernel) (by decide +kernel) ?_
  refine (w_st (j' := 31) (ls' := [vR (some 156), vI 31]) (st' := [vI 31, vR (some (156 + 1))]) 1 rfl).mpr ?_
  refine y_new (p := 156) (n := 72) (TFn 31 ++ [(3, 9, List.replicate 9 none)]) (9, 46) hp (by decide +kernel) rfl rfl rfl (hz.up (by omega)) rfl ?_
  refine (w_st (j' := 33) (ls' := [vR (some 156), vI 31]) (st' := [vR (some (156 + 72)), vR (some (156 + 72)), vI 31, vR (some (156 + 1))]) 1 rfl).mpr ?_
  refine y_call (p := 156) (c0 := (3, 9, List.replicate 9 none)) (Bl := TGo (156 + 72)) (n := 72) (TFn 31) (TFn 31 ++ TGo (156 + 72)) (8, 44) hp (by decide +kernel) rfl (by decide) rfl (by decide) (by decide) rfl rfl (fun P' Q' hp' hq => i_Go (hz.up (by omega)) hp' hq) rfl rfl ?_
  refine (w_st (j' := 35) (ls' := [vR (some 156), vI 31]) (st' := [vR (some (156 + 72)), vI 31, vR (some (156 + 1))]) 1 rfl).mpr ?_
  refine y_aas (p := 156) 1 72 (i := 31) (TFn 32) hp rfl (by decide +kernel) (by decide +kernel) ?_
  refine (w_st (j' := 24) (ls' := [vR (some 156), vI (w32 (31 + 1))]) (st' := []) 3 rfl).mpr ?_
  rw [show w32 (31 + 1) = 32 by decide]
  refine (w_st (j' := 26) (ls' := [vR (some 156), vI 32]) (st' := [vI 36, vI 32]) 2 rfl).mpr ?_
  refine (w_cge rfl).mpr ?_
  rw [if_pos (by decide)]
  refine (w_st (j' := 29) (ls' := [vR (some 156), vI 32]) (st' := [vR (some 156)]) 2 rfl).mpr ?_
  refine y_gS (p := 156) 0 (q := some (156 + 1)) hp rfl (by decide +kernel) (by decide +kernel) ?_
  refine (w_st (j' := 31) (ls' := [vR (some 156), vI 32]) (st' := [vI 32, vR (some (156 + 1))]) 1 rfl).mpr ?_
  refine y_new (p := 156) (n := 74) (TFn 32 ++ [(3, 9, List.replicate 9 none)]) (7, 35) hp (by decide +kernel) rfl rfl rfl (hz.up (by omega)) rfl ?_
  refine (w_st (j' := 33) (ls' := [vR (some 156), vI 32]) (st' := [vR (some (156 + 74)), vR (some (156 + 74)), vI 32, vR (some (156 + 1))]) 1 rfl).mpr ?_
  refine y_call (p := 156) (c0 := (3, 9, List.replicate 9 none)) (Bl := TGo (156 + 74)) (n := 74) (TFn 32) (TFn 32 ++ TGo (156 + 74)) (6, 33) hp (by decide +kernel) rfl (by decide) rfl (by decide) (by decide) rfl rfl (fun P' Q' hp' hq => i_Go (hz.up (by omega)) hp' hq) rfl rfl ?_
  refine (w_st (j' := 35) (ls' := [vR (some 156), vI 32]) (st' := [vR (some (156 + 74)), vI 32, vR (some (156 + 1))]) 1 rfl).mpr ?_
  refine y_aas (p := 156) 1 74 (i := 32) (TFn 33) hp rfl (by decide +kernel) (by decide +kernel) ?_
  refine (w_st (j' := 24) (ls' := [vR (some 156), vI (w32 (32 + 1))]) (st' := []) 3 rfl).mpr ?_
  rw [show w32 (32 + 1) = 33 by decide]
  refine (w_st (j' := 26) (ls' := [vR (some 156), vI 33]) (st' := [vI 36, vI 33]) 2 rfl).mpr ?_
  refine (w_cge rfl).mpr ?_
  rw [if_pos (by decide)]
  refine (w_st (j' := 29) (ls' := [vR (some 156), vI 33]) (st' := [vR (some 156)]) 2 rfl).mpr ?_
  refine y_gS (p := 156) 0 (q := some (156 + 1)) hp rfl (by decide +kernel) (by decide +kernel) ?_
  refine (w_st (j' := 31) (ls' := [vR (some 156), vI 33]) (st' := [vI 33, vR (some (156 + 1))]) 1 rfl).mpr ?_
  refine y_new (p := 156) (n := 76) (TFn 33 ++ [(3, 9, List.replicate 9 none)]) (5, 24) hp (by decide +kernel) rfl rfl rfl (hz.up (by omega)) rfl ?_
  refine (w_st (j' := 33) (ls' := [vR (some 156), vI 33]) (st' := [vR (some (156 + 76)), vR (some (156 + 76)), vI 33, vR (some (156 + 1))]) 1 rfl).mpr ?_
  refine y_call (p := 156) (c0 := (3, 9, List.replicate 9 none)) (Bl := TGo (156 + 76)) (n := 76) (TFn 33) (TFn 33 ++ TGo (156 + 76)) (4, 22) hp (by decide +kernel) rfl (by decide) rfl (by decide) (by decide) rfl rfl (fun P' Q' hp' hq => i_Go (hz.up (by omega)) hp' hq) rfl rfl ?_
  refine (w_st (j' := 35) (ls' := [vR (some 156), vI 33]) (st' := [vR (some (156 + 76)), vI 33, vR (some (156 + 1))]) 1 rfl).mpr ?_
  refine y_aas (p := 156) 1 76 (i := 33) (TFn 34) hp rfl (by decide +kernel) (by decide +kernel) ?_
  refine (w_st (j' := 24) (ls' := [vR (some 156), vI (w32 (33 + 1))]) (st' := []) 3 rfl).mpr ?_
  rw [show w32 (33 + 1) = 34 by decide]
  refine (w_st (j' := 26) (ls' := [vR (some 156), vI 34]) (st' := [vI 36, vI 34]) 2 rfl).mpr ?_
  refine (w_cge rfl).mpr ?_
  rw [if_pos (by decide)]
  refine (w_st (j' := 29) (ls' := [vR (some 156), vI 34]) (st' := [vR (some 156)]) 2 rfl).mpr ?_
  refine y_gS (p := 156) 0 (q := some (156 + 1)) hp rfl (by decide +kernel) (by decide +kernel) ?_
  refine (w_st (j' := 31) (ls' := [vR (some 156), vI 34]) (st' := [vI 34, vR (some (156 + 1))]) 1 rfl).mpr ?_
  refine y_new (p := 156) (n := 78) (TFn 34 ++ [(3, 9, List.replicate 9 none)]) (3, 13) hp (by decide +kernel) rfl rfl rfl (hz.up (by omega)) rfl ?_
  refine (w_st (j' := 33) (ls' := [vR (some 156), vI 34]) (st' := [vR (some (156 + 78)), vR (some (156 + 78)), vI 34, vR (some (156 + 1))]) 1 rfl).mpr ?_
  refine y_call (p := 156) (c0 := (3, 9, List.replicate 9 none)) (Bl := TGo (156 + 78)) (n := 78) (TFn 34) (TFn 34 ++ TGo (156 + 78)) (2, 11) hp (by decide +kernel) rfl (by decide) rfl (by decide) (by decide) rfl rfl (fun P' Q' hp' hq => i_Go (hz.up (by omega)) hp' hq) rfl rfl ?_
  refine (w_st (j' := 35) (ls' := [vR (some 156), vI 34]) (st' := [vR (some (156 + 78)), vI 34, vR (some (156 + 1))]) 1 rfl).mpr ?_
  refine y_aas (p := 156) 1 78 (i := 34) (TFn 35) hp rfl (by decide +kernel) (by decide +kernel) ?_
  refine (w_st (j' := 24) (ls' := [vR (some 156), vI (w32 (34 + 1))]) (st' := []) 3 rfl).mpr ?_
  rw [show w32 (34 + 1) = 35 by decide]
  refine (w_st (j' := 26) (ls' := [vR (some 156), vI 35]) (st' := [vI 36, vI 35]) 2 rfl).mpr ?_
  refine (w_cge rfl).mpr ?_
  rw [if_pos (by decide)]
  refine (w_st (j' := 29) (ls' := [vR (some 156), vI 35]) (st' := [vR (some 156)]) 2 rfl).mpr ?_
  refine y_gS (p := 156) 0 (q := some (156 + 1)) hp rfl (by decide +kernel) (by decide +kernel) ?_
  refine (w_st (j' := 31) (ls' := [vR (some 156), vI 35]) (st' := [vI 35, vR (some (156 + 1))]) 1 rfl).mpr ?_
  refine y_new (p := 156) (n := 80) (TFn 35 ++ [(3, 9, List.replicate 9 none)]) (1, 2) hp (by decide +kernel) rfl rfl rfl (hz.up (by omega)) rfl ?_
  refine (w_st (j' := 33) (ls' := [vR (some 156), vI 35]) (st' := [vR (some (156 + 80)), vR (some (156 + 80)), vI 35, vR (some (156 + 1))]) 1 rfl).mpr ?_
  refine y_call (p := 156) (c0 := (3, 9, List.replicate 9 none)) (Bl := TGo (156 + 80)) (n := 80) (TFn 35) (TFn 35 ++ TGo (156 + 80)) (0, 0) hp (by decide +kernel) rfl (by decide) rfl (by decide) (by decide) rfl rfl (fun P' Q' hp' hq => i_Go (hz.up (by omega)) hp' hq) rfl rfl ?_
  refine (w_st (j' := 35) (ls' := [vR (some 156), vI 35]) (st' := [vR (some (156 + 80)), vI 35, vR (some (156 + 1))]) 1 rfl).mpr ?_
  refine y_aas (p := 156) 1 80 (i := 35) (TFn 36) hp rfl (by decide +kernel) (by decide +kernel) ?_
  refine (w_st (j' := 24) (ls' := [vR (some 156), vI (w32 (35 + 1))]) (st' := []) 3 rfl).mpr ?_
  rw [show w32 (35 + 1) = 36 by decide]
  refine (w_st (j' := 26) (ls' := [vR (some 156), vI 36]) (st' := [vI 36, vI 36]) 2 rfl).mpr ?_
  refine (w_cge rfl).mpr ?_
  rw [if_neg (by decide)]
  refine (w_st (j' := 39) (ls' := [vU, vU]) (st' := []) 1 rfl).mpr ?_
  exact (w_vret rfl).mpr hQ
