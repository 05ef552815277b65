-- ===== the constructors, printed by tool/gen_ctors.py =====
theorem ZF.pR {n a : Nat} {i : Int} {v : Option Nat} {R : Nat → Int → Option Nat} {I : Nat → Int → Int} {J : Nat → Int → Int64} (h : ZF n R I J) (ha : a < n) : ZF n (upM R a i v) I J := fun x hx j => ⟨by rw [upM_ne (by omega)]; exact (h x hx j).1, (h x hx j).2⟩
def TSh (p : Nat) : MS := [(7, 4, [some (p + 1), some (p + 2), some (p + 3), none]), (20, 9, []), (20, 9, []), (20, 9, [])]
theorem i_Sh {R : Nat → Int → Option Nat} {I : Nat → Int → Int} {J : Nat → Int → Int64} {P : MS} {Q : Option MV → MM → Prop} {p : Nat} (hz : ZF p R I J) (hp : P.length = p) (hQ : Q none (P ++ TSh p, R, I, J)) : wpC 206 [vR (some (p))] (P ++ [(7, 4, List.replicate 4 none)], R, I, J) Q := by
  show wpc 206 0 [vR (some (p))] [] (3, 27) (P ++ [(7, 4, List.replicate 4 none)], R, I, J) Q
  refine (w_st (j' := 4) (ls' := [vR (some (p))]) (st' := [vI 9, vR (some (p))]) 4 rfl).mpr ?_
  refine y_arr (n := 1) (m := 9) ([(7, 4, [none, none, none, none]), (20, 9, [])]) (2, 18) hp rfl rfl (by decide) rfl rfl (hz.up (by omega)) rfl ?_
  refine y_pS 0 ([(7, 4, [some (p + 1), none, none, none]), (20, 9, [])]) hp rfl rfl (Nat.le_of_ble_eq_true rfl) rfl ?_
  refine (w_st (j' := 8) (ls' := [vR (some (p))]) (st' := [vI 9, vR (some (p))]) 2 rfl).mpr ?_
  refine y_arr (n := 2) (m := 9) ([(7, 4, [some (p + 1), none, none, none]), (20, 9, []), (20, 9, [])]) (1, 9) hp rfl rfl (by decide) rfl rfl (hz.up (by omega)) rfl ?_
  refine y_pS 0 ([(7, 4, [some (p + 1), some (p + 2), none, none]), (20, 9, []), (20, 9, [])]) hp rfl rfl (Nat.le_of_ble_eq_true rfl) rfl ?_
  refine (w_st (j' := 12) (ls' := [vR (some (p))]) (st' := [vI 9, vR (some (p))]) 2 rfl).mpr ?_
  refine y_arr (n := 3) (m := 9) ([(7, 4, [some (p + 1), some (p + 2), none, none]), (20, 9, []), (20, 9, []), (20, 9, [])]) (0, 0) hp rfl rfl (by decide) rfl rfl (hz.up (by omega)) rfl ?_
  refine y_pS 0 ([(7, 4, [some (p + 1), some (p + 2), some (p + 3), none]), (20, 9, []), (20, 9, []), (20, 9, [])]) hp rfl rfl (Nat.le_of_ble_eq_true rfl) rfl ?_
  refine (w_st (j' := 16) (ls' := [vR (some (p))]) (st' := [vI 0, vR (some (p))]) 2 rfl).mpr ?_
  refine y_pI 0 hp rfl rfl (hz _ (by omega) _).2.1 ?_
  exact (w_vret rfl).mpr hQ
def TRu (p : Nat) : MS := [(6, 7, [none, none, some (p + 1), none, some (p + 5), some (p + 6), none])] ++ (TSh (p + 1) ++ ([(20, 2, [])] ++ ([(20, 2, [])])))
theorem i_Ru {R : Nat → Int → Option Nat} {I : Nat → Int → Int} {J : Nat → Int → Int64} {P : MS} {Q : Option MV → MM → Prop} {p : Nat} (hz : ZF p R I J) (hp : P.length = p) (hQ : Q none (P ++ TRu p, R, I, J)) : wpC 201 [vR (some (p))] (P ++ [(6, 7, List.replicate 7 none)], R, I, J) Q := by
  show wpc 201 0 [vR (some (p))] [] (6, 35) (P ++ [(6, 7, List.replicate 7 none)], R, I, J) Q
  refine (w_st (j' := 4) (ls' := [vR (some (p))]) (st' := [vI 0, vR (some (p))]) 4 rfl).mpr ?_
  refine y_pI 0 hp rfl rfl (hz _ (by omega) _).2.1 ?_
  refine (w_st (j' := 7) (ls' := [vR (some (p))]) (st' := [vI 0, vR (some (p))]) 2 rfl).mpr ?_
  refine y_pI 0 hp rfl rfl (hz _ (by omega) _).2.1 ?_
  refine (w_st (j' := 9) (ls' := [vR (some (p))]) (st' := [vR (some (p))]) 1 rfl).mpr ?_
  refine y_new (n := 1) (([(6, 7, [none, none, none, none, none, none, none])]) ++ [(7, 4, List.replicate 4 none)]) (5, 31) hp rfl rfl rfl rfl (hz.up (by omega)) rfl ?_
  refine (w_st (j' := 11) (ls' := [vR (some (p))]) (st' := [vR (some (p + 1)), vR (some (p + 1)), vR (some (p))]) 1 rfl).mpr ?_
  refine y_call (c0 := (7, 4, List.replicate 4 none)) (Bl := TSh (p + 1)) (n := 1) ([(6, 7, [none, none, none, none, none, none, none])]) ([(6, 7, [none, none, none, none, none, none, none])] ++ (TSh (p + 1))) (2, 4) hp rfl rfl (by decide) rfl (Nat.le_of_ble_eq_true rfl) (by decide) rfl rfl (fun P' Q' hp' hq => i_Sh (hz.up (by omega)) hp' hq) rfl rfl ?_
  refine (w_st (j' := 13) (ls' := [vR (some (p))]) (st' := [vR (some (p + 1)), vR (some (p))]) 1 rfl).mpr ?_
  refine y_pS 0 ([(6, 7, [none, none, some (p + 1), none, none, none, none])] ++ (TSh (p + 1))) hp rfl rfl (Nat.le_of_ble_eq_true rfl) rfl ?_
  refine (w_st (j' := 16) (ls' := [vR (some (p))]) (st' := [vI 0, vR (some (p))]) 2 rfl).mpr ?_
  refine y_pI 0 hp rfl rfl (hz _ (by omega) _).2.1 ?_
  refine (w_st (j' := 19) (ls' := [vR (some (p))]) (st' := [vI 2, vR (some (p))]) 2 rfl).mpr ?_
  refine y_arr (n := 5) (m := 2) ([(6, 7, [none, none, some (p + 1), none, none, none, none])] ++ (TSh (p + 1) ++ ([(20, 2, [])]))) (1, 2) hp rfl rfl (by decide) rfl rfl (hz.up (by omega)) rfl ?_
  refine y_pS 0 ([(6, 7, [none, none, some (p + 1), none, some (p + 5), none, none])] ++ (TSh (p + 1) ++ ([(20, 2, [])]))) hp rfl rfl (Nat.le_of_ble_eq_true rfl) rfl ?_
  refine (w_st (j' := 23) (ls' := [vR (some (p))]) (st' := [vI 2, vR (some (p))]) 2 rfl).mpr ?_
  refine y_arr (n := 6) (m := 2) ([(6, 7, [none, none, some (p + 1), none, some (p + 5), none, none])] ++ (TSh (p + 1) ++ ([(20, 2, [])] ++ ([(20, 2, [])])))) (0, 0) hp rfl rfl (by decide) rfl rfl (hz.up (by omega)) rfl ?_
  refine y_pS 0 ([(6, 7, [none, none, some (p + 1), none, some (p + 5), some (p + 6), none])] ++ (TSh (p + 1) ++ ([(20, 2, [])] ++ ([(20, 2, [])])))) hp rfl rfl (Nat.le_of_ble_eq_true rfl) rfl ?_
  refine (w_st (j' := 27) (ls' := [vR (some (p))]) (st' := [vI 0, vR (some (p))]) 2 rfl).mpr ?_
  refine y_pI 0 hp rfl rfl (hz _ (by omega) _).2.1 ?_
  exact (w_vret rfl).mpr hQ
def TBk (p : Nat) : MS := [(0, 10, [none, some (p + 1), some (p + 2), some (p + 3), none, some (p + 4), none, some (p + 5), some (p + 6), some (p + 7)]), (20, 4, []), (20, 4, []), (20, 4, []), (23, 6, [some (p + 8), some (p + 15), some (p + 22), some (p + 29), some (p + 36), some (p + 43)]), (20, 6, []), (20, 6, []), (20, 2, [])] ++ (TRu (p + 8) ++ (TRu (p + 15) ++ (TRu (p + 22) ++ (TRu (p + 29) ++ (TRu (p + 36) ++ (TRu (p + 43)))))))
theorem i_Bk {R : Nat → Int → Option Nat} {I : Nat → Int → Int} {J : Nat → Int → Int64} {P : MS} {Q : Option MV → MM → Prop} {p : Nat} (hz : ZF p R I J) (hp : P.length = p) (hQ : Q none (P ++ TBk p, R, I, J)) : wpC 140 [vR (some (p))] (P ++ [(0, 10, List.replicate 10 none)], R, I, J) Q := by
  show wpc 140 0 [vR (some (p)), vU] [] (49, 284) (P ++ [(0, 10, List.replicate 10 none)], R, I, J) Q
  refine (w_st (j' := 4) (ls' := [vR (some (p)), vU]) (st' := [vI 0, vR (some (p))]) 4 rfl).mpr ?_
  refine y_pI 0 hp rfl rfl (hz _ (by omega) _).2.1 ?_
  refine (w_st (j' := 7) (ls' := [vR (some (p)), vU]) (st' := [vI 4, vR (some (p))]) 2 rfl).mpr ?_
  refine y_arr (n := 1) (m := 4) ([(0, 10, [none, none, none, none, none, none, none, none, none, none]), (20, 4, [])]) (48, 280) hp rfl rfl (by decide) rfl rfl (hz.up (by omega)) rfl ?_
  refine y_pS 0 ([(0, 10, [none, some (p + 1), none, none, none, none, none, none, none, none]), (20, 4, [])]) hp rfl rfl (Nat.le_of_ble_eq_true rfl) rfl ?_
  refine (w_st (j' := 11) (ls' := [vR (some (p)), vU]) (st' := [vI 4, vR (some (p))]) 2 rfl).mpr ?_
  refine y_arr (n := 2) (m := 4) ([(0, 10, [none, some (p + 1), none, none, none, none, none, none, none, none]), (20, 4, []), (20, 4, [])]) (47, 276) hp rfl rfl (by decide) rfl rfl (hz.up (by omega)) rfl ?_
  refine y_pS 0 ([(0, 10, [none, some (p + 1), some (p + 2), none, none, none, none, none, none, none]), (20, 4, []), (20, 4, [])]) hp rfl rfl (Nat.le_of_ble_eq_true rfl) rfl ?_
  refine (w_st (j' := 15) (ls' := [vR (some (p)), vU]) (st' := [vI 4, vR (some (p))]) 2 rfl).mpr ?_
  refine y_arr (n := 3) (m := 4) ([(0, 10, [none, some (p + 1), some (p + 2), none, none, none, none, none, none, none]), (20, 4, []), (20, 4, []), (20, 4, [])]) (46, 272) hp rfl rfl (by decide) rfl rfl (hz.up (by omega)) rfl ?_
  refine y_pS 0 ([(0, 10, [none, some (p + 1), some (p + 2), some (p + 3), none, none, none, none, none, none]), (20, 4, []), (20, 4, []), (20, 4, [])]) hp rfl rfl (Nat.le_of_ble_eq_true rfl) rfl ?_
  refine (w_st (j' := 19) (ls' := [vR (some (p)), vU]) (st' := [vI 0, vR (some (p))]) 2 rfl).mpr ?_
  refine y_pI 0 hp rfl rfl (hz _ (by omega) _).2.1 ?_
  refine (w_st (j' := 22) (ls' := [vR (some (p)), vU]) (st' := [vI 6, vR (some (p))]) 2 rfl).mpr ?_
  refine y_aar (n := 4) (m := 6) ([(0, 10, [none, some (p + 1), some (p + 2), some (p + 3), none, none, none, none, none, none]), (20, 4, []), (20, 4, []), (20, 4, []), (23, 6, [none, none, none, none, none, none])]) (45, 266) hp rfl rfl (by decide) rfl rfl (hz.up (by omega)) rfl ?_
  refine y_pS 0 ([(0, 10, [none, some (p + 1), some (p + 2), some (p + 3), none, some (p + 4), none, none, none, none]), (20, 4, []), (20, 4, []), (20, 4, []), (23, 6, [none, none, none, none, none, none])]) hp rfl rfl (Nat.le_of_ble_eq_true rfl) rfl ?_
  refine (w_st (j' := 26) (ls' := [vR (some (p)), vU]) (st' := [vI 0, vR (some (p))]) 2 rfl).mpr ?_
  refine y_pI 0 hp rfl rfl (hz _ (by omega) _).2.1 ?_
  refine (w_st (j' := 29) (ls' := [vR (some (p)), vU]) (st' := [vI 6, vR (some (p))]) 2 rfl).mpr ?_
  refine y_arr (n := 5) (m := 6) ([(0, 10, [none, some (p + 1), some (p + 2), some (p + 3), none, some (p + 4), none, none, none, none]), (20, 4, []), (20, 4, []), (20, 4, []), (23, 6, [none, none, none, none, none, none]), (20, 6, [])]) (44, 260) hp rfl rfl (by decide) rfl rfl (hz.up (by omega)) rfl ?_
  refine y_pS 0 ([(0, 10, [none, some (p + 1), some (p + 2), some (p + 3), none, some (p + 4), none, some (p + 5), none, none]), (20, 4, []), (20, 4, []), (20, 4, []), (23, 6, [none, none, none, none, none, none]), (20, 6, [])]) hp rfl rfl (Nat.le_of_ble_eq_true rfl) rfl ?_
  refine (w_st (j' := 33) (ls' := [vR (some (p)), vU]) (st' := [vI 6, vR (some (p))]) 2 rfl).mpr ?_
  refine y_arr (n := 6) (m := 6) ([(0, 10, [none, some (p + 1), some (p + 2), some (p + 3), none, some (p + 4), none, some (p + 5), none, none]), (20, 4, []), (20, 4, []), (20, 4, []), (23, 6, [none, none, none, none, none, none]), (20, 6, []), (20, 6, [])]) (43, 254) hp rfl rfl (by decide) rfl rfl (hz.up (by omega)) rfl ?_
  refine y_pS 0 ([(0, 10, [none, some (p + 1), some (p + 2), some (p + 3), none, some (p + 4), none, some (p + 5), some (p + 6), none]), (20, 4, []), (20, 4, []), (20, 4, []), (23, 6, [none, none, none, none, none, none]), (20, 6, []), (20, 6, [])]) hp rfl rfl (Nat.le_of_ble_eq_true rfl) rfl ?_
  refine (w_st (j' := 37) (ls' := [vR (some (p)), vU]) (st' := [vI 2, vR (some (p))]) 2 rfl).mpr ?_
  refine y_arr (n := 7) (m := 2) ([(0, 10, [none, some (p + 1), some (p + 2), some (p + 3), none, some (p + 4), none, some (p + 5), some (p + 6), none]), (20, 4, []), (20, 4, []), (20, 4, []), (23, 6, [none, none, none, none, none, none]), (20, 6, []), (20, 6, []), (20, 2, [])]) (42, 252) hp rfl rfl (by decide) rfl rfl (hz.up (by omega)) rfl ?_
  refine y_pS 0 ([(0, 10, [none, some (p + 1), some (p + 2), some (p + 3), none, some (p + 4), none, some (p + 5), some (p + 6), some (p + 7)]), (20, 4, []), (20, 4, []), (20, 4, []), (23, 6, [none, none, none, none, none, none]), (20, 6, []), (20, 6, []), (20, 2, [])]) hp rfl rfl (Nat.le_of_ble_eq_true rfl) rfl ?_
  refine (w_st (j' := 44) (ls' := [vR (some (p)), vI 0]) (st' := [vI 6, vI 0]) 5 rfl).mpr ?_
  refine (w_cge rfl).mpr ?_
  rw [if_pos (by decide)]
  refine (w_st (j' := 47) (ls' := [vR (some (p)), vI 0]) (st' := [vR (some (p))]) 2 rfl).mpr ?_
  refine y_gS 0 (q := some (p + 4)) hp rfl rfl rfl ?_
  refine (w_st (j' := 49) (ls' := [vR (some (p)), vI 0]) (st' := [vI 0, vR (some (p + 4))]) 1 rfl).mpr ?_
  refine y_new (n := 8) (([(0, 10, [none, some (p + 1), some (p + 2), some (p + 3), none, some (p + 4), none, some (p + 5), some (p + 6), some (p + 7)]), (20, 4, []), (20, 4, []), (20, 4, []), (23, 6, [none, none, none, none, none, none]), (20, 6, []), (20, 6, []), (20, 2, [])]) ++ [(6, 7, List.replicate 7 none)]) (41, 245) hp rfl rfl rfl rfl (hz.up (by omega)) rfl ?_
  refine (w_st (j' := 51) (ls' := [vR (some (p)), vI 0]) (st' := [vR (some (p + 8)), vR (some (p + 8)), vI 0, vR (some (p + 4))]) 1 rfl).mpr ?_
  refine y_call (c0 := (6, 7, List.replicate 7 none)) (Bl := TRu (p + 8)) (n := 8) ([(0, 10, [none, some (p + 1), some (p + 2), some (p + 3), none, some (p + 4), none, some (p + 5), some (p + 6), some (p + 7)]), (20, 4, []), (20, 4, []), (20, 4, []), (23, 6, [none, none, none, none, none, none]), (20, 6, []), (20, 6, []), (20, 2, [])]) ([(0, 10, [none, some (p + 1), some (p + 2), some (p + 3), none, some (p + 4), none, some (p + 5), some (p + 6), some (p + 7)]), (20, 4, []), (20, 4, []), (20, 4, []), (23, 6, [none, none, none, none, none, none]), (20, 6, []), (20, 6, []), (20, 2, [])] ++ (TRu (p + 8))) (35, 210) hp rfl rfl (by decide) rfl (Nat.le_of_ble_eq_true rfl) (by decide) rfl rfl (fun P' Q' hp' hq => i_Ru (hz.up (by omega)) hp' hq) rfl rfl ?_
  refine (w_st (j' := 53) (ls' := [vR (some (p)), vI 0]) (st' := [vR (some (p + 8)), vI 0, vR (some (p + 4))]) 1 rfl).mpr ?_
  refine y_aas 4 8 (i := 0) ([(0, 10, [none, some (p + 1), some (p + 2), some (p + 3), none, some (p + 4), none, some (p + 5), some (p + 6), some (p + 7)]), (20, 4, []), (20, 4, []), (20, 4, []), (23, 6, [some (p + 8), none, none, none, none, none]), (20, 6, []), (20, 6, []), (20, 2, [])] ++ (TRu (p + 8))) hp rfl rfl rfl ?_
  refine (w_st (j' := 55) (ls' := [vR (some (p)), vI (w32 (0 + 1))]) (st' := []) 1 rfl).mpr ?_
  rw [show w32 (0 + 1) = 1 by decide]
  refine (w_st (j' := 44) (ls' := [vR (some (p)), vI 1]) (st' := [vI 6, vI 1]) 4 rfl).mpr ?_
  refine (w_cge rfl).mpr ?_
  rw [if_pos (by decide)]
  refine (w_st (j' := 47) (ls' := [vR (some (p)), vI 1]) (st' := [vR (some (p))]) 2 rfl).mpr ?_
  refine y_gS 0 (q := some (p + 4)) hp rfl rfl rfl ?_
  refine (w_st (j' := 49) (ls' := [vR (some (p)), vI 1]) (st' := [vI 1, vR (some (p + 4))]) 1 rfl).mpr ?_
  refine y_new (n := 15) (([(0, 10, [none, some (p + 1), some (p + 2), some (p + 3), none, some (p + 4), none, some (p + 5), some (p + 6), some (p + 7)]), (20, 4, []), (20, 4, []), (20, 4, []), (23, 6, [some (p + 8), none, none, none, none, none]), (20, 6, []), (20, 6, []), (20, 2, [])] ++ (TRu (p + 8))) ++ [(6, 7, List.replicate 7 none)]) (34, 203) hp rfl rfl rfl rfl (hz.up (by omega)) rfl ?_
  refine (w_st (j' := 51) (ls' := [vR (some (p)), vI 1]) (st' := [vR (some (p + 15)), vR (some (p + 15)), vI 1, vR (some (p + 4))]) 1 rfl).mpr ?_
  refine y_call (c0 := (6, 7, List.replicate 7 none)) (Bl := TRu (p + 15)) (n := 15) ([(0, 10, [none, some (p + 1), some (p + 2), some (p + 3), none, some (p + 4), none, some (p + 5), some (p + 6), some (p + 7)]), (20, 4, []), (20, 4, []), (20, 4, []), (23, 6, [some (p + 8), none, none, none, none, none]), (20, 6, []), (20, 6, []), (20, 2, [])] ++ (TRu (p + 8))) ([(0, 10, [none, some (p + 1), some (p + 2), some (p + 3), none, some (p + 4), none, some (p + 5), some (p + 6), some (p + 7)]), (20, 4, []), (20, 4, []), (20, 4, []), (23, 6, [some (p + 8), none, none, none, none, none]), (20, 6, []), (20, 6, []), (20, 2, [])] ++ (TRu (p + 8) ++ (TRu (p + 15)))) (28, 168) hp rfl rfl (by decide) rfl (Nat.le_of_ble_eq_true rfl) (by decide) rfl rfl (fun P' Q' hp' hq => i_Ru (hz.up (by omega)) hp' hq) rfl rfl ?_
  refine (w_st (j' := 53) (ls' := [vR (some (p)), vI 1]) (st' := [vR (some (p + 15)), vI 1, vR (some (p + 4))]) 1 rfl).mpr ?_
  refine y_aas 4 15 (i := 1) ([(0, 10, [none, some (p + 1), some (p + 2), some (p + 3), none, some (p + 4), none, some (p + 5), some (p + 6), some (p + 7)]), (20, 4, []), (20, 4, []), (20, 4, []), (23, 6, [some (p + 8), some (p + 15), none, none, none, none]), (20, 6, []), (20, 6, []), (20, 2, [])] ++ (TRu (p + 8) ++ (TRu (p + 15)))) hp rfl rfl rfl ?_
  refine (w_st (j' := 55) (ls' := [vR (some (p)), vI (w32 (1 + 1))]) (st' := []) 1 rfl).mpr ?_
  rw [show w32 (1 + 1) = 2 by decide]
  refine (w_st (j' := 44) (ls' := [vR (some (p)), vI 2]) (st' := [vI 6, vI 2]) 4 rfl).mpr ?_
  refine (w_cge rfl).mpr ?_
  rw [if_pos (by decide)]
  refine (w_st (j' := 47) (ls' := [vR (some (p)), vI 2]) (st' := [vR (some (p))]) 2 rfl).mpr ?_
  refine y_gS 0 (q := some (p + 4)) hp rfl rfl rfl ?_
  refine (w_st (j' := 49) (ls' := [vR (some (p)), vI 2]) (st' := [vI 2, vR (some (p + 4))]) 1 rfl).mpr ?_
  refine y_new (n := 22) (([(0, 10, [none, some (p + 1), some (p + 2), some (p + 3), none, some (p + 4), none, some (p + 5), some (p + 6), some (p + 7)]), (20, 4, []), (20, 4, []), (20, 4, []), (23, 6, [some (p + 8), some (p + 15), none, none, none, none]), (20, 6, []), (20, 6, []), (20, 2, [])] ++ (TRu (p + 8) ++ (TRu (p + 15)))) ++ [(6, 7, List.replicate 7 none)]) (27, 161) hp rfl rfl rfl rfl (hz.up (by omega)) rfl ?_
  refine (w_st (j' := 51) (ls' := [vR (some (p)), vI 2]) (st' := [vR (some (p + 22)), vR (some (p + 22)), vI 2, vR (some (p + 4))]) 1 rfl).mpr ?_
  refine y_call (c0 := (6, 7, List.replicate 7 none)) (Bl := TRu (p + 22)) (n := 22) ([(0, 10, [none, some (p + 1), some (p + 2), some (p + 3), none, some (p + 4), none, some (p + 5), some (p + 6), some (p + 7)]), (20, 4, []), (20, 4, []), (20, 4, []), (23, 6, [some (p + 8), some (p + 15), none, none, none, none]), (20, 6, []), (20, 6, []), (20, 2, [])] ++ (TRu (p + 8) ++ (TRu (p + 15)))) ([(0, 10, [none, some (p + 1), some (p + 2), some (p + 3), none, some (p + 4), none, some (p + 5), some (p + 6), some (p + 7)]), (20, 4, []), (20, 4, []), (20, 4, []), (23, 6, [some (p + 8), some (p + 15), none, none, none, none]), (20, 6, []), (20, 6, []), (20, 2, [])] ++ (TRu (p + 8) ++ (TRu (p + 15) ++ (TRu (p + 22))))) (21, 126) hp rfl rfl (by decide) rfl (Nat.le_of_ble_eq_true rfl) (by decide) rfl rfl (fun P' Q' hp' hq => i_Ru (hz.up (by omega)) hp' hq) rfl rfl ?_
  refine (w_st (j' := 53) (ls' := [vR (some (p)), vI 2]) (st' := [vR (some (p + 22)), vI 2, vR (some (p + 4))]) 1 rfl).mpr ?_
  refine y_aas 4 22 (i := 2) ([(0, 10, [none, some (p + 1), some (p + 2), some (p + 3), none, some (p + 4), none, some (p + 5), some (p + 6), some (p + 7)]), (20, 4, []), (20, 4, []), (20, 4, []), (23, 6, [some (p + 8), some (p + 15), some (p + 22), none, none, none]), (20, 6, []), (20, 6, []), (20, 2, [])] ++ (TRu (p + 8) ++ (TRu (p + 15) ++ (TRu (p + 22))))) hp rfl rfl rfl ?_
  refine (w_st (j' := 55) (ls' := [vR (some (p)), vI (w32 (2 + 1))]) (st' := []) 1 rfl).mpr ?_
  rw [show w32 (2 + 1) = 3 by decide]
  refine (w_st (j' := 44) (ls' := [vR (some (p)), vI 3]) (st' := [vI 6, vI 3]) 4 rfl).mpr ?_
  refine (w_cge rfl).mpr ?_
  rw [if_pos (by decide)]
  refine (w_st (j' := 47) (ls' := [vR (some (p)), vI 3]) (st' := [vR (some (p))]) 2 rfl).mpr ?_
  refine y_gS 0 (q := some (p + 4)) hp rfl rfl rfl ?_
  refine (w_st (j' := 49) (ls' := [vR (some (p)), vI 3]) (st' := [vI 3, vR (some (p + 4))]) 1 rfl).mpr ?_
  refine y_new (n := 29) (([(0, 10, [none, some (p + 1), some (p + 2), some (p + 3), none, some (p + 4), none, some (p + 5), some (p + 6), some (p + 7)]), (20, 4, []), (20, 4, []), (20, 4, []), (23, 6, [some (p + 8), some (p + 15), some (p + 22), none, none, none]), (20, 6, []), (20, 6, []), (20, 2, [])] ++ (TRu (p + 8) ++ (TRu (p + 15) ++ (TRu (p + 22))))) ++ [(6, 7, List.replicate 7 none)]) (20, 119) hp rfl rfl rfl rfl (hz.up (by omega)) rfl ?_
  refine (w_st (j' := 51) (ls' := [vR (some (p)), vI 3]) (st' := [vR (some (p + 29)), vR (some (p + 29)), vI 3, vR (some (p + 4))]) 1 rfl).mpr ?_
  refine y_call (c0 := (6, 7, List.replicate 7 none)) (Bl := TRu (p + 29)) (n := 29) ([(0, 10, [none, some (p + 1), some (p + 2), some (p + 3), none, some (p + 4), none, some (p + 5), some (p + 6), some (p + 7)]), (20, 4, []), (20, 4, []), (20, 4, []), (23, 6, [some (p + 8), some (p + 15), some (p + 22), none, none, none]), (20, 6, []), (20, 6, []), (20, 2, [])] ++ (TRu (p + 8) ++ (TRu (p + 15) ++ (TRu (p + 22))))) ([(0, 10, [none, some (p + 1), some (p + 2), some (p + 3), none, some (p + 4), none, some (p + 5), some (p + 6), some (p + 7)]), (20, 4, []), (20, 4, []), (20, 4, []), (23, 6, [some (p + 8), some (p + 15), some (p + 22), none, none, none]), (20, 6, []), (20, 6, []), (20, 2, [])] ++ (TRu (p + 8) ++ (TRu (p + 15) ++ (TRu (p + 22) ++ (TRu (p + 29)))))) (14, 84) hp rfl rfl (by decide) rfl (Nat.le_of_ble_eq_true rfl) (by decide) rfl rfl (fun P' Q' hp' hq => i_Ru (hz.up (by omega)) hp' hq) rfl rfl ?_
  refine (w_st (j' := 53) (ls' := [vR (some (p)), vI 3]) (st' := [vR (some (p + 29)), vI 3, vR (some (p + 4))]) 1 rfl).mpr ?_
  refine y_aas 4 29 (i := 3) ([(0, 10, [none, some (p + 1), some (p + 2), some (p + 3), none, some (p + 4), none, some (p + 5), some (p + 6), some (p + 7)]), (20, 4, []), (20, 4, []), (20, 4, []), (23, 6, [some (p + 8), some (p + 15), some (p + 22), some (p + 29), none, none]), (20, 6, []), (20, 6, []), (20, 2, [])] ++ (TRu (p + 8) ++ (TRu (p + 15) ++ (TRu (p + 22) ++ (TRu (p + 29)))))) hp rfl rfl rfl ?_
  refine (w_st (j' := 55) (ls' := [vR (some (p)), vI (w32 (3 + 1))]) (st' := []) 1 rfl).mpr ?_
  rw [show w32 (3 + 1) = 4 by decide]
  refine (w_st (j' := 44) (ls' := [vR (some (p)), vI 4]) (st' := [vI 6, vI 4]) 4 rfl).mpr ?_
  refine (w_cge rfl).mpr ?_
  rw [if_pos (by decide)]
  refine (w_st (j' := 47) (ls' := [vR (some (p)), vI 4]) (st' := [vR (some (p))]) 2 rfl).mpr ?_
  refine y_gS 0 (q := some (p + 4)) hp rfl rfl rfl ?_
  refine (w_st (j' := 49) (ls' := [vR (some (p)), vI 4]) (st' := [vI 4, vR (some (p + 4))]) 1 rfl).mpr ?_
  refine y_new (n := 36) (([(0, 10, [none, some (p + 1), some (p + 2), some (p + 3), none, some (p + 4), none, some (p + 5), some (p + 6), some (p + 7)]), (20, 4, []), (20, 4, []), (20, 4, []), (23, 6, [some (p + 8), some (p + 15), some (p + 22), some (p + 29), none, none]), (20, 6, []), (20, 6, []), (20, 2, [])] ++ (TRu (p + 8) ++ (TRu (p + 15) ++ (TRu (p + 22) ++ (TRu (p + 29)))))) ++ [(6, 7, List.replicate 7 none)]) (13, 77) hp rfl rfl rfl rfl (hz.up (by omega)) rfl ?_
  refine (w_st (j' := 51) (ls' := [vR (some (p)), vI 4]) (st' := [vR (some (p + 36)), vR (some (p + 36)), vI 4, vR (some (p + 4))]) 1 rfl).mpr ?_
  refine y_call (c0 := (6, 7, List.replicate 7 none)) (Bl := TRu (p + 36)) (n := 36) ([(0, 10, [none, some (p + 1), some (p + 2), some (p + 3), none, some (p + 4), none, some (p + 5), some (p + 6), some (p + 7)]), (20, 4, []), (20, 4, []), (20, 4, []), (23, 6, [some (p + 8), some (p + 15), some (p + 22), some (p + 29), none, none]), (20, 6, []), (20, 6, []), (20, 2, [])] ++ (TRu (p + 8) ++ (TRu (p + 15) ++ (TRu (p + 22) ++ (TRu (p + 29)))))) ([(0, 10, [none, some (p + 1), some (p + 2), some (p + 3), none, some (p + 4), none, some (p + 5), some (p + 6), some (p + 7)]), (20, 4, []), (20, 4, []), (20, 4, []), (23, 6, [some (p + 8), some (p + 15), some (p + 22), some (p + 29), none, none]), (20, 6, []), (20, 6, []), (20, 2, [])] ++ (TRu (p + 8) ++ (TRu (p + 15) ++ (TRu (p + 22) ++ (TRu (p + 29) ++ (TRu (p + 36))))))) (7, 42) hp rfl rfl (by decide) rfl (Nat.le_of_ble_eq_true rfl) (by decide) rfl rfl (fun P' Q' hp' hq => i_Ru (hz.up (by omega)) hp' hq) rfl rfl ?_
  refine (w_st (j' := 53) (ls' := [vR (some (p)), vI 4]) (st' := [vR (some (p + 36)), vI 4, vR (some (p + 4))]) 1 rfl).mpr ?_
  refine y_aas 4 36 (i := 4) ([(0, 10, [none, some (p + 1), some (p + 2), some (p + 3), none, some (p + 4), none, some (p + 5), some (p + 6), some (p + 7)]), (20, 4, []), (20, 4, []), (20, 4, []), (23, 6, [some (p + 8), some (p + 15), some (p + 22), some (p + 29), some (p + 36), none]), (20, 6, []), (20, 6, []), (20, 2, [])] ++ (TRu (p + 8) ++ (TRu (p + 15) ++ (TRu (p + 22) ++ (TRu (p + 29) ++ (TRu (p + 36))))))) hp rfl rfl rfl ?_
  refine (w_st (j' := 55) (ls' := [vR (some (p)), vI (w32 (4 + 1))]) (st' := []) 1 rfl).mpr ?_
  rw [show w32 (4 + 1) = 5 by decide]
  refine (w_st (j' := 44) (ls' := [vR (some (p)), vI 5]) (st' := [vI 6, vI 5]) 4 rfl).mpr ?_
  refine (w_cge rfl).mpr ?_
  rw [if_pos (by decide)]
  refine (w_st (j' := 47) (ls' := [vR (some (p)), vI 5]) (st' := [vR (some (p))]) 2 rfl).mpr ?_
  refine y_gS 0 (q := some (p + 4)) hp rfl rfl rfl ?_
  refine (w_st (j' := 49) (ls' := [vR (some (p)), vI 5]) (st' := [vI 5, vR (some (p + 4))]) 1 rfl).mpr ?_
  refine y_new (n := 43) (([(0, 10, [none, some (p + 1), some (p + 2), some (p + 3), none, some (p + 4), none, some (p + 5), some (p + 6), some (p + 7)]), (20, 4, []), (20, 4, []), (20, 4, []), (23, 6, [some (p + 8), some (p + 15), some (p + 22), some (p + 29), some (p + 36), none]), (20, 6, []), (20, 6, []), (20, 2, [])] ++ (TRu (p + 8) ++ (TRu (p + 15) ++ (TRu (p + 22) ++ (TRu (p + 29) ++ (TRu (p + 36))))))) ++ [(6, 7, List.replicate 7 none)]) (6, 35) hp rfl rfl rfl rfl (hz.up (by omega)) rfl ?_
  refine (w_st (j' := 51) (ls' := [vR (some (p)), vI 5]) (st' := [vR (some (p + 43)), vR (some (p + 43)), vI 5, vR (some (p + 4))]) 1 rfl).mpr ?_
  refine y_call (c0 := (6, 7, List.replicate 7 none)) (Bl := TRu (p + 43)) (n := 43) ([(0, 10, [none, some (p + 1), some (p + 2), some (p + 3), none, some (p + 4), none, some (p + 5), some (p + 6), some (p + 7)]), (20, 4, []), (20, 4, []), (20, 4, []), (23, 6, [some (p + 8), some (p + 15), some (p + 22), some (p + 29), some (p + 36), none]), (20, 6, []), (20, 6, []), (20, 2, [])] ++ (TRu (p + 8) ++ (TRu (p + 15) ++ (TRu (p + 22) ++ (TRu (p + 29) ++ (TRu (p + 36))))))) ([(0, 10, [none, some (p + 1), some (p + 2), some (p + 3), none, some (p + 4), none, some (p + 5), some (p + 6), some (p + 7)]), (20, 4, []), (20, 4, []), (20, 4, []), (23, 6, [some (p + 8), some (p + 15), some (p + 22), some (p + 29), some (p + 36), none]), (20, 6, []), (20, 6, []), (20, 2, [])] ++ (TRu (p + 8) ++ (TRu (p + 15) ++ (TRu (p + 22) ++ (TRu (p + 29) ++ (TRu (p + 36) ++ (TRu (p + 43)))))))) (0, 0) hp rfl rfl (by decide) rfl (Nat.le_of_ble_eq_true rfl) (by decide) rfl rfl (fun P' Q' hp' hq => i_Ru (hz.up (by omega)) hp' hq) rfl rfl ?_
  refine (w_st (j' := 53) (ls' := [vR (some (p)), vI 5]) (st' := [vR (some (p + 43)), vI 5, vR (some (p + 4))]) 1 rfl).mpr ?_
  refine y_aas 4 43 (i := 5) ([(0, 10, [none, some (p + 1), some (p + 2), some (p + 3), none, some (p + 4), none, some (p + 5), some (p + 6), some (p + 7)]), (20, 4, []), (20, 4, []), (20, 4, []), (23, 6, [some (p + 8), some (p + 15), some (p + 22), some (p + 29), some (p + 36), some (p + 43)]), (20, 6, []), (20, 6, []), (20, 2, [])] ++ (TRu (p + 8) ++ (TRu (p + 15) ++ (TRu (p + 22) ++ (TRu (p + 29) ++ (TRu (p + 36) ++ (TRu (p + 43)))))))) hp rfl rfl rfl ?_
  refine (w_st (j' := 55) (ls' := [vR (some (p)), vI (w32 (5 + 1))]) (st' := []) 1 rfl).mpr ?_
  rw [show w32 (5 + 1) = 6 by decide]
  refine (w_st (j' := 44) (ls' := [vR (some (p)), vI 6]) (st' := [vI 6, vI 6]) 4 rfl).mpr ?_
  refine (w_cge rfl).mpr ?_
  rw [if_neg (by decide)]
  refine (w_st (j' := 57) (ls' := [vU, vU]) (st' := []) 1 rfl).mpr ?_
  exact (w_vret rfl).mpr hQ
def TDk (p : Nat) : MS := [(1, 5, [some (p + 1), some (p + 2), none, some (p + 3), some (p + 4)]), (20, 6, []), (24, 4, [some (p + 5), some (p + 9), some (p + 13), some (p + 17)]), (20, 6, []), (20, 6, [])] ++ (TSh (p + 5) ++ (TSh (p + 9) ++ (TSh (p + 13) ++ (TSh (p + 17)))))
theorem i_Dk {R : Nat → Int → Option Nat} {I : Nat → Int → Int} {J : Nat → Int → Int64} {P : MS} {Q : Option MV → MM → Prop} {p : Nat} (hz : ZF p R I J) (hp : P.length = p) (hQ : Q none (P ++ TDk p, R, I, J)) : wpC 154 [vR (some (p))] (P ++ [(1, 5, List.replicate 5 none)], R, I, J) Q := by
  show wpc 154 0 [vR (some (p)), vU] [] (20, 146) (P ++ [(1, 5, List.replicate 5 none)], R, I, J) Q
  refine (w_st (j' := 4) (ls' := [vR (some (p)), vU]) (st' := [vI 6, vR (some (p))]) 4 rfl).mpr ?_
  refine y_arr (n := 1) (m := 6) ([(1, 5, [none, none, none, none, none]), (20, 6, [])]) (19, 140) hp rfl rfl (by decide) rfl rfl (hz.up (by omega)) rfl ?_
  refine y_pS 0 ([(1, 5, [some (p + 1), none, none, none, none]), (20, 6, [])]) hp rfl rfl (Nat.le_of_ble_eq_true rfl) rfl ?_
  refine (w_st (j' := 8) (ls' := [vR (some (p)), vU]) (st' := [vI 4, vR (some (p))]) 2 rfl).mpr ?_
  refine y_aar (n := 2) (m := 4) ([(1, 5, [some (p + 1), none, none, none, none]), (20, 6, []), (24, 4, [none, none, none, none])]) (18, 136) hp rfl rfl (by decide) rfl rfl (hz.up (by omega)) rfl ?_
  refine y_pS 0 ([(1, 5, [some (p + 1), some (p + 2), none, none, none]), (20, 6, []), (24, 4, [none, none, none, none])]) hp rfl rfl (Nat.le_of_ble_eq_true rfl) rfl ?_
  refine (w_st (j' := 12) (ls' := [vR (some (p)), vU]) (st' := [vI 0, vR (some (p))]) 2 rfl).mpr ?_
  refine y_pI 0 hp rfl rfl (hz _ (by omega) _).2.1 ?_
  refine (w_st (j' := 15) (ls' := [vR (some (p)), vU]) (st' := [vI 6, vR (some (p))]) 2 rfl).mpr ?_
  refine y_arr (n := 3) (m := 6) ([(1, 5, [some (p + 1), some (p + 2), none, none, none]), (20, 6, []), (24, 4, [none, none, none, none]), (20, 6, [])]) (17, 130) hp rfl rfl (by decide) rfl rfl (hz.up (by omega)) rfl ?_
  refine y_pS 0 ([(1, 5, [some (p + 1), some (p + 2), none, some (p + 3), none]), (20, 6, []), (24, 4, [none, none, none, none]), (20, 6, [])]) hp rfl rfl (Nat.le_of_ble_eq_true rfl) rfl ?_
  refine (w_st (j' := 19) (ls' := [vR (some (p)), vU]) (st' := [vI 6, vR (some (p))]) 2 rfl).mpr ?_
  refine y_arr (n := 4) (m := 6) ([(1, 5, [some (p + 1), some (p + 2), none, some (p + 3), none]), (20, 6, []), (24, 4, [none, none, none, none]), (20, 6, []), (20, 6, [])]) (16, 124) hp rfl rfl (by decide) rfl rfl (hz.up (by omega)) rfl ?_
  refine y_pS 0 ([(1, 5, [some (p + 1), some (p + 2), none, some (p + 3), some (p + 4)]), (20, 6, []), (24, 4, [none, none, none, none]), (20, 6, []), (20, 6, [])]) hp rfl rfl (Nat.le_of_ble_eq_true rfl) rfl ?_
  refine (w_st (j' := 26) (ls' := [vR (some (p)), vI 0]) (st' := [vI 4, vI 0]) 5 rfl).mpr ?_
  refine (w_cge rfl).mpr ?_
  rw [if_pos (by decide)]
  refine (w_st (j' := 29) (ls' := [vR (some (p)), vI 0]) (st' := [vR (some (p))]) 2 rfl).mpr ?_
  refine y_gS 0 (q := some (p + 2)) hp rfl rfl rfl ?_
  refine (w_st (j' := 31) (ls' := [vR (some (p)), vI 0]) (st' := [vI 0, vR (some (p + 2))]) 1 rfl).mpr ?_
  refine y_new (n := 5) (([(1, 5, [some (p + 1), some (p + 2), none, some (p + 3), some (p + 4)]), (20, 6, []), (24, 4, [none, none, none, none]), (20, 6, []), (20, 6, [])]) ++ [(7, 4, List.replicate 4 none)]) (15, 120) hp rfl rfl rfl rfl (hz.up (by omega)) rfl ?_
  refine (w_st (j' := 33) (ls' := [vR (some (p)), vI 0]) (st' := [vR (some (p + 5)), vR (some (p + 5)), vI 0, vR (some (p + 2))]) 1 rfl).mpr ?_
  refine y_call (c0 := (7, 4, List.replicate 4 none)) (Bl := TSh (p + 5)) (n := 5) ([(1, 5, [some (p + 1), some (p + 2), none, some (p + 3), some (p + 4)]), (20, 6, []), (24, 4, [none, none, none, none]), (20, 6, []), (20, 6, [])]) ([(1, 5, [some (p + 1), some (p + 2), none, some (p + 3), some (p + 4)]), (20, 6, []), (24, 4, [none, none, none, none]), (20, 6, []), (20, 6, [])] ++ (TSh (p + 5))) (12, 93) hp rfl rfl (by decide) rfl (Nat.le_of_ble_eq_true rfl) (by decide) rfl rfl (fun P' Q' hp' hq => i_Sh (hz.up (by omega)) hp' hq) rfl rfl ?_
  refine (w_st (j' := 35) (ls' := [vR (some (p)), vI 0]) (st' := [vR (some (p + 5)), vI 0, vR (some (p + 2))]) 1 rfl).mpr ?_
  refine y_aas 2 5 (i := 0) ([(1, 5, [some (p + 1), some (p + 2), none, some (p + 3), some (p + 4)]), (20, 6, []), (24, 4, [some (p + 5), none, none, none]), (20, 6, []), (20, 6, [])] ++ (TSh (p + 5))) hp rfl rfl rfl ?_
  refine (w_st (j' := 37) (ls' := [vR (some (p)), vI (w32 (0 + 1))]) (st' := []) 1 rfl).mpr ?_
  rw [show w32 (0 + 1) = 1 by decide]
  refine (w_st (j' := 26) (ls' := [vR (some (p)), vI 1]) (st' := [vI 4, vI 1]) 4 rfl).mpr ?_
  refine (w_cge rfl).mpr ?_
  rw [if_pos (by decide)]
  refine (w_st (j' := 29) (ls' := [vR (some (p)), vI 1]) (st' := [vR (some (p))]) 2 rfl).mpr ?_
  refine y_gS 0 (q := some (p + 2)) hp rfl rfl rfl ?_
  refine (w_st (j' := 31) (ls' := [vR (some (p)), vI 1]) (st' := [vI 1, vR (some (p + 2))]) 1 rfl).mpr ?_
  refine y_new (n := 9) (([(1, 5, [some (p + 1), some (p + 2), none, some (p + 3), some (p + 4)]), (20, 6, []), (24, 4, [some (p + 5), none, none, none]), (20, 6, []), (20, 6, [])] ++ (TSh (p + 5))) ++ [(7, 4, List.replicate 4 none)]) (11, 89) hp rfl rfl rfl rfl (hz.up (by omega)) rfl ?_
  refine (w_st (j' := 33) (ls' := [vR (some (p)), vI 1]) (st' := [vR (some (p + 9)), vR (some (p + 9)), vI 1, vR (some (p + 2))]) 1 rfl).mpr ?_
  refine y_call (c0 := (7, 4, List.replicate 4 none)) (Bl := TSh (p + 9)) (n := 9) ([(1, 5, [some (p + 1), some (p + 2), none, some (p + 3), some (p + 4)]), (20, 6, []), (24, 4, [some (p + 5), none, none, none]), (20, 6, []), (20, 6, [])] ++ (TSh (p + 5))) ([(1, 5, [some (p + 1), some (p + 2), none, some (p + 3), some (p + 4)]), (20, 6, []), (24, 4, [some (p + 5), none, none, none]), (20, 6, []), (20, 6, [])] ++ (TSh (p + 5) ++ (TSh (p + 9)))) (8, 62) hp rfl rfl (by decide) rfl (Nat.le_of_ble_eq_true rfl) (by decide) rfl rfl (fun P' Q' hp' hq => i_Sh (hz.up (by omega)) hp' hq) rfl rfl ?_
  refine (w_st (j' := 35) (ls' := [vR (some (p)), vI 1]) (st' := [vR (some (p + 9)), vI 1, vR (some (p + 2))]) 1 rfl).mpr ?_
  refine y_aas 2 9 (i := 1) ([(1, 5, [some (p + 1), some (p + 2), none, some (p + 3), some (p + 4)]), (20, 6, []), (24, 4, [some (p + 5), some (p + 9), none, none]), (20, 6, []), (20, 6, [])] ++ (TSh (p + 5) ++ (TSh (p + 9)))) hp rfl rfl rfl ?_
  refine (w_st (j' := 37) (ls' := [vR (some (p)), vI (w32 (1 + 1))]) (st' := []) 1 rfl).mpr ?_
  rw [show w32 (1 + 1) = 2 by decide]
  refine (w_st (j' := 26) (ls' := [vR (some (p)), vI 2]) (st' := [vI 4, vI 2]) 4 rfl).mpr ?_
  refine (w_cge rfl).mpr ?_
  rw [if_pos (by decide)]
  refine (w_st (j' := 29) (ls' := [vR (some (p)), vI 2]) (st' := [vR (some (p))]) 2 rfl).mpr ?_
  refine y_gS 0 (q := some (p + 2)) hp rfl rfl rfl ?_
  refine (w_st (j' := 31) (ls' := [vR (some (p)), vI 2]) (st' := [vI 2, vR (some (p + 2))]) 1 rfl).mpr ?_
  refine y_new (n := 13) (([(1, 5, [some (p + 1), some (p + 2), none, some (p + 3), some (p + 4)]), (20, 6, []), (24, 4, [some (p + 5), some (p + 9), none, none]), (20, 6, []), (20, 6, [])] ++ (TSh (p + 5) ++ (TSh (p + 9)))) ++ [(7, 4, List.replicate 4 none)]) (7, 58) hp rfl rfl rfl rfl (hz.up (by omega)) rfl ?_
  refine (w_st (j' := 33) (ls' := [vR (some (p)), vI 2]) (st' := [vR (some (p + 13)), vR (some (p + 13)), vI 2, vR (some (p + 2))]) 1 rfl).mpr ?_
  refine y_call (c0 := (7, 4, List.replicate 4 none)) (Bl := TSh (p + 13)) (n := 13) ([(1, 5, [some (p + 1), some (p + 2), none, some (p + 3), some (p + 4)]), (20, 6, []), (24, 4, [some (p + 5), some (p + 9), none, none]), (20, 6, []), (20, 6, [])] ++ (TSh (p + 5) ++ (TSh (p + 9)))) ([(1, 5, [some (p + 1), some (p + 2), none, some (p + 3), some (p + 4)]), (20, 6, []), (24, 4, [some (p + 5), some (p + 9), none, none]), (20, 6, []), (20, 6, [])] ++ (TSh (p + 5) ++ (TSh (p + 9) ++ (TSh (p + 13))))) (4, 31) hp rfl rfl (by decide) rfl (Nat.le_of_ble_eq_true rfl) (by decide) rfl rfl (fun P' Q' hp' hq => i_Sh (hz.up (by omega)) hp' hq) rfl rfl ?_
  refine (w_st (j' := 35) (ls' := [vR (some (p)), vI 2]) (st' := [vR (some (p + 13)), vI 2, vR (some (p + 2))]) 1 rfl).mpr ?_
  refine y_aas 2 13 (i := 2) ([(1, 5, [some (p + 1), some (p + 2), none, some (p + 3), some (p + 4)]), (20, 6, []), (24, 4, [some (p + 5), some (p + 9), some (p + 13), none]), (20, 6, []), (20, 6, [])] ++ (TSh (p + 5) ++ (TSh (p + 9) ++ (TSh (p + 13))))) hp rfl rfl rfl ?_
  refine (w_st (j' := 37) (ls' := [vR (some (p)), vI (w32 (2 + 1))]) (st' := []) 1 rfl).mpr ?_
  rw [show w32 (2 + 1) = 3 by decide]
  refine (w_st (j' := 26) (ls' := [vR (some (p)), vI 3]) (st' := [vI 4, vI 3]) 4 rfl).mpr ?_
  refine (w_cge rfl).mpr ?_
  rw [if_pos (by decide)]
  refine (w_st (j' := 29) (ls' := [vR (some (p)), vI 3]) (st' := [vR (some (p))]) 2 rfl).mpr ?_
  refine y_gS 0 (q := some (p + 2)) hp rfl rfl rfl ?_
  refine (w_st (j' := 31) (ls' := [vR (some (p)), vI 3]) (st' := [vI 3, vR (some (p + 2))]) 1 rfl).mpr ?_
  refine y_new (n := 17) (([(1, 5, [some (p + 1), some (p + 2), none, some (p + 3), some (p + 4)]), (20, 6, []), (24, 4, [some (p + 5), some (p + 9), some (p + 13), none]), (20, 6, []), (20, 6, [])] ++ (TSh (p + 5) ++ (TSh (p + 9) ++ (TSh (p + 13))))) ++ [(7, 4, List.replicate 4 none)]) (3, 27) hp rfl rfl rfl rfl (hz.up (by omega)) rfl ?_
  refine (w_st (j' := 33) (ls' := [vR (some (p)), vI 3]) (st' := [vR (some (p + 17)), vR (some (p + 17)), vI 3, vR (some (p + 2))]) 1 rfl).mpr ?_
  refine y_call (c0 := (7, 4, List.replicate 4 none)) (Bl := TSh (p + 17)) (n := 17) ([(1, 5, [some (p + 1), some (p + 2), none, some (p + 3), some (p + 4)]), (20, 6, []), (24, 4, [some (p + 5), some (p + 9), some (p + 13), none]), (20, 6, []), (20, 6, [])] ++ (TSh (p + 5) ++ (TSh (p + 9) ++ (TSh (p + 13))))) ([(1, 5, [some (p + 1), some (p + 2), none, some (p + 3), some (p + 4)]), (20, 6, []), (24, 4, [some (p + 5), some (p + 9), some (p + 13), none]), (20, 6, []), (20, 6, [])] ++ (TSh (p + 5) ++ (TSh (p + 9) ++ (TSh (p + 13) ++ (TSh (p + 17)))))) (0, 0) hp rfl rfl (by decide) rfl (Nat.le_of_ble_eq_true rfl) (by decide) rfl rfl (fun P' Q' hp' hq => i_Sh (hz.up (by omega)) hp' hq) rfl rfl ?_
  refine (w_st (j' := 35) (ls' := [vR (some (p)), vI 3]) (st' := [vR (some (p + 17)), vI 3, vR (some (p + 2))]) 1 rfl).mpr ?_
  refine y_aas 2 17 (i := 3) ([(1, 5, [some (p + 1), some (p + 2), none, some (p + 3), some (p + 4)]), (20, 6, []), (24, 4, [some (p + 5), some (p + 9), some (p + 13), some (p + 17)]), (20, 6, []), (20, 6, [])] ++ (TSh (p + 5) ++ (TSh (p + 9) ++ (TSh (p + 13) ++ (TSh (p + 17)))))) hp rfl rfl rfl ?_
  refine (w_st (j' := 37) (ls' := [vR (some (p)), vI (w32 (3 + 1))]) (st' := []) 1 rfl).mpr ?_
  rw [show w32 (3 + 1) = 4 by decide]
  refine (w_st (j' := 26) (ls' := [vR (some (p)), vI 4]) (st' := [vI 4, vI 4]) 4 rfl).mpr ?_
  refine (w_cge rfl).mpr ?_
  rw [if_neg (by decide)]
  refine (w_st (j' := 39) (ls' := [vU, vU]) (st' := []) 1 rfl).mpr ?_
  exact (w_vret rfl).mpr hQ
def TGo (p : Nat) : MS := [(3, 9, [none, none, none, none, none, none, none, none, some (p + 1)]), (26, 2, [])]
theorem i_Go {R : Nat → Int → Option Nat} {I : Nat → Int → Int} {J : Nat → Int → Int64} {P : MS} {Q : Option MV → MM → Prop} {p : Nat} (hz : ZF p R I J) (hp : P.length = p) (hQ : Q none (P ++ TGo p, R, I, J)) : wpC 171 [vR (some (p))] (P ++ [(3, 9, List.replicate 9 none)], R, I, J) Q := by
  show wpc 171 0 [vR (some (p))] [] (1, 2) (P ++ [(3, 9, List.replicate 9 none)], R, I, J) Q
  refine (w_st (j' := 4) (ls' := [vR (some (p))]) (st' := [vI 0, vR (some (p))]) 4 rfl).mpr ?_
  refine y_pI 0 hp rfl rfl (hz _ (by omega) _).2.1 ?_
  refine (w_st (j' := 7) (ls' := [vR (some (p))]) (st' := [vI 0, vR (some (p))]) 2 rfl).mpr ?_
  refine y_pI 0 hp rfl rfl (hz _ (by omega) _).2.1 ?_
  refine (w_st (j' := 10) (ls' := [vR (some (p))]) (st' := [vI 0, vR (some (p))]) 2 rfl).mpr ?_
  refine y_pI 0 hp rfl rfl (hz _ (by omega) _).2.1 ?_
  refine (w_st (j' := 13) (ls' := [vR (some (p))]) (st' := [vI 0, vR (some (p))]) 2 rfl).mpr ?_
  refine y_pI 0 hp rfl rfl (hz _ (by omega) _).2.1 ?_
  refine (w_st (j' := 16) (ls' := [vR (some (p))]) (st' := [vI 0, vR (some (p))]) 2 rfl).mpr ?_
  refine y_pI 0 hp rfl rfl (hz _ (by omega) _).2.1 ?_
  refine (w_st (j' := 19) (ls' := [vR (some (p))]) (st' := [vL (Int64.ofInt 0), vR (some (p))]) 2 rfl).mpr ?_
  refine y_pJ 0 hp rfl rfl (hz _ (by omega) _).2.2 ?_
  refine (w_st (j' := 22) (ls' := [vR (some (p))]) (st' := [vI 0, vR (some (p))]) 2 rfl).mpr ?_
  refine y_pI 0 hp rfl rfl (hz _ (by omega) _).2.1 ?_
  refine (w_st (j' := 25) (ls' := [vR (some (p))]) (st' := [vI 0, vR (some (p))]) 2 rfl).mpr ?_
  refine y_pI 0 hp rfl rfl (hz _ (by omega) _).2.1 ?_
  refine (w_st (j' := 28) (ls' := [vR (some (p))]) (st' := [vI 2, vR (some (p))]) 2 rfl).mpr ?_
  refine y_aar (n := 1) (m := 2) ([(3, 9, [none, none, none, none, none, none, none, none, none]), (26, 2, [])]) (0, 0) hp rfl rfl (by decide) rfl rfl (hz.up (by omega)) rfl ?_
  refine y_pS 0 ([(3, 9, [none, none, none, none, none, none, none, none, some (p + 1)]), (26, 2, [])]) hp rfl rfl (Nat.le_of_ble_eq_true rfl) rfl ?_
  exact (w_vret rfl).mpr hQ
def TMe (p : Nat) : MS := [(4, 8, [some (p + 1), some (p + 2), some (p + 3), some (p + 4), some (p + 5), some (p + 6), some (p + 7), none]), (20, 10, []), (20, 10, []), (20, 10, []), (20, 10, []), (22, 10, []), (20, 40, []), (20, 40, [])]
theorem i_Me {R : Nat → Int → Option Nat} {I : Nat → Int → Int} {J : Nat → Int → Int64} {P : MS} {Q : Option MV → MM → Prop} {p : Nat} (hz : ZF p R I J) (hp : P.length = p) (hQ : Q none (P ++ TMe p, R, I, J)) : wpC 177 [vR (some (p))] (P ++ [(4, 8, List.replicate 8 none)], R, I, J) Q := by
  show wpc 177 0 [vR (some (p))] [] (7, 130) (P ++ [(4, 8, List.replicate 8 none)], R, I, J) Q
  refine (w_st (j' := 4) (ls' := [vR (some (p))]) (st' := [vI 10, vR (some (p))]) 4 rfl).mpr ?_
  refine y_arr (n := 1) (m := 10) ([(4, 8, [none, none, none, none, none, none, none, none]), (20, 10, [])]) (6, 120) hp rfl rfl (by decide) rfl rfl (hz.up (by omega)) rfl ?_
  refine y_pS 0 ([(4, 8, [some (p + 1), none, none, none, none, none, none, none]), (20, 10, [])]) hp rfl rfl (Nat.le_of_ble_eq_true rfl) rfl ?_
  refine (w_st (j' := 8) (ls' := [vR (some (p))]) (st' := [vI 10, vR (some (p))]) 2 rfl).mpr ?_
  refine y_arr (n := 2) (m := 10) ([(4, 8, [some (p + 1), none, none, none, none, none, none, none]), (20, 10, []), (20, 10, [])]) (5, 110) hp rfl rfl (by decide) rfl rfl (hz.up (by omega)) rfl ?_
  refine y_pS 0 ([(4, 8, [some (p + 1), some (p + 2), none, none, none, none, none, none]), (20, 10, []), (20, 10, [])]) hp rfl rfl (Nat.le_of_ble_eq_true rfl) rfl ?_
  refine (w_st (j' := 12) (ls' := [vR (some (p))]) (st' := [vI 10, vR (some (p))]) 2 rfl).mpr ?_
  refine y_arr (n := 3) (m := 10) ([(4, 8, [some (p + 1), some (p + 2), none, none, none, none, none, none]), (20, 10, []), (20, 10, []), (20, 10, [])]) (4, 100) hp rfl rfl (by decide) rfl rfl (hz.up (by omega)) rfl ?_
  refine y_pS 0 ([(4, 8, [some (p + 1), some (p + 2), some (p + 3), none, none, none, none, none]), (20, 10, []), (20, 10, []), (20, 10, [])]) hp rfl rfl (Nat.le_of_ble_eq_true rfl) rfl ?_
  refine (w_st (j' := 16) (ls' := [vR (some (p))]) (st' := [vI 10, vR (some (p))]) 2 rfl).mpr ?_
  refine y_arr (n := 4) (m := 10) ([(4, 8, [some (p + 1), some (p + 2), some (p + 3), none, none, none, none, none]), (20, 10, []), (20, 10, []), (20, 10, []), (20, 10, [])]) (3, 90) hp rfl rfl (by decide) rfl rfl (hz.up (by omega)) rfl ?_
  refine y_pS 0 ([(4, 8, [some (p + 1), some (p + 2), some (p + 3), some (p + 4), none, none, none, none]), (20, 10, []), (20, 10, []), (20, 10, []), (20, 10, [])]) hp rfl rfl (Nat.le_of_ble_eq_true rfl) rfl ?_
  refine (w_st (j' := 20) (ls' := [vR (some (p))]) (st' := [vI 10, vR (some (p))]) 2 rfl).mpr ?_
  refine y_arr (n := 5) (m := 10) ([(4, 8, [some (p + 1), some (p + 2), some (p + 3), some (p + 4), none, none, none, none]), (20, 10, []), (20, 10, []), (20, 10, []), (20, 10, []), (22, 10, [])]) (2, 80) hp rfl rfl (by decide) rfl rfl (hz.up (by omega)) rfl ?_
  refine y_pS 0 ([(4, 8, [some (p + 1), some (p + 2), some (p + 3), some (p + 4), some (p + 5), none, none, none]), (20, 10, []), (20, 10, []), (20, 10, []), (20, 10, []), (22, 10, [])]) hp rfl rfl (Nat.le_of_ble_eq_true rfl) rfl ?_
  refine (w_st (j' := 24) (ls' := [vR (some (p))]) (st' := [vI 40, vR (some (p))]) 2 rfl).mpr ?_
  refine y_arr (n := 6) (m := 40) ([(4, 8, [some (p + 1), some (p + 2), some (p + 3), some (p + 4), some (p + 5), none, none, none]), (20, 10, []), (20, 10, []), (20, 10, []), (20, 10, []), (22, 10, []), (20, 40, [])]) (1, 40) hp rfl rfl (by decide) rfl rfl (hz.up (by omega)) rfl ?_
  refine y_pS 0 ([(4, 8, [some (p + 1), some (p + 2), some (p + 3), some (p + 4), some (p + 5), some (p + 6), none, none]), (20, 10, []), (20, 10, []), (20, 10, []), (20, 10, []), (22, 10, []), (20, 40, [])]) hp rfl rfl (Nat.le_of_ble_eq_true rfl) rfl ?_
  refine (w_st (j' := 28) (ls' := [vR (some (p))]) (st' := [vI 40, vR (some (p))]) 2 rfl).mpr ?_
  refine y_arr (n := 7) (m := 40) ([(4, 8, [some (p + 1), some (p + 2), some (p + 3), some (p + 4), some (p + 5), some (p + 6), none, none]), (20, 10, []), (20, 10, []), (20, 10, []), (20, 10, []), (22, 10, []), (20, 40, []), (20, 40, [])]) (0, 0) hp rfl rfl (by decide) rfl rfl (hz.up (by omega)) rfl ?_
  refine y_pS 0 ([(4, 8, [some (p + 1), some (p + 2), some (p + 3), some (p + 4), some (p + 5), some (p + 6), some (p + 7), none]), (20, 10, []), (20, 10, []), (20, 10, []), (20, 10, []), (22, 10, []), (20, 40, []), (20, 40, [])]) hp rfl rfl (Nat.le_of_ble_eq_true rfl) rfl ?_
  refine (w_st (j' := 32) (ls' := [vR (some (p))]) (st' := [vI 0, vR (some (p))]) 2 rfl).mpr ?_
  refine y_pI 0 hp rfl rfl (hz _ (by omega) _).2.1 ?_
  exact (w_vret rfl).mpr hQ
def TRd (p : Nat) : MS := [(5, 5, [none, none, none, none, none])]
theorem i_Rd {R : Nat → Int → Option Nat} {I : Nat → Int → Int} {J : Nat → Int → Int64} {P : MS} {Q : Option MV → MM → Prop} {p : Nat} (hz : ZF p R I J) (hp : P.length = p) (hQ : Q none (P ++ TRd p, R, I, J)) : wpC 186 [vR (some (p))] (P ++ [(5, 5, List.replicate 5 none)], R, I, J) Q := by
  show wpc 186 0 [vR (some (p))] [] (0, 0) (P ++ [(5, 5, List.replicate 5 none)], R, I, J) Q
  refine (w_st (j' := 4) (ls' := [vR (some (p))]) (st' := [vR none, vR (some (p))]) 4 rfl).mpr ?_
  refine y_pN 0 hp rfl rfl (hz _ (by omega) _).1 ?_
  refine (w_st (j' := 7) (ls' := [vR (some (p))]) (st' := [vR none, vR (some (p))]) 2 rfl).mpr ?_
  refine y_pN 0 hp rfl rfl (hz _ (by omega) _).1 ?_
  refine (w_st (j' := 10) (ls' := [vR (some (p))]) (st' := [vI 0, vR (some (p))]) 2 rfl).mpr ?_
  refine y_pI 0 hp rfl rfl (hz _ (by omega) _).2.1 ?_
  refine (w_st (j' := 13) (ls' := [vR (some (p))]) (st' := [vI 0, vR (some (p))]) 2 rfl).mpr ?_
  refine y_pI 0 hp rfl rfl (hz _ (by omega) _).2.1 ?_
  refine (w_st (j' := 16) (ls' := [vR (some (p))]) (st' := [vI 0, vR (some (p))]) 2 rfl).mpr ?_
  refine y_pI 0 hp rfl rfl (hz _ (by omega) _).2.1 ?_
  exact (w_vret rfl).mpr hQ
