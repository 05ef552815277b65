-- ===== the law: each case of its switch; printed by tool/gen_law.py =====
theorem lcmp_self (x : Int64) : lcmpI x x = 0 := by
  unfold lcmpI lg_cmp
  rw [if_neg (show ¬ x > x from fun h => absurd h (Int64.lt_irrefl)), if_pos rfl]
  rfl
def NxQ (L n : Nat) (b : Nat × Nat) (z0 : Int → Int) (s : ST) (Q : Option MV → MM → Prop) : Prop := ∀ R' I' J' s', wfS s' → sB s' ≤ sB s + 1 → CSt R' I' s' → MSt I' s' → I' 0 = z0 → wpc 0 592 [vR (some 0), vR (some 3), vR (some 243), vI ((5 * n : Nat) : Int)] [] b (S0 L, R', I', J') Q
theorem l_fin {L n : Nat} {b : Nat × Nat} {z0 : Int → Int} {R1 : Nat → Int → Option Nat} {I1 I2 : Nat → Int → Int} {J2 : Nat → Int → Int64} {Q : Option MV → MM → Prop} {s s' : ST} (hN : NxQ L n b z0 s Q) (hw : wfS s') (hb : sB s' ≤ sB s + 1) (c1 : CSt R1 I1 s') (m2 : MSt I2 s') (fa : ∀ a, a < 243 → I2 a = I1 a) (hz1 : I1 0 = z0) : wpc 0 592 [vR (some 0), vR (some 3), vR (some 243), vI ((5 * n : Nat) : Int)] [] b (S0 L, R1, I2, J2) Q := hN R1 I2 J2 s' hw hb (c1.lo hw fa) m2 (by rw [fa 0 (by omega)]; exact hz1)
set_option maxRecDepth 8000 in
theorem l_letter {L n : Nat} {b : Nat × Nat} {z0 : Int → Int} {R : Nat → Int → Option Nat} {I : Nat → Int → Int} {J : Nat → Int → Int64} {Q : Option MV → MM → Prop} {s : ST} (hL : L ≤ 2560) (hn : 5 * n + 5 ≤ L) (hw : wfS s) (hb : sB s + 1 < 100000) (hC : CSt R I s) (hM : MSt I s) (hz : I 0 = z0) (hN : NxQ L n b z0 s Q) : wpc 0 26 [vR (some 0), vR (some 3), vR (some 243), vI ((5 * n : Nat) : Int)] [] b (S0 L, R, I, J) Q := by
  refine (w_st (j' := 32) (ls' := [vR (some 0), vR (some 3), vR (some 243), vI ((5 * n : Nat) : Int)]) (st' := [vI (w32 (((5 * n : Nat) : Int) + 1)), vR (some 0), vR (some 3)]) 6 rfl).mpr ?_
  refine (w_iald (n := (L : Int)) rfl (Or.inr rfl) rfl).mpr ?_
  rw [show w32 (((5 * n : Nat) : Int) + 1) = ((5 * n + 1 : Nat) : Int) by rw [w32_eq (by omega) (by omega)]; omega]
  refine ⟨⟨by omega, by omega⟩, ?_⟩
  rw [hz]
  refine (w_cv (k := 0) (j := 33) (ls := [vR (some 0), vR (some 3), vR (some 243), vI ((5 * n : Nat) : Int)]) (st := [vI (z0 ((5 * n + 1 : Nat) : Int)), vR (some 3)]) (ls' := [vR (some 0), vR (some 3), vR (some 243), vI ((5 * n : Nat) : Int)]) (as2 := [vI (z0 ((5 * n + 1 : Nat) : Int))]) (st' := []) (mx := 2) rfl rfl rfl (Nat.le_of_ble_eq_true rfl) (Nat.le_of_ble_eq_true rfl) kz_3 rfl rfl).mpr ?_
  refine d_letter hw hC (fun R1 I1 J1 f1 c1 => ?_)
  have hM1 : MSt I1 s := hM.hi (fun a ha => (f1 a (Or.inr ha)).2.1)
  have hz1 : I1 0 = z0 := by rw [(f1 0 (Or.inl rfl)).2.1]; exact hz
  refine (w_st (j' := 40) (ls' := [vR (some 0), vR (some 3), vR (some 243), vI ((5 * n : Nat) : Int)]) (st' := [vI (w32 (((5 * n : Nat) : Int) + 1)), vR (some 0), vR (some 243), vI ((q_letter s (z0 ((5 * n + 1 : Nat) : Int))).1)]) 5 rfl).mpr ?_
  refine (w_iald (n := (L : Int)) rfl (Or.inr rfl) rfl).mpr ?_
  rw [show w32 (((5 * n : Nat) : Int) + 1) = ((5 * n + 1 : Nat) : Int) by rw [w32_eq (by omega) (by omega)]; omega]
  refine ⟨⟨by omega, by omega⟩, ?_⟩
  rw [hz1]
  refine (w_cv (k := 0) (j := 41) (ls := [vR (some 0), vR (some 3), vR (some 243), vI ((5 * n : Nat) : Int)]) (st := [vI (z0 ((5 * n + 1 : Nat) : Int)), vR (some 243), vI ((q_letter s (z0 ((5 * n + 1 : Nat) : Int))).1)]) (ls' := [vR (some 0), vR (some 3), vR (some 243), vI ((5 * n : Nat) : Int)]) (as2 := [vI (z0 ((5 * n + 1 : Nat) : Int))]) (st' := [vI ((q_letter s (z0 ((5 * n + 1 : Nat) : Int))).1)]) (mx := 2) rfl rfl rfl (Nat.le_of_ble_eq_true rfl) (Nat.le_of_ble_eq_true rfl) kz_243 rfl rfl).mpr ?_
  refine m_letter hw hM1 (fun I2 J2 m2 fa fj => ?_)
  refine (w_ceq rfl).mpr ?_
  rw [if_pos rfl]
  exact l_fin hN (wf_letter hw _) (Nat.le_trans (Nat.le_of_eq (sB_all.1 _)) (Nat.le_succ _)) c1 m2 fa hz1
set_option maxRecDepth 8000 in
theorem l_blank {L n : Nat} {b : Nat × Nat} {z0 : Int → Int} {R : Nat → Int → Option Nat} {I : Nat → Int → Int} {J : Nat → Int → Int64} {Q : Option MV → MM → Prop} {s : ST} (hL : L ≤ 2560) (hn : 5 * n + 5 ≤ L) (hw : wfS s) (hb : sB s + 1 < 100000) (hC : CSt R I s) (hM : MSt I s) (hz : I 0 = z0) (hN : NxQ L n b z0 s Q) : wpc 0 47 [vR (some 0), vR (some 3), vR (some 243), vI ((5 * n : Nat) : Int)] [] b (S0 L, R, I, J) Q := by
  refine (w_st (j' := 49) (ls' := [vR (some 0), vR (some 3), vR (some 243), vI ((5 * n : Nat) : Int)]) (st' := [vR (some 3)]) 2 rfl).mpr ?_
  refine (w_cv (k := 0) (j := 49) (ls := [vR (some 0), vR (some 3), vR (some 243), vI ((5 * n : Nat) : Int)]) (st := [vR (some 3)]) (ls' := [vR (some 0), vR (some 3), vR (some 243), vI ((5 * n : Nat) : Int)]) (as2 := []) (st' := []) (mx := 2) rfl rfl rfl (Nat.le_of_ble_eq_true rfl) (Nat.le_of_ble_eq_true rfl) kz_3 rfl rfl).mpr ?_
  refine d_blank hw hC (fun R1 I1 J1 f1 c1 => ?_)
  have hM1 : MSt I1 s := hM.hi (fun a ha => (f1 a (Or.inr ha)).2.1)
  have hz1 : I1 0 = z0 := by rw [(f1 0 (Or.inl rfl)).2.1]; exact hz
  refine (w_st (j' := 52) (ls' := [vR (some 0), vR (some 3), vR (some 243), vI ((5 * n : Nat) : Int)]) (st' := [vR (some 243), vI ((q_blank s ).1)]) 1 rfl).mpr ?_
  refine (w_cv (k := 0) (j := 52) (ls := [vR (some 0), vR (some 3), vR (some 243), vI ((5 * n : Nat) : Int)]) (st := [vR (some 243), vI ((q_blank s ).1)]) (ls' := [vR (some 0), vR (some 3), vR (some 243), vI ((5 * n : Nat) : Int)]) (as2 := []) (st' := [vI ((q_blank s ).1)]) (mx := 2) rfl rfl rfl (Nat.le_of_ble_eq_true rfl) (Nat.le_of_ble_eq_true rfl) kz_243 rfl rfl).mpr ?_
  refine m_blank hM1 (fun I2 J2 m2 fa fj => ?_)
  refine (w_ceq rfl).mpr ?_
  rw [if_pos rfl]
  exact l_fin hN (wf_blank hw) (Nat.le_succ _) c1 m2 fa hz1
set_option maxRecDepth 8000 in
theorem l_fault {L n : Nat} {b : Nat × Nat} {z0 : Int → Int} {R : Nat → Int → Option Nat} {I : Nat → Int → Int} {J : Nat → Int → Int64} {Q : Option MV → MM → Prop} {s : ST} (hL : L ≤ 2560) (hn : 5 * n + 5 ≤ L) (hw : wfS s) (hb : sB s + 1 < 100000) (hC : CSt R I s) (hM : MSt I s) (hz : I 0 = z0) (hN : NxQ L n b z0 s Q) : wpc 0 58 [vR (some 0), vR (some 3), vR (some 243), vI ((5 * n : Nat) : Int)] [] b (S0 L, R, I, J) Q := by
  refine (w_st (j' := 60) (ls' := [vR (some 0), vR (some 3), vR (some 243), vI ((5 * n : Nat) : Int)]) (st' := [vR (some 3)]) 2 rfl).mpr ?_
  refine (w_cv (k := 0) (j := 60) (ls := [vR (some 0), vR (some 3), vR (some 243), vI ((5 * n : Nat) : Int)]) (st := [vR (some 3)]) (ls' := [vR (some 0), vR (some 3), vR (some 243), vI ((5 * n : Nat) : Int)]) (as2 := []) (st' := []) (mx := 1) rfl rfl rfl (Nat.le_of_ble_eq_true rfl) (Nat.le_of_ble_eq_true rfl) kz_3 rfl rfl).mpr ?_
  refine d_fault hw hC (fun R1 I1 J1 f1 c1 => ?_)
  have hM1 : MSt I1 s := hM.hi (fun a ha => (f1 a (Or.inr ha)).2.1)
  have hz1 : I1 0 = z0 := by rw [(f1 0 (Or.inl rfl)).2.1]; exact hz
  refine (w_st (j' := 63) (ls' := [vR (some 0), vR (some 3), vR (some 243), vI ((5 * n : Nat) : Int)]) (st' := [vR (some 243), vI ((q_fault s ).1)]) 1 rfl).mpr ?_
  refine (w_cv (k := 0) (j := 63) (ls := [vR (some 0), vR (some 3), vR (some 243), vI ((5 * n : Nat) : Int)]) (st := [vR (some 243), vI ((q_fault s ).1)]) (ls' := [vR (some 0), vR (some 3), vR (some 243), vI ((5 * n : Nat) : Int)]) (as2 := []) (st' := [vI ((q_fault s ).1)]) (mx := 1) rfl rfl rfl (Nat.le_of_ble_eq_true rfl) (Nat.le_of_ble_eq_true rfl) kz_243 rfl rfl).mpr ?_
  refine m_fault hw hM1 (fun I2 J2 m2 fa fj => ?_)
  refine (w_ceq rfl).mpr ?_
  rw [if_pos rfl]
  exact l_fin hN (hw) (Nat.le_succ _) c1 m2 fa hz1
set_option maxRecDepth 8000 in
theorem l_book {L n : Nat} {b : Nat × Nat} {z0 : Int → Int} {R : Nat → Int → Option Nat} {I : Nat → Int → Int} {J : Nat → Int → Int64} {Q : Option MV → MM → Prop} {s : ST} (hL : L ≤ 2560) (hn : 5 * n + 5 ≤ L) (hw : wfS s) (hb : sB s + 1 < 100000) (hC : CSt R I s) (hM : MSt I s) (hz : I 0 = z0) (hN : NxQ L n b z0 s Q) : wpc 0 69 [vR (some 0), vR (some 3), vR (some 243), vI ((5 * n : Nat) : Int)] [] b (S0 L, R, I, J) Q := by
  refine (w_st (j' := 71) (ls' := [vR (some 0), vR (some 3), vR (some 243), vI ((5 * n : Nat) : Int)]) (st' := [vR (some 3)]) 2 rfl).mpr ?_
  refine (w_cv (k := 0) (j := 71) (ls := [vR (some 0), vR (some 3), vR (some 243), vI ((5 * n : Nat) : Int)]) (st := [vR (some 3)]) (ls' := [vR (some 0), vR (some 3), vR (some 243), vI ((5 * n : Nat) : Int)]) (as2 := []) (st' := []) (mx := 2) rfl rfl rfl (Nat.le_of_ble_eq_true rfl) (Nat.le_of_ble_eq_true rfl) kz_3 rfl rfl).mpr ?_
  refine d_book hw hC (fun R1 I1 J1 f1 c1 => ?_)
  have hM1 : MSt I1 s := hM.hi (fun a ha => (f1 a (Or.inr ha)).2.1)
  have hz1 : I1 0 = z0 := by rw [(f1 0 (Or.inl rfl)).2.1]; exact hz
  refine (w_st (j' := 74) (ls' := [vR (some 0), vR (some 3), vR (some 243), vI ((5 * n : Nat) : Int)]) (st' := [vR (some 243), vI ((q_book s ).1)]) 1 rfl).mpr ?_
  refine (w_cv (k := 0) (j := 74) (ls := [vR (some 0), vR (some 3), vR (some 243), vI ((5 * n : Nat) : Int)]) (st := [vR (some 243), vI ((q_book s ).1)]) (ls' := [vR (some 0), vR (some 3), vR (some 243), vI ((5 * n : Nat) : Int)]) (as2 := []) (st' := [vI ((q_book s ).1)]) (mx := 3) rfl rfl rfl (Nat.le_of_ble_eq_true rfl) (Nat.le_of_ble_eq_true rfl) kz_243 rfl rfl).mpr ?_
  refine m_book hw hM1 (fun I2 J2 m2 fa fj => ?_)
  refine (w_ceq rfl).mpr ?_
  rw [if_pos rfl]
  exact l_fin hN (wf_book2 hw hb) (sB_all.2.2.1) c1 m2 fa hz1
set_option maxRecDepth 8000 in
theorem l_type {L n : Nat} {b : Nat × Nat} {z0 : Int → Int} {R : Nat → Int → Option Nat} {I : Nat → Int → Int} {J : Nat → Int → Int64} {Q : Option MV → MM → Prop} {s : ST} (hL : L ≤ 2560) (hn : 5 * n + 5 ≤ L) (hw : wfS s) (hb : sB s + 1 < 100000) (hC : CSt R I s) (hM : MSt I s) (hz : I 0 = z0) (hN : NxQ L n b z0 s Q) : wpc 0 80 [vR (some 0), vR (some 3), vR (some 243), vI ((5 * n : Nat) : Int)] [] b (S0 L, R, I, J) Q := by
  refine (w_st (j' := 86) (ls' := [vR (some 0), vR (some 3), vR (some 243), vI ((5 * n : Nat) : Int)]) (st' := [vI (w32 (((5 * n : Nat) : Int) + 1)), vR (some 0), vR (some 3)]) 6 rfl).mpr ?_
  refine (w_iald (n := (L : Int)) rfl (Or.inr rfl) rfl).mpr ?_
  rw [show w32 (((5 * n : Nat) : Int) + 1) = ((5 * n + 1 : Nat) : Int) by rw [w32_eq (by omega) (by omega)]; omega]
  refine ⟨⟨by omega, by omega⟩, ?_⟩
  rw [hz]
  refine (w_cv (k := 0) (j := 87) (ls := [vR (some 0), vR (some 3), vR (some 243), vI ((5 * n : Nat) : Int)]) (st := [vI (z0 ((5 * n + 1 : Nat) : Int)), vR (some 3)]) (ls' := [vR (some 0), vR (some 3), vR (some 243), vI ((5 * n : Nat) : Int)]) (as2 := [vI (z0 ((5 * n + 1 : Nat) : Int))]) (st' := []) (mx := 4) rfl rfl rfl (Nat.le_of_ble_eq_true rfl) (Nat.le_of_ble_eq_true rfl) kz_3 rfl rfl).mpr ?_
  refine d_type hw hC (fun R1 I1 J1 f1 c1 => ?_)
  have hM1 : MSt I1 s := hM.hi (fun a ha => (f1 a (Or.inr ha)).2.1)
  have hz1 : I1 0 = z0 := by rw [(f1 0 (Or.inl rfl)).2.1]; exact hz
  refine (w_st (j' := 94) (ls' := [vR (some 0), vR (some 3), vR (some 243), vI ((5 * n : Nat) : Int)]) (st' := [vI (w32 (((5 * n : Nat) : Int) + 1)), vR (some 0), vR (some 243), vI ((q_type s (z0 ((5 * n + 1 : Nat) : Int))).1)]) 5 rfl).mpr ?_
  refine (w_iald (n := (L : Int)) rfl (Or.inr rfl) rfl).mpr ?_
  rw [show w32 (((5 * n : Nat) : Int) + 1) = ((5 * n + 1 : Nat) : Int) by rw [w32_eq (by omega) (by omega)]; omega]
  refine ⟨⟨by omega, by omega⟩, ?_⟩
  rw [hz1]
  refine (w_cv (k := 0) (j := 95) (ls := [vR (some 0), vR (some 3), vR (some 243), vI ((5 * n : Nat) : Int)]) (st := [vI (z0 ((5 * n + 1 : Nat) : Int)), vR (some 243), vI ((q_type s (z0 ((5 * n + 1 : Nat) : Int))).1)]) (ls' := [vR (some 0), vR (some 3), vR (some 243), vI ((5 * n : Nat) : Int)]) (as2 := [vI (z0 ((5 * n + 1 : Nat) : Int))]) (st' := [vI ((q_type s (z0 ((5 * n + 1 : Nat) : Int))).1)]) (mx := 5) rfl rfl rfl (Nat.le_of_ble_eq_true rfl) (Nat.le_of_ble_eq_true rfl) kz_243 rfl rfl).mpr ?_
  refine m_type hw hM1 (fun I2 J2 m2 fa fj => ?_)
  refine (w_ceq rfl).mpr ?_
  rw [if_pos rfl]
  exact l_fin hN (wf_type hw _) (Nat.le_trans (Nat.le_of_eq (sB_all.2.2.2.1 _)) (Nat.le_succ _)) c1 m2 fa hz1
set_option maxRecDepth 8000 in
theorem l_about {L n : Nat} {b : Nat × Nat} {z0 : Int → Int} {R : Nat → Int → Option Nat} {I : Nat → Int → Int} {J : Nat → Int → Int64} {Q : Option MV → MM → Prop} {s : ST} (hL : L ≤ 2560) (hn : 5 * n + 5 ≤ L) (hw : wfS s) (hb : sB s + 1 < 100000) (hC : CSt R I s) (hM : MSt I s) (hz : I 0 = z0) (hN : NxQ L n b z0 s Q) : wpc 0 101 [vR (some 0), vR (some 3), vR (some 243), vI ((5 * n : Nat) : Int)] [] b (S0 L, R, I, J) Q := by
  refine (w_st (j' := 107) (ls' := [vR (some 0), vR (some 3), vR (some 243), vI ((5 * n : Nat) : Int)]) (st' := [vI (w32 (((5 * n : Nat) : Int) + 1)), vR (some 0), vR (some 3)]) 6 rfl).mpr ?_
  refine (w_iald (n := (L : Int)) rfl (Or.inr rfl) rfl).mpr ?_
  rw [show w32 (((5 * n : Nat) : Int) + 1) = ((5 * n + 1 : Nat) : Int) by rw [w32_eq (by omega) (by omega)]; omega]
  refine ⟨⟨by omega, by omega⟩, ?_⟩
  rw [hz]
  refine (w_st (j' := 112) (ls' := [vR (some 0), vR (some 3), vR (some 243), vI ((5 * n : Nat) : Int)]) (st' := [vI (w32 (((5 * n : Nat) : Int) + 2)), vR (some 0), vI (z0 ((5 * n + 1 : Nat) : Int)), vR (some 3)]) 4 rfl).mpr ?_
  refine (w_iald (n := (L : Int)) rfl (Or.inr rfl) rfl).mpr ?_
  rw [show w32 (((5 * n : Nat) : Int) + 2) = ((5 * n + 2 : Nat) : Int) by rw [w32_eq (by omega) (by omega)]; omega]
  refine ⟨⟨by omega, by omega⟩, ?_⟩
  rw [hz]
  refine (w_cv (k := 0) (j := 113) (ls := [vR (some 0), vR (some 3), vR (some 243), vI ((5 * n : Nat) : Int)]) (st := [vI (z0 ((5 * n + 2 : Nat) : Int)), vI (z0 ((5 * n + 1 : Nat) : Int)), vR (some 3)]) (ls' := [vR (some 0), vR (some 3), vR (some 243), vI ((5 * n : Nat) : Int)]) (as2 := [vI (z0 ((5 * n + 1 : Nat) : Int)), vI (z0 ((5 * n + 2 : Nat) : Int))]) (st' := []) (mx := 3) rfl rfl rfl (Nat.le_of_ble_eq_true rfl) (Nat.le_of_ble_eq_true rfl) kz_3 rfl rfl).mpr ?_
  refine d_about hw hC (fun R1 I1 J1 f1 c1 => ?_)
  have hM1 : MSt I1 s := hM.hi (fun a ha => (f1 a (Or.inr ha)).2.1)
  have hz1 : I1 0 = z0 := by rw [(f1 0 (Or.inl rfl)).2.1]; exact hz
  refine (w_st (j' := 120) (ls' := [vR (some 0), vR (some 3), vR (some 243), vI ((5 * n : Nat) : Int)]) (st' := [vI (w32 (((5 * n : Nat) : Int) + 1)), vR (some 0), vR (some 243), vI ((q_about s (z0 ((5 * n + 1 : Nat) : Int)) (z0 ((5 * n + 2 : Nat) : Int))).1)]) 5 rfl).mpr ?_
  refine (w_iald (n := (L : Int)) rfl (Or.inr rfl) rfl).mpr ?_
  rw [show w32 (((5 * n : Nat) : Int) + 1) = ((5 * n + 1 : Nat) : Int) by rw [w32_eq (by omega) (by omega)]; omega]
  refine ⟨⟨by omega, by omega⟩, ?_⟩
  rw [hz1]
  refine (w_st (j' := 125) (ls' := [vR (some 0), vR (some 3), vR (some 243), vI ((5 * n : Nat) : Int)]) (st' := [vI (w32 (((5 * n : Nat) : Int) + 2)), vR (some 0), vI (z0 ((5 * n + 1 : Nat) : Int)), vR (some 243), vI ((q_about s (z0 ((5 * n + 1 : Nat) : Int)) (z0 ((5 * n + 2 : Nat) : Int))).1)]) 4 rfl).mpr ?_
  refine (w_iald (n := (L : Int)) rfl (Or.inr rfl) rfl).mpr ?_
  rw [show w32 (((5 * n : Nat) : Int) + 2) = ((5 * n + 2 : Nat) : Int) by rw [w32_eq (by omega) (by omega)]; omega]
  refine ⟨⟨by omega, by omega⟩, ?_⟩
  rw [hz1]
  refine (w_cv (k := 0) (j := 126) (ls := [vR (some 0), vR (some 3), vR (some 243), vI ((5 * n : Nat) : Int)]) (st := [vI (z0 ((5 * n + 2 : Nat) : Int)), vI (z0 ((5 * n + 1 : Nat) : Int)), vR (some 243), vI ((q_about s (z0 ((5 * n + 1 : Nat) : Int)) (z0 ((5 * n + 2 : Nat) : Int))).1)]) (ls' := [vR (some 0), vR (some 3), vR (some 243), vI ((5 * n : Nat) : Int)]) (as2 := [vI (z0 ((5 * n + 1 : Nat) : Int)), vI (z0 ((5 * n + 2 : Nat) : Int))]) (st' := [vI ((q_about s (z0 ((5 * n + 1 : Nat) : Int)) (z0 ((5 * n + 2 : Nat) : Int))).1)]) (mx := 3) rfl rfl rfl (Nat.le_of_ble_eq_true rfl) (Nat.le_of_ble_eq_true rfl) kz_243 rfl rfl).mpr ?_
  refine m_about hw hM1 (fun I2 J2 m2 fa fj => ?_)
  refine (w_ceq rfl).mpr ?_
  rw [if_pos rfl]
  exact l_fin hN (hw) (Nat.le_succ _) c1 m2 fa hz1
set_option maxRecDepth 8000 in
theorem l_inst {L n : Nat} {b : Nat × Nat} {z0 : Int → Int} {R : Nat → Int → Option Nat} {I : Nat → Int → Int} {J : Nat → Int → Int64} {Q : Option MV → MM → Prop} {s : ST} (hL : L ≤ 2560) (hn : 5 * n + 5 ≤ L) (hw : wfS s) (hb : sB s + 1 < 100000) (hC : CSt R I s) (hM : MSt I s) (hz : I 0 = z0) (hN : NxQ L n b z0 s Q) : wpc 0 132 [vR (some 0), vR (some 3), vR (some 243), vI ((5 * n : Nat) : Int)] [] b (S0 L, R, I, J) Q := by
  refine (w_st (j' := 138) (ls' := [vR (some 0), vR (some 3), vR (some 243), vI ((5 * n : Nat) : Int)]) (st' := [vI (w32 (((5 * n : Nat) : Int) + 1)), vR (some 0), vR (some 3)]) 6 rfl).mpr ?_
  refine (w_iald (n := (L : Int)) rfl (Or.inr rfl) rfl).mpr ?_
  rw [show w32 (((5 * n : Nat) : Int) + 1) = ((5 * n + 1 : Nat) : Int) by rw [w32_eq (by omega) (by omega)]; omega]
  refine ⟨⟨by omega, by omega⟩, ?_⟩
  rw [hz]
  refine (w_st (j' := 143) (ls' := [vR (some 0), vR (some 3), vR (some 243), vI ((5 * n : Nat) : Int)]) (st' := [vI (w32 (((5 * n : Nat) : Int) + 2)), vR (some 0), vI (z0 ((5 * n + 1 : Nat) : Int)), vR (some 3)]) 4 rfl).mpr ?_
  refine (w_iald (n := (L : Int)) rfl (Or.inr rfl) rfl).mpr ?_
  rw [show w32 (((5 * n : Nat) : Int) + 2) = ((5 * n + 2 : Nat) : Int) by rw [w32_eq (by omega) (by omega)]; omega]
  refine ⟨⟨by omega, by omega⟩, ?_⟩
  rw [hz]
  refine (w_cv (k := 0) (j := 144) (ls := [vR (some 0), vR (some 3), vR (some 243), vI ((5 * n : Nat) : Int)]) (st := [vI (z0 ((5 * n + 2 : Nat) : Int)), vI (z0 ((5 * n + 1 : Nat) : Int)), vR (some 3)]) (ls' := [vR (some 0), vR (some 3), vR (some 243), vI ((5 * n : Nat) : Int)]) (as2 := [vI (z0 ((5 * n + 1 : Nat) : Int)), vI (z0 ((5 * n + 2 : Nat) : Int))]) (st' := []) (mx := 4) rfl rfl rfl (Nat.le_of_ble_eq_true rfl) (Nat.le_of_ble_eq_true rfl) kz_3 rfl rfl).mpr ?_
  refine d_inst hw hC (fun R1 I1 J1 f1 c1 => ?_)
  have hM1 : MSt I1 s := hM.hi (fun a ha => (f1 a (Or.inr ha)).2.1)
  have hz1 : I1 0 = z0 := by rw [(f1 0 (Or.inl rfl)).2.1]; exact hz
  refine (w_st (j' := 151) (ls' := [vR (some 0), vR (some 3), vR (some 243), vI ((5 * n : Nat) : Int)]) (st' := [vI (w32 (((5 * n : Nat) : Int) + 1)), vR (some 0), vR (some 243), vI ((q_inst s (z0 ((5 * n + 1 : Nat) : Int)) (z0 ((5 * n + 2 : Nat) : Int))).1)]) 5 rfl).mpr ?_
  refine (w_iald (n := (L : Int)) rfl (Or.inr rfl) rfl).mpr ?_
  rw [show w32 (((5 * n : Nat) : Int) + 1) = ((5 * n + 1 : Nat) : Int) by rw [w32_eq (by omega) (by omega)]; omega]
  refine ⟨⟨by omega, by omega⟩, ?_⟩
  rw [hz1]
  refine (w_st (j' := 156) (ls' := [vR (some 0), vR (some 3), vR (some 243), vI ((5 * n : Nat) : Int)]) (st' := [vI (w32 (((5 * n : Nat) : Int) + 2)), vR (some 0), vI (z0 ((5 * n + 1 : Nat) : Int)), vR (some 243), vI ((q_inst s (z0 ((5 * n + 1 : Nat) : Int)) (z0 ((5 * n + 2 : Nat) : Int))).1)]) 4 rfl).mpr ?_
  refine (w_iald (n := (L : Int)) rfl (Or.inr rfl) rfl).mpr ?_
  rw [show w32 (((5 * n : Nat) : Int) + 2) = ((5 * n + 2 : Nat) : Int) by rw [w32_eq (by omega) (by omega)]; omega]
  refine ⟨⟨by omega, by omega⟩, ?_⟩
  rw [hz1]
  refine (w_cv (k := 0) (j := 157) (ls := [vR (some 0), vR (some 3), vR (some 243), vI ((5 * n : Nat) : Int)]) (st := [vI (z0 ((5 * n + 2 : Nat) : Int)), vI (z0 ((5 * n + 1 : Nat) : Int)), vR (some 243), vI ((q_inst s (z0 ((5 * n + 1 : Nat) : Int)) (z0 ((5 * n + 2 : Nat) : Int))).1)]) (ls' := [vR (some 0), vR (some 3), vR (some 243), vI ((5 * n : Nat) : Int)]) (as2 := [vI (z0 ((5 * n + 1 : Nat) : Int)), vI (z0 ((5 * n + 2 : Nat) : Int))]) (st' := [vI ((q_inst s (z0 ((5 * n + 1 : Nat) : Int)) (z0 ((5 * n + 2 : Nat) : Int))).1)]) (mx := 3) rfl rfl rfl (Nat.le_of_ble_eq_true rfl) (Nat.le_of_ble_eq_true rfl) kz_243 rfl rfl).mpr ?_
  refine m_inst hw hM1 (fun I2 J2 m2 fa fj => ?_)
  refine (w_ceq rfl).mpr ?_
  rw [if_pos rfl]
  exact l_fin hN (hw) (Nat.le_succ _) c1 m2 fa hz1
set_option maxRecDepth 8000 in
theorem l_as {L n : Nat} {b : Nat × Nat} {z0 : Int → Int} {R : Nat → Int → Option Nat} {I : Nat → Int → Int} {J : Nat → Int → Int64} {Q : Option MV → MM → Prop} {s : ST} (hL : L ≤ 2560) (hn : 5 * n + 5 ≤ L) (hw : wfS s) (hb : sB s + 1 < 100000) (hC : CSt R I s) (hM : MSt I s) (hz : I 0 = z0) (hN : NxQ L n b z0 s Q) : wpc 0 163 [vR (some 0), vR (some 3), vR (some 243), vI ((5 * n : Nat) : Int)] [] b (S0 L, R, I, J) Q := by
  refine (w_st (j' := 169) (ls' := [vR (some 0), vR (some 3), vR (some 243), vI ((5 * n : Nat) : Int)]) (st' := [vI (w32 (((5 * n : Nat) : Int) + 1)), vR (some 0), vR (some 3)]) 6 rfl).mpr ?_
  refine (w_iald (n := (L : Int)) rfl (Or.inr rfl) rfl).mpr ?_
  rw [show w32 (((5 * n : Nat) : Int) + 1) = ((5 * n + 1 : Nat) : Int) by rw [w32_eq (by omega) (by omega)]; omega]
  refine ⟨⟨by omega, by omega⟩, ?_⟩
  rw [hz]
  refine (w_st (j' := 174) (ls' := [vR (some 0), vR (some 3), vR (some 243), vI ((5 * n : Nat) : Int)]) (st' := [vI (w32 (((5 * n : Nat) : Int) + 2)), vR (some 0), vI (z0 ((5 * n + 1 : Nat) : Int)), vR (some 3)]) 4 rfl).mpr ?_
  refine (w_iald (n := (L : Int)) rfl (Or.inr rfl) rfl).mpr ?_
  rw [show w32 (((5 * n : Nat) : Int) + 2) = ((5 * n + 2 : Nat) : Int) by rw [w32_eq (by omega) (by omega)]; omega]
  refine ⟨⟨by omega, by omega⟩, ?_⟩
  rw [hz]
  refine (w_cv (k := 0) (j := 175) (ls := [vR (some 0), vR (some 3), vR (some 243), vI ((5 * n : Nat) : Int)]) (st := [vI (z0 ((5 * n + 2 : Nat) : Int)), vI (z0 ((5 * n + 1 : Nat) : Int)), vR (some 3)]) (ls' := [vR (some 0), vR (some 3), vR (some 243), vI ((5 * n : Nat) : Int)]) (as2 := [vI (z0 ((5 * n + 1 : Nat) : Int)), vI (z0 ((5 * n + 2 : Nat) : Int))]) (st' := []) (mx := 5) rfl rfl rfl (Nat.le_of_ble_eq_true rfl) (Nat.le_of_ble_eq_true rfl) kz_3 rfl rfl).mpr ?_
  refine d_as hw hC (fun R1 I1 J1 f1 c1 => ?_)
  have hM1 : MSt I1 s := hM.hi (fun a ha => (f1 a (Or.inr ha)).2.1)
  have hz1 : I1 0 = z0 := by rw [(f1 0 (Or.inl rfl)).2.1]; exact hz
  refine (w_st (j' := 182) (ls' := [vR (some 0), vR (some 3), vR (some 243), vI ((5 * n : Nat) : Int)]) (st' := [vI (w32 (((5 * n : Nat) : Int) + 1)), vR (some 0), vR (some 243), vI ((q_as s (z0 ((5 * n + 1 : Nat) : Int)) (z0 ((5 * n + 2 : Nat) : Int))).1)]) 5 rfl).mpr ?_
  refine (w_iald (n := (L : Int)) rfl (Or.inr rfl) rfl).mpr ?_
  rw [show w32 (((5 * n : Nat) : Int) + 1) = ((5 * n + 1 : Nat) : Int) by rw [w32_eq (by omega) (by omega)]; omega]
  refine ⟨⟨by omega, by omega⟩, ?_⟩
  rw [hz1]
  refine (w_st (j' := 187) (ls' := [vR (some 0), vR (some 3), vR (some 243), vI ((5 * n : Nat) : Int)]) (st' := [vI (w32 (((5 * n : Nat) : Int) + 2)), vR (some 0), vI (z0 ((5 * n + 1 : Nat) : Int)), vR (some 243), vI ((q_as s (z0 ((5 * n + 1 : Nat) : Int)) (z0 ((5 * n + 2 : Nat) : Int))).1)]) 4 rfl).mpr ?_
  refine (w_iald (n := (L : Int)) rfl (Or.inr rfl) rfl).mpr ?_
  rw [show w32 (((5 * n : Nat) : Int) + 2) = ((5 * n + 2 : Nat) : Int) by rw [w32_eq (by omega) (by omega)]; omega]
  refine ⟨⟨by omega, by omega⟩, ?_⟩
  rw [hz1]
  refine (w_cv (k := 0) (j := 188) (ls := [vR (some 0), vR (some 3), vR (some 243), vI ((5 * n : Nat) : Int)]) (st := [vI (z0 ((5 * n + 2 : Nat) : Int)), vI (z0 ((5 * n + 1 : Nat) : Int)), vR (some 243), vI ((q_as s (z0 ((5 * n + 1 : Nat) : Int)) (z0 ((5 * n + 2 : Nat) : Int))).1)]) (ls' := [vR (some 0), vR (some 3), vR (some 243), vI ((5 * n : Nat) : Int)]) (as2 := [vI (z0 ((5 * n + 1 : Nat) : Int)), vI (z0 ((5 * n + 2 : Nat) : Int))]) (st' := [vI ((q_as s (z0 ((5 * n + 1 : Nat) : Int)) (z0 ((5 * n + 2 : Nat) : Int))).1)]) (mx := 4) rfl rfl rfl (Nat.le_of_ble_eq_true rfl) (Nat.le_of_ble_eq_true rfl) kz_243 rfl rfl).mpr ?_
  refine m_as hw hM1 (fun I2 J2 m2 fa fj => ?_)
  refine (w_ceq rfl).mpr ?_
  rw [if_pos rfl]
  exact l_fin hN (hw) (Nat.le_succ _) c1 m2 fa hz1
set_option maxRecDepth 8000 in
theorem l_change {L n : Nat} {b : Nat × Nat} {z0 : Int → Int} {R : Nat → Int → Option Nat} {I : Nat → Int → Int} {J : Nat → Int → Int64} {Q : Option MV → MM → Prop} {s : ST} (hL : L ≤ 2560) (hn : 5 * n + 5 ≤ L) (hw : wfS s) (hb : sB s + 1 < 100000) (hC : CSt R I s) (hM : MSt I s) (hz : I 0 = z0) (hN : NxQ L n b z0 s Q) : wpc 0 194 [vR (some 0), vR (some 3), vR (some 243), vI ((5 * n : Nat) : Int)] [] b (S0 L, R, I, J) Q := by
  refine (w_st (j' := 200) (ls' := [vR (some 0), vR (some 3), vR (some 243), vI ((5 * n : Nat) : Int)]) (st' := [vI (w32 (((5 * n : Nat) : Int) + 1)), vR (some 0), vR (some 3)]) 6 rfl).mpr ?_
  refine (w_iald (n := (L : Int)) rfl (Or.inr rfl) rfl).mpr ?_
  rw [show w32 (((5 * n : Nat) : Int) + 1) = ((5 * n + 1 : Nat) : Int) by rw [w32_eq (by omega) (by omega)]; omega]
  refine ⟨⟨by omega, by omega⟩, ?_⟩
  rw [hz]
  refine (w_st (j' := 205) (ls' := [vR (some 0), vR (some 3), vR (some 243), vI ((5 * n : Nat) : Int)]) (st' := [vI (w32 (((5 * n : Nat) : Int) + 2)), vR (some 0), vI (z0 ((5 * n + 1 : Nat) : Int)), vR (some 3)]) 4 rfl).mpr ?_
  refine (w_iald (n := (L : Int)) rfl (Or.inr rfl) rfl).mpr ?_
  rw [show w32 (((5 * n : Nat) : Int) + 2) = ((5 * n + 2 : Nat) : Int) by rw [w32_eq (by omega) (by omega)]; omega]
  refine ⟨⟨by omega, by omega⟩, ?_⟩
  rw [hz]
  refine (w_cv (k := 0) (j := 206) (ls := [vR (some 0), vR (some 3), vR (some 243), vI ((5 * n : Nat) : Int)]) (st := [vI (z0 ((5 * n + 2 : Nat) : Int)), vI (z0 ((5 * n + 1 : Nat) : Int)), vR (some 3)]) (ls' := [vR (some 0), vR (some 3), vR (some 243), vI ((5 * n : Nat) : Int)]) (as2 := [vI (z0 ((5 * n + 1 : Nat) : Int)), vI (z0 ((5 * n + 2 : Nat) : Int))]) (st' := []) (mx := 4) rfl rfl rfl (Nat.le_of_ble_eq_true rfl) (Nat.le_of_ble_eq_true rfl) kz_3 rfl rfl).mpr ?_
  refine d_change hw hC (fun R1 I1 J1 f1 c1 => ?_)
  have hM1 : MSt I1 s := hM.hi (fun a ha => (f1 a (Or.inr ha)).2.1)
  have hz1 : I1 0 = z0 := by rw [(f1 0 (Or.inl rfl)).2.1]; exact hz
  refine (w_st (j' := 213) (ls' := [vR (some 0), vR (some 3), vR (some 243), vI ((5 * n : Nat) : Int)]) (st' := [vI (w32 (((5 * n : Nat) : Int) + 1)), vR (some 0), vR (some 243), vI ((q_change s (z0 ((5 * n + 1 : Nat) : Int)) (z0 ((5 * n + 2 : Nat) : Int))).1)]) 5 rfl).mpr ?_
  refine (w_iald (n := (L : Int)) rfl (Or.inr rfl) rfl).mpr ?_
  rw [show w32 (((5 * n : Nat) : Int) + 1) = ((5 * n + 1 : Nat) : Int) by rw [w32_eq (by omega) (by omega)]; omega]
  refine ⟨⟨by omega, by omega⟩, ?_⟩
  rw [hz1]
  refine (w_st (j' := 218) (ls' := [vR (some 0), vR (some 3), vR (some 243), vI ((5 * n : Nat) : Int)]) (st' := [vI (w32 (((5 * n : Nat) : Int) + 2)), vR (some 0), vI (z0 ((5 * n + 1 : Nat) : Int)), vR (some 243), vI ((q_change s (z0 ((5 * n + 1 : Nat) : Int)) (z0 ((5 * n + 2 : Nat) : Int))).1)]) 4 rfl).mpr ?_
  refine (w_iald (n := (L : Int)) rfl (Or.inr rfl) rfl).mpr ?_
  rw [show w32 (((5 * n : Nat) : Int) + 2) = ((5 * n + 2 : Nat) : Int) by rw [w32_eq (by omega) (by omega)]; omega]
  refine ⟨⟨by omega, by omega⟩, ?_⟩
  rw [hz1]
  refine (w_cv (k := 0) (j := 219) (ls := [vR (some 0), vR (some 3), vR (some 243), vI ((5 * n : Nat) : Int)]) (st := [vI (z0 ((5 * n + 2 : Nat) : Int)), vI (z0 ((5 * n + 1 : Nat) : Int)), vR (some 243), vI ((q_change s (z0 ((5 * n + 1 : Nat) : Int)) (z0 ((5 * n + 2 : Nat) : Int))).1)]) (ls' := [vR (some 0), vR (some 3), vR (some 243), vI ((5 * n : Nat) : Int)]) (as2 := [vI (z0 ((5 * n + 1 : Nat) : Int)), vI (z0 ((5 * n + 2 : Nat) : Int))]) (st' := [vI ((q_change s (z0 ((5 * n + 1 : Nat) : Int)) (z0 ((5 * n + 2 : Nat) : Int))).1)]) (mx := 4) rfl rfl rfl (Nat.le_of_ble_eq_true rfl) (Nat.le_of_ble_eq_true rfl) kz_243 rfl rfl).mpr ?_
  refine m_change hw hM1 (fun I2 J2 m2 fa fj => ?_)
  refine (w_ceq rfl).mpr ?_
  rw [if_pos rfl]
  exact l_fin hN (wf_change hw _ _) (Nat.le_trans (Nat.le_of_eq (sB_all.2.2.2.2.1 _ _)) (Nat.le_succ _)) c1 m2 fa hz1
set_option maxRecDepth 8000 in
theorem l_pair {L n : Nat} {b : Nat × Nat} {z0 : Int → Int} {R : Nat → Int → Option Nat} {I : Nat → Int → Int} {J : Nat → Int → Int64} {Q : Option MV → MM → Prop} {s : ST} (hL : L ≤ 2560) (hn : 5 * n + 5 ≤ L) (hw : wfS s) (hb : sB s + 1 < 100000) (hC : CSt R I s) (hM : MSt I s) (hz : I 0 = z0) (hN : NxQ L n b z0 s Q) : wpc 0 225 [vR (some 0), vR (some 3), vR (some 243), vI ((5 * n : Nat) : Int)] [] b (S0 L, R, I, J) Q := by
  refine (w_st (j' := 231) (ls' := [vR (some 0), vR (some 3), vR (some 243), vI ((5 * n : Nat) : Int)]) (st' := [vI (w32 (((5 * n : Nat) : Int) + 1)), vR (some 0), vR (some 3)]) 6 rfl).mpr ?_
  refine (w_iald (n := (L : Int)) rfl (Or.inr rfl) rfl).mpr ?_
  rw [show w32 (((5 * n : Nat) : Int) + 1) = ((5 * n + 1 : Nat) : Int) by rw [w32_eq (by omega) (by omega)]; omega]
  refine ⟨⟨by omega, by omega⟩, ?_⟩
  rw [hz]
  refine (w_st (j' := 236) (ls' := [vR (some 0), vR (some 3), vR (some 243), vI ((5 * n : Nat) : Int)]) (st' := [vI (w32 (((5 * n : Nat) : Int) + 2)), vR (some 0), vI (z0 ((5 * n + 1 : Nat) : Int)), vR (some 3)]) 4 rfl).mpr ?_
  refine (w_iald (n := (L : Int)) rfl (Or.inr rfl) rfl).mpr ?_
  rw [show w32 (((5 * n : Nat) : Int) + 2) = ((5 * n + 2 : Nat) : Int) by rw [w32_eq (by omega) (by omega)]; omega]
  refine ⟨⟨by omega, by omega⟩, ?_⟩
  rw [hz]
  refine (w_st (j' := 241) (ls' := [vR (some 0), vR (some 3), vR (some 243), vI ((5 * n : Nat) : Int)]) (st' := [vI (w32 (((5 * n : Nat) : Int) + 3)), vR (some 0), vI (z0 ((5 * n + 2 : Nat) : Int)), vI (z0 ((5 * n + 1 : Nat) : Int)), vR (some 3)]) 4 rfl).mpr ?_
  refine (w_iald (n := (L : Int)) rfl (Or.inr rfl) rfl).mpr ?_
  rw [show w32 (((5 * n : Nat) : Int) + 3) = ((5 * n + 3 : Nat) : Int) by rw [w32_eq (by omega) (by omega)]; omega]
  refine ⟨⟨by omega, by omega⟩, ?_⟩
  rw [hz]
  refine (w_cv (k := 0) (j := 242) (ls := [vR (some 0), vR (some 3), vR (some 243), vI ((5 * n : Nat) : Int)]) (st := [vI (z0 ((5 * n + 3 : Nat) : Int)), vI (z0 ((5 * n + 2 : Nat) : Int)), vI (z0 ((5 * n + 1 : Nat) : Int)), vR (some 3)]) (ls' := [vR (some 0), vR (some 3), vR (some 243), vI ((5 * n : Nat) : Int)]) (as2 := [vI (z0 ((5 * n + 1 : Nat) : Int)), vI (z0 ((5 * n + 2 : Nat) : Int)), vI (z0 ((5 * n + 3 : Nat) : Int))]) (st' := []) (mx := 4) rfl rfl rfl (Nat.le_of_ble_eq_true rfl) (Nat.le_of_ble_eq_true rfl) kz_3 rfl rfl).mpr ?_
  refine d_pair hw hC (fun R1 I1 J1 f1 c1 => ?_)
  have hM1 : MSt I1 s := hM.hi (fun a ha => (f1 a (Or.inr ha)).2.1)
  have hz1 : I1 0 = z0 := by rw [(f1 0 (Or.inl rfl)).2.1]; exact hz
  refine (w_st (j' := 249) (ls' := [vR (some 0), vR (some 3), vR (some 243), vI ((5 * n : Nat) : Int)]) (st' := [vI (w32 (((5 * n : Nat) : Int) + 1)), vR (some 0), vR (some 243), vI ((q_pair s (z0 ((5 * n + 1 : Nat) : Int)) (z0 ((5 * n + 2 : Nat) : Int)) (z0 ((5 * n + 3 : Nat) : Int))).1)]) 5 rfl).mpr ?_
  refine (w_iald (n := (L : Int)) rfl (Or.inr rfl) rfl).mpr ?_
  rw [show w32 (((5 * n : Nat) : Int) + 1) = ((5 * n + 1 : Nat) : Int) by rw [w32_eq (by omega) (by omega)]; omega]
  refine ⟨⟨by omega, by omega⟩, ?_⟩
  rw [hz1]
  refine (w_st (j' := 254) (ls' := [vR (some 0), vR (some 3), vR (some 243), vI ((5 * n : Nat) : Int)]) (st' := [vI (w32 (((5 * n : Nat) : Int) + 2)), vR (some 0), vI (z0 ((5 * n + 1 : Nat) : Int)), vR (some 243), vI ((q_pair s (z0 ((5 * n + 1 : Nat) : Int)) (z0 ((5 * n + 2 : Nat) : Int)) (z0 ((5 * n + 3 : Nat) : Int))).1)]) 4 rfl).mpr ?_
  refine (w_iald (n := (L : Int)) rfl (Or.inr rfl) rfl).mpr ?_
  rw [show w32 (((5 * n : Nat) : Int) + 2) = ((5 * n + 2 : Nat) : Int) by rw [w32_eq (by omega) (by omega)]; omega]
  refine ⟨⟨by omega, by omega⟩, ?_⟩
  rw [hz1]
  refine (w_st (j' := 259) (ls' := [vR (some 0), vR (some 3), vR (some 243), vI ((5 * n : Nat) : Int)]) (st' := [vI (w32 (((5 * n : Nat) : Int) + 3)), vR (some 0), vI (z0 ((5 * n + 2 : Nat) : Int)), vI (z0 ((5 * n + 1 : Nat) : Int)), vR (some 243), vI ((q_pair s (z0 ((5 * n + 1 : Nat) : Int)) (z0 ((5 * n + 2 : Nat) : Int)) (z0 ((5 * n + 3 : Nat) : Int))).1)]) 4 rfl).mpr ?_
  refine (w_iald (n := (L : Int)) rfl (Or.inr rfl) rfl).mpr ?_
  rw [show w32 (((5 * n : Nat) : Int) + 3) = ((5 * n + 3 : Nat) : Int) by rw [w32_eq (by omega) (by omega)]; omega]
  refine ⟨⟨by omega, by omega⟩, ?_⟩
  rw [hz1]
  refine (w_cv (k := 0) (j := 260) (ls := [vR (some 0), vR (some 3), vR (some 243), vI ((5 * n : Nat) : Int)]) (st := [vI (z0 ((5 * n + 3 : Nat) : Int)), vI (z0 ((5 * n + 2 : Nat) : Int)), vI (z0 ((5 * n + 1 : Nat) : Int)), vR (some 243), vI ((q_pair s (z0 ((5 * n + 1 : Nat) : Int)) (z0 ((5 * n + 2 : Nat) : Int)) (z0 ((5 * n + 3 : Nat) : Int))).1)]) (ls' := [vR (some 0), vR (some 3), vR (some 243), vI ((5 * n : Nat) : Int)]) (as2 := [vI (z0 ((5 * n + 1 : Nat) : Int)), vI (z0 ((5 * n + 2 : Nat) : Int)), vI (z0 ((5 * n + 3 : Nat) : Int))]) (st' := [vI ((q_pair s (z0 ((5 * n + 1 : Nat) : Int)) (z0 ((5 * n + 2 : Nat) : Int)) (z0 ((5 * n + 3 : Nat) : Int))).1)]) (mx := 4) rfl rfl rfl (Nat.le_of_ble_eq_true rfl) (Nat.le_of_ble_eq_true rfl) kz_243 rfl rfl).mpr ?_
  refine m_pair hw hM1 (uniOK_of hw.2.2.2.1) (fun I2 J2 m2 fa fj => ?_)
  refine (w_ceq rfl).mpr ?_
  rw [if_pos rfl]
  exact l_fin hN (hw) (Nat.le_succ _) c1 m2 fa hz1
set_option maxRecDepth 8000 in
theorem l_fits {L n : Nat} {b : Nat × Nat} {z0 : Int → Int} {R : Nat → Int → Option Nat} {I : Nat → Int → Int} {J : Nat → Int → Int64} {Q : Option MV → MM → Prop} {s : ST} (hL : L ≤ 2560) (hn : 5 * n + 5 ≤ L) (hw : wfS s) (hb : sB s + 1 < 100000) (hC : CSt R I s) (hM : MSt I s) (hz : I 0 = z0) (hN : NxQ L n b z0 s Q) : wpc 0 266 [vR (some 0), vR (some 3), vR (some 243), vI ((5 * n : Nat) : Int)] [] b (S0 L, R, I, J) Q := by
  refine (w_st (j' := 272) (ls' := [vR (some 0), vR (some 3), vR (some 243), vI ((5 * n : Nat) : Int)]) (st' := [vI (w32 (((5 * n : Nat) : Int) + 1)), vR (some 0), vR (some 3)]) 6 rfl).mpr ?_
  refine (w_iald (n := (L : Int)) rfl (Or.inr rfl) rfl).mpr ?_
  rw [show w32 (((5 * n : Nat) : Int) + 1) = ((5 * n + 1 : Nat) : Int) by rw [w32_eq (by omega) (by omega)]; omega]
  refine ⟨⟨by omega, by omega⟩, ?_⟩
  rw [hz]
  refine (w_st (j' := 277) (ls' := [vR (some 0), vR (some 3), vR (some 243), vI ((5 * n : Nat) : Int)]) (st' := [vI (w32 (((5 * n : Nat) : Int) + 2)), vR (some 0), vI (z0 ((5 * n + 1 : Nat) : Int)), vR (some 3)]) 4 rfl).mpr ?_
  refine (w_iald (n := (L : Int)) rfl (Or.inr rfl) rfl).mpr ?_
  rw [show w32 (((5 * n : Nat) : Int) + 2) = ((5 * n + 2 : Nat) : Int) by rw [w32_eq (by omega) (by omega)]; omega]
  refine ⟨⟨by omega, by omega⟩, ?_⟩
  rw [hz]
  refine (w_cv (k := 0) (j := 278) (ls := [vR (some 0), vR (some 3), vR (some 243), vI ((5 * n : Nat) : Int)]) (st := [vI (z0 ((5 * n + 2 : Nat) : Int)), vI (z0 ((5 * n + 1 : Nat) : Int)), vR (some 3)]) (ls' := [vR (some 0), vR (some 3), vR (some 243), vI ((5 * n : Nat) : Int)]) (as2 := [vI (z0 ((5 * n + 1 : Nat) : Int)), vI (z0 ((5 * n + 2 : Nat) : Int))]) (st' := []) (mx := 3) rfl rfl rfl (Nat.le_of_ble_eq_true rfl) (Nat.le_of_ble_eq_true rfl) kz_3 rfl rfl).mpr ?_
  refine d_fits hw hC (fun R1 I1 J1 f1 c1 => ?_)
  have hM1 : MSt I1 s := hM.hi (fun a ha => (f1 a (Or.inr ha)).2.1)
  have hz1 : I1 0 = z0 := by rw [(f1 0 (Or.inl rfl)).2.1]; exact hz
  refine (w_st (j' := 285) (ls' := [vR (some 0), vR (some 3), vR (some 243), vI ((5 * n : Nat) : Int)]) (st' := [vI (w32 (((5 * n : Nat) : Int) + 1)), vR (some 0), vR (some 243), vI ((q_fits s (z0 ((5 * n + 1 : Nat) : Int)) (z0 ((5 * n + 2 : Nat) : Int))).1)]) 5 rfl).mpr ?_
  refine (w_iald (n := (L : Int)) rfl (Or.inr rfl) rfl).mpr ?_
  rw [show w32 (((5 * n : Nat) : Int) + 1) = ((5 * n + 1 : Nat) : Int) by rw [w32_eq (by omega) (by omega)]; omega]
  refine ⟨⟨by omega, by omega⟩, ?_⟩
  rw [hz1]
  refine (w_st (j' := 290) (ls' := [vR (some 0), vR (some 3), vR (some 243), vI ((5 * n : Nat) : Int)]) (st' := [vI (w32 (((5 * n : Nat) : Int) + 2)), vR (some 0), vI (z0 ((5 * n + 1 : Nat) : Int)), vR (some 243), vI ((q_fits s (z0 ((5 * n + 1 : Nat) : Int)) (z0 ((5 * n + 2 : Nat) : Int))).1)]) 4 rfl).mpr ?_
  refine (w_iald (n := (L : Int)) rfl (Or.inr rfl) rfl).mpr ?_
  rw [show w32 (((5 * n : Nat) : Int) + 2) = ((5 * n + 2 : Nat) : Int) by rw [w32_eq (by omega) (by omega)]; omega]
  refine ⟨⟨by omega, by omega⟩, ?_⟩
  rw [hz1]
  refine (w_cv (k := 0) (j := 291) (ls := [vR (some 0), vR (some 3), vR (some 243), vI ((5 * n : Nat) : Int)]) (st := [vI (z0 ((5 * n + 2 : Nat) : Int)), vI (z0 ((5 * n + 1 : Nat) : Int)), vR (some 243), vI ((q_fits s (z0 ((5 * n + 1 : Nat) : Int)) (z0 ((5 * n + 2 : Nat) : Int))).1)]) (ls' := [vR (some 0), vR (some 3), vR (some 243), vI ((5 * n : Nat) : Int)]) (as2 := [vI (z0 ((5 * n + 1 : Nat) : Int)), vI (z0 ((5 * n + 2 : Nat) : Int))]) (st' := [vI ((q_fits s (z0 ((5 * n + 1 : Nat) : Int)) (z0 ((5 * n + 2 : Nat) : Int))).1)]) (mx := 3) rfl rfl rfl (Nat.le_of_ble_eq_true rfl) (Nat.le_of_ble_eq_true rfl) kz_243 rfl rfl).mpr ?_
  refine m_fits hw hM1 (fun I2 J2 m2 fa fj => ?_)
  refine (w_ceq rfl).mpr ?_
  rw [if_pos rfl]
  exact l_fin hN (hw) (Nat.le_succ _) c1 m2 fa hz1
set_option maxRecDepth 8000 in
theorem l_goal {L n : Nat} {b : Nat × Nat} {z0 : Int → Int} {R : Nat → Int → Option Nat} {I : Nat → Int → Int} {J : Nat → Int → Int64} {Q : Option MV → MM → Prop} {s : ST} (hL : L ≤ 2560) (hn : 5 * n + 5 ≤ L) (hw : wfS s) (hb : sB s + 1 < 100000) (hC : CSt R I s) (hM : MSt I s) (hz : I 0 = z0) (hN : NxQ L n b z0 s Q) : wpc 0 297 [vR (some 0), vR (some 3), vR (some 243), vI ((5 * n : Nat) : Int)] [] b (S0 L, R, I, J) Q := by
  refine (w_st (j' := 303) (ls' := [vR (some 0), vR (some 3), vR (some 243), vI ((5 * n : Nat) : Int)]) (st' := [vI (w32 (((5 * n : Nat) : Int) + 1)), vR (some 0), vR (some 3)]) 6 rfl).mpr ?_
  refine (w_iald (n := (L : Int)) rfl (Or.inr rfl) rfl).mpr ?_
  rw [show w32 (((5 * n : Nat) : Int) + 1) = ((5 * n + 1 : Nat) : Int) by rw [w32_eq (by omega) (by omega)]; omega]
  refine ⟨⟨by omega, by omega⟩, ?_⟩
  rw [hz]
  refine (w_st (j' := 308) (ls' := [vR (some 0), vR (some 3), vR (some 243), vI ((5 * n : Nat) : Int)]) (st' := [vI (w32 (((5 * n : Nat) : Int) + 2)), vR (some 0), vI (z0 ((5 * n + 1 : Nat) : Int)), vR (some 3)]) 4 rfl).mpr ?_
  refine (w_iald (n := (L : Int)) rfl (Or.inr rfl) rfl).mpr ?_
  rw [show w32 (((5 * n : Nat) : Int) + 2) = ((5 * n + 2 : Nat) : Int) by rw [w32_eq (by omega) (by omega)]; omega]
  refine ⟨⟨by omega, by omega⟩, ?_⟩
  rw [hz]
  refine (w_st (j' := 313) (ls' := [vR (some 0), vR (some 3), vR (some 243), vI ((5 * n : Nat) : Int)]) (st' := [vI (w32 (((5 * n : Nat) : Int) + 3)), vR (some 0), vI (z0 ((5 * n + 2 : Nat) : Int)), vI (z0 ((5 * n + 1 : Nat) : Int)), vR (some 3)]) 4 rfl).mpr ?_
  refine (w_iald (n := (L : Int)) rfl (Or.inr rfl) rfl).mpr ?_
  rw [show w32 (((5 * n : Nat) : Int) + 3) = ((5 * n + 3 : Nat) : Int) by rw [w32_eq (by omega) (by omega)]; omega]
  refine ⟨⟨by omega, by omega⟩, ?_⟩
  rw [hz]
  refine (w_cv (k := 0) (j := 314) (ls := [vR (some 0), vR (some 3), vR (some 243), vI ((5 * n : Nat) : Int)]) (st := [vI (z0 ((5 * n + 3 : Nat) : Int)), vI (z0 ((5 * n + 2 : Nat) : Int)), vI (z0 ((5 * n + 1 : Nat) : Int)), vR (some 3)]) (ls' := [vR (some 0), vR (some 3), vR (some 243), vI ((5 * n : Nat) : Int)]) (as2 := [vI (z0 ((5 * n + 1 : Nat) : Int)), vI (z0 ((5 * n + 2 : Nat) : Int)), vI (z0 ((5 * n + 3 : Nat) : Int))]) (st' := []) (mx := 4) rfl rfl rfl (Nat.le_of_ble_eq_true rfl) (Nat.le_of_ble_eq_true rfl) kz_3 rfl rfl).mpr ?_
  refine d_goal hw hC (fun R1 I1 J1 f1 c1 => ?_)
  have hM1 : MSt I1 s := hM.hi (fun a ha => (f1 a (Or.inr ha)).2.1)
  have hz1 : I1 0 = z0 := by rw [(f1 0 (Or.inl rfl)).2.1]; exact hz
  refine (w_st (j' := 321) (ls' := [vR (some 0), vR (some 3), vR (some 243), vI ((5 * n : Nat) : Int)]) (st' := [vI (w32 (((5 * n : Nat) : Int) + 1)), vR (some 0), vR (some 243), vI ((q_goal s (z0 ((5 * n + 1 : Nat) : Int)) (z0 ((5 * n + 2 : Nat) : Int)) (z0 ((5 * n + 3 : Nat) : Int))).1)]) 5 rfl).mpr ?_
  refine (w_iald (n := (L : Int)) rfl (Or.inr rfl) rfl).mpr ?_
  rw [show w32 (((5 * n : Nat) : Int) + 1) = ((5 * n + 1 : Nat) : Int) by rw [w32_eq (by omega) (by omega)]; omega]
  refine ⟨⟨by omega, by omega⟩, ?_⟩
  rw [hz1]
  refine (w_st (j' := 326) (ls' := [vR (some 0), vR (some 3), vR (some 243), vI ((5 * n : Nat) : Int)]) (st' := [vI (w32 (((5 * n : Nat) : Int) + 2)), vR (some 0), vI (z0 ((5 * n + 1 : Nat) : Int)), vR (some 243), vI ((q_goal s (z0 ((5 * n + 1 : Nat) : Int)) (z0 ((5 * n + 2 : Nat) : Int)) (z0 ((5 * n + 3 : Nat) : Int))).1)]) 4 rfl).mpr ?_
  refine (w_iald (n := (L : Int)) rfl (Or.inr rfl) rfl).mpr ?_
  rw [show w32 (((5 * n : Nat) : Int) + 2) = ((5 * n + 2 : Nat) : Int) by rw [w32_eq (by omega) (by omega)]; omega]
  refine ⟨⟨by omega, by omega⟩, ?_⟩
  rw [hz1]
  refine (w_st (j' := 331) (ls' := [vR (some 0), vR (some 3), vR (some 243), vI ((5 * n : Nat) : Int)]) (st' := [vI (w32 (((5 * n : Nat) : Int) + 3)), vR (some 0), vI (z0 ((5 * n + 2 : Nat) : Int)), vI (z0 ((5 * n + 1 : Nat) : Int)), vR (some 243), vI ((q_goal s (z0 ((5 * n + 1 : Nat) : Int)) (z0 ((5 * n + 2 : Nat) : Int)) (z0 ((5 * n + 3 : Nat) : Int))).1)]) 4 rfl).mpr ?_
  refine (w_iald (n := (L : Int)) rfl (Or.inr rfl) rfl).mpr ?_
  rw [show w32 (((5 * n : Nat) : Int) + 3) = ((5 * n + 3 : Nat) : Int) by rw [w32_eq (by omega) (by omega)]; omega]
  refine ⟨⟨by omega, by omega⟩, ?_⟩
  rw [hz1]
  refine (w_cv (k := 0) (j := 332) (ls := [vR (some 0), vR (some 3), vR (some 243), vI ((5 * n : Nat) : Int)]) (st := [vI (z0 ((5 * n + 3 : Nat) : Int)), vI (z0 ((5 * n + 2 : Nat) : Int)), vI (z0 ((5 * n + 1 : Nat) : Int)), vR (some 243), vI ((q_goal s (z0 ((5 * n + 1 : Nat) : Int)) (z0 ((5 * n + 2 : Nat) : Int)) (z0 ((5 * n + 3 : Nat) : Int))).1)]) (ls' := [vR (some 0), vR (some 3), vR (some 243), vI ((5 * n : Nat) : Int)]) (as2 := [vI (z0 ((5 * n + 1 : Nat) : Int)), vI (z0 ((5 * n + 2 : Nat) : Int)), vI (z0 ((5 * n + 3 : Nat) : Int))]) (st' := [vI ((q_goal s (z0 ((5 * n + 1 : Nat) : Int)) (z0 ((5 * n + 2 : Nat) : Int)) (z0 ((5 * n + 3 : Nat) : Int))).1)]) (mx := 4) rfl rfl rfl (Nat.le_of_ble_eq_true rfl) (Nat.le_of_ble_eq_true rfl) kz_243 rfl rfl).mpr ?_
  refine m_goal hw hM1 (fun I2 J2 m2 fa fj => ?_)
  refine (w_ceq rfl).mpr ?_
  rw [if_pos rfl]
  exact l_fin hN (hw) (Nat.le_succ _) c1 m2 fa hz1
set_option maxRecDepth 8000 in
theorem l_entry {L n : Nat} {b : Nat × Nat} {z0 : Int → Int} {R : Nat → Int → Option Nat} {I : Nat → Int → Int} {J : Nat → Int → Int64} {Q : Option MV → MM → Prop} {s : ST} (hL : L ≤ 2560) (hn : 5 * n + 5 ≤ L) (hw : wfS s) (hb : sB s + 1 < 100000) (hC : CSt R I s) (hM : MSt I s) (hz : I 0 = z0) (hN : NxQ L n b z0 s Q) : wpc 0 338 [vR (some 0), vR (some 3), vR (some 243), vI ((5 * n : Nat) : Int)] [] b (S0 L, R, I, J) Q := by
  refine (w_st (j' := 344) (ls' := [vR (some 0), vR (some 3), vR (some 243), vI ((5 * n : Nat) : Int)]) (st' := [vI (w32 (((5 * n : Nat) : Int) + 1)), vR (some 0), vR (some 3)]) 6 rfl).mpr ?_
  refine (w_iald (n := (L : Int)) rfl (Or.inr rfl) rfl).mpr ?_
  rw [show w32 (((5 * n : Nat) : Int) + 1) = ((5 * n + 1 : Nat) : Int) by rw [w32_eq (by omega) (by omega)]; omega]
  refine ⟨⟨by omega, by omega⟩, ?_⟩
  rw [hz]
  refine (w_st (j' := 349) (ls' := [vR (some 0), vR (some 3), vR (some 243), vI ((5 * n : Nat) : Int)]) (st' := [vI (w32 (((5 * n : Nat) : Int) + 2)), vR (some 0), vI (z0 ((5 * n + 1 : Nat) : Int)), vR (some 3)]) 4 rfl).mpr ?_
  refine (w_iald (n := (L : Int)) rfl (Or.inr rfl) rfl).mpr ?_
  rw [show w32 (((5 * n : Nat) : Int) + 2) = ((5 * n + 2 : Nat) : Int) by rw [w32_eq (by omega) (by omega)]; omega]
  refine ⟨⟨by omega, by omega⟩, ?_⟩
  rw [hz]
  refine (w_st (j' := 354) (ls' := [vR (some 0), vR (some 3), vR (some 243), vI ((5 * n : Nat) : Int)]) (st' := [vI (w32 (((5 * n : Nat) : Int) + 3)), vR (some 0), vI (z0 ((5 * n + 2 : Nat) : Int)), vI (z0 ((5 * n + 1 : Nat) : Int)), vR (some 3)]) 4 rfl).mpr ?_
  refine (w_iald (n := (L : Int)) rfl (Or.inr rfl) rfl).mpr ?_
  rw [show w32 (((5 * n : Nat) : Int) + 3) = ((5 * n + 3 : Nat) : Int) by rw [w32_eq (by omega) (by omega)]; omega]
  refine ⟨⟨by omega, by omega⟩, ?_⟩
  rw [hz]
  refine (w_cv (k := 0) (j := 355) (ls := [vR (some 0), vR (some 3), vR (some 243), vI ((5 * n : Nat) : Int)]) (st := [vI (z0 ((5 * n + 3 : Nat) : Int)), vI (z0 ((5 * n + 2 : Nat) : Int)), vI (z0 ((5 * n + 1 : Nat) : Int)), vR (some 3)]) (ls' := [vR (some 0), vR (some 3), vR (some 243), vI ((5 * n : Nat) : Int)]) (as2 := [vI (z0 ((5 * n + 1 : Nat) : Int)), vI (z0 ((5 * n + 2 : Nat) : Int)), vI (z0 ((5 * n + 3 : Nat) : Int))]) (st' := []) (mx := 5) rfl rfl rfl (Nat.le_of_ble_eq_true rfl) (Nat.le_of_ble_eq_true rfl) kz_3 rfl rfl).mpr ?_
  refine d_entry hw hC (fun R1 I1 J1 f1 c1 => ?_)
  have hM1 : MSt I1 s := hM.hi (fun a ha => (f1 a (Or.inr ha)).2.1)
  have hz1 : I1 0 = z0 := by rw [(f1 0 (Or.inl rfl)).2.1]; exact hz
  refine (w_st (j' := 362) (ls' := [vR (some 0), vR (some 3), vR (some 243), vI ((5 * n : Nat) : Int)]) (st' := [vI (w32 (((5 * n : Nat) : Int) + 1)), vR (some 0), vR (some 243), vI ((q_entry s (z0 ((5 * n + 1 : Nat) : Int)) (z0 ((5 * n + 2 : Nat) : Int)) (z0 ((5 * n + 3 : Nat) : Int))).1)]) 5 rfl).mpr ?_
  refine (w_iald (n := (L : Int)) rfl (Or.inr rfl) rfl).mpr ?_
  rw [show w32 (((5 * n : Nat) : Int) + 1) = ((5 * n + 1 : Nat) : Int) by rw [w32_eq (by omega) (by omega)]; omega]
  refine ⟨⟨by omega, by omega⟩, ?_⟩
  rw [hz1]
  refine (w_st (j' := 367) (ls' := [vR (some 0), vR (some 3), vR (some 243), vI ((5 * n : Nat) : Int)]) (st' := [vI (w32 (((5 * n : Nat) : Int) + 2)), vR (some 0), vI (z0 ((5 * n + 1 : Nat) : Int)), vR (some 243), vI ((q_entry s (z0 ((5 * n + 1 : Nat) : Int)) (z0 ((5 * n + 2 : Nat) : Int)) (z0 ((5 * n + 3 : Nat) : Int))).1)]) 4 rfl).mpr ?_
  refine (w_iald (n := (L : Int)) rfl (Or.inr rfl) rfl).mpr ?_
  rw [show w32 (((5 * n : Nat) : Int) + 2) = ((5 * n + 2 : Nat) : Int) by rw [w32_eq (by omega) (by omega)]; omega]
  refine ⟨⟨by omega, by omega⟩, ?_⟩
  rw [hz1]
  refine (w_st (j' := 372) (ls' := [vR (some 0), vR (some 3), vR (some 243), vI ((5 * n : Nat) : Int)]) (st' := [vI (w32 (((5 * n : Nat) : Int) + 3)), vR (some 0), vI (z0 ((5 * n + 2 : Nat) : Int)), vI (z0 ((5 * n + 1 : Nat) : Int)), vR (some 243), vI ((q_entry s (z0 ((5 * n + 1 : Nat) : Int)) (z0 ((5 * n + 2 : Nat) : Int)) (z0 ((5 * n + 3 : Nat) : Int))).1)]) 4 rfl).mpr ?_
  refine (w_iald (n := (L : Int)) rfl (Or.inr rfl) rfl).mpr ?_
  rw [show w32 (((5 * n : Nat) : Int) + 3) = ((5 * n + 3 : Nat) : Int) by rw [w32_eq (by omega) (by omega)]; omega]
  refine ⟨⟨by omega, by omega⟩, ?_⟩
  rw [hz1]
  refine (w_cv (k := 0) (j := 373) (ls := [vR (some 0), vR (some 3), vR (some 243), vI ((5 * n : Nat) : Int)]) (st := [vI (z0 ((5 * n + 3 : Nat) : Int)), vI (z0 ((5 * n + 2 : Nat) : Int)), vI (z0 ((5 * n + 1 : Nat) : Int)), vR (some 243), vI ((q_entry s (z0 ((5 * n + 1 : Nat) : Int)) (z0 ((5 * n + 2 : Nat) : Int)) (z0 ((5 * n + 3 : Nat) : Int))).1)]) (ls' := [vR (some 0), vR (some 3), vR (some 243), vI ((5 * n : Nat) : Int)]) (as2 := [vI (z0 ((5 * n + 1 : Nat) : Int)), vI (z0 ((5 * n + 2 : Nat) : Int)), vI (z0 ((5 * n + 3 : Nat) : Int))]) (st' := [vI ((q_entry s (z0 ((5 * n + 1 : Nat) : Int)) (z0 ((5 * n + 2 : Nat) : Int)) (z0 ((5 * n + 3 : Nat) : Int))).1)]) (mx := 5) rfl rfl rfl (Nat.le_of_ble_eq_true rfl) (Nat.le_of_ble_eq_true rfl) kz_243 rfl rfl).mpr ?_
  refine m_entry hw hM1 (fun I2 J2 m2 fa fj => ?_)
  refine (w_ceq rfl).mpr ?_
  rw [if_pos rfl]
  exact l_fin hN (hw) (Nat.le_succ _) c1 m2 fa hz1
set_option maxRecDepth 8000 in
theorem l_need {L n : Nat} {b : Nat × Nat} {z0 : Int → Int} {R : Nat → Int → Option Nat} {I : Nat → Int → Int} {J : Nat → Int → Int64} {Q : Option MV → MM → Prop} {s : ST} (hL : L ≤ 2560) (hn : 5 * n + 5 ≤ L) (hw : wfS s) (hb : sB s + 1 < 100000) (hC : CSt R I s) (hM : MSt I s) (hz : I 0 = z0) (hN : NxQ L n b z0 s Q) : wpc 0 379 [vR (some 0), vR (some 3), vR (some 243), vI ((5 * n : Nat) : Int)] [] b (S0 L, R, I, J) Q := by
  refine (w_st (j' := 385) (ls' := [vR (some 0), vR (some 3), vR (some 243), vI ((5 * n : Nat) : Int)]) (st' := [vI (w32 (((5 * n : Nat) : Int) + 1)), vR (some 0), vR (some 3)]) 6 rfl).mpr ?_
  refine (w_iald (n := (L : Int)) rfl (Or.inr rfl) rfl).mpr ?_
  rw [show w32 (((5 * n : Nat) : Int) + 1) = ((5 * n + 1 : Nat) : Int) by rw [w32_eq (by omega) (by omega)]; omega]
  refine ⟨⟨by omega, by omega⟩, ?_⟩
  rw [hz]
  refine (w_st (j' := 390) (ls' := [vR (some 0), vR (some 3), vR (some 243), vI ((5 * n : Nat) : Int)]) (st' := [vI (w32 (((5 * n : Nat) : Int) + 2)), vR (some 0), vI (z0 ((5 * n + 1 : Nat) : Int)), vR (some 3)]) 4 rfl).mpr ?_
  refine (w_iald (n := (L : Int)) rfl (Or.inr rfl) rfl).mpr ?_
  rw [show w32 (((5 * n : Nat) : Int) + 2) = ((5 * n + 2 : Nat) : Int) by rw [w32_eq (by omega) (by omega)]; omega]
  refine ⟨⟨by omega, by omega⟩, ?_⟩
  rw [hz]
  refine (w_st (j' := 395) (ls' := [vR (some 0), vR (some 3), vR (some 243), vI ((5 * n : Nat) : Int)]) (st' := [vI (w32 (((5 * n : Nat) : Int) + 3)), vR (some 0), vI (z0 ((5 * n + 2 : Nat) : Int)), vI (z0 ((5 * n + 1 : Nat) : Int)), vR (some 3)]) 4 rfl).mpr ?_
  refine (w_iald (n := (L : Int)) rfl (Or.inr rfl) rfl).mpr ?_
  rw [show w32 (((5 * n : Nat) : Int) + 3) = ((5 * n + 3 : Nat) : Int) by rw [w32_eq (by omega) (by omega)]; omega]
  refine ⟨⟨by omega, by omega⟩, ?_⟩
  rw [hz]
  refine (w_st (j' := 400) (ls' := [vR (some 0), vR (some 3), vR (some 243), vI ((5 * n : Nat) : Int)]) (st' := [vI (w32 (((5 * n : Nat) : Int) + 4)), vR (some 0), vI (z0 ((5 * n + 3 : Nat) : Int)), vI (z0 ((5 * n + 2 : Nat) : Int)), vI (z0 ((5 * n + 1 : Nat) : Int)), vR (some 3)]) 4 rfl).mpr ?_
  refine (w_iald (n := (L : Int)) rfl (Or.inr rfl) rfl).mpr ?_
  rw [show w32 (((5 * n : Nat) : Int) + 4) = ((5 * n + 4 : Nat) : Int) by rw [w32_eq (by omega) (by omega)]; omega]
  refine ⟨⟨by omega, by omega⟩, ?_⟩
  rw [hz]
  refine (w_cv (k := 0) (j := 401) (ls := [vR (some 0), vR (some 3), vR (some 243), vI ((5 * n : Nat) : Int)]) (st := [vI (z0 ((5 * n + 4 : Nat) : Int)), vI (z0 ((5 * n + 3 : Nat) : Int)), vI (z0 ((5 * n + 2 : Nat) : Int)), vI (z0 ((5 * n + 1 : Nat) : Int)), vR (some 3)]) (ls' := [vR (some 0), vR (some 3), vR (some 243), vI ((5 * n : Nat) : Int)]) (as2 := [vI (z0 ((5 * n + 1 : Nat) : Int)), vI (z0 ((5 * n + 2 : Nat) : Int)), vI (z0 ((5 * n + 3 : Nat) : Int)), vI (z0 ((5 * n + 4 : Nat) : Int))]) (st' := []) (mx := 7) rfl rfl rfl (Nat.le_of_ble_eq_true rfl) (Nat.le_of_ble_eq_true rfl) kz_3 rfl rfl).mpr ?_
  refine d_need hw hC (fun R1 I1 J1 f1 c1 => ?_)
  have hM1 : MSt I1 s := hM.hi (fun a ha => (f1 a (Or.inr ha)).2.1)
  have hz1 : I1 0 = z0 := by rw [(f1 0 (Or.inl rfl)).2.1]; exact hz
  refine (w_st (j' := 408) (ls' := [vR (some 0), vR (some 3), vR (some 243), vI ((5 * n : Nat) : Int)]) (st' := [vI (w32 (((5 * n : Nat) : Int) + 1)), vR (some 0), vR (some 243), vI ((q_need s (z0 ((5 * n + 1 : Nat) : Int)) (z0 ((5 * n + 2 : Nat) : Int)) (z0 ((5 * n + 3 : Nat) : Int)) (z0 ((5 * n + 4 : Nat) : Int))).1)]) 5 rfl).mpr ?_
  refine (w_iald (n := (L : Int)) rfl (Or.inr rfl) rfl).mpr ?_
  rw [show w32 (((5 * n : Nat) : Int) + 1) = ((5 * n + 1 : Nat) : Int) by rw [w32_eq (by omega) (by omega)]; omega]
  refine ⟨⟨by omega, by omega⟩, ?_⟩
  rw [hz1]
  refine (w_st (j' := 413) (ls' := [vR (some 0), vR (some 3), vR (some 243), vI ((5 * n : Nat) : Int)]) (st' := [vI (w32 (((5 * n : Nat) : Int) + 2)), vR (some 0), vI (z0 ((5 * n + 1 : Nat) : Int)), vR (some 243), vI ((q_need s (z0 ((5 * n + 1 : Nat) : Int)) (z0 ((5 * n + 2 : Nat) : Int)) (z0 ((5 * n + 3 : Nat) : Int)) (z0 ((5 * n + 4 : Nat) : Int))).1)]) 4 rfl).mpr ?_
  refine (w_iald (n := (L : Int)) rfl (Or.inr rfl) rfl).mpr ?_
  rw [show w32 (((5 * n : Nat) : Int) + 2) = ((5 * n + 2 : Nat) : Int) by rw [w32_eq (by omega) (by omega)]; omega]
  refine ⟨⟨by omega, by omega⟩, ?_⟩
  rw [hz1]
  refine (w_st (j' := 418) (ls' := [vR (some 0), vR (some 3), vR (some 243), vI ((5 * n : Nat) : Int)]) (st' := [vI (w32 (((5 * n : Nat) : Int) + 3)), vR (some 0), vI (z0 ((5 * n + 2 : Nat) : Int)), vI (z0 ((5 * n + 1 : Nat) : Int)), vR (some 243), vI ((q_need s (z0 ((5 * n + 1 : Nat) : Int)) (z0 ((5 * n + 2 : Nat) : Int)) (z0 ((5 * n + 3 : Nat) : Int)) (z0 ((5 * n + 4 : Nat) : Int))).1)]) 4 rfl).mpr ?_
  refine (w_iald (n := (L : Int)) rfl (Or.inr rfl) rfl).mpr ?_
  rw [show w32 (((5 * n : Nat) : Int) + 3) = ((5 * n + 3 : Nat) : Int) by rw [w32_eq (by omega) (by omega)]; omega]
  refine ⟨⟨by omega, by omega⟩, ?_⟩
  rw [hz1]
  refine (w_st (j' := 423) (ls' := [vR (some 0), vR (some 3), vR (some 243), vI ((5 * n : Nat) : Int)]) (st' := [vI (w32 (((5 * n : Nat) : Int) + 4)), vR (some 0), vI (z0 ((5 * n + 3 : Nat) : Int)), vI (z0 ((5 * n + 2 : Nat) : Int)), vI (z0 ((5 * n + 1 : Nat) : Int)), vR (some 243), vI ((q_need s (z0 ((5 * n + 1 : Nat) : Int)) (z0 ((5 * n + 2 : Nat) : Int)) (z0 ((5 * n + 3 : Nat) : Int)) (z0 ((5 * n + 4 : Nat) : Int))).1)]) 4 rfl).mpr ?_
  refine (w_iald (n := (L : Int)) rfl (Or.inr rfl) rfl).mpr ?_
  rw [show w32 (((5 * n : Nat) : Int) + 4) = ((5 * n + 4 : Nat) : Int) by rw [w32_eq (by omega) (by omega)]; omega]
  refine ⟨⟨by omega, by omega⟩, ?_⟩
  rw [hz1]
  refine (w_cv (k := 0) (j := 424) (ls := [vR (some 0), vR (some 3), vR (some 243), vI ((5 * n : Nat) : Int)]) (st := [vI (z0 ((5 * n + 4 : Nat) : Int)), vI (z0 ((5 * n + 3 : Nat) : Int)), vI (z0 ((5 * n + 2 : Nat) : Int)), vI (z0 ((5 * n + 1 : Nat) : Int)), vR (some 243), vI ((q_need s (z0 ((5 * n + 1 : Nat) : Int)) (z0 ((5 * n + 2 : Nat) : Int)) (z0 ((5 * n + 3 : Nat) : Int)) (z0 ((5 * n + 4 : Nat) : Int))).1)]) (ls' := [vR (some 0), vR (some 3), vR (some 243), vI ((5 * n : Nat) : Int)]) (as2 := [vI (z0 ((5 * n + 1 : Nat) : Int)), vI (z0 ((5 * n + 2 : Nat) : Int)), vI (z0 ((5 * n + 3 : Nat) : Int)), vI (z0 ((5 * n + 4 : Nat) : Int))]) (st' := [vI ((q_need s (z0 ((5 * n + 1 : Nat) : Int)) (z0 ((5 * n + 2 : Nat) : Int)) (z0 ((5 * n + 3 : Nat) : Int)) (z0 ((5 * n + 4 : Nat) : Int))).1)]) (mx := 8) rfl rfl rfl (Nat.le_of_ble_eq_true rfl) (Nat.le_of_ble_eq_true rfl) kz_243 rfl rfl).mpr ?_
  refine m_need hw hM1 (fun I2 J2 m2 fa fj => ?_)
  refine (w_ceq rfl).mpr ?_
  rw [if_pos rfl]
  exact l_fin hN (hw) (Nat.le_succ _) c1 m2 fa hz1
set_option maxRecDepth 8000 in
theorem l_see {L n : Nat} {b : Nat × Nat} {z0 : Int → Int} {R : Nat → Int → Option Nat} {I : Nat → Int → Int} {J : Nat → Int → Int64} {Q : Option MV → MM → Prop} {s : ST} (hL : L ≤ 2560) (hn : 5 * n + 5 ≤ L) (hw : wfS s) (hb : sB s + 1 < 100000) (hC : CSt R I s) (hM : MSt I s) (hz : I 0 = z0) (hN : NxQ L n b z0 s Q) : wpc 0 430 [vR (some 0), vR (some 3), vR (some 243), vI ((5 * n : Nat) : Int)] [] b (S0 L, R, I, J) Q := by
  refine (w_st (j' := 436) (ls' := [vR (some 0), vR (some 3), vR (some 243), vI ((5 * n : Nat) : Int)]) (st' := [vI (w32 (((5 * n : Nat) : Int) + 1)), vR (some 0), vR (some 3)]) 6 rfl).mpr ?_
  refine (w_iald (n := (L : Int)) rfl (Or.inr rfl) rfl).mpr ?_
  rw [show w32 (((5 * n : Nat) : Int) + 1) = ((5 * n + 1 : Nat) : Int) by rw [w32_eq (by omega) (by omega)]; omega]
  refine ⟨⟨by omega, by omega⟩, ?_⟩
  rw [hz]
  refine (w_st (j' := 441) (ls' := [vR (some 0), vR (some 3), vR (some 243), vI ((5 * n : Nat) : Int)]) (st' := [vI (w32 (((5 * n : Nat) : Int) + 2)), vR (some 0), vI (z0 ((5 * n + 1 : Nat) : Int)), vR (some 3)]) 4 rfl).mpr ?_
  refine (w_iald (n := (L : Int)) rfl (Or.inr rfl) rfl).mpr ?_
  rw [show w32 (((5 * n : Nat) : Int) + 2) = ((5 * n + 2 : Nat) : Int) by rw [w32_eq (by omega) (by omega)]; omega]
  refine ⟨⟨by omega, by omega⟩, ?_⟩
  rw [hz]
  refine (w_st (j' := 446) (ls' := [vR (some 0), vR (some 3), vR (some 243), vI ((5 * n : Nat) : Int)]) (st' := [vI (w32 (((5 * n : Nat) : Int) + 3)), vR (some 0), vI (z0 ((5 * n + 2 : Nat) : Int)), vI (z0 ((5 * n + 1 : Nat) : Int)), vR (some 3)]) 4 rfl).mpr ?_
  refine (w_iald (n := (L : Int)) rfl (Or.inr rfl) rfl).mpr ?_
  rw [show w32 (((5 * n : Nat) : Int) + 3) = ((5 * n + 3 : Nat) : Int) by rw [w32_eq (by omega) (by omega)]; omega]
  refine ⟨⟨by omega, by omega⟩, ?_⟩
  rw [hz]
  refine (w_ifeq rfl).mpr ?_
  by_cases hs : z0 ((5 * n + 3 : Nat) : Int) = 0
  · rw [if_pos hs]
    refine (w_st (j' := 454) (ls' := [vR (some 0), vR (some 3), vR (some 243), vI ((5 * n : Nat) : Int)]) (st' := [vI (0), vI (z0 ((5 * n + 2 : Nat) : Int)), vI (z0 ((5 * n + 1 : Nat) : Int)), vR (some 3)]) 3 rfl).mpr ?_
    refine (w_cv (k := 0) (j := 454) (ls := [vR (some 0), vR (some 3), vR (some 243), vI ((5 * n : Nat) : Int)]) (st := [vI (0), vI (z0 ((5 * n + 2 : Nat) : Int)), vI (z0 ((5 * n + 1 : Nat) : Int)), vR (some 3)]) (ls' := [vR (some 0), vR (some 3), vR (some 243), vI ((5 * n : Nat) : Int)]) (as2 := [vI (z0 ((5 * n + 1 : Nat) : Int)), vI (z0 ((5 * n + 2 : Nat) : Int)), vI (0)]) (st' := []) (mx := 4) rfl rfl rfl (Nat.le_of_ble_eq_true rfl) (Nat.le_of_ble_eq_true rfl) kz_3 rfl rfl).mpr ?_
    refine d_see hw hC (fun R1 I1 J1 f1 c1 => ?_)
    have hM1 : MSt I1 s := hM.hi (fun a ha => (f1 a (Or.inr ha)).2.1)
    have hz1 : I1 0 = z0 := by rw [(f1 0 (Or.inl rfl)).2.1]; exact hz
    refine (w_st (j' := 461) (ls' := [vR (some 0), vR (some 3), vR (some 243), vI ((5 * n : Nat) : Int)]) (st' := [vI (w32 (((5 * n : Nat) : Int) + 1)), vR (some 0), vR (some 243), vI ((q_see s (z0 ((5 * n + 1 : Nat) : Int)) (z0 ((5 * n + 2 : Nat) : Int)) (0)).1)]) 5 rfl).mpr ?_
    refine (w_iald (n := (L : Int)) rfl (Or.inr rfl) rfl).mpr ?_
    rw [show w32 (((5 * n : Nat) : Int) + 1) = ((5 * n + 1 : Nat) : Int) by rw [w32_eq (by omega) (by omega)]; omega]
    refine ⟨⟨by omega, by omega⟩, ?_⟩
    rw [hz1]
    refine (w_st (j' := 466) (ls' := [vR (some 0), vR (some 3), vR (some 243), vI ((5 * n : Nat) : Int)]) (st' := [vI (w32 (((5 * n : Nat) : Int) + 2)), vR (some 0), vI (z0 ((5 * n + 1 : Nat) : Int)), vR (some 243), vI ((q_see s (z0 ((5 * n + 1 : Nat) : Int)) (z0 ((5 * n + 2 : Nat) : Int)) (0)).1)]) 4 rfl).mpr ?_
    refine (w_iald (n := (L : Int)) rfl (Or.inr rfl) rfl).mpr ?_
    rw [show w32 (((5 * n : Nat) : Int) + 2) = ((5 * n + 2 : Nat) : Int) by rw [w32_eq (by omega) (by omega)]; omega]
    refine ⟨⟨by omega, by omega⟩, ?_⟩
    rw [hz1]
    refine (w_st (j' := 471) (ls' := [vR (some 0), vR (some 3), vR (some 243), vI ((5 * n : Nat) : Int)]) (st' := [vI (w32 (((5 * n : Nat) : Int) + 3)), vR (some 0), vI (z0 ((5 * n + 2 : Nat) : Int)), vI (z0 ((5 * n + 1 : Nat) : Int)), vR (some 243), vI ((q_see s (z0 ((5 * n + 1 : Nat) : Int)) (z0 ((5 * n + 2 : Nat) : Int)) (0)).1)]) 4 rfl).mpr ?_
    refine (w_iald (n := (L : Int)) rfl (Or.inr rfl) rfl).mpr ?_
    rw [show w32 (((5 * n : Nat) : Int) + 3) = ((5 * n + 3 : Nat) : Int) by rw [w32_eq (by omega) (by omega)]; omega]
    refine ⟨⟨by omega, by omega⟩, ?_⟩
    rw [hz1]
    refine (w_ifeq rfl).mpr ?_
    rw [if_pos hs]
    refine (w_st (j' := 479) (ls' := [vR (some 0), vR (some 3), vR (some 243), vI ((5 * n : Nat) : Int)]) (st' := [vI (0), vI (z0 ((5 * n + 2 : Nat) : Int)), vI (z0 ((5 * n + 1 : Nat) : Int)), vR (some 243), vI ((q_see s (z0 ((5 * n + 1 : Nat) : Int)) (z0 ((5 * n + 2 : Nat) : Int)) (0)).1)]) 3 rfl).mpr ?_
    refine (w_cv (k := 0) (j := 479) (ls := [vR (some 0), vR (some 3), vR (some 243), vI ((5 * n : Nat) : Int)]) (st := [vI (0), vI (z0 ((5 * n + 2 : Nat) : Int)), vI (z0 ((5 * n + 1 : Nat) : Int)), vR (some 243), vI ((q_see s (z0 ((5 * n + 1 : Nat) : Int)) (z0 ((5 * n + 2 : Nat) : Int)) (0)).1)]) (ls' := [vR (some 0), vR (some 3), vR (some 243), vI ((5 * n : Nat) : Int)]) (as2 := [vI (z0 ((5 * n + 1 : Nat) : Int)), vI (z0 ((5 * n + 2 : Nat) : Int)), vI (0)]) (st' := [vI ((q_see s (z0 ((5 * n + 1 : Nat) : Int)) (z0 ((5 * n + 2 : Nat) : Int)) (0)).1)]) (mx := 4) rfl rfl rfl (Nat.le_of_ble_eq_true rfl) (Nat.le_of_ble_eq_true rfl) kz_243 rfl rfl).mpr ?_
    refine m_see hw hM1 (fun I2 J2 m2 fa fj => ?_)
    refine (w_ceq rfl).mpr ?_
    rw [if_pos rfl]
    exact l_fin hN (wf_see hw _ _ _) (Nat.le_trans (Nat.le_of_eq (sB_all.2.2.2.2.2.1 _ _ _)) (Nat.le_succ _)) c1 m2 fa hz1
  · rw [if_neg hs]
    refine (w_st (j' := 454) (ls' := [vR (some 0), vR (some 3), vR (some 243), vI ((5 * n : Nat) : Int)]) (st' := [vI (1), vI (z0 ((5 * n + 2 : Nat) : Int)), vI (z0 ((5 * n + 1 : Nat) : Int)), vR (some 3)]) 4 rfl).mpr ?_
    refine (w_cv (k := 0) (j := 454) (ls := [vR (some 0), vR (some 3), vR (some 243), vI ((5 * n : Nat) : Int)]) (st := [vI (1), vI (z0 ((5 * n + 2 : Nat) : Int)), vI (z0 ((5 * n + 1 : Nat) : Int)), vR (some 3)]) (ls' := [vR (some 0), vR (some 3), vR (some 243), vI ((5 * n : Nat) : Int)]) (as2 := [vI (z0 ((5 * n + 1 : Nat) : Int)), vI (z0 ((5 * n + 2 : Nat) : Int)), vI (1)]) (st' := []) (mx := 4) rfl rfl rfl (Nat.le_of_ble_eq_true rfl) (Nat.le_of_ble_eq_true rfl) kz_3 rfl rfl).mpr ?_
    refine d_see hw hC (fun R1 I1 J1 f1 c1 => ?_)
    have hM1 : MSt I1 s := hM.hi (fun a ha => (f1 a (Or.inr ha)).2.1)
    have hz1 : I1 0 = z0 := by rw [(f1 0 (Or.inl rfl)).2.1]; exact hz
    refine (w_st (j' := 461) (ls' := [vR (some 0), vR (some 3), vR (some 243), vI ((5 * n : Nat) : Int)]) (st' := [vI (w32 (((5 * n : Nat) : Int) + 1)), vR (some 0), vR (some 243), vI ((q_see s (z0 ((5 * n + 1 : Nat) : Int)) (z0 ((5 * n + 2 : Nat) : Int)) (1)).1)]) 5 rfl).mpr ?_
    refine (w_iald (n := (L : Int)) rfl (Or.inr rfl) rfl).mpr ?_
    rw [show w32 (((5 * n : Nat) : Int) + 1) = ((5 * n + 1 : Nat) : Int) by rw [w32_eq (by omega) (by omega)]; omega]
    refine ⟨⟨by omega, by omega⟩, ?_⟩
    rw [hz1]
    refine (w_st (j' := 466) (ls' := [vR (some 0), vR (some 3), vR (some 243), vI ((5 * n : Nat) : Int)]) (st' := [vI (w32 (((5 * n : Nat) : Int) + 2)), vR (some 0), vI (z0 ((5 * n + 1 : Nat) : Int)), vR (some 243), vI ((q_see s (z0 ((5 * n + 1 : Nat) : Int)) (z0 ((5 * n + 2 : Nat) : Int)) (1)).1)]) 4 rfl).mpr ?_
    refine (w_iald (n := (L : Int)) rfl (Or.inr rfl) rfl).mpr ?_
    rw [show w32 (((5 * n : Nat) : Int) + 2) = ((5 * n + 2 : Nat) : Int) by rw [w32_eq (by omega) (by omega)]; omega]
    refine ⟨⟨by omega, by omega⟩, ?_⟩
    rw [hz1]
    refine (w_st (j' := 471) (ls' := [vR (some 0), vR (some 3), vR (some 243), vI ((5 * n : Nat) : Int)]) (st' := [vI (w32 (((5 * n : Nat) : Int) + 3)), vR (some 0), vI (z0 ((5 * n + 2 : Nat) : Int)), vI (z0 ((5 * n + 1 : Nat) : Int)), vR (some 243), vI ((q_see s (z0 ((5 * n + 1 : Nat) : Int)) (z0 ((5 * n + 2 : Nat) : Int)) (1)).1)]) 4 rfl).mpr ?_
    refine (w_iald (n := (L : Int)) rfl (Or.inr rfl) rfl).mpr ?_
    rw [show w32 (((5 * n : Nat) : Int) + 3) = ((5 * n + 3 : Nat) : Int) by rw [w32_eq (by omega) (by omega)]; omega]
    refine ⟨⟨by omega, by omega⟩, ?_⟩
    rw [hz1]
    refine (w_ifeq rfl).mpr ?_
    rw [if_neg hs]
    refine (w_st (j' := 479) (ls' := [vR (some 0), vR (some 3), vR (some 243), vI ((5 * n : Nat) : Int)]) (st' := [vI (1), vI (z0 ((5 * n + 2 : Nat) : Int)), vI (z0 ((5 * n + 1 : Nat) : Int)), vR (some 243), vI ((q_see s (z0 ((5 * n + 1 : Nat) : Int)) (z0 ((5 * n + 2 : Nat) : Int)) (1)).1)]) 4 rfl).mpr ?_
    refine (w_cv (k := 0) (j := 479) (ls := [vR (some 0), vR (some 3), vR (some 243), vI ((5 * n : Nat) : Int)]) (st := [vI (1), vI (z0 ((5 * n + 2 : Nat) : Int)), vI (z0 ((5 * n + 1 : Nat) : Int)), vR (some 243), vI ((q_see s (z0 ((5 * n + 1 : Nat) : Int)) (z0 ((5 * n + 2 : Nat) : Int)) (1)).1)]) (ls' := [vR (some 0), vR (some 3), vR (some 243), vI ((5 * n : Nat) : Int)]) (as2 := [vI (z0 ((5 * n + 1 : Nat) : Int)), vI (z0 ((5 * n + 2 : Nat) : Int)), vI (1)]) (st' := [vI ((q_see s (z0 ((5 * n + 1 : Nat) : Int)) (z0 ((5 * n + 2 : Nat) : Int)) (1)).1)]) (mx := 4) rfl rfl rfl (Nat.le_of_ble_eq_true rfl) (Nat.le_of_ble_eq_true rfl) kz_243 rfl rfl).mpr ?_
    refine m_see hw hM1 (fun I2 J2 m2 fa fj => ?_)
    refine (w_ceq rfl).mpr ?_
    rw [if_pos rfl]
    exact l_fin hN (wf_see hw _ _ _) (Nat.le_trans (Nat.le_of_eq (sB_all.2.2.2.2.2.1 _ _ _)) (Nat.le_succ _)) c1 m2 fa hz1
set_option maxRecDepth 8000 in
theorem l_forget {L n : Nat} {b : Nat × Nat} {z0 : Int → Int} {R : Nat → Int → Option Nat} {I : Nat → Int → Int} {J : Nat → Int → Int64} {Q : Option MV → MM → Prop} {s : ST} (hL : L ≤ 2560) (hn : 5 * n + 5 ≤ L) (hw : wfS s) (hb : sB s + 1 < 100000) (hC : CSt R I s) (hM : MSt I s) (hz : I 0 = z0) (hN : NxQ L n b z0 s Q) : wpc 0 485 [vR (some 0), vR (some 3), vR (some 243), vI ((5 * n : Nat) : Int)] [] b (S0 L, R, I, J) Q := by
  refine (w_st (j' := 487) (ls' := [vR (some 0), vR (some 3), vR (some 243), vI ((5 * n : Nat) : Int)]) (st' := [vR (some 3)]) 2 rfl).mpr ?_
  refine (w_cv (k := 0) (j := 487) (ls := [vR (some 0), vR (some 3), vR (some 243), vI ((5 * n : Nat) : Int)]) (st := [vR (some 3)]) (ls' := [vR (some 0), vR (some 3), vR (some 243), vI ((5 * n : Nat) : Int)]) (as2 := []) (st' := []) (mx := 2) rfl rfl rfl (Nat.le_of_ble_eq_true rfl) (Nat.le_of_ble_eq_true rfl) kz_3 rfl rfl).mpr ?_
  refine d_forget hw hC (fun R1 I1 J1 f1 c1 => ?_)
  have hM1 : MSt I1 s := hM.hi (fun a ha => (f1 a (Or.inr ha)).2.1)
  have hz1 : I1 0 = z0 := by rw [(f1 0 (Or.inl rfl)).2.1]; exact hz
  refine (w_st (j' := 490) (ls' := [vR (some 0), vR (some 3), vR (some 243), vI ((5 * n : Nat) : Int)]) (st' := [vR (some 243), vI ((q_forget s ).1)]) 1 rfl).mpr ?_
  refine (w_cv (k := 0) (j := 490) (ls := [vR (some 0), vR (some 3), vR (some 243), vI ((5 * n : Nat) : Int)]) (st := [vR (some 243), vI ((q_forget s ).1)]) (ls' := [vR (some 0), vR (some 3), vR (some 243), vI ((5 * n : Nat) : Int)]) (as2 := []) (st' := [vI ((q_forget s ).1)]) (mx := 2) rfl rfl rfl (Nat.le_of_ble_eq_true rfl) (Nat.le_of_ble_eq_true rfl) kz_243 rfl rfl).mpr ?_
  refine m_forget hM1 (fun I2 J2 m2 fa fj => ?_)
  refine (w_ceq rfl).mpr ?_
  rw [if_pos rfl]
  exact l_fin hN (wf_forget hw) (Nat.le_succ _) c1 m2 fa hz1
set_option maxRecDepth 8000 in
theorem l_drawn {L n : Nat} {b : Nat × Nat} {z0 : Int → Int} {R : Nat → Int → Option Nat} {I : Nat → Int → Int} {J : Nat → Int → Int64} {Q : Option MV → MM → Prop} {s : ST} (hL : L ≤ 2560) (hn : 5 * n + 5 ≤ L) (hw : wfS s) (hb : sB s + 1 < 100000) (hC : CSt R I s) (hM : MSt I s) (hz : I 0 = z0) (hN : NxQ L n b z0 s Q) : wpc 0 496 [vR (some 0), vR (some 3), vR (some 243), vI ((5 * n : Nat) : Int)] [] b (S0 L, R, I, J) Q := by
  refine (w_st (j' := 502) (ls' := [vR (some 0), vR (some 3), vR (some 243), vI ((5 * n : Nat) : Int)]) (st' := [vI (w32 (((5 * n : Nat) : Int) + 1)), vR (some 0), vR (some 3)]) 6 rfl).mpr ?_
  refine (w_iald (n := (L : Int)) rfl (Or.inr rfl) rfl).mpr ?_
  rw [show w32 (((5 * n : Nat) : Int) + 1) = ((5 * n + 1 : Nat) : Int) by rw [w32_eq (by omega) (by omega)]; omega]
  refine ⟨⟨by omega, by omega⟩, ?_⟩
  rw [hz]
  refine (w_st (j' := 507) (ls' := [vR (some 0), vR (some 3), vR (some 243), vI ((5 * n : Nat) : Int)]) (st' := [vI (w32 (((5 * n : Nat) : Int) + 2)), vR (some 0), vI (z0 ((5 * n + 1 : Nat) : Int)), vR (some 3)]) 4 rfl).mpr ?_
  refine (w_iald (n := (L : Int)) rfl (Or.inr rfl) rfl).mpr ?_
  rw [show w32 (((5 * n : Nat) : Int) + 2) = ((5 * n + 2 : Nat) : Int) by rw [w32_eq (by omega) (by omega)]; omega]
  refine ⟨⟨by omega, by omega⟩, ?_⟩
  rw [hz]
  refine (w_st (j' := 512) (ls' := [vR (some 0), vR (some 3), vR (some 243), vI ((5 * n : Nat) : Int)]) (st' := [vI (w32 (((5 * n : Nat) : Int) + 3)), vR (some 0), vI (z0 ((5 * n + 2 : Nat) : Int)), vI (z0 ((5 * n + 1 : Nat) : Int)), vR (some 3)]) 4 rfl).mpr ?_
  refine (w_iald (n := (L : Int)) rfl (Or.inr rfl) rfl).mpr ?_
  rw [show w32 (((5 * n : Nat) : Int) + 3) = ((5 * n + 3 : Nat) : Int) by rw [w32_eq (by omega) (by omega)]; omega]
  refine ⟨⟨by omega, by omega⟩, ?_⟩
  rw [hz]
  refine (w_cv (k := 0) (j := 513) (ls := [vR (some 0), vR (some 3), vR (some 243), vI ((5 * n : Nat) : Int)]) (st := [vI (z0 ((5 * n + 3 : Nat) : Int)), vI (z0 ((5 * n + 2 : Nat) : Int)), vI (z0 ((5 * n + 1 : Nat) : Int)), vR (some 3)]) (ls' := [vR (some 0), vR (some 3), vR (some 243), vI ((5 * n : Nat) : Int)]) (as2 := [vI (z0 ((5 * n + 1 : Nat) : Int)), vI (z0 ((5 * n + 2 : Nat) : Int)), vI (z0 ((5 * n + 3 : Nat) : Int))]) (st' := []) (mx := 8) rfl rfl rfl (Nat.le_of_ble_eq_true rfl) (Nat.le_of_ble_eq_true rfl) kz_3 rfl rfl).mpr ?_
  refine d_drawn hw hC (fun R1 I1 J1 f1 c1 => ?_)
  have hM1 : MSt I1 s := hM.hi (fun a ha => (f1 a (Or.inr ha)).2.1)
  have hz1 : I1 0 = z0 := by rw [(f1 0 (Or.inl rfl)).2.1]; exact hz
  refine (w_st (j' := 520) (ls' := [vR (some 0), vR (some 3), vR (some 243), vI ((5 * n : Nat) : Int)]) (st' := [vI (w32 (((5 * n : Nat) : Int) + 1)), vR (some 0), vR (some 243), vI ((q_drawn s (z0 ((5 * n + 1 : Nat) : Int)) (z0 ((5 * n + 2 : Nat) : Int)) (z0 ((5 * n + 3 : Nat) : Int))).1)]) 5 rfl).mpr ?_
  refine (w_iald (n := (L : Int)) rfl (Or.inr rfl) rfl).mpr ?_
  rw [show w32 (((5 * n : Nat) : Int) + 1) = ((5 * n + 1 : Nat) : Int) by rw [w32_eq (by omega) (by omega)]; omega]
  refine ⟨⟨by omega, by omega⟩, ?_⟩
  rw [hz1]
  refine (w_st (j' := 525) (ls' := [vR (some 0), vR (some 3), vR (some 243), vI ((5 * n : Nat) : Int)]) (st' := [vI (w32 (((5 * n : Nat) : Int) + 2)), vR (some 0), vI (z0 ((5 * n + 1 : Nat) : Int)), vR (some 243), vI ((q_drawn s (z0 ((5 * n + 1 : Nat) : Int)) (z0 ((5 * n + 2 : Nat) : Int)) (z0 ((5 * n + 3 : Nat) : Int))).1)]) 4 rfl).mpr ?_
  refine (w_iald (n := (L : Int)) rfl (Or.inr rfl) rfl).mpr ?_
  rw [show w32 (((5 * n : Nat) : Int) + 2) = ((5 * n + 2 : Nat) : Int) by rw [w32_eq (by omega) (by omega)]; omega]
  refine ⟨⟨by omega, by omega⟩, ?_⟩
  rw [hz1]
  refine (w_st (j' := 530) (ls' := [vR (some 0), vR (some 3), vR (some 243), vI ((5 * n : Nat) : Int)]) (st' := [vI (w32 (((5 * n : Nat) : Int) + 3)), vR (some 0), vI (z0 ((5 * n + 2 : Nat) : Int)), vI (z0 ((5 * n + 1 : Nat) : Int)), vR (some 243), vI ((q_drawn s (z0 ((5 * n + 1 : Nat) : Int)) (z0 ((5 * n + 2 : Nat) : Int)) (z0 ((5 * n + 3 : Nat) : Int))).1)]) 4 rfl).mpr ?_
  refine (w_iald (n := (L : Int)) rfl (Or.inr rfl) rfl).mpr ?_
  rw [show w32 (((5 * n : Nat) : Int) + 3) = ((5 * n + 3 : Nat) : Int) by rw [w32_eq (by omega) (by omega)]; omega]
  refine ⟨⟨by omega, by omega⟩, ?_⟩
  rw [hz1]
  refine (w_cv (k := 0) (j := 531) (ls := [vR (some 0), vR (some 3), vR (some 243), vI ((5 * n : Nat) : Int)]) (st := [vI (z0 ((5 * n + 3 : Nat) : Int)), vI (z0 ((5 * n + 2 : Nat) : Int)), vI (z0 ((5 * n + 1 : Nat) : Int)), vR (some 243), vI ((q_drawn s (z0 ((5 * n + 1 : Nat) : Int)) (z0 ((5 * n + 2 : Nat) : Int)) (z0 ((5 * n + 3 : Nat) : Int))).1)]) (ls' := [vR (some 0), vR (some 3), vR (some 243), vI ((5 * n : Nat) : Int)]) (as2 := [vI (z0 ((5 * n + 1 : Nat) : Int)), vI (z0 ((5 * n + 2 : Nat) : Int)), vI (z0 ((5 * n + 3 : Nat) : Int))]) (st' := [vI ((q_drawn s (z0 ((5 * n + 1 : Nat) : Int)) (z0 ((5 * n + 2 : Nat) : Int)) (z0 ((5 * n + 3 : Nat) : Int))).1)]) (mx := 4) rfl rfl rfl (Nat.le_of_ble_eq_true rfl) (Nat.le_of_ble_eq_true rfl) kz_243 rfl rfl).mpr ?_
  refine m_drawn hw hM1 (fun I2 J2 m2 fa fj => ?_)
  refine (w_ceq rfl).mpr ?_
  rw [if_pos rfl]
  exact l_fin hN (hw) (Nat.le_succ _) c1 m2 fa hz1
set_option maxRecDepth 8000 in
theorem l_image {L n : Nat} {b : Nat × Nat} {z0 : Int → Int} {R : Nat → Int → Option Nat} {I : Nat → Int → Int} {J : Nat → Int → Int64} {Q : Option MV → MM → Prop} {s : ST} (hL : L ≤ 2560) (hn : 5 * n + 5 ≤ L) (hw : wfS s) (hb : sB s + 1 < 100000) (hC : CSt R I s) (hM : MSt I s) (hz : I 0 = z0) (hN : NxQ L n b z0 s Q) : wpc 0 537 [vR (some 0), vR (some 3), vR (some 243), vI ((5 * n : Nat) : Int)] [] b (S0 L, R, I, J) Q := by
  refine (w_st (j' := 539) (ls' := [vR (some 0), vR (some 3), vR (some 243), vI ((5 * n : Nat) : Int)]) (st' := [vR (some 3)]) 2 rfl).mpr ?_
  refine (w_cv (k := 0) (j := 539) (ls := [vR (some 0), vR (some 3), vR (some 243), vI ((5 * n : Nat) : Int)]) (st := [vR (some 3)]) (ls' := [vR (some 0), vR (some 3), vR (some 243), vI ((5 * n : Nat) : Int)]) (as2 := []) (st' := []) (mx := 1) rfl rfl rfl (Nat.le_of_ble_eq_true rfl) (Nat.le_of_ble_eq_true rfl) kz_3 rfl rfl).mpr ?_
  refine d_image hw hC (fun R1 I1 J1 f1 c1 => ?_)
  have hM1 : MSt I1 s := hM.hi (fun a ha => (f1 a (Or.inr ha)).2.1)
  have hz1 : I1 0 = z0 := by rw [(f1 0 (Or.inl rfl)).2.1]; exact hz
  refine (w_st (j' := 542) (ls' := [vR (some 0), vR (some 3), vR (some 243), vI ((5 * n : Nat) : Int)]) (st' := [vR (some 243), vI ((q_image s ).1)]) 1 rfl).mpr ?_
  refine (w_cv (k := 0) (j := 542) (ls := [vR (some 0), vR (some 3), vR (some 243), vI ((5 * n : Nat) : Int)]) (st := [vR (some 243), vI ((q_image s ).1)]) (ls' := [vR (some 0), vR (some 3), vR (some 243), vI ((5 * n : Nat) : Int)]) (as2 := []) (st' := [vI ((q_image s ).1)]) (mx := 2) rfl rfl rfl (Nat.le_of_ble_eq_true rfl) (Nat.le_of_ble_eq_true rfl) kz_243 rfl rfl).mpr ?_
  refine m_image hw hM1 (fun I2 J2 m2 fa fj => ?_)
  refine (w_ceq rfl).mpr ?_
  rw [if_pos rfl]
  exact l_fin hN (wf_image hw) (Nat.le_trans (Nat.le_of_eq sB_all.2.2.2.2.2.2.2.1) (Nat.le_succ _)) c1 m2 fa hz1
set_option maxRecDepth 8000 in
theorem l_restore {L n : Nat} {b : Nat × Nat} {z0 : Int → Int} {R : Nat → Int → Option Nat} {I : Nat → Int → Int} {J : Nat → Int → Int64} {Q : Option MV → MM → Prop} {s : ST} (hL : L ≤ 2560) (hn : 5 * n + 5 ≤ L) (hw : wfS s) (hb : sB s + 1 < 100000) (hC : CSt R I s) (hM : MSt I s) (hz : I 0 = z0) (hN : NxQ L n b z0 s Q) : wpc 0 548 [vR (some 0), vR (some 3), vR (some 243), vI ((5 * n : Nat) : Int)] [] b (S0 L, R, I, J) Q := by
  refine (w_st (j' := 550) (ls' := [vR (some 0), vR (some 3), vR (some 243), vI ((5 * n : Nat) : Int)]) (st' := [vR (some 3)]) 2 rfl).mpr ?_
  refine (w_cv (k := 0) (j := 550) (ls := [vR (some 0), vR (some 3), vR (some 243), vI ((5 * n : Nat) : Int)]) (st := [vR (some 3)]) (ls' := [vR (some 0), vR (some 3), vR (some 243), vI ((5 * n : Nat) : Int)]) (as2 := []) (st' := []) (mx := 1) rfl rfl rfl (Nat.le_of_ble_eq_true rfl) (Nat.le_of_ble_eq_true rfl) kz_3 rfl rfl).mpr ?_
  refine d_restore hw hC (fun R1 I1 J1 f1 c1 => ?_)
  have hM1 : MSt I1 s := hM.hi (fun a ha => (f1 a (Or.inr ha)).2.1)
  have hz1 : I1 0 = z0 := by rw [(f1 0 (Or.inl rfl)).2.1]; exact hz
  refine (w_st (j' := 553) (ls' := [vR (some 0), vR (some 3), vR (some 243), vI ((5 * n : Nat) : Int)]) (st' := [vR (some 243), vI ((q_restore s ).1)]) 1 rfl).mpr ?_
  refine (w_cv (k := 0) (j := 553) (ls := [vR (some 0), vR (some 3), vR (some 243), vI ((5 * n : Nat) : Int)]) (st := [vR (some 243), vI ((q_restore s ).1)]) (ls' := [vR (some 0), vR (some 3), vR (some 243), vI ((5 * n : Nat) : Int)]) (as2 := []) (st' := [vI ((q_restore s ).1)]) (mx := 2) rfl rfl rfl (Nat.le_of_ble_eq_true rfl) (Nat.le_of_ble_eq_true rfl) kz_243 rfl rfl).mpr ?_
  refine m_restore hw hM1 (fun I2 J2 m2 fa fj => ?_)
  refine (w_ceq rfl).mpr ?_
  rw [if_pos rfl]
  exact l_fin hN (wf_restore hw) (Nat.le_trans (Nat.le_of_eq sB_all.2.2.2.2.2.2.2.2) (Nat.le_succ _)) c1 m2 fa hz1
set_option maxRecDepth 8000 in
theorem l_count {L n : Nat} {b : Nat × Nat} {z0 : Int → Int} {R : Nat → Int → Option Nat} {I : Nat → Int → Int} {J : Nat → Int → Int64} {Q : Option MV → MM → Prop} {s : ST} (hL : L ≤ 2560) (hn : 5 * n + 5 ≤ L) (hw : wfS s) (hb : sB s + 1 < 100000) (hC : CSt R I s) (hM : MSt I s) (hz : I 0 = z0) (hN : NxQ L n b z0 s Q) : wpc 0 559 [vR (some 0), vR (some 3), vR (some 243), vI ((5 * n : Nat) : Int)] [] b (S0 L, R, I, J) Q := by
  refine (w_st (j' := 565) (ls' := [vR (some 0), vR (some 3), vR (some 243), vI ((5 * n : Nat) : Int)]) (st' := [vI (w32 (((5 * n : Nat) : Int) + 1)), vR (some 0), vR (some 3)]) 6 rfl).mpr ?_
  refine (w_iald (n := (L : Int)) rfl (Or.inr rfl) rfl).mpr ?_
  rw [show w32 (((5 * n : Nat) : Int) + 1) = ((5 * n + 1 : Nat) : Int) by rw [w32_eq (by omega) (by omega)]; omega]
  refine ⟨⟨by omega, by omega⟩, ?_⟩
  rw [hz]
  refine (w_cv (k := 0) (j := 566) (ls := [vR (some 0), vR (some 3), vR (some 243), vI ((5 * n : Nat) : Int)]) (st := [vI (z0 ((5 * n + 1 : Nat) : Int)), vR (some 3)]) (ls' := [vR (some 0), vR (some 3), vR (some 243), vI ((5 * n : Nat) : Int)]) (as2 := [vI (z0 ((5 * n + 1 : Nat) : Int))]) (st' := []) (mx := 2) rfl rfl rfl (Nat.le_of_ble_eq_true rfl) (Nat.le_of_ble_eq_true rfl) kz_3 rfl rfl).mpr ?_
  refine d_count hw hC (fun R1 I1 J1 f1 c1 => ?_)
  have hM1 : MSt I1 s := hM.hi (fun a ha => (f1 a (Or.inr ha)).2.1)
  have hz1 : I1 0 = z0 := by rw [(f1 0 (Or.inl rfl)).2.1]; exact hz
  refine (w_st (j' := 573) (ls' := [vR (some 0), vR (some 3), vR (some 243), vI ((5 * n : Nat) : Int)]) (st' := [vI (w32 (((5 * n : Nat) : Int) + 1)), vR (some 0), vR (some 243), vI ((q_count s (z0 ((5 * n + 1 : Nat) : Int))).1)]) 5 rfl).mpr ?_
  refine (w_iald (n := (L : Int)) rfl (Or.inr rfl) rfl).mpr ?_
  rw [show w32 (((5 * n : Nat) : Int) + 1) = ((5 * n + 1 : Nat) : Int) by rw [w32_eq (by omega) (by omega)]; omega]
  refine ⟨⟨by omega, by omega⟩, ?_⟩
  rw [hz1]
  refine (w_cv (k := 0) (j := 574) (ls := [vR (some 0), vR (some 3), vR (some 243), vI ((5 * n : Nat) : Int)]) (st := [vI (z0 ((5 * n + 1 : Nat) : Int)), vR (some 243), vI ((q_count s (z0 ((5 * n + 1 : Nat) : Int))).1)]) (ls' := [vR (some 0), vR (some 3), vR (some 243), vI ((5 * n : Nat) : Int)]) (as2 := [vI (z0 ((5 * n + 1 : Nat) : Int))]) (st' := [vI ((q_count s (z0 ((5 * n + 1 : Nat) : Int))).1)]) (mx := 2) rfl rfl rfl (Nat.le_of_ble_eq_true rfl) (Nat.le_of_ble_eq_true rfl) kz_243 rfl rfl).mpr ?_
  refine m_count hw hM1 (uniOK_of hw.2.2.2.1) (fun I2 J2 m2 fa fj => ?_)
  refine (w_ceq rfl).mpr ?_
  rw [if_pos rfl]
  exact l_fin hN (hw) (Nat.le_succ _) c1 m2 fa hz1
set_option maxRecDepth 8000 in
theorem l_digest {L n : Nat} {b : Nat × Nat} {z0 : Int → Int} {R : Nat → Int → Option Nat} {I : Nat → Int → Int} {J : Nat → Int → Int64} {Q : Option MV → MM → Prop} {s : ST} (hL : L ≤ 2560) (hn : 5 * n + 5 ≤ L) (hw : wfS s) (hb : sB s + 1 < 100000) (hC : CSt R I s) (hM : MSt I s) (hz : I 0 = z0) (hN : NxQ L n b z0 s Q) : wpc 0 580 [vR (some 0), vR (some 3), vR (some 243), vI ((5 * n : Nat) : Int)] [] b (S0 L, R, I, J) Q := by
  refine (w_st (j' := 582) (ls' := [vR (some 0), vR (some 3), vR (some 243), vI ((5 * n : Nat) : Int)]) (st' := [vR (some 3)]) 2 rfl).mpr ?_
  refine (w_cv (k := 0) (j := 582) (ls := [vR (some 0), vR (some 3), vR (some 243), vI ((5 * n : Nat) : Int)]) (st := [vR (some 3)]) (ls' := [vR (some 0), vR (some 3), vR (some 243), vI ((5 * n : Nat) : Int)]) (as2 := []) (st' := []) (mx := 5) rfl rfl rfl (Nat.le_of_ble_eq_true rfl) (Nat.le_of_ble_eq_true rfl) kz_3 rfl rfl).mpr ?_
  refine d_digest hw hC (fun R1 I1 J1 f1 c1 => ?_)
  have hM1 : MSt I1 s := hM.hi (fun a ha => (f1 a (Or.inr ha)).2.1)
  have hz1 : I1 0 = z0 := by rw [(f1 0 (Or.inl rfl)).2.1]; exact hz
  refine (w_st (j' := 585) (ls' := [vR (some 0), vR (some 3), vR (some 243), vI ((5 * n : Nat) : Int)]) (st' := [vR (some 243), vL (q_digest s)]) 1 rfl).mpr ?_
  refine (w_cv (k := 0) (j := 585) (ls := [vR (some 0), vR (some 3), vR (some 243), vI ((5 * n : Nat) : Int)]) (st := [vR (some 243), vL (q_digest s)]) (ls' := [vR (some 0), vR (some 3), vR (some 243), vI ((5 * n : Nat) : Int)]) (as2 := []) (st' := [vL (q_digest s)]) (mx := 3) rfl rfl rfl (Nat.le_of_ble_eq_true rfl) (Nat.le_of_ble_eq_true rfl) kz_243 rfl rfl).mpr ?_
  refine m_digest hw hM1 (uniOK_of hw.2.2.2.1) (fun I2 J2 m2 fa fj => ?_)
  refine (w_st (j' := 588) (ls' := [vR (some 0), vR (some 3), vR (some 243), vI ((5 * n : Nat) : Int)]) (st' := [vI (lcmpI (q_digest s) (q_digest s))]) 1 rfl).mpr ?_
  refine (w_ifeq rfl).mpr ?_
  rw [if_pos (lcmp_self _)]
  exact l_fin hN (hw) (Nat.le_succ _) c1 m2 fa hz1
