-- ===== the law's loop =====
theorem sw_c {x : Int} {d c t : Nat} {z : Int} {K : Nat → Prop} {r : List (Int × Nat)} (h1 : K t) (h2 : swP x d K r) : swP x d K ((z, t) :: r) := by
  show if x = z then K t else swP x d K r
  split
  · exact h1
  · exact h2
set_option maxRecDepth 8000 in
theorem law_loop {L : Nat} {b : Nat × Nat} {z0 : Int → Int} (hL : L ≤ 2560) : ∀ (m n : Nat) {R : Nat → Int → Option Nat} {I : Nat → Int → Int} {J : Nat → Int → Int64} {s : ST}, 5 * n + 5 * m ≤ L → L < 5 * n + 5 * m + 5 → wfS s → sB s + m < 90000 → CSt R I s → MSt I s → I 0 = z0 → wpc 0 12 [vR (some 0), vR (some 3), vR (some 243), vI ((5 * n : Nat) : Int)] [] b (S0 L, R, I, J) (fun v _ => v = some (vI 1)) := by
  intro m
  induction m with
  | zero =>
    intro n R I J s h1 h2 hw hb hC hM hz
    refine (w_st (j' := 18) (ls' := [vR (some 0), vR (some 3), vR (some 243), vI ((5 * n : Nat) : Int)]) (st' := [vI (w32 ((L : Int) - 5)), vI ((5 * n : Nat) : Int)]) 6 rfl).mpr ?_
    refine (w_cgt rfl).mpr ?_
    rw [w32_eq (z := (L : Int) - 5) (by omega) (by omega), if_neg (by omega)]
    refine (w_st (j' := 597) (ls' := [vU, vU, vU, vU]) (st' := [vI 1]) 2 rfl).mpr ?_
    exact (w_zret1 rfl (by decide)).mpr rfl
  | succ m ih =>
    intro n R I J s h1 h2 hw hb hC hM hz
    have hn : 5 * n + 5 ≤ L := by omega
    have hb1 : sB s + 1 < 100000 := by omega
    have hN : NxQ L n b z0 s (fun v _ => v = some (vI 1)) := by
      intro R' I' J' s' hw' hb' c' m' hz'
      refine (w_st (j' := 12) (ls' := [vR (some 0), vR (some 3), vR (some 243), vI (w32 (((5 * n : Nat) : Int) + 5))]) (st' := []) 3 rfl).mpr ?_
      rw [show w32 (((5 * n : Nat) : Int) + 5) = ((5 * (n + 1) : Nat) : Int) by rw [w32_eq (by omega) (by omega)]; omega]
      exact ih (n + 1) (by omega) (by omega) hw' (by omega) c' m' hz'
    refine (w_st (j' := 18) (ls' := [vR (some 0), vR (some 3), vR (some 243), vI ((5 * n : Nat) : Int)]) (st' := [vI (w32 ((L : Int) - 5)), vI ((5 * n : Nat) : Int)]) 6 rfl).mpr ?_
    refine (w_cgt rfl).mpr ?_
    rw [w32_eq (z := (L : Int) - 5) (by omega) (by omega), if_pos (by omega)]
    refine (w_st (j' := 22) (ls' := [vR (some 0), vR (some 3), vR (some 243), vI ((5 * n : Nat) : Int)]) (st' := [vI ((5 * n : Nat) : Int), vR (some 0)]) 3 rfl).mpr ?_
    refine (w_iald (n := (L : Int)) rfl (Or.inr rfl) rfl).mpr ⟨⟨by omega, by omega⟩, ?_⟩
    rw [hz]
    refine (w_st (j' := 25) (ls' := [vR (some 0), vR (some 3), vR (some 243), vI ((5 * n : Nat) : Int)]) (st' := [vI (iand (z0 ((5 * n : Nat) : Int)) 31)]) 2 rfl).mpr ?_
    refine (w_tsw (ns := [592]) (sw := [(0, 26), (1, 47), (2, 58), (3, 69), (4, 80), (5, 101), (6, 132), (7, 163), (8, 194), (9, 225), (10, 266), (11, 297), (12, 338), (13, 379), (14, 430), (15, 485), (16, 496), (17, 537), (18, 548), (19, 559), (20, 580)]) rfl).mpr ?_
    refine sw_c (c := 0) (l_letter hL hn hw hb1 hC hM hz hN) ?_
    refine sw_c (c := 0) (l_blank hL hn hw hb1 hC hM hz hN) ?_
    refine sw_c (c := 0) (l_fault hL hn hw hb1 hC hM hz hN) ?_
    refine sw_c (c := 0) (l_book hL hn hw hb1 hC hM hz hN) ?_
    refine sw_c (c := 0) (l_type hL hn hw hb1 hC hM hz hN) ?_
    refine sw_c (c := 0) (l_about hL hn hw hb1 hC hM hz hN) ?_
    refine sw_c (c := 0) (l_inst hL hn hw hb1 hC hM hz hN) ?_
    refine sw_c (c := 0) (l_as hL hn hw hb1 hC hM hz hN) ?_
    refine sw_c (c := 0) (l_change hL hn hw hb1 hC hM hz hN) ?_
    refine sw_c (c := 0) (l_pair hL hn hw hb1 hC hM hz hN) ?_
    refine sw_c (c := 0) (l_fits hL hn hw hb1 hC hM hz hN) ?_
    refine sw_c (c := 0) (l_goal hL hn hw hb1 hC hM hz hN) ?_
    refine sw_c (c := 0) (l_entry hL hn hw hb1 hC hM hz hN) ?_
    refine sw_c (c := 0) (l_need hL hn hw hb1 hC hM hz hN) ?_
    refine sw_c (c := 0) (l_see hL hn hw hb1 hC hM hz hN) ?_
    refine sw_c (c := 0) (l_forget hL hn hw hb1 hC hM hz hN) ?_
    refine sw_c (c := 0) (l_drawn hL hn hw hb1 hC hM hz hN) ?_
    refine sw_c (c := 0) (l_image hL hn hw hb1 hC hM hz hN) ?_
    refine sw_c (c := 0) (l_restore hL hn hw hb1 hC hM hz hN) ?_
    refine sw_c (c := 0) (l_count hL hn hw hb1 hC hM hz hN) ?_
    refine sw_c (c := 0) (l_digest hL hn hw hb1 hC hM hz hN) ?_
    exact hN R I J s hw (Nat.le_succ _) hC hM hz
