-- ===== what the tables of the Statement say of the links, by their places =====
def lwG : List Cond := lw_tbl.filter goodWord
theorem lwt_app : lw_tbl = k2_sels lw_privs ++ (tables_1_1 ++ (tables_1_2 ++ (tables_1_3 ++ (tables_1_4 ++ (tables_1_5 ++ tables_1_6))))) := rfl
theorem lwt_0 {w : Cond} (h : w ∈ k2_sels lw_privs) : w ∈ lw_tbl := by rw [lwt_app]; exact List.mem_append_left _ h
theorem lwt_1 {w : Cond} (h : w ∈ tables_1_1) : w ∈ lw_tbl := by rw [lwt_app]; exact (List.mem_append_right _ (List.mem_append_left _ h))
theorem lwt_2 {w : Cond} (h : w ∈ tables_1_2) : w ∈ lw_tbl := by rw [lwt_app]; exact (List.mem_append_right _ (List.mem_append_right _ (List.mem_append_left _ h)))
theorem lwt_3 {w : Cond} (h : w ∈ tables_1_3) : w ∈ lw_tbl := by rw [lwt_app]; exact (List.mem_append_right _ (List.mem_append_right _ (List.mem_append_right _ (List.mem_append_left _ h))))
theorem lwt_4 {w : Cond} (h : w ∈ tables_1_4) : w ∈ lw_tbl := by rw [lwt_app]; exact (List.mem_append_right _ (List.mem_append_right _ (List.mem_append_right _ (List.mem_append_right _ (List.mem_append_left _ h)))))
theorem lwt_5 {w : Cond} (h : w ∈ tables_1_5) : w ∈ lw_tbl := by rw [lwt_app]; exact (List.mem_append_right _ (List.mem_append_right _ (List.mem_append_right _ (List.mem_append_right _ (List.mem_append_right _ (List.mem_append_left _ h))))))
theorem lwt_6 {w : Cond} (h : w ∈ tables_1_6) : w ∈ lw_tbl := by rw [lwt_app]; exact (List.mem_append_right _ (List.mem_append_right _ (List.mem_append_right _ (List.mem_append_right _ (List.mem_append_right _ (List.mem_append_right _ h))))))
theorem lwg {w : Cond} (h : w ∈ lw_tbl) (hg : goodWord w = true) : w ∈ lwG := List.mem_filter.mpr ⟨h, hg⟩
set_option maxRecDepth 20000 in
theorem fl_0 : ∀ e ∈ flT.getD 0 [], Cond.fieldLink (cnm 0) e.1 (cnm e.2.1) (cT e.2.1 e.2.2).2.1 (cT e.2.1 e.2.2).2.2.1 ∈ lwG := (List.forall_mem_cons.mpr ⟨(lwg (lwt_1 (List.mem_of_getElem? (i := 102) rfl)) rfl), (List.forall_mem_cons.mpr ⟨(lwg (lwt_1 (List.mem_of_getElem? (i := 106) rfl)) rfl), (List.forall_mem_cons.mpr ⟨(lwg (lwt_1 (List.mem_of_getElem? (i := 108) rfl)) rfl), (List.forall_mem_cons.mpr ⟨(lwg (lwt_1 (List.mem_of_getElem? (i := 110) rfl)) rfl), (List.forall_mem_cons.mpr ⟨(lwg (lwt_1 (List.mem_of_getElem? (i := 113) rfl)) rfl), (List.forall_mem_cons.mpr ⟨(lwg (lwt_1 (List.mem_of_getElem? (i := 118) rfl)) rfl), (List.forall_mem_cons.mpr ⟨(lwg (lwt_1 (List.mem_of_getElem? (i := 123) rfl)) rfl), (List.forall_mem_cons.mpr ⟨(lwg (lwt_1 (List.mem_of_getElem? (i := 126) rfl)) rfl), (List.forall_mem_cons.mpr ⟨(lwg (lwt_1 (List.mem_of_getElem? (i := 127) rfl)) rfl), (List.forall_mem_cons.mpr ⟨(lwg (lwt_1 (List.mem_of_getElem? (i := 128) rfl)) rfl), (List.forall_mem_cons.mpr ⟨(lwg (lwt_1 (List.mem_of_getElem? (i := 71) rfl)) rfl), (List.forall_mem_cons.mpr ⟨(lwg (lwt_1 (List.mem_of_getElem? (i := 66) rfl)) rfl), (List.forall_mem_cons.mpr ⟨(lwg (lwt_1 (List.mem_of_getElem? (i := 85) rfl)) rfl), (List.forall_mem_cons.mpr ⟨(lwg (lwt_1 (List.mem_of_getElem? (i := 75) rfl)) rfl), (List.forall_mem_cons.mpr ⟨(lwg (lwt_1 (List.mem_of_getElem? (i := 79) rfl)) rfl), (List.forall_mem_cons.mpr ⟨(lwg (lwt_1 (List.mem_of_getElem? (i := 82) rfl)) rfl), (fun _ h => absurd h List.not_mem_nil)⟩)⟩)⟩)⟩)⟩)⟩)⟩)⟩)⟩)⟩)⟩)⟩)⟩)⟩)⟩)⟩)
set_option maxRecDepth 20000 in
theorem fl_1 : ∀ e ∈ flT.getD 1 [], Cond.fieldLink (cnm 1) e.1 (cnm e.2.1) (cT e.2.1 e.2.2).2.1 (cT e.2.1 e.2.2).2.2.1 ∈ lwG := (List.forall_mem_cons.mpr ⟨(lwg (lwt_1 (List.mem_of_getElem? (i := 213) rfl)) rfl), (List.forall_mem_cons.mpr ⟨(lwg (lwt_1 (List.mem_of_getElem? (i := 215) rfl)) rfl), (List.forall_mem_cons.mpr ⟨(lwg (lwt_1 (List.mem_of_getElem? (i := 217) rfl)) rfl), (List.forall_mem_cons.mpr ⟨(lwg (lwt_1 (List.mem_of_getElem? (i := 219) rfl)) rfl), (List.forall_mem_cons.mpr ⟨(lwg (lwt_1 (List.mem_of_getElem? (i := 220) rfl)) rfl), (List.forall_mem_cons.mpr ⟨(lwg (lwt_1 (List.mem_of_getElem? (i := 114) rfl)) rfl), (List.forall_mem_cons.mpr ⟨(lwg (lwt_1 (List.mem_of_getElem? (i := 119) rfl)) rfl), (List.forall_mem_cons.mpr ⟨(lwg (lwt_1 (List.mem_of_getElem? (i := 64) rfl)) rfl), (List.forall_mem_cons.mpr ⟨(lwg (lwt_1 (List.mem_of_getElem? (i := 50) rfl)) rfl), (fun _ h => absurd h List.not_mem_nil)⟩)⟩)⟩)⟩)⟩)⟩)⟩)⟩)⟩)
set_option maxRecDepth 20000 in
theorem fl_2 : ∀ e ∈ flT.getD 2 [], Cond.fieldLink (cnm 2) e.1 (cnm e.2.1) (cT e.2.1 e.2.2).2.1 (cT e.2.1 e.2.2).2.2.1 ∈ lwG := (List.forall_mem_cons.mpr ⟨(lwg (lwt_2 (List.mem_of_getElem? (i := 43) rfl)) rfl), (List.forall_mem_cons.mpr ⟨(lwg (lwt_2 (List.mem_of_getElem? (i := 44) rfl)) rfl), (List.forall_mem_cons.mpr ⟨(lwg (lwt_2 (List.mem_of_getElem? (i := 45) rfl)) rfl), (List.forall_mem_cons.mpr ⟨(lwg (lwt_2 (List.mem_of_getElem? (i := 46) rfl)) rfl), (List.forall_mem_cons.mpr ⟨(lwg (lwt_2 (List.mem_of_getElem? (i := 47) rfl)) rfl), (List.forall_mem_cons.mpr ⟨(lwg (lwt_1 (List.mem_of_getElem? (i := 49) rfl)) rfl), (List.forall_mem_cons.mpr ⟨(lwg (lwt_1 (List.mem_of_getElem? (i := 103) rfl)) rfl), (List.forall_mem_cons.mpr ⟨(lwg (lwt_1 (List.mem_of_getElem? (i := 111) rfl)) rfl), (List.forall_mem_cons.mpr ⟨(lwg (lwt_1 (List.mem_of_getElem? (i := 115) rfl)) rfl), (List.forall_mem_cons.mpr ⟨(lwg (lwt_1 (List.mem_of_getElem? (i := 121) rfl)) rfl), (List.forall_mem_cons.mpr ⟨(lwg (lwt_1 (List.mem_of_getElem? (i := 70) rfl)) rfl), (List.forall_mem_cons.mpr ⟨(lwg (lwt_1 (List.mem_of_getElem? (i := 124) rfl)) rfl), (List.forall_mem_cons.mpr ⟨(lwg (lwt_1 (List.mem_of_getElem? (i := 46) rfl)) rfl), (List.forall_mem_cons.mpr ⟨(lwg (lwt_1 (List.mem_of_getElem? (i := 76) rfl)) rfl), (List.forall_mem_cons.mpr ⟨(lwg (lwt_1 (List.mem_of_getElem? (i := 80) rfl)) rfl), (List.forall_mem_cons.mpr ⟨(lwg (lwt_1 (List.mem_of_getElem? (i := 83) rfl)) rfl), (List.forall_mem_cons.mpr ⟨(lwg (lwt_2 (List.mem_of_getElem? (i := 9) rfl)) rfl), (fun _ h => absurd h List.not_mem_nil)⟩)⟩)⟩)⟩)⟩)⟩)⟩)⟩)⟩)⟩)⟩)⟩)⟩)⟩)⟩)⟩)⟩)
set_option maxRecDepth 20000 in
theorem fl_3 : ∀ e ∈ flT.getD 3 [], Cond.fieldLink (cnm 3) e.1 (cnm e.2.1) (cT e.2.1 e.2.2).2.1 (cT e.2.1 e.2.2).2.2.1 ∈ lwG := (List.forall_mem_cons.mpr ⟨(lwg (lwt_2 (List.mem_of_getElem? (i := 8) rfl)) rfl), (List.forall_mem_cons.mpr ⟨(lwg (lwt_2 (List.mem_of_getElem? (i := 11) rfl)) rfl), (List.forall_mem_cons.mpr ⟨(lwg (lwt_2 (List.mem_of_getElem? (i := 13) rfl)) rfl), (List.forall_mem_cons.mpr ⟨(lwg (lwt_2 (List.mem_of_getElem? (i := 15) rfl)) rfl), (List.forall_mem_cons.mpr ⟨(lwg (lwt_2 (List.mem_of_getElem? (i := 17) rfl)) rfl), (List.forall_mem_cons.mpr ⟨(lwg (lwt_2 (List.mem_of_getElem? (i := 19) rfl)) rfl), (List.forall_mem_cons.mpr ⟨(lwg (lwt_2 (List.mem_of_getElem? (i := 21) rfl)) rfl), (List.forall_mem_cons.mpr ⟨(lwg (lwt_2 (List.mem_of_getElem? (i := 22) rfl)) rfl), (List.forall_mem_cons.mpr ⟨(lwg (lwt_2 (List.mem_of_getElem? (i := 23) rfl)) rfl), (fun _ h => absurd h List.not_mem_nil)⟩)⟩)⟩)⟩)⟩)⟩)⟩)⟩)⟩)
set_option maxRecDepth 20000 in
theorem fl_4 : ∀ e ∈ flT.getD 4 [], Cond.fieldLink (cnm 4) e.1 (cnm e.2.1) (cT e.2.1 e.2.2).2.1 (cT e.2.1 e.2.2).2.2.1 ∈ lwG := (List.forall_mem_cons.mpr ⟨(lwg (lwt_1 (List.mem_of_getElem? (i := 178) rfl)) rfl), (List.forall_mem_cons.mpr ⟨(lwg (lwt_1 (List.mem_of_getElem? (i := 179) rfl)) rfl), (List.forall_mem_cons.mpr ⟨(lwg (lwt_1 (List.mem_of_getElem? (i := 180) rfl)) rfl), (List.forall_mem_cons.mpr ⟨(lwg (lwt_1 (List.mem_of_getElem? (i := 181) rfl)) rfl), (List.forall_mem_cons.mpr ⟨(lwg (lwt_1 (List.mem_of_getElem? (i := 182) rfl)) rfl), (List.forall_mem_cons.mpr ⟨(lwg (lwt_1 (List.mem_of_getElem? (i := 183) rfl)) rfl), (List.forall_mem_cons.mpr ⟨(lwg (lwt_1 (List.mem_of_getElem? (i := 184) rfl)) rfl), (List.forall_mem_cons.mpr ⟨(lwg (lwt_1 (List.mem_of_getElem? (i := 185) rfl)) rfl), (List.forall_mem_cons.mpr ⟨(lwg (lwt_1 (List.mem_of_getElem? (i := 48) rfl)) rfl), (List.forall_mem_cons.mpr ⟨(lwg (lwt_1 (List.mem_of_getElem? (i := 42) rfl)) rfl), (List.forall_mem_cons.mpr ⟨(lwg (lwt_1 (List.mem_of_getElem? (i := 45) rfl)) rfl), (fun _ h => absurd h List.not_mem_nil)⟩)⟩)⟩)⟩)⟩)⟩)⟩)⟩)⟩)⟩)⟩)
set_option maxRecDepth 20000 in
theorem fl_5 : ∀ e ∈ flT.getD 5 [], Cond.fieldLink (cnm 5) e.1 (cnm e.2.1) (cT e.2.1 e.2.2).2.1 (cT e.2.1 e.2.2).2.2.1 ∈ lwG := (List.forall_mem_cons.mpr ⟨(lwg (lwt_1 (List.mem_of_getElem? (i := 156) rfl)) rfl), (List.forall_mem_cons.mpr ⟨(lwg (lwt_1 (List.mem_of_getElem? (i := 157) rfl)) rfl), (List.forall_mem_cons.mpr ⟨(lwg (lwt_1 (List.mem_of_getElem? (i := 158) rfl)) rfl), (List.forall_mem_cons.mpr ⟨(lwg (lwt_1 (List.mem_of_getElem? (i := 159) rfl)) rfl), (List.forall_mem_cons.mpr ⟨(lwg (lwt_1 (List.mem_of_getElem? (i := 160) rfl)) rfl), (List.forall_mem_cons.mpr ⟨(lwg (lwt_1 (List.mem_of_getElem? (i := 120) rfl)) rfl), (List.forall_mem_cons.mpr ⟨(lwg (lwt_1 (List.mem_of_getElem? (i := 104) rfl)) rfl), (List.forall_mem_cons.mpr ⟨(lwg (lwt_1 (List.mem_of_getElem? (i := 117) rfl)) rfl), (List.forall_mem_cons.mpr ⟨(lwg (lwt_1 (List.mem_of_getElem? (i := 68) rfl)) rfl), (List.forall_mem_cons.mpr ⟨(lwg (lwt_1 (List.mem_of_getElem? (i := 73) rfl)) rfl), (List.forall_mem_cons.mpr ⟨(lwg (lwt_1 (List.mem_of_getElem? (i := 52) rfl)) rfl), (fun _ h => absurd h List.not_mem_nil)⟩)⟩)⟩)⟩)⟩)⟩)⟩)⟩)⟩)⟩)⟩)
set_option maxRecDepth 20000 in
theorem fl_6 : ∀ e ∈ flT.getD 6 [], Cond.fieldLink (cnm 6) e.1 (cnm e.2.1) (cT e.2.1 e.2.2).2.1 (cT e.2.1 e.2.2).2.2.1 ∈ lwG := (List.forall_mem_cons.mpr ⟨(lwg (lwt_1 (List.mem_of_getElem? (i := 63) rfl)) rfl), (List.forall_mem_cons.mpr ⟨(lwg (lwt_1 (List.mem_of_getElem? (i := 65) rfl)) rfl), (List.forall_mem_cons.mpr ⟨(lwg (lwt_1 (List.mem_of_getElem? (i := 69) rfl)) rfl), (List.forall_mem_cons.mpr ⟨(lwg (lwt_1 (List.mem_of_getElem? (i := 74) rfl)) rfl), (List.forall_mem_cons.mpr ⟨(lwg (lwt_1 (List.mem_of_getElem? (i := 78) rfl)) rfl), (List.forall_mem_cons.mpr ⟨(lwg (lwt_1 (List.mem_of_getElem? (i := 81) rfl)) rfl), (List.forall_mem_cons.mpr ⟨(lwg (lwt_1 (List.mem_of_getElem? (i := 84) rfl)) rfl), (fun _ h => absurd h List.not_mem_nil)⟩)⟩)⟩)⟩)⟩)⟩)⟩)
set_option maxRecDepth 20000 in
theorem fl_7 : ∀ e ∈ flT.getD 7 [], Cond.fieldLink (cnm 7) e.1 (cnm e.2.1) (cT e.2.1 e.2.2).2.1 (cT e.2.1 e.2.2).2.2.1 ∈ lwG := (List.forall_mem_cons.mpr ⟨(lwg (lwt_1 (List.mem_of_getElem? (i := 41) rfl)) rfl), (List.forall_mem_cons.mpr ⟨(lwg (lwt_1 (List.mem_of_getElem? (i := 43) rfl)) rfl), (List.forall_mem_cons.mpr ⟨(lwg (lwt_1 (List.mem_of_getElem? (i := 44) rfl)) rfl), (List.forall_mem_cons.mpr ⟨(lwg (lwt_1 (List.mem_of_getElem? (i := 47) rfl)) rfl), (fun _ h => absurd h List.not_mem_nil)⟩)⟩)⟩)⟩)
set_option maxRecDepth 20000 in
theorem fl_8 : ∀ e ∈ flT.getD 8 [], Cond.fieldLink (cnm 8) e.1 (cnm e.2.1) (cT e.2.1 e.2.2).2.1 (cT e.2.1 e.2.2).2.2.1 ∈ lwG := (List.forall_mem_cons.mpr ⟨(lwg (lwt_2 (List.mem_of_getElem? (i := 61) rfl)) rfl), (List.forall_mem_cons.mpr ⟨(lwg (lwt_2 (List.mem_of_getElem? (i := 62) rfl)) rfl), (List.forall_mem_cons.mpr ⟨(lwg (lwt_2 (List.mem_of_getElem? (i := 63) rfl)) rfl), (List.forall_mem_cons.mpr ⟨(lwg (lwt_2 (List.mem_of_getElem? (i := 64) rfl)) rfl), (List.forall_mem_cons.mpr ⟨(lwg (lwt_2 (List.mem_of_getElem? (i := 65) rfl)) rfl), (List.forall_mem_cons.mpr ⟨(lwg (lwt_2 (List.mem_of_getElem? (i := 66) rfl)) rfl), (List.forall_mem_cons.mpr ⟨(lwg (lwt_2 (List.mem_of_getElem? (i := 67) rfl)) rfl), (List.forall_mem_cons.mpr ⟨(lwg (lwt_2 (List.mem_of_getElem? (i := 68) rfl)) rfl), (List.forall_mem_cons.mpr ⟨(lwg (lwt_2 (List.mem_of_getElem? (i := 69) rfl)) rfl), (List.forall_mem_cons.mpr ⟨(lwg (lwt_2 (List.mem_of_getElem? (i := 70) rfl)) rfl), (List.forall_mem_cons.mpr ⟨(lwg (lwt_2 (List.mem_of_getElem? (i := 71) rfl)) rfl), (List.forall_mem_cons.mpr ⟨(lwg (lwt_2 (List.mem_of_getElem? (i := 72) rfl)) rfl), (List.forall_mem_cons.mpr ⟨(lwg (lwt_2 (List.mem_of_getElem? (i := 73) rfl)) rfl), (List.forall_mem_cons.mpr ⟨(lwg (lwt_2 (List.mem_of_getElem? (i := 74) rfl)) rfl), (List.forall_mem_cons.mpr ⟨(lwg (lwt_1 (List.mem_of_getElem? (i := 116) rfl)) rfl), (List.forall_mem_cons.mpr ⟨(lwg (lwt_1 (List.mem_of_getElem? (i := 216) rfl)) rfl), (List.forall_mem_cons.mpr ⟨(lwg (lwt_1 (List.mem_of_getElem? (i := 51) rfl)) rfl), (List.forall_mem_cons.mpr ⟨(lwg (lwt_1 (List.mem_of_getElem? (i := 107) rfl)) rfl), (List.forall_mem_cons.mpr ⟨(lwg (lwt_1 (List.mem_of_getElem? (i := 109) rfl)) rfl), (List.forall_mem_cons.mpr ⟨(lwg (lwt_1 (List.mem_of_getElem? (i := 112) rfl)) rfl), (List.forall_mem_cons.mpr ⟨(lwg (lwt_1 (List.mem_of_getElem? (i := 122) rfl)) rfl), (List.forall_mem_cons.mpr ⟨(lwg (lwt_1 (List.mem_of_getElem? (i := 214) rfl)) rfl), (List.forall_mem_cons.mpr ⟨(lwg (lwt_1 (List.mem_of_getElem? (i := 67) rfl)) rfl), (List.forall_mem_cons.mpr ⟨(lwg (lwt_1 (List.mem_of_getElem? (i := 72) rfl)) rfl), (List.forall_mem_cons.mpr ⟨(lwg (lwt_1 (List.mem_of_getElem? (i := 77) rfl)) rfl), (List.forall_mem_cons.mpr ⟨(lwg (lwt_1 (List.mem_of_getElem? (i := 125) rfl)) rfl), (List.forall_mem_cons.mpr ⟨(lwg (lwt_1 (List.mem_of_getElem? (i := 105) rfl)) rfl), (List.forall_mem_cons.mpr ⟨(lwg (lwt_2 (List.mem_of_getElem? (i := 10) rfl)) rfl), (List.forall_mem_cons.mpr ⟨(lwg (lwt_2 (List.mem_of_getElem? (i := 18) rfl)) rfl), (List.forall_mem_cons.mpr ⟨(lwg (lwt_1 (List.mem_of_getElem? (i := 86) rfl)) rfl), (List.forall_mem_cons.mpr ⟨(lwg (lwt_2 (List.mem_of_getElem? (i := 12) rfl)) rfl), (List.forall_mem_cons.mpr ⟨(lwg (lwt_2 (List.mem_of_getElem? (i := 14) rfl)) rfl), (List.forall_mem_cons.mpr ⟨(lwg (lwt_2 (List.mem_of_getElem? (i := 20) rfl)) rfl), (List.forall_mem_cons.mpr ⟨(lwg (lwt_2 (List.mem_of_getElem? (i := 16) rfl)) rfl), (List.forall_mem_cons.mpr ⟨(lwg (lwt_1 (List.mem_of_getElem? (i := 218) rfl)) rfl), (fun _ h => absurd h List.not_mem_nil)⟩)⟩)⟩)⟩)⟩)⟩)⟩)⟩)⟩)⟩)⟩)⟩)⟩)⟩)⟩)⟩)⟩)⟩)⟩)⟩)⟩)⟩)⟩)⟩)⟩)⟩)⟩)⟩)⟩)⟩)⟩)⟩)⟩)⟩)⟩)
set_option maxRecDepth 20000 in
theorem fl_9 : ∀ e ∈ flT.getD 9 [], Cond.fieldLink (cnm 9) e.1 (cnm e.2.1) (cT e.2.1 e.2.2).2.1 (cT e.2.1 e.2.2).2.2.1 ∈ lwG := (List.forall_mem_cons.mpr ⟨(lwg (lwt_4 (List.mem_of_getElem? (i := 124) rfl)) rfl), (List.forall_mem_cons.mpr ⟨(lwg (lwt_4 (List.mem_of_getElem? (i := 125) rfl)) rfl), (List.forall_mem_cons.mpr ⟨(lwg (lwt_4 (List.mem_of_getElem? (i := 127) rfl)) rfl), (List.forall_mem_cons.mpr ⟨(lwg (lwt_4 (List.mem_of_getElem? (i := 128) rfl)) rfl), (List.forall_mem_cons.mpr ⟨(lwg (lwt_4 (List.mem_of_getElem? (i := 129) rfl)) rfl), (List.forall_mem_cons.mpr ⟨(lwg (lwt_4 (List.mem_of_getElem? (i := 130) rfl)) rfl), (List.forall_mem_cons.mpr ⟨(lwg (lwt_4 (List.mem_of_getElem? (i := 131) rfl)) rfl), (List.forall_mem_cons.mpr ⟨(lwg (lwt_4 (List.mem_of_getElem? (i := 132) rfl)) rfl), (List.forall_mem_cons.mpr ⟨(lwg (lwt_4 (List.mem_of_getElem? (i := 133) rfl)) rfl), (List.forall_mem_cons.mpr ⟨(lwg (lwt_4 (List.mem_of_getElem? (i := 134) rfl)) rfl), (List.forall_mem_cons.mpr ⟨(lwg (lwt_4 (List.mem_of_getElem? (i := 135) rfl)) rfl), (List.forall_mem_cons.mpr ⟨(lwg (lwt_4 (List.mem_of_getElem? (i := 136) rfl)) rfl), (List.forall_mem_cons.mpr ⟨(lwg (lwt_4 (List.mem_of_getElem? (i := 138) rfl)) rfl), (List.forall_mem_cons.mpr ⟨(lwg (lwt_4 (List.mem_of_getElem? (i := 139) rfl)) rfl), (List.forall_mem_cons.mpr ⟨(lwg (lwt_4 (List.mem_of_getElem? (i := 140) rfl)) rfl), (List.forall_mem_cons.mpr ⟨(lwg (lwt_4 (List.mem_of_getElem? (i := 142) rfl)) rfl), (List.forall_mem_cons.mpr ⟨(lwg (lwt_4 (List.mem_of_getElem? (i := 147) rfl)) rfl), (List.forall_mem_cons.mpr ⟨(lwg (lwt_4 (List.mem_of_getElem? (i := 148) rfl)) rfl), (List.forall_mem_cons.mpr ⟨(lwg (lwt_4 (List.mem_of_getElem? (i := 149) rfl)) rfl), (List.forall_mem_cons.mpr ⟨(lwg (lwt_4 (List.mem_of_getElem? (i := 150) rfl)) rfl), (List.forall_mem_cons.mpr ⟨(lwg (lwt_4 (List.mem_of_getElem? (i := 151) rfl)) rfl), (List.forall_mem_cons.mpr ⟨(lwg (lwt_4 (List.mem_of_getElem? (i := 152) rfl)) rfl), (List.forall_mem_cons.mpr ⟨(lwg (lwt_4 (List.mem_of_getElem? (i := 153) rfl)) rfl), (List.forall_mem_cons.mpr ⟨(lwg (lwt_4 (List.mem_of_getElem? (i := 154) rfl)) rfl), (List.forall_mem_cons.mpr ⟨(lwg (lwt_4 (List.mem_of_getElem? (i := 155) rfl)) rfl), (List.forall_mem_cons.mpr ⟨(lwg (lwt_4 (List.mem_of_getElem? (i := 157) rfl)) rfl), (List.forall_mem_cons.mpr ⟨(lwg (lwt_4 (List.mem_of_getElem? (i := 158) rfl)) rfl), (List.forall_mem_cons.mpr ⟨(lwg (lwt_4 (List.mem_of_getElem? (i := 159) rfl)) rfl), (List.forall_mem_cons.mpr ⟨(lwg (lwt_4 (List.mem_of_getElem? (i := 160) rfl)) rfl), (List.forall_mem_cons.mpr ⟨(lwg (lwt_4 (List.mem_of_getElem? (i := 161) rfl)) rfl), (List.forall_mem_cons.mpr ⟨(lwg (lwt_4 (List.mem_of_getElem? (i := 162) rfl)) rfl), (List.forall_mem_cons.mpr ⟨(lwg (lwt_4 (List.mem_of_getElem? (i := 163) rfl)) rfl), (List.forall_mem_cons.mpr ⟨(lwg (lwt_4 (List.mem_of_getElem? (i := 164) rfl)) rfl), (List.forall_mem_cons.mpr ⟨(lwg (lwt_4 (List.mem_of_getElem? (i := 165) rfl)) rfl), (List.forall_mem_cons.mpr ⟨(lwg (lwt_4 (List.mem_of_getElem? (i := 166) rfl)) rfl), (List.forall_mem_cons.mpr ⟨(lwg (lwt_4 (List.mem_of_getElem? (i := 169) rfl)) rfl), (List.forall_mem_cons.mpr ⟨(lwg (lwt_4 (List.mem_of_getElem? (i := 170) rfl)) rfl), (List.forall_mem_cons.mpr ⟨(lwg (lwt_4 (List.mem_of_getElem? (i := 171) rfl)) rfl), (List.forall_mem_cons.mpr ⟨(lwg (lwt_4 (List.mem_of_getElem? (i := 173) rfl)) rfl), (List.forall_mem_cons.mpr ⟨(lwg (lwt_4 (List.mem_of_getElem? (i := 178) rfl)) rfl), (List.forall_mem_cons.mpr ⟨(lwg (lwt_4 (List.mem_of_getElem? (i := 179) rfl)) rfl), (List.forall_mem_cons.mpr ⟨(lwg (lwt_4 (List.mem_of_getElem? (i := 180) rfl)) rfl), (List.forall_mem_cons.mpr ⟨(lwg (lwt_4 (List.mem_of_getElem? (i := 181) rfl)) rfl), (List.forall_mem_cons.mpr ⟨(lwg (lwt_4 (List.mem_of_getElem? (i := 182) rfl)) rfl), (List.forall_mem_cons.mpr ⟨(lwg (lwt_4 (List.mem_of_getElem? (i := 183) rfl)) rfl), (List.forall_mem_cons.mpr ⟨(lwg (lwt_4 (List.mem_of_getElem? (i := 141) rfl)) rfl), (List.forall_mem_cons.mpr ⟨(lwg (lwt_4 (List.mem_of_getElem? (i := 144) rfl)) rfl), (List.forall_mem_cons.mpr ⟨(lwg (lwt_4 (List.mem_of_getElem? (i := 145) rfl)) rfl), (List.forall_mem_cons.mpr ⟨(lwg (lwt_4 (List.mem_of_getElem? (i := 146) rfl)) rfl), (List.forall_mem_cons.mpr ⟨(lwg (lwt_4 (List.mem_of_getElem? (i := 143) rfl)) rfl), (List.forall_mem_cons.mpr ⟨(lwg (lwt_4 (List.mem_of_getElem? (i := 123) rfl)) rfl), (List.forall_mem_cons.mpr ⟨(lwg (lwt_4 (List.mem_of_getElem? (i := 126) rfl)) rfl), (List.forall_mem_cons.mpr ⟨(lwg (lwt_4 (List.mem_of_getElem? (i := 122) rfl)) rfl), (List.forall_mem_cons.mpr ⟨(lwg (lwt_4 (List.mem_of_getElem? (i := 137) rfl)) rfl), (List.forall_mem_cons.mpr ⟨(lwg (lwt_4 (List.mem_of_getElem? (i := 156) rfl)) rfl), (List.forall_mem_cons.mpr ⟨(lwg (lwt_4 (List.mem_of_getElem? (i := 167) rfl)) rfl), (List.forall_mem_cons.mpr ⟨(lwg (lwt_4 (List.mem_of_getElem? (i := 168) rfl)) rfl), (List.forall_mem_cons.mpr ⟨(lwg (lwt_4 (List.mem_of_getElem? (i := 172) rfl)) rfl), (List.forall_mem_cons.mpr ⟨(lwg (lwt_4 (List.mem_of_getElem? (i := 174) rfl)) rfl), (List.forall_mem_cons.mpr ⟨(lwg (lwt_4 (List.mem_of_getElem? (i := 175) rfl)) rfl), (List.forall_mem_cons.mpr ⟨(lwg (lwt_4 (List.mem_of_getElem? (i := 176) rfl)) rfl), (List.forall_mem_cons.mpr ⟨(lwg (lwt_4 (List.mem_of_getElem? (i := 177) rfl)) rfl), (List.forall_mem_cons.mpr ⟨(lwg (lwt_4 (List.mem_of_getElem? (i := 184) rfl)) rfl), (fun _ h => absurd h List.not_mem_nil)⟩)⟩)⟩)⟩)⟩)⟩)⟩)⟩)⟩)⟩)⟩)⟩)⟩)⟩)⟩)⟩)⟩)⟩)⟩)⟩)⟩)⟩)⟩)⟩)⟩)⟩)⟩)⟩)⟩)⟩)⟩)⟩)⟩)⟩)⟩)⟩)⟩)⟩)⟩)⟩)⟩)⟩)⟩)⟩)⟩)⟩)⟩)⟩)⟩)⟩)⟩)⟩)⟩)⟩)⟩)⟩)⟩)⟩)⟩)⟩)⟩)⟩)⟩)
set_option maxRecDepth 20000 in
theorem fl_10 : ∀ e ∈ flT.getD 10 [], Cond.fieldLink (cnm 10) e.1 (cnm e.2.1) (cT e.2.1 e.2.2).2.1 (cT e.2.1 e.2.2).2.2.1 ∈ lwG := (fun _ h => absurd h List.not_mem_nil)
set_option maxRecDepth 20000 in
theorem fl_11 : ∀ e ∈ flT.getD 11 [], Cond.fieldLink (cnm 11) e.1 (cnm e.2.1) (cT e.2.1 e.2.2).2.1 (cT e.2.1 e.2.2).2.2.1 ∈ lwG := (fun _ h => absurd h List.not_mem_nil)
set_option maxRecDepth 20000 in
theorem fl_12 : ∀ e ∈ flT.getD 12 [], Cond.fieldLink (cnm 12) e.1 (cnm e.2.1) (cT e.2.1 e.2.2).2.1 (cT e.2.1 e.2.2).2.2.1 ∈ lwG := (fun _ h => absurd h List.not_mem_nil)
set_option maxRecDepth 20000 in
theorem fl_13 : ∀ e ∈ flT.getD 13 [], Cond.fieldLink (cnm 13) e.1 (cnm e.2.1) (cT e.2.1 e.2.2).2.1 (cT e.2.1 e.2.2).2.2.1 ∈ lwG := (fun _ h => absurd h List.not_mem_nil)
theorem fl_ok : ∀ o, ∀ e ∈ flT.getD o [], Cond.fieldLink (cnm o) e.1 (cnm e.2.1) (cT e.2.1 e.2.2).2.1 (cT e.2.1 e.2.2).2.2.1 ∈ lwG := by
  intro o
  match o with
  | 0 => exact fl_0
  | 1 => exact fl_1
  | 2 => exact fl_2
  | 3 => exact fl_3
  | 4 => exact fl_4
  | 5 => exact fl_5
  | 6 => exact fl_6
  | 7 => exact fl_7
  | 8 => exact fl_8
  | 9 => exact fl_9
  | 10 => exact fl_10
  | 11 => exact fl_11
  | 12 => exact fl_12
  | 13 => exact fl_13
  | o + 14 => intro e h; rw [show flT.getD (o + 14) [] = [] from rfl] at h; exact absurd h List.not_mem_nil
set_option maxRecDepth 20000 in
theorem ml_0 : ∀ e ∈ mlT.getD 0 [], Cond.methodLink (cnm 0) e.1 (yK e.2) ∈ lwG := (List.forall_mem_cons.mpr ⟨(lwg (lwt_2 (List.mem_of_getElem? (i := 163) rfl)) rfl), (List.forall_mem_cons.mpr ⟨(lwg (lwt_2 (List.mem_of_getElem? (i := 236) rfl)) rfl), (List.forall_mem_cons.mpr ⟨(lwg (lwt_3 (List.mem_of_getElem? (i := 0) rfl)) rfl), (List.forall_mem_cons.mpr ⟨(lwg (lwt_3 (List.mem_of_getElem? (i := 36) rfl)) rfl), (List.forall_mem_cons.mpr ⟨(lwg (lwt_3 (List.mem_of_getElem? (i := 4) rfl)) rfl), (List.forall_mem_cons.mpr ⟨(lwg (lwt_3 (List.mem_of_getElem? (i := 21) rfl)) rfl), (List.forall_mem_cons.mpr ⟨(lwg (lwt_3 (List.mem_of_getElem? (i := 32) rfl)) rfl), (List.forall_mem_cons.mpr ⟨(lwg (lwt_3 (List.mem_of_getElem? (i := 40) rfl)) rfl), (List.forall_mem_cons.mpr ⟨(lwg (lwt_3 (List.mem_of_getElem? (i := 44) rfl)) rfl), (fun _ h => absurd h List.not_mem_nil)⟩)⟩)⟩)⟩)⟩)⟩)⟩)⟩)⟩)
set_option maxRecDepth 20000 in
theorem ml_1 : ∀ e ∈ mlT.getD 1 [], Cond.methodLink (cnm 1) e.1 (yK e.2) ∈ lwG := (List.forall_mem_cons.mpr ⟨(lwg (lwt_3 (List.mem_of_getElem? (i := 83) rfl)) rfl), (List.forall_mem_cons.mpr ⟨(lwg (lwt_4 (List.mem_of_getElem? (i := 66) rfl)) rfl), (List.forall_mem_cons.mpr ⟨(lwg (lwt_4 (List.mem_of_getElem? (i := 95) rfl)) rfl), (List.forall_mem_cons.mpr ⟨(lwg (lwt_4 (List.mem_of_getElem? (i := 99) rfl)) rfl), (fun _ h => absurd h List.not_mem_nil)⟩)⟩)⟩)⟩)
set_option maxRecDepth 20000 in
theorem ml_2 : ∀ e ∈ mlT.getD 2 [], Cond.methodLink (cnm 2) e.1 (yK e.2) ∈ lwG := (List.forall_mem_cons.mpr ⟨(lwg (lwt_3 (List.mem_of_getElem? (i := 135) rfl)) rfl), (List.forall_mem_cons.mpr ⟨(lwg (lwt_3 (List.mem_of_getElem? (i := 139) rfl)) rfl), (List.forall_mem_cons.mpr ⟨(lwg (lwt_3 (List.mem_of_getElem? (i := 144) rfl)) rfl), (List.forall_mem_cons.mpr ⟨(lwg (lwt_3 (List.mem_of_getElem? (i := 148) rfl)) rfl), (List.forall_mem_cons.mpr ⟨(lwg (lwt_3 (List.mem_of_getElem? (i := 143) rfl)) rfl), (List.forall_mem_cons.mpr ⟨(lwg (lwt_3 (List.mem_of_getElem? (i := 152) rfl)) rfl), (List.forall_mem_cons.mpr ⟨(lwg (lwt_3 (List.mem_of_getElem? (i := 153) rfl)) rfl), (List.forall_mem_cons.mpr ⟨(lwg (lwt_3 (List.mem_of_getElem? (i := 162) rfl)) rfl), (List.forall_mem_cons.mpr ⟨(lwg (lwt_3 (List.mem_of_getElem? (i := 171) rfl)) rfl), (List.forall_mem_cons.mpr ⟨(lwg (lwt_3 (List.mem_of_getElem? (i := 175) rfl)) rfl), (List.forall_mem_cons.mpr ⟨(lwg (lwt_3 (List.mem_of_getElem? (i := 176) rfl)) rfl), (List.forall_mem_cons.mpr ⟨(lwg (lwt_3 (List.mem_of_getElem? (i := 166) rfl)) rfl), (List.forall_mem_cons.mpr ⟨(lwg (lwt_3 (List.mem_of_getElem? (i := 167) rfl)) rfl), (List.forall_mem_cons.mpr ⟨(lwg (lwt_3 (List.mem_of_getElem? (i := 180) rfl)) rfl), (fun _ h => absurd h List.not_mem_nil)⟩)⟩)⟩)⟩)⟩)⟩)⟩)⟩)⟩)⟩)⟩)⟩)⟩)⟩)
set_option maxRecDepth 20000 in
theorem ml_3 : ∀ e ∈ mlT.getD 3 [], Cond.methodLink (cnm 3) e.1 (yK e.2) ∈ lwG := (List.forall_mem_cons.mpr ⟨(lwg (lwt_3 (List.mem_of_getElem? (i := 157) rfl)) rfl), (fun _ h => absurd h List.not_mem_nil)⟩)
set_option maxRecDepth 20000 in
theorem ml_4 : ∀ e ∈ mlT.getD 4 [], Cond.methodLink (cnm 4) e.1 (yK e.2) ∈ lwG := (List.forall_mem_cons.mpr ⟨(lwg (lwt_3 (List.mem_of_getElem? (i := 48) rfl)) rfl), (List.forall_mem_cons.mpr ⟨(lwg (lwt_3 (List.mem_of_getElem? (i := 54) rfl)) rfl), (List.forall_mem_cons.mpr ⟨(lwg (lwt_3 (List.mem_of_getElem? (i := 58) rfl)) rfl), (List.forall_mem_cons.mpr ⟨(lwg (lwt_3 (List.mem_of_getElem? (i := 71) rfl)) rfl), (List.forall_mem_cons.mpr ⟨(lwg (lwt_3 (List.mem_of_getElem? (i := 52) rfl)) rfl), (List.forall_mem_cons.mpr ⟨(lwg (lwt_3 (List.mem_of_getElem? (i := 53) rfl)) rfl), (List.forall_mem_cons.mpr ⟨(lwg (lwt_3 (List.mem_of_getElem? (i := 62) rfl)) rfl), (List.forall_mem_cons.mpr ⟨(lwg (lwt_3 (List.mem_of_getElem? (i := 66) rfl)) rfl), (List.forall_mem_cons.mpr ⟨(lwg (lwt_3 (List.mem_of_getElem? (i := 70) rfl)) rfl), (List.forall_mem_cons.mpr ⟨(lwg (lwt_3 (List.mem_of_getElem? (i := 75) rfl)) rfl), (fun _ h => absurd h List.not_mem_nil)⟩)⟩)⟩)⟩)⟩)⟩)⟩)⟩)⟩)⟩)
set_option maxRecDepth 20000 in
theorem ml_5 : ∀ e ∈ mlT.getD 5 [], Cond.methodLink (cnm 5) e.1 (yK e.2) ∈ lwG := (List.forall_mem_cons.mpr ⟨(lwg (lwt_2 (List.mem_of_getElem? (i := 124) rfl)) rfl), (List.forall_mem_cons.mpr ⟨(lwg (lwt_2 (List.mem_of_getElem? (i := 132) rfl)) rfl), (List.forall_mem_cons.mpr ⟨(lwg (lwt_2 (List.mem_of_getElem? (i := 144) rfl)) rfl), (List.forall_mem_cons.mpr ⟨(lwg (lwt_2 (List.mem_of_getElem? (i := 148) rfl)) rfl), (List.forall_mem_cons.mpr ⟨(lwg (lwt_2 (List.mem_of_getElem? (i := 152) rfl)) rfl), (List.forall_mem_cons.mpr ⟨(lwg (lwt_2 (List.mem_of_getElem? (i := 171) rfl)) rfl), (List.forall_mem_cons.mpr ⟨(lwg (lwt_2 (List.mem_of_getElem? (i := 179) rfl)) rfl), (List.forall_mem_cons.mpr ⟨(lwg (lwt_2 (List.mem_of_getElem? (i := 195) rfl)) rfl), (List.forall_mem_cons.mpr ⟨(lwg (lwt_2 (List.mem_of_getElem? (i := 210) rfl)) rfl), (List.forall_mem_cons.mpr ⟨(lwg (lwt_2 (List.mem_of_getElem? (i := 214) rfl)) rfl), (List.forall_mem_cons.mpr ⟨(lwg (lwt_2 (List.mem_of_getElem? (i := 136) rfl)) rfl), (List.forall_mem_cons.mpr ⟨(lwg (lwt_2 (List.mem_of_getElem? (i := 140) rfl)) rfl), (List.forall_mem_cons.mpr ⟨(lwg (lwt_2 (List.mem_of_getElem? (i := 156) rfl)) rfl), (List.forall_mem_cons.mpr ⟨(lwg (lwt_2 (List.mem_of_getElem? (i := 159) rfl)) rfl), (List.forall_mem_cons.mpr ⟨(lwg (lwt_2 (List.mem_of_getElem? (i := 175) rfl)) rfl), (List.forall_mem_cons.mpr ⟨(lwg (lwt_2 (List.mem_of_getElem? (i := 183) rfl)) rfl), (List.forall_mem_cons.mpr ⟨(lwg (lwt_2 (List.mem_of_getElem? (i := 186) rfl)) rfl), (List.forall_mem_cons.mpr ⟨(lwg (lwt_2 (List.mem_of_getElem? (i := 191) rfl)) rfl), (List.forall_mem_cons.mpr ⟨(lwg (lwt_2 (List.mem_of_getElem? (i := 199) rfl)) rfl), (List.forall_mem_cons.mpr ⟨(lwg (lwt_2 (List.mem_of_getElem? (i := 218) rfl)) rfl), (List.forall_mem_cons.mpr ⟨(lwg (lwt_2 (List.mem_of_getElem? (i := 219) rfl)) rfl), (List.forall_mem_cons.mpr ⟨(lwg (lwt_2 (List.mem_of_getElem? (i := 220) rfl)) rfl), (fun _ h => absurd h List.not_mem_nil)⟩)⟩)⟩)⟩)⟩)⟩)⟩)⟩)⟩)⟩)⟩)⟩)⟩)⟩)⟩)⟩)⟩)⟩)⟩)⟩)⟩)⟩)
set_option maxRecDepth 20000 in
theorem ml_6 : ∀ e ∈ mlT.getD 6 [], Cond.methodLink (cnm 6) e.1 (yK e.2) ∈ lwG := (List.forall_mem_cons.mpr ⟨(lwg (lwt_2 (List.mem_of_getElem? (i := 167) rfl)) rfl), (List.forall_mem_cons.mpr ⟨(lwg (lwt_3 (List.mem_of_getElem? (i := 25) rfl)) rfl), (List.forall_mem_cons.mpr ⟨(lwg (lwt_2 (List.mem_of_getElem? (i := 203) rfl)) rfl), (fun _ h => absurd h List.not_mem_nil)⟩)⟩)⟩)
set_option maxRecDepth 20000 in
theorem ml_7 : ∀ e ∈ mlT.getD 7 [], Cond.methodLink (cnm 7) e.1 (yK e.2) ∈ lwG := (List.forall_mem_cons.mpr ⟨(lwg (lwt_3 (List.mem_of_getElem? (i := 8) rfl)) rfl), (List.forall_mem_cons.mpr ⟨(lwg (lwt_3 (List.mem_of_getElem? (i := 9) rfl)) rfl), (List.forall_mem_cons.mpr ⟨(lwg (lwt_3 (List.mem_of_getElem? (i := 13) rfl)) rfl), (List.forall_mem_cons.mpr ⟨(lwg (lwt_3 (List.mem_of_getElem? (i := 17) rfl)) rfl), (List.forall_mem_cons.mpr ⟨(lwg (lwt_2 (List.mem_of_getElem? (i := 207) rfl)) rfl), (fun _ h => absurd h List.not_mem_nil)⟩)⟩)⟩)⟩)⟩)
set_option maxRecDepth 20000 in
theorem ml_8 : ∀ e ∈ mlT.getD 8 [], Cond.methodLink (cnm 8) e.1 (yK e.2) ∈ lwG := (List.forall_mem_cons.mpr ⟨(lwg (lwt_1 (List.mem_of_getElem? (i := 24) rfl)) rfl), (List.forall_mem_cons.mpr ⟨(lwg (lwt_1 (List.mem_of_getElem? (i := 206) rfl)) rfl), (List.forall_mem_cons.mpr ⟨(lwg (lwt_1 (List.mem_of_getElem? (i := 234) rfl)) rfl), (List.forall_mem_cons.mpr ⟨(lwg (lwt_2 (List.mem_of_getElem? (i := 116) rfl)) rfl), (List.forall_mem_cons.mpr ⟨(lwg (lwt_2 (List.mem_of_getElem? (i := 228) rfl)) rfl), (List.forall_mem_cons.mpr ⟨(lwg (lwt_2 (List.mem_of_getElem? (i := 232) rfl)) rfl), (List.forall_mem_cons.mpr ⟨(lwg (lwt_3 (List.mem_of_getElem? (i := 79) rfl)) rfl), (List.forall_mem_cons.mpr ⟨(lwg (lwt_3 (List.mem_of_getElem? (i := 88) rfl)) rfl), (List.forall_mem_cons.mpr ⟨(lwg (lwt_3 (List.mem_of_getElem? (i := 94) rfl)) rfl), (List.forall_mem_cons.mpr ⟨(lwg (lwt_3 (List.mem_of_getElem? (i := 92) rfl)) rfl), (List.forall_mem_cons.mpr ⟨(lwg (lwt_3 (List.mem_of_getElem? (i := 95) rfl)) rfl), (List.forall_mem_cons.mpr ⟨(lwg (lwt_3 (List.mem_of_getElem? (i := 96) rfl)) rfl), (List.forall_mem_cons.mpr ⟨(lwg (lwt_2 (List.mem_of_getElem? (i := 120) rfl)) rfl), (List.forall_mem_cons.mpr ⟨(lwg (lwt_2 (List.mem_of_getElem? (i := 128) rfl)) rfl), (List.forall_mem_cons.mpr ⟨(lwg (lwt_3 (List.mem_of_getElem? (i := 93) rfl)) rfl), (List.forall_mem_cons.mpr ⟨(lwg (lwt_3 (List.mem_of_getElem? (i := 101) rfl)) rfl), (List.forall_mem_cons.mpr ⟨(lwg (lwt_3 (List.mem_of_getElem? (i := 105) rfl)) rfl), (List.forall_mem_cons.mpr ⟨(lwg (lwt_3 (List.mem_of_getElem? (i := 115) rfl)) rfl), (List.forall_mem_cons.mpr ⟨(lwg (lwt_3 (List.mem_of_getElem? (i := 119) rfl)) rfl), (List.forall_mem_cons.mpr ⟨(lwg (lwt_3 (List.mem_of_getElem? (i := 123) rfl)) rfl), (List.forall_mem_cons.mpr ⟨(lwg (lwt_3 (List.mem_of_getElem? (i := 131) rfl)) rfl), (List.forall_mem_cons.mpr ⟨(lwg (lwt_3 (List.mem_of_getElem? (i := 184) rfl)) rfl), (List.forall_mem_cons.mpr ⟨(lwg (lwt_3 (List.mem_of_getElem? (i := 196) rfl)) rfl), (List.forall_mem_cons.mpr ⟨(lwg (lwt_3 (List.mem_of_getElem? (i := 207) rfl)) rfl), (List.forall_mem_cons.mpr ⟨(lwg (lwt_3 (List.mem_of_getElem? (i := 215) rfl)) rfl), (List.forall_mem_cons.mpr ⟨(lwg (lwt_3 (List.mem_of_getElem? (i := 218) rfl)) rfl), (List.forall_mem_cons.mpr ⟨(lwg (lwt_3 (List.mem_of_getElem? (i := 222) rfl)) rfl), (List.forall_mem_cons.mpr ⟨(lwg (lwt_3 (List.mem_of_getElem? (i := 230) rfl)) rfl), (List.forall_mem_cons.mpr ⟨(lwg (lwt_3 (List.mem_of_getElem? (i := 234) rfl)) rfl), (List.forall_mem_cons.mpr ⟨(lwg (lwt_3 (List.mem_of_getElem? (i := 211) rfl)) rfl), (List.forall_mem_cons.mpr ⟨(lwg (lwt_3 (List.mem_of_getElem? (i := 128) rfl)) rfl), (List.forall_mem_cons.mpr ⟨(lwg (lwt_3 (List.mem_of_getElem? (i := 188) rfl)) rfl), (List.forall_mem_cons.mpr ⟨(lwg (lwt_3 (List.mem_of_getElem? (i := 239) rfl)) rfl), (List.forall_mem_cons.mpr ⟨(lwg (lwt_4 (List.mem_of_getElem? (i := 3) rfl)) rfl), (List.forall_mem_cons.mpr ⟨(lwg (lwt_4 (List.mem_of_getElem? (i := 21) rfl)) rfl), (List.forall_mem_cons.mpr ⟨(lwg (lwt_4 (List.mem_of_getElem? (i := 29) rfl)) rfl), (List.forall_mem_cons.mpr ⟨(lwg (lwt_4 (List.mem_of_getElem? (i := 13) rfl)) rfl), (List.forall_mem_cons.mpr ⟨(lwg (lwt_4 (List.mem_of_getElem? (i := 7) rfl)) rfl), (List.forall_mem_cons.mpr ⟨(lwg (lwt_4 (List.mem_of_getElem? (i := 34) rfl)) rfl), (List.forall_mem_cons.mpr ⟨(lwg (lwt_4 (List.mem_of_getElem? (i := 46) rfl)) rfl), (List.forall_mem_cons.mpr ⟨(lwg (lwt_4 (List.mem_of_getElem? (i := 54) rfl)) rfl), (List.forall_mem_cons.mpr ⟨(lwg (lwt_4 (List.mem_of_getElem? (i := 62) rfl)) rfl), (List.forall_mem_cons.mpr ⟨(lwg (lwt_4 (List.mem_of_getElem? (i := 70) rfl)) rfl), (List.forall_mem_cons.mpr ⟨(lwg (lwt_4 (List.mem_of_getElem? (i := 83) rfl)) rfl), (List.forall_mem_cons.mpr ⟨(lwg (lwt_4 (List.mem_of_getElem? (i := 87) rfl)) rfl), (List.forall_mem_cons.mpr ⟨(lwg (lwt_4 (List.mem_of_getElem? (i := 91) rfl)) rfl), (List.forall_mem_cons.mpr ⟨(lwg (lwt_4 (List.mem_of_getElem? (i := 109) rfl)) rfl), (List.forall_mem_cons.mpr ⟨(lwg (lwt_4 (List.mem_of_getElem? (i := 110) rfl)) rfl), (List.forall_mem_cons.mpr ⟨(lwg (lwt_4 (List.mem_of_getElem? (i := 111) rfl)) rfl), (List.forall_mem_cons.mpr ⟨(lwg (lwt_4 (List.mem_of_getElem? (i := 115) rfl)) rfl), (fun _ h => absurd h List.not_mem_nil)⟩)⟩)⟩)⟩)⟩)⟩)⟩)⟩)⟩)⟩)⟩)⟩)⟩)⟩)⟩)⟩)⟩)⟩)⟩)⟩)⟩)⟩)⟩)⟩)⟩)⟩)⟩)⟩)⟩)⟩)⟩)⟩)⟩)⟩)⟩)⟩)⟩)⟩)⟩)⟩)⟩)⟩)⟩)⟩)⟩)⟩)⟩)⟩)⟩)⟩)
set_option maxRecDepth 20000 in
theorem ml_9 : ∀ e ∈ mlT.getD 9 [], Cond.methodLink (cnm 9) e.1 (yK e.2) ∈ lwG := (List.forall_mem_cons.mpr ⟨(lwg (lwt_5 (List.mem_of_getElem? (i := 77) rfl)) rfl), (List.forall_mem_cons.mpr ⟨(lwg (lwt_5 (List.mem_of_getElem? (i := 100) rfl)) rfl), (List.forall_mem_cons.mpr ⟨(lwg (lwt_5 (List.mem_of_getElem? (i := 104) rfl)) rfl), (List.forall_mem_cons.mpr ⟨(lwg (lwt_5 (List.mem_of_getElem? (i := 108) rfl)) rfl), (List.forall_mem_cons.mpr ⟨(lwg (lwt_5 (List.mem_of_getElem? (i := 96) rfl)) rfl), (List.forall_mem_cons.mpr ⟨(lwg (lwt_5 (List.mem_of_getElem? (i := 123) rfl)) rfl), (List.forall_mem_cons.mpr ⟨(lwg (lwt_5 (List.mem_of_getElem? (i := 130) rfl)) rfl), (List.forall_mem_cons.mpr ⟨(lwg (lwt_5 (List.mem_of_getElem? (i := 134) rfl)) rfl), (List.forall_mem_cons.mpr ⟨(lwg (lwt_5 (List.mem_of_getElem? (i := 116) rfl)) rfl), (List.forall_mem_cons.mpr ⟨(lwg (lwt_5 (List.mem_of_getElem? (i := 119) rfl)) rfl), (List.forall_mem_cons.mpr ⟨(lwg (lwt_5 (List.mem_of_getElem? (i := 126) rfl)) rfl), (List.forall_mem_cons.mpr ⟨(lwg (lwt_5 (List.mem_of_getElem? (i := 92) rfl)) rfl), (List.forall_mem_cons.mpr ⟨(lwg (lwt_5 (List.mem_of_getElem? (i := 112) rfl)) rfl), (List.forall_mem_cons.mpr ⟨(lwg (lwt_5 (List.mem_of_getElem? (i := 88) rfl)) rfl), (List.forall_mem_cons.mpr ⟨(lwg (lwt_5 (List.mem_of_getElem? (i := 141) rfl)) rfl), (List.forall_mem_cons.mpr ⟨(lwg (lwt_5 (List.mem_of_getElem? (i := 144) rfl)) rfl), (List.forall_mem_cons.mpr ⟨(lwg (lwt_5 (List.mem_of_getElem? (i := 148) rfl)) rfl), (List.forall_mem_cons.mpr ⟨(lwg (lwt_5 (List.mem_of_getElem? (i := 156) rfl)) rfl), (List.forall_mem_cons.mpr ⟨(lwg (lwt_5 (List.mem_of_getElem? (i := 164) rfl)) rfl), (List.forall_mem_cons.mpr ⟨(lwg (lwt_5 (List.mem_of_getElem? (i := 152) rfl)) rfl), (List.forall_mem_cons.mpr ⟨(lwg (lwt_5 (List.mem_of_getElem? (i := 160) rfl)) rfl), (List.forall_mem_cons.mpr ⟨(lwg (lwt_5 (List.mem_of_getElem? (i := 200) rfl)) rfl), (List.forall_mem_cons.mpr ⟨(lwg (lwt_5 (List.mem_of_getElem? (i := 239) rfl)) rfl), (List.forall_mem_cons.mpr ⟨(lwg (lwt_5 (List.mem_of_getElem? (i := 216) rfl)) rfl), (List.forall_mem_cons.mpr ⟨(lwg (lwt_6 (List.mem_of_getElem? (i := 3) rfl)) rfl), (List.forall_mem_cons.mpr ⟨(lwg (lwt_6 (List.mem_of_getElem? (i := 7) rfl)) rfl), (List.forall_mem_cons.mpr ⟨(lwg (lwt_6 (List.mem_of_getElem? (i := 11) rfl)) rfl), (List.forall_mem_cons.mpr ⟨(lwg (lwt_5 (List.mem_of_getElem? (i := 235) rfl)) rfl), (List.forall_mem_cons.mpr ⟨(lwg (lwt_6 (List.mem_of_getElem? (i := 15) rfl)) rfl), (List.forall_mem_cons.mpr ⟨(lwg (lwt_5 (List.mem_of_getElem? (i := 227) rfl)) rfl), (List.forall_mem_cons.mpr ⟨(lwg (lwt_5 (List.mem_of_getElem? (i := 231) rfl)) rfl), (List.forall_mem_cons.mpr ⟨(lwg (lwt_6 (List.mem_of_getElem? (i := 107) rfl)) rfl), (List.forall_mem_cons.mpr ⟨(lwg (lwt_6 (List.mem_of_getElem? (i := 111) rfl)) rfl), (List.forall_mem_cons.mpr ⟨(lwg (lwt_5 (List.mem_of_getElem? (i := 184) rfl)) rfl), (List.forall_mem_cons.mpr ⟨(lwg (lwt_5 (List.mem_of_getElem? (i := 176) rfl)) rfl), (List.forall_mem_cons.mpr ⟨(lwg (lwt_5 (List.mem_of_getElem? (i := 180) rfl)) rfl), (List.forall_mem_cons.mpr ⟨(lwg (lwt_5 (List.mem_of_getElem? (i := 223) rfl)) rfl), (List.forall_mem_cons.mpr ⟨(lwg (lwt_6 (List.mem_of_getElem? (i := 19) rfl)) rfl), (List.forall_mem_cons.mpr ⟨(lwg (lwt_5 (List.mem_of_getElem? (i := 204) rfl)) rfl), (List.forall_mem_cons.mpr ⟨(lwg (lwt_5 (List.mem_of_getElem? (i := 211) rfl)) rfl), (List.forall_mem_cons.mpr ⟨(lwg (lwt_5 (List.mem_of_getElem? (i := 219) rfl)) rfl), (List.forall_mem_cons.mpr ⟨(lwg (lwt_5 (List.mem_of_getElem? (i := 192) rfl)) rfl), (List.forall_mem_cons.mpr ⟨(lwg (lwt_5 (List.mem_of_getElem? (i := 196) rfl)) rfl), (List.forall_mem_cons.mpr ⟨(lwg (lwt_6 (List.mem_of_getElem? (i := 55) rfl)) rfl), (List.forall_mem_cons.mpr ⟨(lwg (lwt_6 (List.mem_of_getElem? (i := 59) rfl)) rfl), (List.forall_mem_cons.mpr ⟨(lwg (lwt_6 (List.mem_of_getElem? (i := 51) rfl)) rfl), (List.forall_mem_cons.mpr ⟨(lwg (lwt_6 (List.mem_of_getElem? (i := 71) rfl)) rfl), (List.forall_mem_cons.mpr ⟨(lwg (lwt_6 (List.mem_of_getElem? (i := 67) rfl)) rfl), (List.forall_mem_cons.mpr ⟨(lwg (lwt_6 (List.mem_of_getElem? (i := 47) rfl)) rfl), (List.forall_mem_cons.mpr ⟨(lwg (lwt_6 (List.mem_of_getElem? (i := 63) rfl)) rfl), (List.forall_mem_cons.mpr ⟨(lwg (lwt_6 (List.mem_of_getElem? (i := 43) rfl)) rfl), (List.forall_mem_cons.mpr ⟨(lwg (lwt_6 (List.mem_of_getElem? (i := 79) rfl)) rfl), (List.forall_mem_cons.mpr ⟨(lwg (lwt_6 (List.mem_of_getElem? (i := 39) rfl)) rfl), (List.forall_mem_cons.mpr ⟨(lwg (lwt_6 (List.mem_of_getElem? (i := 75) rfl)) rfl), (List.forall_mem_cons.mpr ⟨(lwg (lwt_6 (List.mem_of_getElem? (i := 35) rfl)) rfl), (List.forall_mem_cons.mpr ⟨(lwg (lwt_6 (List.mem_of_getElem? (i := 87) rfl)) rfl), (List.forall_mem_cons.mpr ⟨(lwg (lwt_6 (List.mem_of_getElem? (i := 91) rfl)) rfl), (List.forall_mem_cons.mpr ⟨(lwg (lwt_6 (List.mem_of_getElem? (i := 103) rfl)) rfl), (List.forall_mem_cons.mpr ⟨(lwg (lwt_6 (List.mem_of_getElem? (i := 115) rfl)) rfl), (List.forall_mem_cons.mpr ⟨(lwg (lwt_6 (List.mem_of_getElem? (i := 99) rfl)) rfl), (List.forall_mem_cons.mpr ⟨(lwg (lwt_6 (List.mem_of_getElem? (i := 123) rfl)) rfl), (List.forall_mem_cons.mpr ⟨(lwg (lwt_5 (List.mem_of_getElem? (i := 208) rfl)) rfl), (List.forall_mem_cons.mpr ⟨(lwg (lwt_6 (List.mem_of_getElem? (i := 147) rfl)) rfl), (List.forall_mem_cons.mpr ⟨(lwg (lwt_6 (List.mem_of_getElem? (i := 159) rfl)) rfl), (List.forall_mem_cons.mpr ⟨(lwg (lwt_6 (List.mem_of_getElem? (i := 162) rfl)) rfl), (List.forall_mem_cons.mpr ⟨(lwg (lwt_6 (List.mem_of_getElem? (i := 155) rfl)) rfl), (List.forall_mem_cons.mpr ⟨(lwg (lwt_6 (List.mem_of_getElem? (i := 143) rfl)) rfl), (List.forall_mem_cons.mpr ⟨(lwg (lwt_6 (List.mem_of_getElem? (i := 170) rfl)) rfl), (List.forall_mem_cons.mpr ⟨(lwg (lwt_6 (List.mem_of_getElem? (i := 202) rfl)) rfl), (List.forall_mem_cons.mpr ⟨(lwg (lwt_6 (List.mem_of_getElem? (i := 186) rfl)) rfl), (List.forall_mem_cons.mpr ⟨(lwg (lwt_6 (List.mem_of_getElem? (i := 190) rfl)) rfl), (List.forall_mem_cons.mpr ⟨(lwg (lwt_6 (List.mem_of_getElem? (i := 194) rfl)) rfl), (List.forall_mem_cons.mpr ⟨(lwg (lwt_6 (List.mem_of_getElem? (i := 198) rfl)) rfl), (List.forall_mem_cons.mpr ⟨(lwg (lwt_6 (List.mem_of_getElem? (i := 182) rfl)) rfl), (List.forall_mem_cons.mpr ⟨(lwg (lwt_6 (List.mem_of_getElem? (i := 211) rfl)) rfl), (List.forall_mem_cons.mpr ⟨(lwg (lwt_6 (List.mem_of_getElem? (i := 216) rfl)) rfl), (fun _ h => absurd h List.not_mem_nil)⟩)⟩)⟩)⟩)⟩)⟩)⟩)⟩)⟩)⟩)⟩)⟩)⟩)⟩)⟩)⟩)⟩)⟩)⟩)⟩)⟩)⟩)⟩)⟩)⟩)⟩)⟩)⟩)⟩)⟩)⟩)⟩)⟩)⟩)⟩)⟩)⟩)⟩)⟩)⟩)⟩)⟩)⟩)⟩)⟩)⟩)⟩)⟩)⟩)⟩)⟩)⟩)⟩)⟩)⟩)⟩)⟩)⟩)⟩)⟩)⟩)⟩)⟩)⟩)⟩)⟩)⟩)⟩)⟩)⟩)⟩)⟩)⟩)⟩)⟩)⟩)
set_option maxRecDepth 20000 in
theorem ml_10 : ∀ e ∈ mlT.getD 10 [], Cond.methodLink (cnm 10) e.1 (yK e.2) ∈ lwG := (List.forall_mem_cons.mpr ⟨(lwg (lwt_1 (List.mem_of_getElem? (i := 16) rfl)) rfl), (List.forall_mem_cons.mpr ⟨(lwg (lwt_4 (List.mem_of_getElem? (i := 118) rfl)) rfl), (List.forall_mem_cons.mpr ⟨(lwg (lwt_2 (List.mem_of_getElem? (i := 104) rfl)) rfl), (List.forall_mem_cons.mpr ⟨(lwg (lwt_5 (List.mem_of_getElem? (i := 73) rfl)) rfl), (List.forall_mem_cons.mpr ⟨(lwg (lwt_2 (List.mem_of_getElem? (i := 108) rfl)) rfl), (List.forall_mem_cons.mpr ⟨(lwg (lwt_5 (List.mem_of_getElem? (i := 80) rfl)) rfl), (List.forall_mem_cons.mpr ⟨(lwg (lwt_2 (List.mem_of_getElem? (i := 112) rfl)) rfl), (List.forall_mem_cons.mpr ⟨(lwg (lwt_5 (List.mem_of_getElem? (i := 84) rfl)) rfl), (List.forall_mem_cons.mpr ⟨(lwg (lwt_2 (List.mem_of_getElem? (i := 224) rfl)) rfl), (List.forall_mem_cons.mpr ⟨(lwg (lwt_5 (List.mem_of_getElem? (i := 137) rfl)) rfl), (List.forall_mem_cons.mpr ⟨(lwg (lwt_3 (List.mem_of_getElem? (i := 84) rfl)) rfl), (List.forall_mem_cons.mpr ⟨(lwg (lwt_5 (List.mem_of_getElem? (i := 168) rfl)) rfl), (List.forall_mem_cons.mpr ⟨(lwg (lwt_3 (List.mem_of_getElem? (i := 97) rfl)) rfl), (List.forall_mem_cons.mpr ⟨(lwg (lwt_5 (List.mem_of_getElem? (i := 172) rfl)) rfl), (List.forall_mem_cons.mpr ⟨(lwg (lwt_3 (List.mem_of_getElem? (i := 111) rfl)) rfl), (List.forall_mem_cons.mpr ⟨(lwg (lwt_5 (List.mem_of_getElem? (i := 188) rfl)) rfl), (List.forall_mem_cons.mpr ⟨(lwg (lwt_3 (List.mem_of_getElem? (i := 192) rfl)) rfl), (List.forall_mem_cons.mpr ⟨(lwg (lwt_6 (List.mem_of_getElem? (i := 23) rfl)) rfl), (List.forall_mem_cons.mpr ⟨(lwg (lwt_3 (List.mem_of_getElem? (i := 199) rfl)) rfl), (List.forall_mem_cons.mpr ⟨(lwg (lwt_6 (List.mem_of_getElem? (i := 27) rfl)) rfl), (List.forall_mem_cons.mpr ⟨(lwg (lwt_3 (List.mem_of_getElem? (i := 203) rfl)) rfl), (List.forall_mem_cons.mpr ⟨(lwg (lwt_6 (List.mem_of_getElem? (i := 31) rfl)) rfl), (List.forall_mem_cons.mpr ⟨(lwg (lwt_3 (List.mem_of_getElem? (i := 226) rfl)) rfl), (List.forall_mem_cons.mpr ⟨(lwg (lwt_6 (List.mem_of_getElem? (i := 83) rfl)) rfl), (List.forall_mem_cons.mpr ⟨(lwg (lwt_3 (List.mem_of_getElem? (i := 235) rfl)) rfl), (List.forall_mem_cons.mpr ⟨(lwg (lwt_6 (List.mem_of_getElem? (i := 95) rfl)) rfl), (List.forall_mem_cons.mpr ⟨(lwg (lwt_4 (List.mem_of_getElem? (i := 17) rfl)) rfl), (List.forall_mem_cons.mpr ⟨(lwg (lwt_6 (List.mem_of_getElem? (i := 119) rfl)) rfl), (List.forall_mem_cons.mpr ⟨(lwg (lwt_4 (List.mem_of_getElem? (i := 25) rfl)) rfl), (List.forall_mem_cons.mpr ⟨(lwg (lwt_6 (List.mem_of_getElem? (i := 127) rfl)) rfl), (List.forall_mem_cons.mpr ⟨(lwg (lwt_4 (List.mem_of_getElem? (i := 30) rfl)) rfl), (List.forall_mem_cons.mpr ⟨(lwg (lwt_6 (List.mem_of_getElem? (i := 131) rfl)) rfl), (List.forall_mem_cons.mpr ⟨(lwg (lwt_4 (List.mem_of_getElem? (i := 38) rfl)) rfl), (List.forall_mem_cons.mpr ⟨(lwg (lwt_6 (List.mem_of_getElem? (i := 135) rfl)) rfl), (List.forall_mem_cons.mpr ⟨(lwg (lwt_4 (List.mem_of_getElem? (i := 42) rfl)) rfl), (List.forall_mem_cons.mpr ⟨(lwg (lwt_6 (List.mem_of_getElem? (i := 139) rfl)) rfl), (List.forall_mem_cons.mpr ⟨(lwg (lwt_4 (List.mem_of_getElem? (i := 58) rfl)) rfl), (List.forall_mem_cons.mpr ⟨(lwg (lwt_6 (List.mem_of_getElem? (i := 166) rfl)) rfl), (List.forall_mem_cons.mpr ⟨(lwg (lwt_4 (List.mem_of_getElem? (i := 75) rfl)) rfl), (List.forall_mem_cons.mpr ⟨(lwg (lwt_6 (List.mem_of_getElem? (i := 174) rfl)) rfl), (List.forall_mem_cons.mpr ⟨(lwg (lwt_4 (List.mem_of_getElem? (i := 79) rfl)) rfl), (List.forall_mem_cons.mpr ⟨(lwg (lwt_6 (List.mem_of_getElem? (i := 178) rfl)) rfl), (List.forall_mem_cons.mpr ⟨(lwg (lwt_4 (List.mem_of_getElem? (i := 103) rfl)) rfl), (List.forall_mem_cons.mpr ⟨(lwg (lwt_6 (List.mem_of_getElem? (i := 206) rfl)) rfl), (fun _ h => absurd h List.not_mem_nil)⟩)⟩)⟩)⟩)⟩)⟩)⟩)⟩)⟩)⟩)⟩)⟩)⟩)⟩)⟩)⟩)⟩)⟩)⟩)⟩)⟩)⟩)⟩)⟩)⟩)⟩)⟩)⟩)⟩)⟩)⟩)⟩)⟩)⟩)⟩)⟩)⟩)⟩)⟩)⟩)⟩)⟩)⟩)⟩)
set_option maxRecDepth 20000 in
theorem ml_11 : ∀ e ∈ mlT.getD 11 [], Cond.methodLink (cnm 11) e.1 (yK e.2) ∈ lwG := (fun _ h => absurd h List.not_mem_nil)
set_option maxRecDepth 20000 in
theorem ml_12 : ∀ e ∈ mlT.getD 12 [], Cond.methodLink (cnm 12) e.1 (yK e.2) ∈ lwG := (fun _ h => absurd h List.not_mem_nil)
set_option maxRecDepth 20000 in
theorem ml_13 : ∀ e ∈ mlT.getD 13 [], Cond.methodLink (cnm 13) e.1 (yK e.2) ∈ lwG := (fun _ h => absurd h List.not_mem_nil)
theorem ml_ok : ∀ o, ∀ e ∈ mlT.getD o [], Cond.methodLink (cnm o) e.1 (yK e.2) ∈ lwG := by
  intro o
  match o with
  | 0 => exact ml_0
  | 1 => exact ml_1
  | 2 => exact ml_2
  | 3 => exact ml_3
  | 4 => exact ml_4
  | 5 => exact ml_5
  | 6 => exact ml_6
  | 7 => exact ml_7
  | 8 => exact ml_8
  | 9 => exact ml_9
  | 10 => exact ml_10
  | 11 => exact ml_11
  | 12 => exact ml_12
  | 13 => exact ml_13
  | o + 14 => intro e h; rw [show mlT.getD (o + 14) [] = [] from rfl] at h; exact absurd h List.not_mem_nil
set_option maxRecDepth 20000 in
theorem nl_0 : ∀ e ∈ nlT.getD 0 [], Cond.methodLinkNest (cnm 0) e.1 (yK e.2) "DictProof" ∈ lw_tbl := (List.forall_mem_cons.mpr ⟨(lwt_1 (List.mem_of_getElem? (i := 31) rfl)), (List.forall_mem_cons.mpr ⟨(lwt_3 (List.mem_of_getElem? (i := 29) rfl)), (fun _ h => absurd h List.not_mem_nil)⟩)⟩)
set_option maxRecDepth 20000 in
theorem nl_1 : ∀ e ∈ nlT.getD 1 [], Cond.methodLinkNest (cnm 1) e.1 (yK e.2) "DictProof" ∈ lw_tbl := (List.forall_mem_cons.mpr ⟨(lwt_1 (List.mem_of_getElem? (i := 212) rfl)), (List.forall_mem_cons.mpr ⟨(lwt_4 (List.mem_of_getElem? (i := 74) rfl)), (fun _ h => absurd h List.not_mem_nil)⟩)⟩)
set_option maxRecDepth 20000 in
theorem nl_2 : ∀ e ∈ nlT.getD 2 [], Cond.methodLinkNest (cnm 2) e.1 (yK e.2) "DictProof" ∈ lw_tbl := (List.forall_mem_cons.mpr ⟨(lwt_2 (List.mem_of_getElem? (i := 3) rfl)), (fun _ h => absurd h List.not_mem_nil)⟩)
set_option maxRecDepth 20000 in
theorem nl_3 : ∀ e ∈ nlT.getD 3 [], Cond.methodLinkNest (cnm 3) e.1 (yK e.2) "DictProof" ∈ lw_tbl := (List.forall_mem_cons.mpr ⟨(lwt_3 (List.mem_of_getElem? (i := 161) rfl)), (fun _ h => absurd h List.not_mem_nil)⟩)
set_option maxRecDepth 20000 in
theorem nl_4 : ∀ e ∈ nlT.getD 4 [], Cond.methodLinkNest (cnm 4) e.1 (yK e.2) "DictProof" ∈ lw_tbl := (fun _ h => absurd h List.not_mem_nil)
set_option maxRecDepth 20000 in
theorem nl_5 : ∀ e ∈ nlT.getD 5 [], Cond.methodLinkNest (cnm 5) e.1 (yK e.2) "DictProof" ∈ lw_tbl := (fun _ h => absurd h List.not_mem_nil)
set_option maxRecDepth 20000 in
theorem nl_6 : ∀ e ∈ nlT.getD 6 [], Cond.methodLinkNest (cnm 6) e.1 (yK e.2) "DictProof" ∈ lw_tbl := (List.forall_mem_cons.mpr ⟨(lwt_1 (List.mem_of_getElem? (i := 37) rfl)), (fun _ h => absurd h List.not_mem_nil)⟩)
set_option maxRecDepth 20000 in
theorem nl_7 : ∀ e ∈ nlT.getD 7 [], Cond.methodLinkNest (cnm 7) e.1 (yK e.2) "DictProof" ∈ lw_tbl := (fun _ h => absurd h List.not_mem_nil)
set_option maxRecDepth 20000 in
theorem nl_8 : ∀ e ∈ nlT.getD 8 [], Cond.methodLinkNest (cnm 8) e.1 (yK e.2) "DictProof" ∈ lw_tbl := (List.forall_mem_cons.mpr ⟨(lwt_1 (List.mem_of_getElem? (i := 152) rfl)), (List.forall_mem_cons.mpr ⟨(lwt_1 (List.mem_of_getElem? (i := 174) rfl)), (List.forall_mem_cons.mpr ⟨(lwt_2 (List.mem_of_getElem? (i := 60) rfl)), (fun _ h => absurd h List.not_mem_nil)⟩)⟩)⟩)
set_option maxRecDepth 20000 in
theorem nl_9 : ∀ e ∈ nlT.getD 9 [], Cond.methodLinkNest (cnm 9) e.1 (yK e.2) "DictProof" ∈ lw_tbl := (fun _ h => absurd h List.not_mem_nil)
set_option maxRecDepth 20000 in
theorem nl_10 : ∀ e ∈ nlT.getD 10 [], Cond.methodLinkNest (cnm 10) e.1 (yK e.2) "DictProof" ∈ lw_tbl := (fun _ h => absurd h List.not_mem_nil)
set_option maxRecDepth 20000 in
theorem nl_11 : ∀ e ∈ nlT.getD 11 [], Cond.methodLinkNest (cnm 11) e.1 (yK e.2) "DictProof" ∈ lw_tbl := (fun _ h => absurd h List.not_mem_nil)
set_option maxRecDepth 20000 in
theorem nl_12 : ∀ e ∈ nlT.getD 12 [], Cond.methodLinkNest (cnm 12) e.1 (yK e.2) "DictProof" ∈ lw_tbl := (fun _ h => absurd h List.not_mem_nil)
set_option maxRecDepth 20000 in
theorem nl_13 : ∀ e ∈ nlT.getD 13 [], Cond.methodLinkNest (cnm 13) e.1 (yK e.2) "DictProof" ∈ lw_tbl := (fun _ h => absurd h List.not_mem_nil)
theorem nl_ok : ∀ o, ∀ e ∈ nlT.getD o [], Cond.methodLinkNest (cnm o) e.1 (yK e.2) "DictProof" ∈ lw_tbl := by
  intro o
  match o with
  | 0 => exact nl_0
  | 1 => exact nl_1
  | 2 => exact nl_2
  | 3 => exact nl_3
  | 4 => exact nl_4
  | 5 => exact nl_5
  | 6 => exact nl_6
  | 7 => exact nl_7
  | 8 => exact nl_8
  | 9 => exact nl_9
  | 10 => exact nl_10
  | 11 => exact nl_11
  | 12 => exact nl_12
  | 13 => exact nl_13
  | o + 14 => intro e h; rw [show nlT.getD (o + 14) [] = [] from rfl] at h; exact absurd h List.not_mem_nil
set_option maxRecDepth 20000 in
theorem cl_0 : ∀ e ∈ clT.getD 0 [], Cond.classLink (cnm 0) e.1 (cnm e.2) ∈ lwG := (List.forall_mem_cons.mpr ⟨(lwg (lwt_1 (List.mem_of_getElem? (i := 28) rfl)) rfl), (fun _ h => absurd h List.not_mem_nil)⟩)
set_option maxRecDepth 20000 in
theorem cl_1 : ∀ e ∈ clT.getD 1 [], Cond.classLink (cnm 1) e.1 (cnm e.2) ∈ lwG := (List.forall_mem_cons.mpr ⟨(lwg (lwt_1 (List.mem_of_getElem? (i := 210) rfl)) rfl), (fun _ h => absurd h List.not_mem_nil)⟩)
set_option maxRecDepth 20000 in
theorem cl_2 : ∀ e ∈ clT.getD 2 [], Cond.classLink (cnm 2) e.1 (cnm e.2) ∈ lwG := (List.forall_mem_cons.mpr ⟨(lwg (lwt_1 (List.mem_of_getElem? (i := 238) rfl)) rfl), (fun _ h => absurd h List.not_mem_nil)⟩)
set_option maxRecDepth 20000 in
theorem cl_3 : ∀ e ∈ clT.getD 3 [], Cond.classLink (cnm 3) e.1 (cnm e.2) ∈ lwG := (List.forall_mem_cons.mpr ⟨(lwg (lwt_2 (List.mem_of_getElem? (i := 7) rfl)) rfl), (fun _ h => absurd h List.not_mem_nil)⟩)
set_option maxRecDepth 20000 in
theorem cl_4 : ∀ e ∈ clT.getD 4 [], Cond.classLink (cnm 4) e.1 (cnm e.2) ∈ lwG := (fun _ h => absurd h List.not_mem_nil)
set_option maxRecDepth 20000 in
theorem cl_5 : ∀ e ∈ clT.getD 5 [], Cond.classLink (cnm 5) e.1 (cnm e.2) ∈ lwG := (fun _ h => absurd h List.not_mem_nil)
set_option maxRecDepth 20000 in
theorem cl_6 : ∀ e ∈ clT.getD 6 [], Cond.classLink (cnm 6) e.1 (cnm e.2) ∈ lwG := (List.forall_mem_cons.mpr ⟨(lwg (lwt_1 (List.mem_of_getElem? (i := 35) rfl)) rfl), (fun _ h => absurd h List.not_mem_nil)⟩)
set_option maxRecDepth 20000 in
theorem cl_7 : ∀ e ∈ clT.getD 7 [], Cond.classLink (cnm 7) e.1 (cnm e.2) ∈ lwG := (fun _ h => absurd h List.not_mem_nil)
set_option maxRecDepth 20000 in
theorem cl_8 : ∀ e ∈ clT.getD 8 [], Cond.classLink (cnm 8) e.1 (cnm e.2) ∈ lwG := (List.forall_mem_cons.mpr ⟨(lwg (lwt_1 (List.mem_of_getElem? (i := 22) rfl)) rfl), (List.forall_mem_cons.mpr ⟨(lwg (lwt_1 (List.mem_of_getElem? (i := 150) rfl)) rfl), (List.forall_mem_cons.mpr ⟨(lwg (lwt_1 (List.mem_of_getElem? (i := 172) rfl)) rfl), (List.forall_mem_cons.mpr ⟨(lwg (lwt_1 (List.mem_of_getElem? (i := 204) rfl)) rfl), (List.forall_mem_cons.mpr ⟨(lwg (lwt_1 (List.mem_of_getElem? (i := 232) rfl)) rfl), (List.forall_mem_cons.mpr ⟨(lwg (lwt_2 (List.mem_of_getElem? (i := 59) rfl)) rfl), (fun _ h => absurd h List.not_mem_nil)⟩)⟩)⟩)⟩)⟩)⟩)
set_option maxRecDepth 20000 in
theorem cl_9 : ∀ e ∈ clT.getD 9 [], Cond.classLink (cnm 9) e.1 (cnm e.2) ∈ lwG := (fun _ h => absurd h List.not_mem_nil)
set_option maxRecDepth 20000 in
theorem cl_10 : ∀ e ∈ clT.getD 10 [], Cond.classLink (cnm 10) e.1 (cnm e.2) ∈ lwG := (List.forall_mem_cons.mpr ⟨(lwg (lwt_1 (List.mem_of_getElem? (i := 14) rfl)) rfl), (List.forall_mem_cons.mpr ⟨(lwg (lwt_4 (List.mem_of_getElem? (i := 116) rfl)) rfl), (fun _ h => absurd h List.not_mem_nil)⟩)⟩)
set_option maxRecDepth 20000 in
theorem cl_11 : ∀ e ∈ clT.getD 11 [], Cond.classLink (cnm 11) e.1 (cnm e.2) ∈ lwG := (fun _ h => absurd h List.not_mem_nil)
set_option maxRecDepth 20000 in
theorem cl_12 : ∀ e ∈ clT.getD 12 [], Cond.classLink (cnm 12) e.1 (cnm e.2) ∈ lwG := (fun _ h => absurd h List.not_mem_nil)
set_option maxRecDepth 20000 in
theorem cl_13 : ∀ e ∈ clT.getD 13 [], Cond.classLink (cnm 13) e.1 (cnm e.2) ∈ lwG := (fun _ h => absurd h List.not_mem_nil)
theorem cl_ok : ∀ o, ∀ e ∈ clT.getD o [], Cond.classLink (cnm o) e.1 (cnm e.2) ∈ lwG := by
  intro o
  match o with
  | 0 => exact cl_0
  | 1 => exact cl_1
  | 2 => exact cl_2
  | 3 => exact cl_3
  | 4 => exact cl_4
  | 5 => exact cl_5
  | 6 => exact cl_6
  | 7 => exact cl_7
  | 8 => exact cl_8
  | 9 => exact cl_9
  | 10 => exact cl_10
  | 11 => exact cl_11
  | 12 => exact cl_12
  | 13 => exact cl_13
  | o + 14 => intro e h; rw [show clT.getD (o + 14) [] = [] from rfl] at h; exact absurd h List.not_mem_nil
set_option maxRecDepth 20000 in
theorem ki_0 : ∀ e ∈ kiT.getD 0 [], Cond.constant (cnm 0) e.1 (Int32.ofInt e.2) ∈ lwG := (fun _ h => absurd h List.not_mem_nil)
set_option maxRecDepth 20000 in
theorem ki_1 : ∀ e ∈ kiT.getD 1 [], Cond.constant (cnm 1) e.1 (Int32.ofInt e.2) ∈ lwG := (fun _ h => absurd h List.not_mem_nil)
set_option maxRecDepth 20000 in
theorem ki_2 : ∀ e ∈ kiT.getD 2 [], Cond.constant (cnm 2) e.1 (Int32.ofInt e.2) ∈ lwG := (fun _ h => absurd h List.not_mem_nil)
set_option maxRecDepth 20000 in
theorem ki_3 : ∀ e ∈ kiT.getD 3 [], Cond.constant (cnm 3) e.1 (Int32.ofInt e.2) ∈ lwG := (fun _ h => absurd h List.not_mem_nil)
set_option maxRecDepth 20000 in
theorem ki_4 : ∀ e ∈ kiT.getD 4 [], Cond.constant (cnm 4) e.1 (Int32.ofInt e.2) ∈ lwG := (fun _ h => absurd h List.not_mem_nil)
set_option maxRecDepth 20000 in
theorem ki_5 : ∀ e ∈ kiT.getD 5 [], Cond.constant (cnm 5) e.1 (Int32.ofInt e.2) ∈ lwG := (fun _ h => absurd h List.not_mem_nil)
set_option maxRecDepth 20000 in
theorem ki_6 : ∀ e ∈ kiT.getD 6 [], Cond.constant (cnm 6) e.1 (Int32.ofInt e.2) ∈ lwG := (fun _ h => absurd h List.not_mem_nil)
set_option maxRecDepth 20000 in
theorem ki_7 : ∀ e ∈ kiT.getD 7 [], Cond.constant (cnm 7) e.1 (Int32.ofInt e.2) ∈ lwG := (fun _ h => absurd h List.not_mem_nil)
set_option maxRecDepth 20000 in
theorem ki_8 : ∀ e ∈ kiT.getD 8 [], Cond.constant (cnm 8) e.1 (Int32.ofInt e.2) ∈ lwG := (fun _ h => absurd h List.not_mem_nil)
set_option maxRecDepth 20000 in
theorem ki_9 : ∀ e ∈ kiT.getD 9 [], Cond.constant (cnm 9) e.1 (Int32.ofInt e.2) ∈ lwG := (List.forall_mem_cons.mpr ⟨(lwg (lwt_5 (List.mem_of_getElem? (i := 215) rfl)) rfl), (fun _ h => absurd h List.not_mem_nil)⟩)
set_option maxRecDepth 20000 in
theorem ki_10 : ∀ e ∈ kiT.getD 10 [], Cond.constant (cnm 10) e.1 (Int32.ofInt e.2) ∈ lwG := (fun _ h => absurd h List.not_mem_nil)
set_option maxRecDepth 20000 in
theorem ki_11 : ∀ e ∈ kiT.getD 11 [], Cond.constant (cnm 11) e.1 (Int32.ofInt e.2) ∈ lwG := (List.forall_mem_cons.mpr ⟨(lwg (lwt_3 (List.mem_of_getElem? (i := 108) rfl)) rfl), (List.forall_mem_cons.mpr ⟨(lwg (lwt_3 (List.mem_of_getElem? (i := 109) rfl)) rfl), (List.forall_mem_cons.mpr ⟨(lwg (lwt_3 (List.mem_of_getElem? (i := 110) rfl)) rfl), (fun _ h => absurd h List.not_mem_nil)⟩)⟩)⟩)
set_option maxRecDepth 20000 in
theorem ki_12 : ∀ e ∈ kiT.getD 12 [], Cond.constant (cnm 12) e.1 (Int32.ofInt e.2) ∈ lwG := (fun _ h => absurd h List.not_mem_nil)
set_option maxRecDepth 20000 in
theorem ki_13 : ∀ e ∈ kiT.getD 13 [], Cond.constant (cnm 13) e.1 (Int32.ofInt e.2) ∈ lwG := (fun _ h => absurd h List.not_mem_nil)
theorem ki_ok : ∀ o, ∀ e ∈ kiT.getD o [], Cond.constant (cnm o) e.1 (Int32.ofInt e.2) ∈ lwG := by
  intro o
  match o with
  | 0 => exact ki_0
  | 1 => exact ki_1
  | 2 => exact ki_2
  | 3 => exact ki_3
  | 4 => exact ki_4
  | 5 => exact ki_5
  | 6 => exact ki_6
  | 7 => exact ki_7
  | 8 => exact ki_8
  | 9 => exact ki_9
  | 10 => exact ki_10
  | 11 => exact ki_11
  | 12 => exact ki_12
  | 13 => exact ki_13
  | o + 14 => intro e h; rw [show kiT.getD (o + 14) [] = [] from rfl] at h; exact absurd h List.not_mem_nil
set_option maxRecDepth 20000 in
theorem kl_0 : ∀ e ∈ klT.getD 0 [], Cond.constantLong (cnm 0) e.1 (Int64.ofInt e.2) ∈ lwG := (fun _ h => absurd h List.not_mem_nil)
set_option maxRecDepth 20000 in
theorem kl_1 : ∀ e ∈ klT.getD 1 [], Cond.constantLong (cnm 1) e.1 (Int64.ofInt e.2) ∈ lwG := (fun _ h => absurd h List.not_mem_nil)
set_option maxRecDepth 20000 in
theorem kl_2 : ∀ e ∈ klT.getD 2 [], Cond.constantLong (cnm 2) e.1 (Int64.ofInt e.2) ∈ lwG := (fun _ h => absurd h List.not_mem_nil)
set_option maxRecDepth 20000 in
theorem kl_3 : ∀ e ∈ klT.getD 3 [], Cond.constantLong (cnm 3) e.1 (Int64.ofInt e.2) ∈ lwG := (fun _ h => absurd h List.not_mem_nil)
set_option maxRecDepth 20000 in
theorem kl_4 : ∀ e ∈ klT.getD 4 [], Cond.constantLong (cnm 4) e.1 (Int64.ofInt e.2) ∈ lwG := (fun _ h => absurd h List.not_mem_nil)
set_option maxRecDepth 20000 in
theorem kl_5 : ∀ e ∈ klT.getD 5 [], Cond.constantLong (cnm 5) e.1 (Int64.ofInt e.2) ∈ lwG := (fun _ h => absurd h List.not_mem_nil)
set_option maxRecDepth 20000 in
theorem kl_6 : ∀ e ∈ klT.getD 6 [], Cond.constantLong (cnm 6) e.1 (Int64.ofInt e.2) ∈ lwG := (fun _ h => absurd h List.not_mem_nil)
set_option maxRecDepth 20000 in
theorem kl_7 : ∀ e ∈ klT.getD 7 [], Cond.constantLong (cnm 7) e.1 (Int64.ofInt e.2) ∈ lwG := (fun _ h => absurd h List.not_mem_nil)
set_option maxRecDepth 20000 in
theorem kl_8 : ∀ e ∈ klT.getD 8 [], Cond.constantLong (cnm 8) e.1 (Int64.ofInt e.2) ∈ lwG := (List.forall_mem_cons.mpr ⟨(lwg (lwt_4 (List.mem_of_getElem? (i := 50) rfl)) rfl), (List.forall_mem_cons.mpr ⟨(lwg (lwt_4 (List.mem_of_getElem? (i := 51) rfl)) rfl), (List.forall_mem_cons.mpr ⟨(lwg (lwt_4 (List.mem_of_getElem? (i := 52) rfl)) rfl), (List.forall_mem_cons.mpr ⟨(lwg (lwt_4 (List.mem_of_getElem? (i := 53) rfl)) rfl), (List.forall_mem_cons.mpr ⟨(lwg (lwt_4 (List.mem_of_getElem? (i := 107) rfl)) rfl), (List.forall_mem_cons.mpr ⟨(lwg (lwt_4 (List.mem_of_getElem? (i := 108) rfl)) rfl), (fun _ h => absurd h List.not_mem_nil)⟩)⟩)⟩)⟩)⟩)⟩)
set_option maxRecDepth 20000 in
theorem kl_9 : ∀ e ∈ klT.getD 9 [], Cond.constantLong (cnm 9) e.1 (Int64.ofInt e.2) ∈ lwG := (List.forall_mem_cons.mpr ⟨(lwg (lwt_6 (List.mem_of_getElem? (i := 151) rfl)) rfl), (List.forall_mem_cons.mpr ⟨(lwg (lwt_6 (List.mem_of_getElem? (i := 152) rfl)) rfl), (List.forall_mem_cons.mpr ⟨(lwg (lwt_6 (List.mem_of_getElem? (i := 153) rfl)) rfl), (List.forall_mem_cons.mpr ⟨(lwg (lwt_6 (List.mem_of_getElem? (i := 154) rfl)) rfl), (List.forall_mem_cons.mpr ⟨(lwg (lwt_6 (List.mem_of_getElem? (i := 215) rfl)) rfl), (List.forall_mem_cons.mpr ⟨(lwg (lwt_6 (List.mem_of_getElem? (i := 210) rfl)) rfl), (fun _ h => absurd h List.not_mem_nil)⟩)⟩)⟩)⟩)⟩)⟩)
set_option maxRecDepth 20000 in
theorem kl_10 : ∀ e ∈ klT.getD 10 [], Cond.constantLong (cnm 10) e.1 (Int64.ofInt e.2) ∈ lwG := (fun _ h => absurd h List.not_mem_nil)
set_option maxRecDepth 20000 in
theorem kl_11 : ∀ e ∈ klT.getD 11 [], Cond.constantLong (cnm 11) e.1 (Int64.ofInt e.2) ∈ lwG := (fun _ h => absurd h List.not_mem_nil)
set_option maxRecDepth 20000 in
theorem kl_12 : ∀ e ∈ klT.getD 12 [], Cond.constantLong (cnm 12) e.1 (Int64.ofInt e.2) ∈ lwG := (List.forall_mem_cons.mpr ⟨(lwg (lwt_4 (List.mem_of_getElem? (i := 10) rfl)) rfl), (List.forall_mem_cons.mpr ⟨(lwg (lwt_4 (List.mem_of_getElem? (i := 11) rfl)) rfl), (List.forall_mem_cons.mpr ⟨(lwg (lwt_4 (List.mem_of_getElem? (i := 12) rfl)) rfl), (fun _ h => absurd h List.not_mem_nil)⟩)⟩)⟩)
set_option maxRecDepth 20000 in
theorem kl_13 : ∀ e ∈ klT.getD 13 [], Cond.constantLong (cnm 13) e.1 (Int64.ofInt e.2) ∈ lwG := (fun _ h => absurd h List.not_mem_nil)
theorem kl_ok : ∀ o, ∀ e ∈ klT.getD o [], Cond.constantLong (cnm o) e.1 (Int64.ofInt e.2) ∈ lwG := by
  intro o
  match o with
  | 0 => exact kl_0
  | 1 => exact kl_1
  | 2 => exact kl_2
  | 3 => exact kl_3
  | 4 => exact kl_4
  | 5 => exact kl_5
  | 6 => exact kl_6
  | 7 => exact kl_7
  | 8 => exact kl_8
  | 9 => exact kl_9
  | 10 => exact kl_10
  | 11 => exact kl_11
  | 12 => exact kl_12
  | 13 => exact kl_13
  | o + 14 => intro e h; rw [show klT.getD (o + 14) [] = [] from rfl] at h; exact absurd h List.not_mem_nil
set_option maxRecDepth 20000 in
theorem oi_0 : ∀ e ∈ oiT.getD 0 [], Cond.methodLink (cnm 0) e objectInit ∈ lwG := (List.forall_mem_cons.mpr ⟨(lwg (lwt_1 (List.mem_of_getElem? (i := 27) rfl)) rfl), (fun _ h => absurd h List.not_mem_nil)⟩)
set_option maxRecDepth 20000 in
theorem oi_1 : ∀ e ∈ oiT.getD 1 [], Cond.methodLink (cnm 1) e objectInit ∈ lwG := (List.forall_mem_cons.mpr ⟨(lwg (lwt_1 (List.mem_of_getElem? (i := 209) rfl)) rfl), (fun _ h => absurd h List.not_mem_nil)⟩)
set_option maxRecDepth 20000 in
theorem oi_2 : ∀ e ∈ oiT.getD 2 [], Cond.methodLink (cnm 2) e objectInit ∈ lwG := (List.forall_mem_cons.mpr ⟨(lwg (lwt_1 (List.mem_of_getElem? (i := 237) rfl)) rfl), (fun _ h => absurd h List.not_mem_nil)⟩)
set_option maxRecDepth 20000 in
theorem oi_3 : ∀ e ∈ oiT.getD 3 [], Cond.methodLink (cnm 3) e objectInit ∈ lwG := (List.forall_mem_cons.mpr ⟨(lwg (lwt_2 (List.mem_of_getElem? (i := 6) rfl)) rfl), (fun _ h => absurd h List.not_mem_nil)⟩)
set_option maxRecDepth 20000 in
theorem oi_4 : ∀ e ∈ oiT.getD 4 [], Cond.methodLink (cnm 4) e objectInit ∈ lwG := (List.forall_mem_cons.mpr ⟨(lwg (lwt_1 (List.mem_of_getElem? (i := 177) rfl)) rfl), (fun _ h => absurd h List.not_mem_nil)⟩)
set_option maxRecDepth 20000 in
theorem oi_5 : ∀ e ∈ oiT.getD 5 [], Cond.methodLink (cnm 5) e objectInit ∈ lwG := (List.forall_mem_cons.mpr ⟨(lwg (lwt_1 (List.mem_of_getElem? (i := 155) rfl)) rfl), (fun _ h => absurd h List.not_mem_nil)⟩)
set_option maxRecDepth 20000 in
theorem oi_6 : ∀ e ∈ oiT.getD 6 [], Cond.methodLink (cnm 6) e objectInit ∈ lwG := (List.forall_mem_cons.mpr ⟨(lwg (lwt_1 (List.mem_of_getElem? (i := 34) rfl)) rfl), (fun _ h => absurd h List.not_mem_nil)⟩)
set_option maxRecDepth 20000 in
theorem oi_7 : ∀ e ∈ oiT.getD 7 [], Cond.methodLink (cnm 7) e objectInit ∈ lwG := (List.forall_mem_cons.mpr ⟨(lwg (lwt_1 (List.mem_of_getElem? (i := 40) rfl)) rfl), (fun _ h => absurd h List.not_mem_nil)⟩)
set_option maxRecDepth 20000 in
theorem oi_8 : ∀ e ∈ oiT.getD 8 [], Cond.methodLink (cnm 8) e objectInit ∈ lwG := (List.forall_mem_cons.mpr ⟨(lwg (lwt_1 (List.mem_of_getElem? (i := 19) rfl)) rfl), (fun _ h => absurd h List.not_mem_nil)⟩)
set_option maxRecDepth 20000 in
theorem oi_9 : ∀ e ∈ oiT.getD 9 [], Cond.methodLink (cnm 9) e objectInit ∈ lwG := (List.forall_mem_cons.mpr ⟨(lwg (lwt_4 (List.mem_of_getElem? (i := 121) rfl)) rfl), (fun _ h => absurd h List.not_mem_nil)⟩)
set_option maxRecDepth 20000 in
theorem oi_10 : ∀ e ∈ oiT.getD 10 [], Cond.methodLink (cnm 10) e objectInit ∈ lwG := (fun _ h => absurd h List.not_mem_nil)
set_option maxRecDepth 20000 in
theorem oi_11 : ∀ e ∈ oiT.getD 11 [], Cond.methodLink (cnm 11) e objectInit ∈ lwG := (fun _ h => absurd h List.not_mem_nil)
set_option maxRecDepth 20000 in
theorem oi_12 : ∀ e ∈ oiT.getD 12 [], Cond.methodLink (cnm 12) e objectInit ∈ lwG := (fun _ h => absurd h List.not_mem_nil)
set_option maxRecDepth 20000 in
theorem oi_13 : ∀ e ∈ oiT.getD 13 [], Cond.methodLink (cnm 13) e objectInit ∈ lwG := (fun _ h => absurd h List.not_mem_nil)
theorem oi_ok : ∀ o, ∀ e ∈ oiT.getD o [], Cond.methodLink (cnm o) e objectInit ∈ lwG := by
  intro o
  match o with
  | 0 => exact oi_0
  | 1 => exact oi_1
  | 2 => exact oi_2
  | 3 => exact oi_3
  | 4 => exact oi_4
  | 5 => exact oi_5
  | 6 => exact oi_6
  | 7 => exact oi_7
  | 8 => exact oi_8
  | 9 => exact oi_9
  | 10 => exact oi_10
  | 11 => exact oi_11
  | 12 => exact oi_12
  | 13 => exact oi_13
  | o + 14 => intro e h; rw [show oiT.getD (o + 14) [] = [] from rfl] at h; exact absurd h List.not_mem_nil
def stNm (n : Nat) : String × String := if n = 1 then ("DictProof", "SO_OF_KINDS") else ("DictProof$Shape", "PARTS")
set_option maxRecDepth 20000 in
theorem st_0 : ∀ e ∈ stT.getD 0 [], Cond.fieldLink (cnm 0) e.1 (stNm e.2).1 (stNm e.2).2 "[I" ∈ lwG := (fun _ h => absurd h List.not_mem_nil)
set_option maxRecDepth 20000 in
theorem st_1 : ∀ e ∈ stT.getD 1 [], Cond.fieldLink (cnm 1) e.1 (stNm e.2).1 (stNm e.2).2 "[I" ∈ lwG := (fun _ h => absurd h List.not_mem_nil)
set_option maxRecDepth 20000 in
theorem st_2 : ∀ e ∈ stT.getD 2 [], Cond.fieldLink (cnm 2) e.1 (stNm e.2).1 (stNm e.2).2 "[I" ∈ lwG := (fun _ h => absurd h List.not_mem_nil)
set_option maxRecDepth 20000 in
theorem st_3 : ∀ e ∈ stT.getD 3 [], Cond.fieldLink (cnm 3) e.1 (stNm e.2).1 (stNm e.2).2 "[I" ∈ lwG := (fun _ h => absurd h List.not_mem_nil)
set_option maxRecDepth 20000 in
theorem st_4 : ∀ e ∈ stT.getD 4 [], Cond.fieldLink (cnm 4) e.1 (stNm e.2).1 (stNm e.2).2 "[I" ∈ lwG := (fun _ h => absurd h List.not_mem_nil)
set_option maxRecDepth 20000 in
theorem st_5 : ∀ e ∈ stT.getD 5 [], Cond.fieldLink (cnm 5) e.1 (stNm e.2).1 (stNm e.2).2 "[I" ∈ lwG := (fun _ h => absurd h List.not_mem_nil)
set_option maxRecDepth 20000 in
theorem st_6 : ∀ e ∈ stT.getD 6 [], Cond.fieldLink (cnm 6) e.1 (stNm e.2).1 (stNm e.2).2 "[I" ∈ lwG := (fun _ h => absurd h List.not_mem_nil)
set_option maxRecDepth 20000 in
theorem st_7 : ∀ e ∈ stT.getD 7 [], Cond.fieldLink (cnm 7) e.1 (stNm e.2).1 (stNm e.2).2 "[I" ∈ lwG := (List.forall_mem_cons.mpr ⟨(lwg (lwt_2 (List.mem_of_getElem? (i := 189) rfl)) rfl), (fun _ h => absurd h List.not_mem_nil)⟩)
set_option maxRecDepth 20000 in
theorem st_8 : ∀ e ∈ stT.getD 8 [], Cond.fieldLink (cnm 8) e.1 (stNm e.2).1 (stNm e.2).2 "[I" ∈ lwG := (List.forall_mem_cons.mpr ⟨(lwg (lwt_3 (List.mem_of_getElem? (i := 126) rfl)) rfl), (fun _ h => absurd h List.not_mem_nil)⟩)
set_option maxRecDepth 20000 in
theorem st_9 : ∀ e ∈ stT.getD 9 [], Cond.fieldLink (cnm 9) e.1 (stNm e.2).1 (stNm e.2).2 "[I" ∈ lwG := (fun _ h => absurd h List.not_mem_nil)
set_option maxRecDepth 20000 in
theorem st_10 : ∀ e ∈ stT.getD 10 [], Cond.fieldLink (cnm 10) e.1 (stNm e.2).1 (stNm e.2).2 "[I" ∈ lwG := (fun _ h => absurd h List.not_mem_nil)
set_option maxRecDepth 20000 in
theorem st_11 : ∀ e ∈ stT.getD 11 [], Cond.fieldLink (cnm 11) e.1 (stNm e.2).1 (stNm e.2).2 "[I" ∈ lwG := (fun _ h => absurd h List.not_mem_nil)
set_option maxRecDepth 20000 in
theorem st_12 : ∀ e ∈ stT.getD 12 [], Cond.fieldLink (cnm 12) e.1 (stNm e.2).1 (stNm e.2).2 "[I" ∈ lwG := (fun _ h => absurd h List.not_mem_nil)
set_option maxRecDepth 20000 in
theorem st_13 : ∀ e ∈ stT.getD 13 [], Cond.fieldLink (cnm 13) e.1 (stNm e.2).1 (stNm e.2).2 "[I" ∈ lwG := (fun _ h => absurd h List.not_mem_nil)
theorem st_ok : ∀ o, ∀ e ∈ stT.getD o [], Cond.fieldLink (cnm o) e.1 (stNm e.2).1 (stNm e.2).2 "[I" ∈ lwG := by
  intro o
  match o with
  | 0 => exact st_0
  | 1 => exact st_1
  | 2 => exact st_2
  | 3 => exact st_3
  | 4 => exact st_4
  | 5 => exact st_5
  | 6 => exact st_6
  | 7 => exact st_7
  | 8 => exact st_8
  | 9 => exact st_9
  | 10 => exact st_10
  | 11 => exact st_11
  | 12 => exact st_12
  | 13 => exact st_13
  | o + 14 => intro e h; rw [show stT.getD (o + 14) [] = [] from rfl] at h; exact absurd h List.not_mem_nil
theorem ma_ok : Cond.classLink (cnm 2) 21 "[[I" ∈ lwG := (lwg (lwt_2 (List.mem_of_getElem? (i := 0) rfl)) rfl)
theorem oi_inst : Cond.instanceMethod objectInit ∈ lwG := (lwg (lwt_1 (List.mem_of_getElem? (i := 20) rfl)) rfl)
theorem oi_code : Cond.code objectInit ⟨#[0xb1]⟩ 1 none ∈ lwG := (lwg (lwt_1 (List.mem_of_getElem? (i := 21) rfl)) rfl)
theorem ac_int : Cond.arrayClass .int ∈ lwG := (lwg (lwt_1 (List.mem_of_getElem? (i := 62) rfl)) rfl)
theorem ac_byte : Cond.arrayClass .byte ∈ lwG := (lwg (lwt_5 (List.mem_of_getElem? (i := 72) rfl)) rfl)
theorem ac_boolean : Cond.arrayClass .boolean ∈ lwG := (lwg (lwt_1 (List.mem_of_getElem? (i := 203) rfl)) rfl)
theorem ao_Rule : Cond.arrayOver (.object "DictProof$Rule") ∈ lw_tbl := (lwt_1 (List.mem_of_getElem? (i := 29) rfl))
theorem ao_Shape : Cond.arrayOver (.object "DictProof$Shape") ∈ lw_tbl := (lwt_1 (List.mem_of_getElem? (i := 211) rfl))
theorem ao_Goal : Cond.arrayOver (.object "DictProof$Goal") ∈ lw_tbl := (lwt_1 (List.mem_of_getElem? (i := 239) rfl))
theorem ao_int : Cond.arrayOver (.array .int) ∈ lw_tbl := (lwt_2 (List.mem_of_getElem? (i := 1) rfl))
theorem ls_1 : Cond.laysStatic "DictProof" "SO_OF_KINDS" "[I" ∈ lw_tbl := (lwt_3 (List.mem_of_getElem? (i := 127) rfl))
theorem ls_2 : Cond.laysStatic "DictProof$Shape" "PARTS" "[I" ∈ lw_tbl := (lwt_2 (List.mem_of_getElem? (i := 190) rfl))
set_option maxRecDepth 20000 in
theorem lay_0 : ∀ w ∈ u_ws (cnm 0) (cT 0) (cN 0), w ∈ lwG := (List.forall_mem_cons.mpr ⟨(lwg (lwt_1 (List.mem_of_getElem? (i := 129) rfl)) rfl), (List.forall_mem_cons.mpr ⟨(lwg (lwt_1 (List.mem_of_getElem? (i := 131) rfl)) rfl), (List.forall_mem_cons.mpr ⟨(lwg (lwt_1 (List.mem_of_getElem? (i := 133) rfl)) rfl), (List.forall_mem_cons.mpr ⟨(lwg (lwt_1 (List.mem_of_getElem? (i := 135) rfl)) rfl), (List.forall_mem_cons.mpr ⟨(lwg (lwt_1 (List.mem_of_getElem? (i := 137) rfl)) rfl), (List.forall_mem_cons.mpr ⟨(lwg (lwt_1 (List.mem_of_getElem? (i := 139) rfl)) rfl), (List.forall_mem_cons.mpr ⟨(lwg (lwt_1 (List.mem_of_getElem? (i := 141) rfl)) rfl), (List.forall_mem_cons.mpr ⟨(lwg (lwt_1 (List.mem_of_getElem? (i := 143) rfl)) rfl), (List.forall_mem_cons.mpr ⟨(lwg (lwt_1 (List.mem_of_getElem? (i := 145) rfl)) rfl), (List.forall_mem_cons.mpr ⟨(lwg (lwt_1 (List.mem_of_getElem? (i := 147) rfl)) rfl), (fun _ h => absurd h List.not_mem_nil)⟩)⟩)⟩)⟩)⟩)⟩)⟩)⟩)⟩)⟩)
theorem ins_0 : Cond.instantiable (cnm 0) (cN 0) ∈ lwG := (lwg (lwt_1 (List.mem_of_getElem? (i := 23) rfl)) rfl)
set_option maxRecDepth 20000 in
theorem lay_1 : ∀ w ∈ u_ws (cnm 1) (cT 1) (cN 1), w ∈ lwG := (List.forall_mem_cons.mpr ⟨(lwg (lwt_1 (List.mem_of_getElem? (i := 221) rfl)) rfl), (List.forall_mem_cons.mpr ⟨(lwg (lwt_1 (List.mem_of_getElem? (i := 223) rfl)) rfl), (List.forall_mem_cons.mpr ⟨(lwg (lwt_1 (List.mem_of_getElem? (i := 225) rfl)) rfl), (List.forall_mem_cons.mpr ⟨(lwg (lwt_1 (List.mem_of_getElem? (i := 227) rfl)) rfl), (List.forall_mem_cons.mpr ⟨(lwg (lwt_1 (List.mem_of_getElem? (i := 229) rfl)) rfl), (fun _ h => absurd h List.not_mem_nil)⟩)⟩)⟩)⟩)⟩)
theorem ins_1 : Cond.instantiable (cnm 1) (cN 1) ∈ lwG := (lwg (lwt_1 (List.mem_of_getElem? (i := 205) rfl)) rfl)
set_option maxRecDepth 20000 in
theorem lay_2 : ∀ w ∈ u_ws (cnm 2) (cT 2) (cN 2), w ∈ lwG := (List.forall_mem_cons.mpr ⟨(lwg (lwt_2 (List.mem_of_getElem? (i := 48) rfl)) rfl), (List.forall_mem_cons.mpr ⟨(lwg (lwt_2 (List.mem_of_getElem? (i := 50) rfl)) rfl), (List.forall_mem_cons.mpr ⟨(lwg (lwt_2 (List.mem_of_getElem? (i := 52) rfl)) rfl), (List.forall_mem_cons.mpr ⟨(lwg (lwt_2 (List.mem_of_getElem? (i := 54) rfl)) rfl), (List.forall_mem_cons.mpr ⟨(lwg (lwt_2 (List.mem_of_getElem? (i := 56) rfl)) rfl), (fun _ h => absurd h List.not_mem_nil)⟩)⟩)⟩)⟩)⟩)
theorem ins_2 : Cond.instantiable (cnm 2) (cN 2) ∈ lwG := (lwg (lwt_1 (List.mem_of_getElem? (i := 233) rfl)) rfl)
set_option maxRecDepth 20000 in
theorem lay_3 : ∀ w ∈ u_ws (cnm 3) (cT 3) (cN 3), w ∈ lwG := (List.forall_mem_cons.mpr ⟨(lwg (lwt_2 (List.mem_of_getElem? (i := 24) rfl)) rfl), (List.forall_mem_cons.mpr ⟨(lwg (lwt_2 (List.mem_of_getElem? (i := 26) rfl)) rfl), (List.forall_mem_cons.mpr ⟨(lwg (lwt_2 (List.mem_of_getElem? (i := 28) rfl)) rfl), (List.forall_mem_cons.mpr ⟨(lwg (lwt_2 (List.mem_of_getElem? (i := 30) rfl)) rfl), (List.forall_mem_cons.mpr ⟨(lwg (lwt_2 (List.mem_of_getElem? (i := 32) rfl)) rfl), (List.forall_mem_cons.mpr ⟨(lwg (lwt_2 (List.mem_of_getElem? (i := 34) rfl)) rfl), (List.forall_mem_cons.mpr ⟨(lwg (lwt_2 (List.mem_of_getElem? (i := 36) rfl)) rfl), (List.forall_mem_cons.mpr ⟨(lwg (lwt_2 (List.mem_of_getElem? (i := 38) rfl)) rfl), (List.forall_mem_cons.mpr ⟨(lwg (lwt_2 (List.mem_of_getElem? (i := 40) rfl)) rfl), (fun _ h => absurd h List.not_mem_nil)⟩)⟩)⟩)⟩)⟩)⟩)⟩)⟩)⟩)
theorem ins_3 : Cond.instantiable (cnm 3) (cN 3) ∈ lwG := (lwg (lwt_2 (List.mem_of_getElem? (i := 2) rfl)) rfl)
set_option maxRecDepth 20000 in
theorem lay_4 : ∀ w ∈ u_ws (cnm 4) (cT 4) (cN 4), w ∈ lwG := (List.forall_mem_cons.mpr ⟨(lwg (lwt_1 (List.mem_of_getElem? (i := 186) rfl)) rfl), (List.forall_mem_cons.mpr ⟨(lwg (lwt_1 (List.mem_of_getElem? (i := 188) rfl)) rfl), (List.forall_mem_cons.mpr ⟨(lwg (lwt_1 (List.mem_of_getElem? (i := 190) rfl)) rfl), (List.forall_mem_cons.mpr ⟨(lwg (lwt_1 (List.mem_of_getElem? (i := 192) rfl)) rfl), (List.forall_mem_cons.mpr ⟨(lwg (lwt_1 (List.mem_of_getElem? (i := 194) rfl)) rfl), (List.forall_mem_cons.mpr ⟨(lwg (lwt_1 (List.mem_of_getElem? (i := 196) rfl)) rfl), (List.forall_mem_cons.mpr ⟨(lwg (lwt_1 (List.mem_of_getElem? (i := 198) rfl)) rfl), (List.forall_mem_cons.mpr ⟨(lwg (lwt_1 (List.mem_of_getElem? (i := 200) rfl)) rfl), (fun _ h => absurd h List.not_mem_nil)⟩)⟩)⟩)⟩)⟩)⟩)⟩)⟩)
theorem ins_4 : Cond.instantiable (cnm 4) (cN 4) ∈ lwG := (lwg (lwt_1 (List.mem_of_getElem? (i := 173) rfl)) rfl)
set_option maxRecDepth 20000 in
theorem lay_5 : ∀ w ∈ u_ws (cnm 5) (cT 5) (cN 5), w ∈ lwG := (List.forall_mem_cons.mpr ⟨(lwg (lwt_1 (List.mem_of_getElem? (i := 161) rfl)) rfl), (List.forall_mem_cons.mpr ⟨(lwg (lwt_1 (List.mem_of_getElem? (i := 163) rfl)) rfl), (List.forall_mem_cons.mpr ⟨(lwg (lwt_1 (List.mem_of_getElem? (i := 165) rfl)) rfl), (List.forall_mem_cons.mpr ⟨(lwg (lwt_1 (List.mem_of_getElem? (i := 167) rfl)) rfl), (List.forall_mem_cons.mpr ⟨(lwg (lwt_1 (List.mem_of_getElem? (i := 169) rfl)) rfl), (fun _ h => absurd h List.not_mem_nil)⟩)⟩)⟩)⟩)⟩)
theorem ins_5 : Cond.instantiable (cnm 5) (cN 5) ∈ lwG := (lwg (lwt_1 (List.mem_of_getElem? (i := 151) rfl)) rfl)
set_option maxRecDepth 20000 in
theorem lay_6 : ∀ w ∈ u_ws (cnm 6) (cT 6) (cN 6), w ∈ lwG := (List.forall_mem_cons.mpr ⟨(lwg (lwt_1 (List.mem_of_getElem? (i := 87) rfl)) rfl), (List.forall_mem_cons.mpr ⟨(lwg (lwt_1 (List.mem_of_getElem? (i := 89) rfl)) rfl), (List.forall_mem_cons.mpr ⟨(lwg (lwt_1 (List.mem_of_getElem? (i := 91) rfl)) rfl), (List.forall_mem_cons.mpr ⟨(lwg (lwt_1 (List.mem_of_getElem? (i := 93) rfl)) rfl), (List.forall_mem_cons.mpr ⟨(lwg (lwt_1 (List.mem_of_getElem? (i := 95) rfl)) rfl), (List.forall_mem_cons.mpr ⟨(lwg (lwt_1 (List.mem_of_getElem? (i := 97) rfl)) rfl), (List.forall_mem_cons.mpr ⟨(lwg (lwt_1 (List.mem_of_getElem? (i := 99) rfl)) rfl), (fun _ h => absurd h List.not_mem_nil)⟩)⟩)⟩)⟩)⟩)⟩)⟩)
theorem ins_6 : Cond.instantiable (cnm 6) (cN 6) ∈ lwG := (lwg (lwt_1 (List.mem_of_getElem? (i := 30) rfl)) rfl)
set_option maxRecDepth 20000 in
theorem lay_7 : ∀ w ∈ u_ws (cnm 7) (cT 7) (cN 7), w ∈ lwG := (List.forall_mem_cons.mpr ⟨(lwg (lwt_1 (List.mem_of_getElem? (i := 53) rfl)) rfl), (List.forall_mem_cons.mpr ⟨(lwg (lwt_1 (List.mem_of_getElem? (i := 55) rfl)) rfl), (List.forall_mem_cons.mpr ⟨(lwg (lwt_1 (List.mem_of_getElem? (i := 57) rfl)) rfl), (List.forall_mem_cons.mpr ⟨(lwg (lwt_1 (List.mem_of_getElem? (i := 59) rfl)) rfl), (fun _ h => absurd h List.not_mem_nil)⟩)⟩)⟩)⟩)
theorem ins_7 : Cond.instantiable (cnm 7) (cN 7) ∈ lwG := (lwg (lwt_1 (List.mem_of_getElem? (i := 36) rfl)) rfl)
set_option maxRecDepth 20000 in
theorem lay_8 : ∀ w ∈ u_ws (cnm 8) (cT 8) (cN 8), w ∈ lwG := (List.forall_mem_cons.mpr ⟨(lwg (lwt_2 (List.mem_of_getElem? (i := 75) rfl)) rfl), (List.forall_mem_cons.mpr ⟨(lwg (lwt_2 (List.mem_of_getElem? (i := 77) rfl)) rfl), (List.forall_mem_cons.mpr ⟨(lwg (lwt_2 (List.mem_of_getElem? (i := 79) rfl)) rfl), (List.forall_mem_cons.mpr ⟨(lwg (lwt_2 (List.mem_of_getElem? (i := 81) rfl)) rfl), (List.forall_mem_cons.mpr ⟨(lwg (lwt_2 (List.mem_of_getElem? (i := 83) rfl)) rfl), (List.forall_mem_cons.mpr ⟨(lwg (lwt_2 (List.mem_of_getElem? (i := 85) rfl)) rfl), (List.forall_mem_cons.mpr ⟨(lwg (lwt_2 (List.mem_of_getElem? (i := 87) rfl)) rfl), (List.forall_mem_cons.mpr ⟨(lwg (lwt_2 (List.mem_of_getElem? (i := 89) rfl)) rfl), (List.forall_mem_cons.mpr ⟨(lwg (lwt_2 (List.mem_of_getElem? (i := 91) rfl)) rfl), (List.forall_mem_cons.mpr ⟨(lwg (lwt_2 (List.mem_of_getElem? (i := 93) rfl)) rfl), (List.forall_mem_cons.mpr ⟨(lwg (lwt_2 (List.mem_of_getElem? (i := 95) rfl)) rfl), (List.forall_mem_cons.mpr ⟨(lwg (lwt_2 (List.mem_of_getElem? (i := 97) rfl)) rfl), (List.forall_mem_cons.mpr ⟨(lwg (lwt_2 (List.mem_of_getElem? (i := 99) rfl)) rfl), (List.forall_mem_cons.mpr ⟨(lwg (lwt_2 (List.mem_of_getElem? (i := 101) rfl)) rfl), (fun _ h => absurd h List.not_mem_nil)⟩)⟩)⟩)⟩)⟩)⟩)⟩)⟩)⟩)⟩)⟩)⟩)⟩)⟩)
theorem ins_8 : Cond.instantiable (cnm 8) (cN 8) ∈ lwG := (lwg (lwt_1 (List.mem_of_getElem? (i := 15) rfl)) rfl)
set_option maxRecDepth 20000 in
theorem lay_9 : ∀ w ∈ u_ws (cnm 9) (cT 9) (cN 9), w ∈ lwG := (List.forall_mem_cons.mpr ⟨(lwg (lwt_4 (List.mem_of_getElem? (i := 185) rfl)) rfl), (List.forall_mem_cons.mpr ⟨(lwg (lwt_4 (List.mem_of_getElem? (i := 187) rfl)) rfl), (List.forall_mem_cons.mpr ⟨(lwg (lwt_4 (List.mem_of_getElem? (i := 189) rfl)) rfl), (List.forall_mem_cons.mpr ⟨(lwg (lwt_4 (List.mem_of_getElem? (i := 191) rfl)) rfl), (List.forall_mem_cons.mpr ⟨(lwg (lwt_4 (List.mem_of_getElem? (i := 193) rfl)) rfl), (List.forall_mem_cons.mpr ⟨(lwg (lwt_4 (List.mem_of_getElem? (i := 195) rfl)) rfl), (List.forall_mem_cons.mpr ⟨(lwg (lwt_4 (List.mem_of_getElem? (i := 197) rfl)) rfl), (List.forall_mem_cons.mpr ⟨(lwg (lwt_4 (List.mem_of_getElem? (i := 199) rfl)) rfl), (List.forall_mem_cons.mpr ⟨(lwg (lwt_4 (List.mem_of_getElem? (i := 201) rfl)) rfl), (List.forall_mem_cons.mpr ⟨(lwg (lwt_4 (List.mem_of_getElem? (i := 203) rfl)) rfl), (List.forall_mem_cons.mpr ⟨(lwg (lwt_4 (List.mem_of_getElem? (i := 205) rfl)) rfl), (List.forall_mem_cons.mpr ⟨(lwg (lwt_4 (List.mem_of_getElem? (i := 207) rfl)) rfl), (List.forall_mem_cons.mpr ⟨(lwg (lwt_4 (List.mem_of_getElem? (i := 209) rfl)) rfl), (List.forall_mem_cons.mpr ⟨(lwg (lwt_4 (List.mem_of_getElem? (i := 211) rfl)) rfl), (List.forall_mem_cons.mpr ⟨(lwg (lwt_4 (List.mem_of_getElem? (i := 213) rfl)) rfl), (List.forall_mem_cons.mpr ⟨(lwg (lwt_4 (List.mem_of_getElem? (i := 215) rfl)) rfl), (List.forall_mem_cons.mpr ⟨(lwg (lwt_4 (List.mem_of_getElem? (i := 217) rfl)) rfl), (List.forall_mem_cons.mpr ⟨(lwg (lwt_4 (List.mem_of_getElem? (i := 219) rfl)) rfl), (List.forall_mem_cons.mpr ⟨(lwg (lwt_4 (List.mem_of_getElem? (i := 221) rfl)) rfl), (List.forall_mem_cons.mpr ⟨(lwg (lwt_4 (List.mem_of_getElem? (i := 223) rfl)) rfl), (List.forall_mem_cons.mpr ⟨(lwg (lwt_4 (List.mem_of_getElem? (i := 225) rfl)) rfl), (List.forall_mem_cons.mpr ⟨(lwg (lwt_4 (List.mem_of_getElem? (i := 227) rfl)) rfl), (List.forall_mem_cons.mpr ⟨(lwg (lwt_4 (List.mem_of_getElem? (i := 229) rfl)) rfl), (List.forall_mem_cons.mpr ⟨(lwg (lwt_4 (List.mem_of_getElem? (i := 231) rfl)) rfl), (List.forall_mem_cons.mpr ⟨(lwg (lwt_4 (List.mem_of_getElem? (i := 233) rfl)) rfl), (List.forall_mem_cons.mpr ⟨(lwg (lwt_4 (List.mem_of_getElem? (i := 235) rfl)) rfl), (List.forall_mem_cons.mpr ⟨(lwg (lwt_4 (List.mem_of_getElem? (i := 237) rfl)) rfl), (List.forall_mem_cons.mpr ⟨(lwg (lwt_4 (List.mem_of_getElem? (i := 239) rfl)) rfl), (List.forall_mem_cons.mpr ⟨(lwg (lwt_5 (List.mem_of_getElem? (i := 1) rfl)) rfl), (List.forall_mem_cons.mpr ⟨(lwg (lwt_5 (List.mem_of_getElem? (i := 3) rfl)) rfl), (List.forall_mem_cons.mpr ⟨(lwg (lwt_5 (List.mem_of_getElem? (i := 5) rfl)) rfl), (List.forall_mem_cons.mpr ⟨(lwg (lwt_5 (List.mem_of_getElem? (i := 7) rfl)) rfl), (List.forall_mem_cons.mpr ⟨(lwg (lwt_5 (List.mem_of_getElem? (i := 9) rfl)) rfl), (List.forall_mem_cons.mpr ⟨(lwg (lwt_5 (List.mem_of_getElem? (i := 11) rfl)) rfl), (List.forall_mem_cons.mpr ⟨(lwg (lwt_5 (List.mem_of_getElem? (i := 13) rfl)) rfl), (List.forall_mem_cons.mpr ⟨(lwg (lwt_5 (List.mem_of_getElem? (i := 15) rfl)) rfl), (List.forall_mem_cons.mpr ⟨(lwg (lwt_5 (List.mem_of_getElem? (i := 17) rfl)) rfl), (List.forall_mem_cons.mpr ⟨(lwg (lwt_5 (List.mem_of_getElem? (i := 19) rfl)) rfl), (List.forall_mem_cons.mpr ⟨(lwg (lwt_5 (List.mem_of_getElem? (i := 21) rfl)) rfl), (List.forall_mem_cons.mpr ⟨(lwg (lwt_5 (List.mem_of_getElem? (i := 23) rfl)) rfl), (List.forall_mem_cons.mpr ⟨(lwg (lwt_5 (List.mem_of_getElem? (i := 25) rfl)) rfl), (List.forall_mem_cons.mpr ⟨(lwg (lwt_5 (List.mem_of_getElem? (i := 27) rfl)) rfl), (List.forall_mem_cons.mpr ⟨(lwg (lwt_5 (List.mem_of_getElem? (i := 29) rfl)) rfl), (List.forall_mem_cons.mpr ⟨(lwg (lwt_5 (List.mem_of_getElem? (i := 31) rfl)) rfl), (List.forall_mem_cons.mpr ⟨(lwg (lwt_5 (List.mem_of_getElem? (i := 33) rfl)) rfl), (List.forall_mem_cons.mpr ⟨(lwg (lwt_5 (List.mem_of_getElem? (i := 35) rfl)) rfl), (List.forall_mem_cons.mpr ⟨(lwg (lwt_5 (List.mem_of_getElem? (i := 37) rfl)) rfl), (List.forall_mem_cons.mpr ⟨(lwg (lwt_5 (List.mem_of_getElem? (i := 39) rfl)) rfl), (List.forall_mem_cons.mpr ⟨(lwg (lwt_5 (List.mem_of_getElem? (i := 41) rfl)) rfl), (List.forall_mem_cons.mpr ⟨(lwg (lwt_5 (List.mem_of_getElem? (i := 43) rfl)) rfl), (List.forall_mem_cons.mpr ⟨(lwg (lwt_5 (List.mem_of_getElem? (i := 45) rfl)) rfl), (List.forall_mem_cons.mpr ⟨(lwg (lwt_5 (List.mem_of_getElem? (i := 47) rfl)) rfl), (List.forall_mem_cons.mpr ⟨(lwg (lwt_5 (List.mem_of_getElem? (i := 49) rfl)) rfl), (List.forall_mem_cons.mpr ⟨(lwg (lwt_5 (List.mem_of_getElem? (i := 51) rfl)) rfl), (List.forall_mem_cons.mpr ⟨(lwg (lwt_5 (List.mem_of_getElem? (i := 53) rfl)) rfl), (List.forall_mem_cons.mpr ⟨(lwg (lwt_5 (List.mem_of_getElem? (i := 55) rfl)) rfl), (List.forall_mem_cons.mpr ⟨(lwg (lwt_5 (List.mem_of_getElem? (i := 57) rfl)) rfl), (List.forall_mem_cons.mpr ⟨(lwg (lwt_5 (List.mem_of_getElem? (i := 59) rfl)) rfl), (List.forall_mem_cons.mpr ⟨(lwg (lwt_5 (List.mem_of_getElem? (i := 61) rfl)) rfl), (List.forall_mem_cons.mpr ⟨(lwg (lwt_5 (List.mem_of_getElem? (i := 63) rfl)) rfl), (List.forall_mem_cons.mpr ⟨(lwg (lwt_5 (List.mem_of_getElem? (i := 65) rfl)) rfl), (List.forall_mem_cons.mpr ⟨(lwg (lwt_5 (List.mem_of_getElem? (i := 67) rfl)) rfl), (List.forall_mem_cons.mpr ⟨(lwg (lwt_5 (List.mem_of_getElem? (i := 69) rfl)) rfl), (fun _ h => absurd h List.not_mem_nil)⟩)⟩)⟩)⟩)⟩)⟩)⟩)⟩)⟩)⟩)⟩)⟩)⟩)⟩)⟩)⟩)⟩)⟩)⟩)⟩)⟩)⟩)⟩)⟩)⟩)⟩)⟩)⟩)⟩)⟩)⟩)⟩)⟩)⟩)⟩)⟩)⟩)⟩)⟩)⟩)⟩)⟩)⟩)⟩)⟩)⟩)⟩)⟩)⟩)⟩)⟩)⟩)⟩)⟩)⟩)⟩)⟩)⟩)⟩)⟩)⟩)⟩)⟩)
theorem ins_9 : Cond.instantiable (cnm 9) (cN 9) ∈ lwG := (lwg (lwt_4 (List.mem_of_getElem? (i := 117) rfl)) rfl)
theorem lay_ok : ∀ c, c < 10 → ∀ w ∈ u_ws (cnm c) (cT c) (cN c), w ∈ lwG := by
  intro c hc
  match c, hc with
  | 0, _ => exact lay_0
  | 1, _ => exact lay_1
  | 2, _ => exact lay_2
  | 3, _ => exact lay_3
  | 4, _ => exact lay_4
  | 5, _ => exact lay_5
  | 6, _ => exact lay_6
  | 7, _ => exact lay_7
  | 8, _ => exact lay_8
  | 9, _ => exact lay_9
  | c + 10, hc => omega
theorem ins_ok : ∀ c, c < 10 → Cond.instantiable (cnm c) (cN c) ∈ lwG := by
  intro c hc
  match c, hc with
  | 0, _ => exact ins_0
  | 1, _ => exact ins_1
  | 2, _ => exact ins_2
  | 3, _ => exact ins_3
  | 4, _ => exact ins_4
  | 5, _ => exact ins_5
  | 6, _ => exact ins_6
  | 7, _ => exact ins_7
  | 8, _ => exact ins_8
  | 9, _ => exact ins_9
  | c + 10, hc => omega
theorem ini_0 : Cond.initialized (cnm 0) ∈ lwG := (lwg (lwt_1 (List.mem_of_getElem? (i := 2) rfl)) rfl)
theorem ini_1 : Cond.initialized (cnm 1) ∈ lwG := (lwg (lwt_1 (List.mem_of_getElem? (i := 7) rfl)) rfl)
theorem ini_2 : Cond.initialized (cnm 2) ∈ lwG := (lwg (lwt_1 (List.mem_of_getElem? (i := 8) rfl)) rfl)
theorem ini_3 : Cond.initialized (cnm 3) ∈ lwG := (lwg (lwt_1 (List.mem_of_getElem? (i := 9) rfl)) rfl)
theorem ini_4 : Cond.initialized (cnm 4) ∈ lwG := (lwg (lwt_1 (List.mem_of_getElem? (i := 6) rfl)) rfl)
theorem ini_5 : Cond.initialized (cnm 5) ∈ lwG := (lwg (lwt_1 (List.mem_of_getElem? (i := 5) rfl)) rfl)
theorem ini_6 : Cond.initialized (cnm 6) ∈ lwG := (lwg (lwt_1 (List.mem_of_getElem? (i := 3) rfl)) rfl)
theorem ini_7 : Cond.initialized (cnm 7) ∈ lwG := (lwg (lwt_1 (List.mem_of_getElem? (i := 4) rfl)) rfl)
theorem ini_8 : Cond.initialized (cnm 8) ∈ lwG := (lwg (lwt_1 (List.mem_of_getElem? (i := 1) rfl)) rfl)
theorem ini_9 : Cond.initialized (cnm 9) ∈ lwG := (lwg (lwt_1 (List.mem_of_getElem? (i := 10) rfl)) rfl)
theorem ini_10 : Cond.initialized (cnm 10) ∈ lwG := (lwg (lwt_1 (List.mem_of_getElem? (i := 0) rfl)) rfl)
theorem ini_11 : Cond.initialized (cnm 11) ∈ lwG := (lwg (lwt_1 (List.mem_of_getElem? (i := 11) rfl)) rfl)
theorem ini_12 : Cond.initialized (cnm 12) ∈ lwG := (lwg (lwt_1 (List.mem_of_getElem? (i := 13) rfl)) rfl)
theorem ini_13 : Cond.initialized (cnm 13) ∈ lwG := (lwg (lwt_1 (List.mem_of_getElem? (i := 12) rfl)) rfl)
theorem ini_ok : ∀ c, c < 14 → Cond.initialized (cnm c) ∈ lwG := by
  intro c hc
  match c, hc with
  | 0, _ => exact ini_0
  | 1, _ => exact ini_1
  | 2, _ => exact ini_2
  | 3, _ => exact ini_3
  | 4, _ => exact ini_4
  | 5, _ => exact ini_5
  | 6, _ => exact ini_6
  | 7, _ => exact ini_7
  | 8, _ => exact ini_8
  | 9, _ => exact ini_9
  | 10, _ => exact ini_10
  | 11, _ => exact ini_11
  | 12, _ => exact ini_12
  | 13, _ => exact ini_13
  | c + 14, hc => omega
