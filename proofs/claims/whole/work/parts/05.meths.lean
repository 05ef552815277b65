-- ===== what the tables say of the methods =====
/-- a method that is called: its code, which way it is called -/
def mOK (k : Nat) : Prop := Cond.code (yK k) (cK k) (mxK k) (rtK k) ∈ lwG ∧ (if stK k = true then Cond.static (yK k) ∈ lwG else Cond.instanceMethod (yK k) ∈ lwG ∧ ((yK k).name = "<init>" ∨ Cond.selects (yK k).cls (yK k) (yK k) ∈ lwG))
set_option maxRecDepth 20000 in
theorem mok_1 : mOK 1 := ⟨(lwg (lwt_1 (List.mem_of_getElem? (i := 18) rfl)) rfl), (lwg (lwt_1 (List.mem_of_getElem? (i := 17) rfl)) rfl), Or.inl rfl⟩
set_option maxRecDepth 20000 in
theorem mok_2 : mOK 2 := ⟨(lwg (lwt_2 (List.mem_of_getElem? (i := 107) rfl)) rfl), (lwg (lwt_2 (List.mem_of_getElem? (i := 105) rfl)) rfl), Or.inr (lwg (lwt_2 (List.mem_of_getElem? (i := 106) rfl)) rfl)⟩
set_option maxRecDepth 20000 in
theorem mok_3 : mOK 3 := ⟨(lwg (lwt_2 (List.mem_of_getElem? (i := 111) rfl)) rfl), (lwg (lwt_2 (List.mem_of_getElem? (i := 109) rfl)) rfl), Or.inr (lwg (lwt_2 (List.mem_of_getElem? (i := 110) rfl)) rfl)⟩
set_option maxRecDepth 20000 in
theorem mok_4 : mOK 4 := ⟨(lwg (lwt_2 (List.mem_of_getElem? (i := 115) rfl)) rfl), (lwg (lwt_2 (List.mem_of_getElem? (i := 113) rfl)) rfl), Or.inr (lwg (lwt_2 (List.mem_of_getElem? (i := 114) rfl)) rfl)⟩
set_option maxRecDepth 20000 in
theorem mok_5 : mOK 5 := ⟨(lwg (lwt_2 (List.mem_of_getElem? (i := 227) rfl)) rfl), (lwg (lwt_2 (List.mem_of_getElem? (i := 225) rfl)) rfl), Or.inr (lwg (lwt_2 (List.mem_of_getElem? (i := 226) rfl)) rfl)⟩
set_option maxRecDepth 20000 in
theorem mok_6 : mOK 6 := ⟨(lwg (lwt_3 (List.mem_of_getElem? (i := 87) rfl)) rfl), (lwg (lwt_3 (List.mem_of_getElem? (i := 85) rfl)) rfl), Or.inr (lwg (lwt_3 (List.mem_of_getElem? (i := 86) rfl)) rfl)⟩
set_option maxRecDepth 20000 in
theorem mok_7 : mOK 7 := ⟨(lwg (lwt_2 (List.mem_of_getElem? (i := 119) rfl)) rfl), (lwg (lwt_2 (List.mem_of_getElem? (i := 118) rfl)) rfl), Or.inr (lwg (lwt_0 (List.mem_of_getElem? (i := 0) rfl)) rfl)⟩
set_option maxRecDepth 20000 in
theorem mok_8 : mOK 8 := ⟨(lwg (lwt_3 (List.mem_of_getElem? (i := 91) rfl)) rfl), (lwg (lwt_3 (List.mem_of_getElem? (i := 90) rfl)) rfl), Or.inr (lwg (lwt_0 (List.mem_of_getElem? (i := 24) rfl)) rfl)⟩
set_option maxRecDepth 20000 in
theorem mok_9 : mOK 9 := ⟨(lwg (lwt_3 (List.mem_of_getElem? (i := 100) rfl)) rfl), (lwg (lwt_3 (List.mem_of_getElem? (i := 98) rfl)) rfl), Or.inr (lwg (lwt_3 (List.mem_of_getElem? (i := 99) rfl)) rfl)⟩
set_option maxRecDepth 20000 in
theorem mok_10 : mOK 10 := ⟨(lwg (lwt_3 (List.mem_of_getElem? (i := 114) rfl)) rfl), (lwg (lwt_3 (List.mem_of_getElem? (i := 112) rfl)) rfl), Or.inr (lwg (lwt_3 (List.mem_of_getElem? (i := 113) rfl)) rfl)⟩
set_option maxRecDepth 20000 in
theorem mok_11 : mOK 11 := ⟨(lwg (lwt_3 (List.mem_of_getElem? (i := 195) rfl)) rfl), (lwg (lwt_3 (List.mem_of_getElem? (i := 193) rfl)) rfl), Or.inr (lwg (lwt_3 (List.mem_of_getElem? (i := 194) rfl)) rfl)⟩
set_option maxRecDepth 20000 in
theorem mok_12 : mOK 12 := ⟨(lwg (lwt_3 (List.mem_of_getElem? (i := 202) rfl)) rfl), (lwg (lwt_3 (List.mem_of_getElem? (i := 200) rfl)) rfl), Or.inr (lwg (lwt_3 (List.mem_of_getElem? (i := 201) rfl)) rfl)⟩
set_option maxRecDepth 20000 in
theorem mok_13 : mOK 13 := ⟨(lwg (lwt_3 (List.mem_of_getElem? (i := 206) rfl)) rfl), (lwg (lwt_3 (List.mem_of_getElem? (i := 204) rfl)) rfl), Or.inr (lwg (lwt_3 (List.mem_of_getElem? (i := 205) rfl)) rfl)⟩
set_option maxRecDepth 20000 in
theorem mok_14 : mOK 14 := ⟨(lwg (lwt_3 (List.mem_of_getElem? (i := 229) rfl)) rfl), (lwg (lwt_3 (List.mem_of_getElem? (i := 227) rfl)) rfl), Or.inr (lwg (lwt_3 (List.mem_of_getElem? (i := 228) rfl)) rfl)⟩
set_option maxRecDepth 20000 in
theorem mok_15 : mOK 15 := ⟨(lwg (lwt_3 (List.mem_of_getElem? (i := 104) rfl)) rfl), (lwg (lwt_3 (List.mem_of_getElem? (i := 103) rfl)) rfl), Or.inr (lwg (lwt_0 (List.mem_of_getElem? (i := 25) rfl)) rfl)⟩
set_option maxRecDepth 20000 in
theorem mok_16 : mOK 16 := ⟨(lwg (lwt_3 (List.mem_of_getElem? (i := 118) rfl)) rfl), (lwg (lwt_3 (List.mem_of_getElem? (i := 117) rfl)) rfl), Or.inr (lwg (lwt_0 (List.mem_of_getElem? (i := 26) rfl)) rfl)⟩
set_option maxRecDepth 20000 in
theorem mok_17 : mOK 17 := ⟨(lwg (lwt_3 (List.mem_of_getElem? (i := 233) rfl)) rfl), (lwg (lwt_3 (List.mem_of_getElem? (i := 232) rfl)) rfl), Or.inr (lwg (lwt_0 (List.mem_of_getElem? (i := 36) rfl)) rfl)⟩
set_option maxRecDepth 20000 in
theorem mok_18 : mOK 18 := ⟨(lwg (lwt_3 (List.mem_of_getElem? (i := 198) rfl)) rfl), (lwg (lwt_3 (List.mem_of_getElem? (i := 197) rfl)) rfl)⟩
set_option maxRecDepth 20000 in
theorem mok_19 : mOK 19 := ⟨(lwg (lwt_3 (List.mem_of_getElem? (i := 217) rfl)) rfl), (lwg (lwt_3 (List.mem_of_getElem? (i := 216) rfl)) rfl)⟩
set_option maxRecDepth 20000 in
theorem mok_20 : mOK 20 := ⟨(lwg (lwt_3 (List.mem_of_getElem? (i := 210) rfl)) rfl), (lwg (lwt_3 (List.mem_of_getElem? (i := 209) rfl)) rfl), Or.inr (lwg (lwt_0 (List.mem_of_getElem? (i := 34) rfl)) rfl)⟩
set_option maxRecDepth 20000 in
theorem mok_21 : mOK 21 := ⟨(lwg (lwt_3 (List.mem_of_getElem? (i := 221) rfl)) rfl), (lwg (lwt_3 (List.mem_of_getElem? (i := 220) rfl)) rfl), Or.inr (lwg (lwt_0 (List.mem_of_getElem? (i := 35) rfl)) rfl)⟩
set_option maxRecDepth 20000 in
theorem mok_22 : mOK 22 := ⟨(lwg (lwt_3 (List.mem_of_getElem? (i := 125) rfl)) rfl), (lwg (lwt_3 (List.mem_of_getElem? (i := 124) rfl)) rfl)⟩
set_option maxRecDepth 20000 in
theorem mok_23 : mOK 23 := ⟨(lwg (lwt_3 (List.mem_of_getElem? (i := 187) rfl)) rfl), (lwg (lwt_3 (List.mem_of_getElem? (i := 186) rfl)) rfl), Or.inr (lwg (lwt_0 (List.mem_of_getElem? (i := 33) rfl)) rfl)⟩
set_option maxRecDepth 20000 in
theorem mok_24 : mOK 24 := ⟨(lwg (lwt_3 (List.mem_of_getElem? (i := 238) rfl)) rfl), (lwg (lwt_3 (List.mem_of_getElem? (i := 236) rfl)) rfl), Or.inr (lwg (lwt_3 (List.mem_of_getElem? (i := 237) rfl)) rfl)⟩
set_option maxRecDepth 20000 in
theorem mok_25 : mOK 25 := ⟨(lwg (lwt_4 (List.mem_of_getElem? (i := 20) rfl)) rfl), (lwg (lwt_4 (List.mem_of_getElem? (i := 18) rfl)) rfl), Or.inr (lwg (lwt_4 (List.mem_of_getElem? (i := 19) rfl)) rfl)⟩
set_option maxRecDepth 20000 in
theorem mok_26 : mOK 26 := ⟨(lwg (lwt_4 (List.mem_of_getElem? (i := 28) rfl)) rfl), (lwg (lwt_4 (List.mem_of_getElem? (i := 26) rfl)) rfl), Or.inr (lwg (lwt_4 (List.mem_of_getElem? (i := 27) rfl)) rfl)⟩
set_option maxRecDepth 20000 in
theorem mok_27 : mOK 27 := ⟨(lwg (lwt_4 (List.mem_of_getElem? (i := 2) rfl)) rfl), (lwg (lwt_4 (List.mem_of_getElem? (i := 1) rfl)) rfl), Or.inr (lwg (lwt_0 (List.mem_of_getElem? (i := 37) rfl)) rfl)⟩
set_option maxRecDepth 20000 in
theorem mok_28 : mOK 28 := ⟨(lwg (lwt_4 (List.mem_of_getElem? (i := 6) rfl)) rfl), (lwg (lwt_4 (List.mem_of_getElem? (i := 5) rfl)) rfl), Or.inr (lwg (lwt_0 (List.mem_of_getElem? (i := 38) rfl)) rfl)⟩
set_option maxRecDepth 20000 in
theorem mok_29 : mOK 29 := ⟨(lwg (lwt_3 (List.mem_of_getElem? (i := 31) rfl)) rfl), (lwg (lwt_3 (List.mem_of_getElem? (i := 30) rfl)) rfl)⟩
set_option maxRecDepth 20000 in
theorem mok_30 : mOK 30 := ⟨(lwg (lwt_4 (List.mem_of_getElem? (i := 33) rfl)) rfl), (lwg (lwt_4 (List.mem_of_getElem? (i := 31) rfl)) rfl), Or.inr (lwg (lwt_4 (List.mem_of_getElem? (i := 32) rfl)) rfl)⟩
set_option maxRecDepth 20000 in
theorem mok_31 : mOK 31 := ⟨(lwg (lwt_4 (List.mem_of_getElem? (i := 41) rfl)) rfl), (lwg (lwt_4 (List.mem_of_getElem? (i := 39) rfl)) rfl), Or.inr (lwg (lwt_4 (List.mem_of_getElem? (i := 40) rfl)) rfl)⟩
set_option maxRecDepth 20000 in
theorem mok_32 : mOK 32 := ⟨(lwg (lwt_4 (List.mem_of_getElem? (i := 45) rfl)) rfl), (lwg (lwt_4 (List.mem_of_getElem? (i := 43) rfl)) rfl), Or.inr (lwg (lwt_4 (List.mem_of_getElem? (i := 44) rfl)) rfl)⟩
set_option maxRecDepth 20000 in
theorem mok_33 : mOK 33 := ⟨(lwg (lwt_4 (List.mem_of_getElem? (i := 49) rfl)) rfl), (lwg (lwt_4 (List.mem_of_getElem? (i := 48) rfl)) rfl), Or.inr (lwg (lwt_0 (List.mem_of_getElem? (i := 39) rfl)) rfl)⟩
set_option maxRecDepth 20000 in
theorem mok_34 : mOK 34 := ⟨(lwg (lwt_4 (List.mem_of_getElem? (i := 57) rfl)) rfl), (lwg (lwt_4 (List.mem_of_getElem? (i := 56) rfl)) rfl), Or.inr (lwg (lwt_0 (List.mem_of_getElem? (i := 40) rfl)) rfl)⟩
set_option maxRecDepth 20000 in
theorem mok_35 : mOK 35 := ⟨(lwg (lwt_4 (List.mem_of_getElem? (i := 61) rfl)) rfl), (lwg (lwt_4 (List.mem_of_getElem? (i := 59) rfl)) rfl), Or.inr (lwg (lwt_4 (List.mem_of_getElem? (i := 60) rfl)) rfl)⟩
set_option maxRecDepth 20000 in
theorem mok_36 : mOK 36 := ⟨(lwg (lwt_4 (List.mem_of_getElem? (i := 78) rfl)) rfl), (lwg (lwt_4 (List.mem_of_getElem? (i := 76) rfl)) rfl), Or.inr (lwg (lwt_4 (List.mem_of_getElem? (i := 77) rfl)) rfl)⟩
set_option maxRecDepth 20000 in
theorem mok_37 : mOK 37 := ⟨(lwg (lwt_4 (List.mem_of_getElem? (i := 82) rfl)) rfl), (lwg (lwt_4 (List.mem_of_getElem? (i := 80) rfl)) rfl), Or.inr (lwg (lwt_4 (List.mem_of_getElem? (i := 81) rfl)) rfl)⟩
set_option maxRecDepth 20000 in
theorem mok_38 : mOK 38 := ⟨(lwg (lwt_4 (List.mem_of_getElem? (i := 106) rfl)) rfl), (lwg (lwt_4 (List.mem_of_getElem? (i := 104) rfl)) rfl), Or.inr (lwg (lwt_4 (List.mem_of_getElem? (i := 105) rfl)) rfl)⟩
set_option maxRecDepth 20000 in
theorem mok_39 : mOK 39 := ⟨(lwg (lwt_4 (List.mem_of_getElem? (i := 114) rfl)) rfl), (lwg (lwt_4 (List.mem_of_getElem? (i := 113) rfl)) rfl), Or.inr (lwg (lwt_0 (List.mem_of_getElem? (i := 44) rfl)) rfl)⟩
set_option maxRecDepth 20000 in
theorem mok_40 : mOK 40 := ⟨(lwg (lwt_4 (List.mem_of_getElem? (i := 86) rfl)) rfl), (lwg (lwt_4 (List.mem_of_getElem? (i := 85) rfl)) rfl), Or.inr (lwg (lwt_0 (List.mem_of_getElem? (i := 41) rfl)) rfl)⟩
set_option maxRecDepth 20000 in
theorem mok_41 : mOK 41 := ⟨(lwg (lwt_4 (List.mem_of_getElem? (i := 90) rfl)) rfl), (lwg (lwt_4 (List.mem_of_getElem? (i := 89) rfl)) rfl), Or.inr (lwg (lwt_0 (List.mem_of_getElem? (i := 42) rfl)) rfl)⟩
set_option maxRecDepth 20000 in
theorem mok_42 : mOK 42 := ⟨(lwg (lwt_4 (List.mem_of_getElem? (i := 120) rfl)) rfl), (lwg (lwt_4 (List.mem_of_getElem? (i := 119) rfl)) rfl), Or.inl rfl⟩
set_option maxRecDepth 20000 in
theorem mok_43 : mOK 43 := ⟨(lwg (lwt_5 (List.mem_of_getElem? (i := 79) rfl)) rfl), (lwg (lwt_5 (List.mem_of_getElem? (i := 78) rfl)) rfl)⟩
set_option maxRecDepth 20000 in
theorem mok_44 : mOK 44 := ⟨(lwg (lwt_5 (List.mem_of_getElem? (i := 143) rfl)) rfl), (lwg (lwt_5 (List.mem_of_getElem? (i := 142) rfl)) rfl)⟩
set_option maxRecDepth 20000 in
theorem mok_45 : mOK 45 := ⟨(lwg (lwt_5 (List.mem_of_getElem? (i := 218) rfl)) rfl), (lwg (lwt_5 (List.mem_of_getElem? (i := 217) rfl)) rfl)⟩
set_option maxRecDepth 20000 in
theorem mok_46 : mOK 46 := ⟨(lwg (lwt_5 (List.mem_of_getElem? (i := 136) rfl)) rfl), (lwg (lwt_5 (List.mem_of_getElem? (i := 135) rfl)) rfl)⟩
set_option maxRecDepth 20000 in
theorem mok_47 : mOK 47 := ⟨(lwg (lwt_5 (List.mem_of_getElem? (i := 125) rfl)) rfl), (lwg (lwt_5 (List.mem_of_getElem? (i := 124) rfl)) rfl)⟩
set_option maxRecDepth 20000 in
theorem mok_48 : mOK 48 := ⟨(lwg (lwt_5 (List.mem_of_getElem? (i := 76) rfl)) rfl), (lwg (lwt_5 (List.mem_of_getElem? (i := 74) rfl)) rfl), Or.inr (lwg (lwt_5 (List.mem_of_getElem? (i := 75) rfl)) rfl)⟩
set_option maxRecDepth 20000 in
theorem mok_49 : mOK 49 := ⟨(lwg (lwt_5 (List.mem_of_getElem? (i := 83) rfl)) rfl), (lwg (lwt_5 (List.mem_of_getElem? (i := 81) rfl)) rfl), Or.inr (lwg (lwt_5 (List.mem_of_getElem? (i := 82) rfl)) rfl)⟩
set_option maxRecDepth 20000 in
theorem mok_50 : mOK 50 := ⟨(lwg (lwt_5 (List.mem_of_getElem? (i := 118) rfl)) rfl), (lwg (lwt_5 (List.mem_of_getElem? (i := 117) rfl)) rfl)⟩
set_option maxRecDepth 20000 in
theorem mok_51 : mOK 51 := ⟨(lwg (lwt_5 (List.mem_of_getElem? (i := 103) rfl)) rfl), (lwg (lwt_5 (List.mem_of_getElem? (i := 102) rfl)) rfl), Or.inr (lwg (lwt_0 (List.mem_of_getElem? (i := 48) rfl)) rfl)⟩
set_option maxRecDepth 20000 in
theorem mok_52 : mOK 52 := ⟨(lwg (lwt_5 (List.mem_of_getElem? (i := 107) rfl)) rfl), (lwg (lwt_5 (List.mem_of_getElem? (i := 106) rfl)) rfl), Or.inr (lwg (lwt_0 (List.mem_of_getElem? (i := 49) rfl)) rfl)⟩
set_option maxRecDepth 20000 in
theorem mok_53 : mOK 53 := ⟨(lwg (lwt_5 (List.mem_of_getElem? (i := 111) rfl)) rfl), (lwg (lwt_5 (List.mem_of_getElem? (i := 110) rfl)) rfl), Or.inr (lwg (lwt_0 (List.mem_of_getElem? (i := 50) rfl)) rfl)⟩
set_option maxRecDepth 20000 in
theorem mok_54 : mOK 54 := ⟨(lwg (lwt_5 (List.mem_of_getElem? (i := 99) rfl)) rfl), (lwg (lwt_5 (List.mem_of_getElem? (i := 98) rfl)) rfl), Or.inr (lwg (lwt_0 (List.mem_of_getElem? (i := 47) rfl)) rfl)⟩
set_option maxRecDepth 20000 in
theorem mok_55 : mOK 55 := ⟨(lwg (lwt_5 (List.mem_of_getElem? (i := 95) rfl)) rfl), (lwg (lwt_5 (List.mem_of_getElem? (i := 94) rfl)) rfl), Or.inr (lwg (lwt_0 (List.mem_of_getElem? (i := 46) rfl)) rfl)⟩
set_option maxRecDepth 20000 in
theorem mok_56 : mOK 56 := ⟨(lwg (lwt_5 (List.mem_of_getElem? (i := 122) rfl)) rfl), (lwg (lwt_5 (List.mem_of_getElem? (i := 121) rfl)) rfl), Or.inr (lwg (lwt_0 (List.mem_of_getElem? (i := 52) rfl)) rfl)⟩
set_option maxRecDepth 20000 in
theorem mok_57 : mOK 57 := ⟨(lwg (lwt_5 (List.mem_of_getElem? (i := 133) rfl)) rfl), (lwg (lwt_5 (List.mem_of_getElem? (i := 132) rfl)) rfl), Or.inr (lwg (lwt_0 (List.mem_of_getElem? (i := 54) rfl)) rfl)⟩
set_option maxRecDepth 20000 in
theorem mok_58 : mOK 58 := ⟨(lwg (lwt_5 (List.mem_of_getElem? (i := 129) rfl)) rfl), (lwg (lwt_5 (List.mem_of_getElem? (i := 128) rfl)) rfl), Or.inr (lwg (lwt_0 (List.mem_of_getElem? (i := 53) rfl)) rfl)⟩
set_option maxRecDepth 20000 in
theorem mok_59 : mOK 59 := ⟨(lwg (lwt_5 (List.mem_of_getElem? (i := 115) rfl)) rfl), (lwg (lwt_5 (List.mem_of_getElem? (i := 114) rfl)) rfl), Or.inr (lwg (lwt_0 (List.mem_of_getElem? (i := 51) rfl)) rfl)⟩
set_option maxRecDepth 20000 in
theorem mok_60 : mOK 60 := ⟨(lwg (lwt_5 (List.mem_of_getElem? (i := 91) rfl)) rfl), (lwg (lwt_5 (List.mem_of_getElem? (i := 90) rfl)) rfl), Or.inr (lwg (lwt_0 (List.mem_of_getElem? (i := 45) rfl)) rfl)⟩
set_option maxRecDepth 20000 in
theorem mok_61 : mOK 61 := ⟨(lwg (lwt_5 (List.mem_of_getElem? (i := 87) rfl)) rfl), (lwg (lwt_5 (List.mem_of_getElem? (i := 85) rfl)) rfl), Or.inr (lwg (lwt_5 (List.mem_of_getElem? (i := 86) rfl)) rfl)⟩
set_option maxRecDepth 20000 in
theorem mok_62 : mOK 62 := ⟨(lwg (lwt_5 (List.mem_of_getElem? (i := 140) rfl)) rfl), (lwg (lwt_5 (List.mem_of_getElem? (i := 138) rfl)) rfl), Or.inr (lwg (lwt_5 (List.mem_of_getElem? (i := 139) rfl)) rfl)⟩
set_option maxRecDepth 20000 in
theorem mok_63 : mOK 63 := ⟨(lwg (lwt_5 (List.mem_of_getElem? (i := 147) rfl)) rfl), (lwg (lwt_5 (List.mem_of_getElem? (i := 146) rfl)) rfl), Or.inr (lwg (lwt_0 (List.mem_of_getElem? (i := 55) rfl)) rfl)⟩
set_option maxRecDepth 20000 in
theorem mok_64 : mOK 64 := ⟨(lwg (lwt_5 (List.mem_of_getElem? (i := 159) rfl)) rfl), (lwg (lwt_5 (List.mem_of_getElem? (i := 158) rfl)) rfl), Or.inr (lwg (lwt_0 (List.mem_of_getElem? (i := 58) rfl)) rfl)⟩
set_option maxRecDepth 20000 in
theorem mok_65 : mOK 65 := ⟨(lwg (lwt_5 (List.mem_of_getElem? (i := 155) rfl)) rfl), (lwg (lwt_5 (List.mem_of_getElem? (i := 154) rfl)) rfl), Or.inr (lwg (lwt_0 (List.mem_of_getElem? (i := 57) rfl)) rfl)⟩
set_option maxRecDepth 20000 in
theorem mok_66 : mOK 66 := ⟨(lwg (lwt_6 (List.mem_of_getElem? (i := 94) rfl)) rfl), (lwg (lwt_6 (List.mem_of_getElem? (i := 93) rfl)) rfl), Or.inr (lwg (lwt_0 (List.mem_of_getElem? (i := 93) rfl)) rfl)⟩
set_option maxRecDepth 20000 in
theorem mok_67 : mOK 67 := ⟨(lwg (lwt_5 (List.mem_of_getElem? (i := 167) rfl)) rfl), (lwg (lwt_5 (List.mem_of_getElem? (i := 166) rfl)) rfl), Or.inr (lwg (lwt_0 (List.mem_of_getElem? (i := 60) rfl)) rfl)⟩
set_option maxRecDepth 20000 in
theorem mok_68 : mOK 68 := ⟨(lwg (lwt_5 (List.mem_of_getElem? (i := 163) rfl)) rfl), (lwg (lwt_5 (List.mem_of_getElem? (i := 162) rfl)) rfl), Or.inr (lwg (lwt_0 (List.mem_of_getElem? (i := 59) rfl)) rfl)⟩
set_option maxRecDepth 20000 in
theorem mok_69 : mOK 69 := ⟨(lwg (lwt_5 (List.mem_of_getElem? (i := 151) rfl)) rfl), (lwg (lwt_5 (List.mem_of_getElem? (i := 150) rfl)) rfl), Or.inr (lwg (lwt_0 (List.mem_of_getElem? (i := 56) rfl)) rfl)⟩
set_option maxRecDepth 20000 in
theorem mok_70 : mOK 70 := ⟨(lwg (lwt_5 (List.mem_of_getElem? (i := 203) rfl)) rfl), (lwg (lwt_5 (List.mem_of_getElem? (i := 202) rfl)) rfl), Or.inr (lwg (lwt_0 (List.mem_of_getElem? (i := 66) rfl)) rfl)⟩
set_option maxRecDepth 20000 in
theorem mok_71 : mOK 71 := ⟨(lwg (lwt_6 (List.mem_of_getElem? (i := 2) rfl)) rfl), (lwg (lwt_6 (List.mem_of_getElem? (i := 1) rfl)) rfl), Or.inr (lwg (lwt_0 (List.mem_of_getElem? (i := 74) rfl)) rfl)⟩
set_option maxRecDepth 20000 in
theorem mok_72 : mOK 72 := ⟨(lwg (lwt_6 (List.mem_of_getElem? (i := 10) rfl)) rfl), (lwg (lwt_6 (List.mem_of_getElem? (i := 9) rfl)) rfl), Or.inr (lwg (lwt_0 (List.mem_of_getElem? (i := 76) rfl)) rfl)⟩
set_option maxRecDepth 20000 in
theorem mok_73 : mOK 73 := ⟨(lwg (lwt_6 (List.mem_of_getElem? (i := 6) rfl)) rfl), (lwg (lwt_6 (List.mem_of_getElem? (i := 5) rfl)) rfl), Or.inr (lwg (lwt_0 (List.mem_of_getElem? (i := 75) rfl)) rfl)⟩
set_option maxRecDepth 20000 in
theorem mok_74 : mOK 74 := ⟨(lwg (lwt_6 (List.mem_of_getElem? (i := 14) rfl)) rfl), (lwg (lwt_6 (List.mem_of_getElem? (i := 13) rfl)) rfl), Or.inr (lwg (lwt_0 (List.mem_of_getElem? (i := 77) rfl)) rfl)⟩
set_option maxRecDepth 20000 in
theorem mok_75 : mOK 75 := ⟨(lwg (lwt_5 (List.mem_of_getElem? (i := 238) rfl)) rfl), (lwg (lwt_5 (List.mem_of_getElem? (i := 237) rfl)) rfl), Or.inr (lwg (lwt_0 (List.mem_of_getElem? (i := 73) rfl)) rfl)⟩
set_option maxRecDepth 20000 in
theorem mok_76 : mOK 76 := ⟨(lwg (lwt_5 (List.mem_of_getElem? (i := 230) rfl)) rfl), (lwg (lwt_5 (List.mem_of_getElem? (i := 229) rfl)) rfl), Or.inr (lwg (lwt_0 (List.mem_of_getElem? (i := 71) rfl)) rfl)⟩
set_option maxRecDepth 20000 in
theorem mok_77 : mOK 77 := ⟨(lwg (lwt_6 (List.mem_of_getElem? (i := 18) rfl)) rfl), (lwg (lwt_6 (List.mem_of_getElem? (i := 17) rfl)) rfl), Or.inr (lwg (lwt_0 (List.mem_of_getElem? (i := 78) rfl)) rfl)⟩
set_option maxRecDepth 20000 in
theorem mok_78 : mOK 78 := ⟨(lwg (lwt_5 (List.mem_of_getElem? (i := 234) rfl)) rfl), (lwg (lwt_5 (List.mem_of_getElem? (i := 233) rfl)) rfl), Or.inr (lwg (lwt_0 (List.mem_of_getElem? (i := 72) rfl)) rfl)⟩
set_option maxRecDepth 20000 in
theorem mok_79 : mOK 79 := ⟨(lwg (lwt_5 (List.mem_of_getElem? (i := 226) rfl)) rfl), (lwg (lwt_5 (List.mem_of_getElem? (i := 225) rfl)) rfl), Or.inr (lwg (lwt_0 (List.mem_of_getElem? (i := 70) rfl)) rfl)⟩
set_option maxRecDepth 20000 in
theorem mok_80 : mOK 80 := ⟨(lwg (lwt_6 (List.mem_of_getElem? (i := 110) rfl)) rfl), (lwg (lwt_6 (List.mem_of_getElem? (i := 109) rfl)) rfl), Or.inr (lwg (lwt_0 (List.mem_of_getElem? (i := 96) rfl)) rfl)⟩
set_option maxRecDepth 20000 in
theorem mok_81 : mOK 81 := ⟨(lwg (lwt_6 (List.mem_of_getElem? (i := 106) rfl)) rfl), (lwg (lwt_6 (List.mem_of_getElem? (i := 105) rfl)) rfl), Or.inr (lwg (lwt_0 (List.mem_of_getElem? (i := 95) rfl)) rfl)⟩
set_option maxRecDepth 20000 in
theorem mok_82 : mOK 82 := ⟨(lwg (lwt_6 (List.mem_of_getElem? (i := 114) rfl)) rfl), (lwg (lwt_6 (List.mem_of_getElem? (i := 113) rfl)) rfl), Or.inr (lwg (lwt_0 (List.mem_of_getElem? (i := 97) rfl)) rfl)⟩
set_option maxRecDepth 20000 in
theorem mok_83 : mOK 83 := ⟨(lwg (lwt_6 (List.mem_of_getElem? (i := 118) rfl)) rfl), (lwg (lwt_6 (List.mem_of_getElem? (i := 117) rfl)) rfl), Or.inr (lwg (lwt_0 (List.mem_of_getElem? (i := 98) rfl)) rfl)⟩
set_option maxRecDepth 20000 in
theorem mok_84 : mOK 84 := ⟨(lwg (lwt_6 (List.mem_of_getElem? (i := 126) rfl)) rfl), (lwg (lwt_6 (List.mem_of_getElem? (i := 125) rfl)) rfl), Or.inr (lwg (lwt_0 (List.mem_of_getElem? (i := 99) rfl)) rfl)⟩
set_option maxRecDepth 20000 in
theorem mok_85 : mOK 85 := ⟨(lwg (lwt_5 (List.mem_of_getElem? (i := 179) rfl)) rfl), (lwg (lwt_5 (List.mem_of_getElem? (i := 178) rfl)) rfl), Or.inr (lwg (lwt_0 (List.mem_of_getElem? (i := 61) rfl)) rfl)⟩
set_option maxRecDepth 20000 in
theorem mok_86 : mOK 86 := ⟨(lwg (lwt_5 (List.mem_of_getElem? (i := 195) rfl)) rfl), (lwg (lwt_5 (List.mem_of_getElem? (i := 194) rfl)) rfl), Or.inr (lwg (lwt_0 (List.mem_of_getElem? (i := 64) rfl)) rfl)⟩
set_option maxRecDepth 20000 in
theorem mok_87 : mOK 87 := ⟨(lwg (lwt_6 (List.mem_of_getElem? (i := 90) rfl)) rfl), (lwg (lwt_6 (List.mem_of_getElem? (i := 89) rfl)) rfl), Or.inr (lwg (lwt_0 (List.mem_of_getElem? (i := 92) rfl)) rfl)⟩
set_option maxRecDepth 20000 in
theorem mok_88 : mOK 88 := ⟨(lwg (lwt_5 (List.mem_of_getElem? (i := 171) rfl)) rfl), (lwg (lwt_5 (List.mem_of_getElem? (i := 169) rfl)) rfl), Or.inr (lwg (lwt_5 (List.mem_of_getElem? (i := 170) rfl)) rfl)⟩
set_option maxRecDepth 20000 in
theorem mok_89 : mOK 89 := ⟨(lwg (lwt_5 (List.mem_of_getElem? (i := 187) rfl)) rfl), (lwg (lwt_5 (List.mem_of_getElem? (i := 186) rfl)) rfl), Or.inr (lwg (lwt_0 (List.mem_of_getElem? (i := 63) rfl)) rfl)⟩
set_option maxRecDepth 20000 in
theorem mok_90 : mOK 90 := ⟨(lwg (lwt_5 (List.mem_of_getElem? (i := 183) rfl)) rfl), (lwg (lwt_5 (List.mem_of_getElem? (i := 182) rfl)) rfl), Or.inr (lwg (lwt_0 (List.mem_of_getElem? (i := 62) rfl)) rfl)⟩
set_option maxRecDepth 20000 in
theorem mok_91 : mOK 91 := ⟨(lwg (lwt_5 (List.mem_of_getElem? (i := 175) rfl)) rfl), (lwg (lwt_5 (List.mem_of_getElem? (i := 173) rfl)) rfl), Or.inr (lwg (lwt_5 (List.mem_of_getElem? (i := 174) rfl)) rfl)⟩
set_option maxRecDepth 20000 in
theorem mok_92 : mOK 92 := ⟨(lwg (lwt_6 (List.mem_of_getElem? (i := 22) rfl)) rfl), (lwg (lwt_6 (List.mem_of_getElem? (i := 21) rfl)) rfl), Or.inr (lwg (lwt_0 (List.mem_of_getElem? (i := 79) rfl)) rfl)⟩
set_option maxRecDepth 20000 in
theorem mok_93 : mOK 93 := ⟨(lwg (lwt_5 (List.mem_of_getElem? (i := 222) rfl)) rfl), (lwg (lwt_5 (List.mem_of_getElem? (i := 221) rfl)) rfl), Or.inr (lwg (lwt_0 (List.mem_of_getElem? (i := 69) rfl)) rfl)⟩
set_option maxRecDepth 20000 in
theorem mok_94 : mOK 94 := ⟨(lwg (lwt_5 (List.mem_of_getElem? (i := 199) rfl)) rfl), (lwg (lwt_5 (List.mem_of_getElem? (i := 198) rfl)) rfl), Or.inr (lwg (lwt_0 (List.mem_of_getElem? (i := 65) rfl)) rfl)⟩
set_option maxRecDepth 20000 in
theorem mok_95 : mOK 95 := ⟨(lwg (lwt_5 (List.mem_of_getElem? (i := 191) rfl)) rfl), (lwg (lwt_5 (List.mem_of_getElem? (i := 189) rfl)) rfl), Or.inr (lwg (lwt_5 (List.mem_of_getElem? (i := 190) rfl)) rfl)⟩
set_option maxRecDepth 20000 in
theorem mok_96 : mOK 96 := ⟨(lwg (lwt_6 (List.mem_of_getElem? (i := 26) rfl)) rfl), (lwg (lwt_6 (List.mem_of_getElem? (i := 24) rfl)) rfl), Or.inr (lwg (lwt_6 (List.mem_of_getElem? (i := 25) rfl)) rfl)⟩
set_option maxRecDepth 20000 in
theorem mok_97 : mOK 97 := ⟨(lwg (lwt_6 (List.mem_of_getElem? (i := 30) rfl)) rfl), (lwg (lwt_6 (List.mem_of_getElem? (i := 28) rfl)) rfl), Or.inr (lwg (lwt_6 (List.mem_of_getElem? (i := 29) rfl)) rfl)⟩
set_option maxRecDepth 20000 in
theorem mok_98 : mOK 98 := ⟨(lwg (lwt_6 (List.mem_of_getElem? (i := 58) rfl)) rfl), (lwg (lwt_6 (List.mem_of_getElem? (i := 57) rfl)) rfl), Or.inr (lwg (lwt_0 (List.mem_of_getElem? (i := 85) rfl)) rfl)⟩
set_option maxRecDepth 20000 in
theorem mok_99 : mOK 99 := ⟨(lwg (lwt_6 (List.mem_of_getElem? (i := 62) rfl)) rfl), (lwg (lwt_6 (List.mem_of_getElem? (i := 61) rfl)) rfl), Or.inr (lwg (lwt_0 (List.mem_of_getElem? (i := 86) rfl)) rfl)⟩
set_option maxRecDepth 20000 in
theorem mok_100 : mOK 100 := ⟨(lwg (lwt_6 (List.mem_of_getElem? (i := 54) rfl)) rfl), (lwg (lwt_6 (List.mem_of_getElem? (i := 53) rfl)) rfl), Or.inr (lwg (lwt_0 (List.mem_of_getElem? (i := 84) rfl)) rfl)⟩
set_option maxRecDepth 20000 in
theorem mok_101 : mOK 101 := ⟨(lwg (lwt_6 (List.mem_of_getElem? (i := 74) rfl)) rfl), (lwg (lwt_6 (List.mem_of_getElem? (i := 73) rfl)) rfl), Or.inr (lwg (lwt_0 (List.mem_of_getElem? (i := 89) rfl)) rfl)⟩
set_option maxRecDepth 20000 in
theorem mok_102 : mOK 102 := ⟨(lwg (lwt_6 (List.mem_of_getElem? (i := 70) rfl)) rfl), (lwg (lwt_6 (List.mem_of_getElem? (i := 69) rfl)) rfl), Or.inr (lwg (lwt_0 (List.mem_of_getElem? (i := 88) rfl)) rfl)⟩
set_option maxRecDepth 20000 in
theorem mok_103 : mOK 103 := ⟨(lwg (lwt_6 (List.mem_of_getElem? (i := 50) rfl)) rfl), (lwg (lwt_6 (List.mem_of_getElem? (i := 49) rfl)) rfl), Or.inr (lwg (lwt_0 (List.mem_of_getElem? (i := 83) rfl)) rfl)⟩
set_option maxRecDepth 20000 in
theorem mok_104 : mOK 104 := ⟨(lwg (lwt_6 (List.mem_of_getElem? (i := 66) rfl)) rfl), (lwg (lwt_6 (List.mem_of_getElem? (i := 65) rfl)) rfl), Or.inr (lwg (lwt_0 (List.mem_of_getElem? (i := 87) rfl)) rfl)⟩
set_option maxRecDepth 20000 in
theorem mok_105 : mOK 105 := ⟨(lwg (lwt_6 (List.mem_of_getElem? (i := 46) rfl)) rfl), (lwg (lwt_6 (List.mem_of_getElem? (i := 45) rfl)) rfl), Or.inr (lwg (lwt_0 (List.mem_of_getElem? (i := 82) rfl)) rfl)⟩
set_option maxRecDepth 20000 in
theorem mok_106 : mOK 106 := ⟨(lwg (lwt_6 (List.mem_of_getElem? (i := 42) rfl)) rfl), (lwg (lwt_6 (List.mem_of_getElem? (i := 41) rfl)) rfl), Or.inr (lwg (lwt_0 (List.mem_of_getElem? (i := 81) rfl)) rfl)⟩
set_option maxRecDepth 20000 in
theorem mok_107 : mOK 107 := ⟨(lwg (lwt_6 (List.mem_of_getElem? (i := 82) rfl)) rfl), (lwg (lwt_6 (List.mem_of_getElem? (i := 81) rfl)) rfl), Or.inr (lwg (lwt_0 (List.mem_of_getElem? (i := 91) rfl)) rfl)⟩
set_option maxRecDepth 20000 in
theorem mok_108 : mOK 108 := ⟨(lwg (lwt_6 (List.mem_of_getElem? (i := 78) rfl)) rfl), (lwg (lwt_6 (List.mem_of_getElem? (i := 77) rfl)) rfl), Or.inr (lwg (lwt_0 (List.mem_of_getElem? (i := 90) rfl)) rfl)⟩
set_option maxRecDepth 20000 in
theorem mok_109 : mOK 109 := ⟨(lwg (lwt_6 (List.mem_of_getElem? (i := 38) rfl)) rfl), (lwg (lwt_6 (List.mem_of_getElem? (i := 37) rfl)) rfl), Or.inr (lwg (lwt_0 (List.mem_of_getElem? (i := 80) rfl)) rfl)⟩
set_option maxRecDepth 20000 in
theorem mok_110 : mOK 110 := ⟨(lwg (lwt_6 (List.mem_of_getElem? (i := 34) rfl)) rfl), (lwg (lwt_6 (List.mem_of_getElem? (i := 32) rfl)) rfl), Or.inr (lwg (lwt_6 (List.mem_of_getElem? (i := 33) rfl)) rfl)⟩
set_option maxRecDepth 20000 in
theorem mok_111 : mOK 111 := ⟨(lwg (lwt_6 (List.mem_of_getElem? (i := 86) rfl)) rfl), (lwg (lwt_6 (List.mem_of_getElem? (i := 84) rfl)) rfl), Or.inr (lwg (lwt_6 (List.mem_of_getElem? (i := 85) rfl)) rfl)⟩
set_option maxRecDepth 20000 in
theorem mok_112 : mOK 112 := ⟨(lwg (lwt_6 (List.mem_of_getElem? (i := 102) rfl)) rfl), (lwg (lwt_6 (List.mem_of_getElem? (i := 101) rfl)) rfl), Or.inr (lwg (lwt_0 (List.mem_of_getElem? (i := 94) rfl)) rfl)⟩
set_option maxRecDepth 20000 in
theorem mok_113 : mOK 113 := ⟨(lwg (lwt_6 (List.mem_of_getElem? (i := 98) rfl)) rfl), (lwg (lwt_6 (List.mem_of_getElem? (i := 96) rfl)) rfl), Or.inr (lwg (lwt_6 (List.mem_of_getElem? (i := 97) rfl)) rfl)⟩
set_option maxRecDepth 20000 in
theorem mok_114 : mOK 114 := ⟨(lwg (lwt_6 (List.mem_of_getElem? (i := 122) rfl)) rfl), (lwg (lwt_6 (List.mem_of_getElem? (i := 120) rfl)) rfl), Or.inr (lwg (lwt_6 (List.mem_of_getElem? (i := 121) rfl)) rfl)⟩
set_option maxRecDepth 20000 in
theorem mok_115 : mOK 115 := ⟨(lwg (lwt_6 (List.mem_of_getElem? (i := 130) rfl)) rfl), (lwg (lwt_6 (List.mem_of_getElem? (i := 128) rfl)) rfl), Or.inr (lwg (lwt_6 (List.mem_of_getElem? (i := 129) rfl)) rfl)⟩
set_option maxRecDepth 20000 in
theorem mok_116 : mOK 116 := ⟨(lwg (lwt_5 (List.mem_of_getElem? (i := 210) rfl)) rfl), (lwg (lwt_5 (List.mem_of_getElem? (i := 209) rfl)) rfl)⟩
set_option maxRecDepth 20000 in
theorem mok_117 : mOK 117 := ⟨(lwg (lwt_6 (List.mem_of_getElem? (i := 134) rfl)) rfl), (lwg (lwt_6 (List.mem_of_getElem? (i := 132) rfl)) rfl), Or.inr (lwg (lwt_6 (List.mem_of_getElem? (i := 133) rfl)) rfl)⟩
set_option maxRecDepth 20000 in
theorem mok_118 : mOK 118 := ⟨(lwg (lwt_6 (List.mem_of_getElem? (i := 138) rfl)) rfl), (lwg (lwt_6 (List.mem_of_getElem? (i := 136) rfl)) rfl), Or.inr (lwg (lwt_6 (List.mem_of_getElem? (i := 137) rfl)) rfl)⟩
set_option maxRecDepth 20000 in
theorem mok_119 : mOK 119 := ⟨(lwg (lwt_5 (List.mem_of_getElem? (i := 207) rfl)) rfl), (lwg (lwt_5 (List.mem_of_getElem? (i := 206) rfl)) rfl), Or.inr (lwg (lwt_0 (List.mem_of_getElem? (i := 67) rfl)) rfl)⟩
set_option maxRecDepth 20000 in
theorem mok_120 : mOK 120 := ⟨(lwg (lwt_5 (List.mem_of_getElem? (i := 214) rfl)) rfl), (lwg (lwt_5 (List.mem_of_getElem? (i := 213) rfl)) rfl), Or.inr (lwg (lwt_0 (List.mem_of_getElem? (i := 68) rfl)) rfl)⟩
set_option maxRecDepth 20000 in
theorem mok_121 : mOK 121 := ⟨(lwg (lwt_6 (List.mem_of_getElem? (i := 150) rfl)) rfl), (lwg (lwt_6 (List.mem_of_getElem? (i := 149) rfl)) rfl), Or.inr (lwg (lwt_0 (List.mem_of_getElem? (i := 101) rfl)) rfl)⟩
set_option maxRecDepth 20000 in
theorem mok_122 : mOK 122 := ⟨(lwg (lwt_6 (List.mem_of_getElem? (i := 161) rfl)) rfl), (lwg (lwt_6 (List.mem_of_getElem? (i := 160) rfl)) rfl)⟩
set_option maxRecDepth 20000 in
theorem mok_123 : mOK 123 := ⟨(lwg (lwt_6 (List.mem_of_getElem? (i := 165) rfl)) rfl), (lwg (lwt_6 (List.mem_of_getElem? (i := 164) rfl)) rfl), Or.inr (lwg (lwt_0 (List.mem_of_getElem? (i := 103) rfl)) rfl)⟩
set_option maxRecDepth 20000 in
theorem mok_124 : mOK 124 := ⟨(lwg (lwt_6 (List.mem_of_getElem? (i := 158) rfl)) rfl), (lwg (lwt_6 (List.mem_of_getElem? (i := 157) rfl)) rfl), Or.inr (lwg (lwt_0 (List.mem_of_getElem? (i := 102) rfl)) rfl)⟩
set_option maxRecDepth 20000 in
theorem mok_125 : mOK 125 := ⟨(lwg (lwt_6 (List.mem_of_getElem? (i := 146) rfl)) rfl), (lwg (lwt_6 (List.mem_of_getElem? (i := 145) rfl)) rfl), Or.inr (lwg (lwt_0 (List.mem_of_getElem? (i := 100) rfl)) rfl)⟩
set_option maxRecDepth 20000 in
theorem mok_126 : mOK 126 := ⟨(lwg (lwt_6 (List.mem_of_getElem? (i := 142) rfl)) rfl), (lwg (lwt_6 (List.mem_of_getElem? (i := 140) rfl)) rfl), Or.inr (lwg (lwt_6 (List.mem_of_getElem? (i := 141) rfl)) rfl)⟩
set_option maxRecDepth 20000 in
theorem mok_127 : mOK 127 := ⟨(lwg (lwt_6 (List.mem_of_getElem? (i := 173) rfl)) rfl), (lwg (lwt_6 (List.mem_of_getElem? (i := 172) rfl)) rfl), Or.inr (lwg (lwt_0 (List.mem_of_getElem? (i := 104) rfl)) rfl)⟩
set_option maxRecDepth 20000 in
theorem mok_128 : mOK 128 := ⟨(lwg (lwt_6 (List.mem_of_getElem? (i := 169) rfl)) rfl), (lwg (lwt_6 (List.mem_of_getElem? (i := 167) rfl)) rfl), Or.inr (lwg (lwt_6 (List.mem_of_getElem? (i := 168) rfl)) rfl)⟩
set_option maxRecDepth 20000 in
theorem mok_129 : mOK 129 := ⟨(lwg (lwt_6 (List.mem_of_getElem? (i := 177) rfl)) rfl), (lwg (lwt_6 (List.mem_of_getElem? (i := 175) rfl)) rfl), Or.inr (lwg (lwt_6 (List.mem_of_getElem? (i := 176) rfl)) rfl)⟩
set_option maxRecDepth 20000 in
theorem mok_130 : mOK 130 := ⟨(lwg (lwt_6 (List.mem_of_getElem? (i := 189) rfl)) rfl), (lwg (lwt_6 (List.mem_of_getElem? (i := 188) rfl)) rfl), Or.inr (lwg (lwt_0 (List.mem_of_getElem? (i := 106) rfl)) rfl)⟩
set_option maxRecDepth 20000 in
theorem mok_131 : mOK 131 := ⟨(lwg (lwt_6 (List.mem_of_getElem? (i := 193) rfl)) rfl), (lwg (lwt_6 (List.mem_of_getElem? (i := 192) rfl)) rfl), Or.inr (lwg (lwt_0 (List.mem_of_getElem? (i := 107) rfl)) rfl)⟩
set_option maxRecDepth 20000 in
theorem mok_132 : mOK 132 := ⟨(lwg (lwt_6 (List.mem_of_getElem? (i := 197) rfl)) rfl), (lwg (lwt_6 (List.mem_of_getElem? (i := 196) rfl)) rfl), Or.inr (lwg (lwt_0 (List.mem_of_getElem? (i := 108) rfl)) rfl)⟩
set_option maxRecDepth 20000 in
theorem mok_133 : mOK 133 := ⟨(lwg (lwt_6 (List.mem_of_getElem? (i := 205) rfl)) rfl), (lwg (lwt_6 (List.mem_of_getElem? (i := 204) rfl)) rfl), Or.inr (lwg (lwt_0 (List.mem_of_getElem? (i := 110) rfl)) rfl)⟩
set_option maxRecDepth 20000 in
theorem mok_134 : mOK 134 := ⟨(lwg (lwt_6 (List.mem_of_getElem? (i := 201) rfl)) rfl), (lwg (lwt_6 (List.mem_of_getElem? (i := 200) rfl)) rfl), Or.inr (lwg (lwt_0 (List.mem_of_getElem? (i := 109) rfl)) rfl)⟩
set_option maxRecDepth 20000 in
theorem mok_135 : mOK 135 := ⟨(lwg (lwt_6 (List.mem_of_getElem? (i := 185) rfl)) rfl), (lwg (lwt_6 (List.mem_of_getElem? (i := 184) rfl)) rfl), Or.inr (lwg (lwt_0 (List.mem_of_getElem? (i := 105) rfl)) rfl)⟩
set_option maxRecDepth 20000 in
theorem mok_136 : mOK 136 := ⟨(lwg (lwt_6 (List.mem_of_getElem? (i := 181) rfl)) rfl), (lwg (lwt_6 (List.mem_of_getElem? (i := 179) rfl)) rfl), Or.inr (lwg (lwt_6 (List.mem_of_getElem? (i := 180) rfl)) rfl)⟩
set_option maxRecDepth 20000 in
theorem mok_137 : mOK 137 := ⟨(lwg (lwt_6 (List.mem_of_getElem? (i := 214) rfl)) rfl), (lwg (lwt_6 (List.mem_of_getElem? (i := 213) rfl)) rfl), Or.inr (lwg (lwt_0 (List.mem_of_getElem? (i := 111) rfl)) rfl)⟩
set_option maxRecDepth 20000 in
theorem mok_138 : mOK 138 := ⟨(lwg (lwt_6 (List.mem_of_getElem? (i := 219) rfl)) rfl), (lwg (lwt_6 (List.mem_of_getElem? (i := 218) rfl)) rfl), Or.inr (lwg (lwt_0 (List.mem_of_getElem? (i := 112) rfl)) rfl)⟩
set_option maxRecDepth 20000 in
theorem mok_139 : mOK 139 := ⟨(lwg (lwt_6 (List.mem_of_getElem? (i := 209) rfl)) rfl), (lwg (lwt_6 (List.mem_of_getElem? (i := 207) rfl)) rfl), Or.inr (lwg (lwt_6 (List.mem_of_getElem? (i := 208) rfl)) rfl)⟩
set_option maxRecDepth 20000 in
theorem mok_140 : mOK 140 := ⟨(lwg (lwt_1 (List.mem_of_getElem? (i := 26) rfl)) rfl), (lwg (lwt_1 (List.mem_of_getElem? (i := 25) rfl)) rfl), Or.inl rfl⟩
set_option maxRecDepth 20000 in
theorem mok_141 : mOK 141 := ⟨(lwg (lwt_2 (List.mem_of_getElem? (i := 127) rfl)) rfl), (lwg (lwt_2 (List.mem_of_getElem? (i := 125) rfl)) rfl), Or.inr (lwg (lwt_2 (List.mem_of_getElem? (i := 126) rfl)) rfl)⟩
set_option maxRecDepth 20000 in
theorem mok_142 : mOK 142 := ⟨(lwg (lwt_2 (List.mem_of_getElem? (i := 139) rfl)) rfl), (lwg (lwt_2 (List.mem_of_getElem? (i := 137) rfl)) rfl), Or.inr (lwg (lwt_2 (List.mem_of_getElem? (i := 138) rfl)) rfl)⟩
set_option maxRecDepth 20000 in
theorem mok_143 : mOK 143 := ⟨(lwg (lwt_2 (List.mem_of_getElem? (i := 143) rfl)) rfl), (lwg (lwt_2 (List.mem_of_getElem? (i := 141) rfl)) rfl), Or.inr (lwg (lwt_2 (List.mem_of_getElem? (i := 142) rfl)) rfl)⟩
set_option maxRecDepth 20000 in
theorem mok_144 : mOK 144 := ⟨(lwg (lwt_2 (List.mem_of_getElem? (i := 162) rfl)) rfl), (lwg (lwt_2 (List.mem_of_getElem? (i := 160) rfl)) rfl), Or.inr (lwg (lwt_2 (List.mem_of_getElem? (i := 161) rfl)) rfl)⟩
set_option maxRecDepth 20000 in
theorem mok_145 : mOK 145 := ⟨(lwg (lwt_2 (List.mem_of_getElem? (i := 235) rfl)) rfl), (lwg (lwt_2 (List.mem_of_getElem? (i := 233) rfl)) rfl), Or.inr (lwg (lwt_2 (List.mem_of_getElem? (i := 234) rfl)) rfl)⟩
set_option maxRecDepth 20000 in
theorem mok_146 : mOK 146 := ⟨(lwg (lwt_2 (List.mem_of_getElem? (i := 239) rfl)) rfl), (lwg (lwt_2 (List.mem_of_getElem? (i := 238) rfl)) rfl), Or.inr (lwg (lwt_0 (List.mem_of_getElem? (i := 11) rfl)) rfl)⟩
set_option maxRecDepth 20000 in
theorem mok_147 : mOK 147 := ⟨(lwg (lwt_3 (List.mem_of_getElem? (i := 3) rfl)) rfl), (lwg (lwt_3 (List.mem_of_getElem? (i := 2) rfl)) rfl), Or.inr (lwg (lwt_0 (List.mem_of_getElem? (i := 12) rfl)) rfl)⟩
set_option maxRecDepth 20000 in
theorem mok_148 : mOK 148 := ⟨(lwg (lwt_3 (List.mem_of_getElem? (i := 39) rfl)) rfl), (lwg (lwt_3 (List.mem_of_getElem? (i := 38) rfl)) rfl), Or.inr (lwg (lwt_0 (List.mem_of_getElem? (i := 16) rfl)) rfl)⟩
set_option maxRecDepth 20000 in
theorem mok_149 : mOK 149 := ⟨(lwg (lwt_3 (List.mem_of_getElem? (i := 225) rfl)) rfl), (lwg (lwt_3 (List.mem_of_getElem? (i := 223) rfl)) rfl), Or.inr (lwg (lwt_3 (List.mem_of_getElem? (i := 224) rfl)) rfl)⟩
set_option maxRecDepth 20000 in
theorem mok_150 : mOK 150 := ⟨(lwg (lwt_3 (List.mem_of_getElem? (i := 214) rfl)) rfl), (lwg (lwt_3 (List.mem_of_getElem? (i := 212) rfl)) rfl), Or.inr (lwg (lwt_3 (List.mem_of_getElem? (i := 213) rfl)) rfl)⟩
set_option maxRecDepth 20000 in
theorem mok_151 : mOK 151 := ⟨(lwg (lwt_3 (List.mem_of_getElem? (i := 170) rfl)) rfl), (lwg (lwt_3 (List.mem_of_getElem? (i := 168) rfl)) rfl), Or.inr (lwg (lwt_3 (List.mem_of_getElem? (i := 169) rfl)) rfl)⟩
set_option maxRecDepth 20000 in
theorem mok_152 : mOK 152 := ⟨(lwg (lwt_4 (List.mem_of_getElem? (i := 16) rfl)) rfl), (lwg (lwt_4 (List.mem_of_getElem? (i := 14) rfl)) rfl), Or.inr (lwg (lwt_4 (List.mem_of_getElem? (i := 15) rfl)) rfl)⟩
set_option maxRecDepth 20000 in
theorem mok_153 : mOK 153 := ⟨(lwg (lwt_3 (List.mem_of_getElem? (i := 35) rfl)) rfl), (lwg (lwt_3 (List.mem_of_getElem? (i := 34) rfl)) rfl), Or.inr (lwg (lwt_0 (List.mem_of_getElem? (i := 15) rfl)) rfl)⟩
set_option maxRecDepth 20000 in
theorem mok_154 : mOK 154 := ⟨(lwg (lwt_1 (List.mem_of_getElem? (i := 208) rfl)) rfl), (lwg (lwt_1 (List.mem_of_getElem? (i := 207) rfl)) rfl), Or.inl rfl⟩
set_option maxRecDepth 20000 in
theorem mok_155 : mOK 155 := ⟨(lwg (lwt_3 (List.mem_of_getElem? (i := 82) rfl)) rfl), (lwg (lwt_3 (List.mem_of_getElem? (i := 80) rfl)) rfl), Or.inr (lwg (lwt_3 (List.mem_of_getElem? (i := 81) rfl)) rfl)⟩
set_option maxRecDepth 20000 in
theorem mok_156 : mOK 156 := ⟨(lwg (lwt_4 (List.mem_of_getElem? (i := 65) rfl)) rfl), (lwg (lwt_4 (List.mem_of_getElem? (i := 63) rfl)) rfl), Or.inr (lwg (lwt_4 (List.mem_of_getElem? (i := 64) rfl)) rfl)⟩
set_option maxRecDepth 20000 in
theorem mok_157 : mOK 157 := ⟨(lwg (lwt_4 (List.mem_of_getElem? (i := 37) rfl)) rfl), (lwg (lwt_4 (List.mem_of_getElem? (i := 35) rfl)) rfl), Or.inr (lwg (lwt_4 (List.mem_of_getElem? (i := 36) rfl)) rfl)⟩
set_option maxRecDepth 20000 in
theorem mok_158 : mOK 158 := ⟨(lwg (lwt_3 (List.mem_of_getElem? (i := 122) rfl)) rfl), (lwg (lwt_3 (List.mem_of_getElem? (i := 120) rfl)) rfl), Or.inr (lwg (lwt_3 (List.mem_of_getElem? (i := 121) rfl)) rfl)⟩
set_option maxRecDepth 20000 in
theorem mok_159 : mOK 159 := ⟨(lwg (lwt_4 (List.mem_of_getElem? (i := 73) rfl)) rfl), (lwg (lwt_4 (List.mem_of_getElem? (i := 71) rfl)) rfl), Or.inr (lwg (lwt_4 (List.mem_of_getElem? (i := 72) rfl)) rfl)⟩
set_option maxRecDepth 20000 in
theorem mok_160 : mOK 160 := ⟨(lwg (lwt_4 (List.mem_of_getElem? (i := 94) rfl)) rfl), (lwg (lwt_4 (List.mem_of_getElem? (i := 92) rfl)) rfl), Or.inr (lwg (lwt_4 (List.mem_of_getElem? (i := 93) rfl)) rfl)⟩
set_option maxRecDepth 20000 in
theorem mok_161 : mOK 161 := ⟨(lwg (lwt_4 (List.mem_of_getElem? (i := 98) rfl)) rfl), (lwg (lwt_4 (List.mem_of_getElem? (i := 97) rfl)) rfl), Or.inr (lwg (lwt_0 (List.mem_of_getElem? (i := 43) rfl)) rfl)⟩
set_option maxRecDepth 20000 in
theorem mok_162 : mOK 162 := ⟨(lwg (lwt_1 (List.mem_of_getElem? (i := 236) rfl)) rfl), (lwg (lwt_1 (List.mem_of_getElem? (i := 235) rfl)) rfl), Or.inl rfl⟩
set_option maxRecDepth 20000 in
theorem mok_163 : mOK 163 := ⟨(lwg (lwt_3 (List.mem_of_getElem? (i := 134) rfl)) rfl), (lwg (lwt_3 (List.mem_of_getElem? (i := 132) rfl)) rfl), Or.inr (lwg (lwt_3 (List.mem_of_getElem? (i := 133) rfl)) rfl)⟩
set_option maxRecDepth 20000 in
theorem mok_164 : mOK 164 := ⟨(lwg (lwt_3 (List.mem_of_getElem? (i := 191) rfl)) rfl), (lwg (lwt_3 (List.mem_of_getElem? (i := 189) rfl)) rfl), Or.inr (lwg (lwt_3 (List.mem_of_getElem? (i := 190) rfl)) rfl)⟩
set_option maxRecDepth 20000 in
theorem mok_165 : mOK 165 := ⟨(lwg (lwt_3 (List.mem_of_getElem? (i := 151) rfl)) rfl), (lwg (lwt_3 (List.mem_of_getElem? (i := 150) rfl)) rfl), Or.inr (lwg (lwt_0 (List.mem_of_getElem? (i := 30) rfl)) rfl)⟩
set_option maxRecDepth 20000 in
theorem mok_166 : mOK 166 := ⟨(lwg (lwt_3 (List.mem_of_getElem? (i := 138) rfl)) rfl), (lwg (lwt_3 (List.mem_of_getElem? (i := 137) rfl)) rfl), Or.inr (lwg (lwt_0 (List.mem_of_getElem? (i := 27) rfl)) rfl)⟩
set_option maxRecDepth 20000 in
theorem mok_167 : mOK 167 := ⟨(lwg (lwt_3 (List.mem_of_getElem? (i := 142) rfl)) rfl), (lwg (lwt_3 (List.mem_of_getElem? (i := 141) rfl)) rfl), Or.inr (lwg (lwt_0 (List.mem_of_getElem? (i := 28) rfl)) rfl)⟩
set_option maxRecDepth 20000 in
theorem mok_168 : mOK 168 := ⟨(lwg (lwt_3 (List.mem_of_getElem? (i := 147) rfl)) rfl), (lwg (lwt_3 (List.mem_of_getElem? (i := 146) rfl)) rfl), Or.inr (lwg (lwt_0 (List.mem_of_getElem? (i := 29) rfl)) rfl)⟩
set_option maxRecDepth 20000 in
theorem mok_169 : mOK 169 := ⟨(lwg (lwt_3 (List.mem_of_getElem? (i := 165) rfl)) rfl), (lwg (lwt_3 (List.mem_of_getElem? (i := 164) rfl)) rfl), Or.inr (lwg (lwt_0 (List.mem_of_getElem? (i := 31) rfl)) rfl)⟩
set_option maxRecDepth 20000 in
theorem mok_170 : mOK 170 := ⟨(lwg (lwt_3 (List.mem_of_getElem? (i := 179) rfl)) rfl), (lwg (lwt_3 (List.mem_of_getElem? (i := 178) rfl)) rfl), Or.inr (lwg (lwt_0 (List.mem_of_getElem? (i := 32) rfl)) rfl)⟩
set_option maxRecDepth 20000 in
theorem mok_171 : mOK 171 := ⟨(lwg (lwt_2 (List.mem_of_getElem? (i := 5) rfl)) rfl), (lwg (lwt_2 (List.mem_of_getElem? (i := 4) rfl)) rfl), Or.inl rfl⟩
set_option maxRecDepth 20000 in
theorem mok_172 : mOK 172 := ⟨(lwg (lwt_3 (List.mem_of_getElem? (i := 174) rfl)) rfl), (lwg (lwt_3 (List.mem_of_getElem? (i := 172) rfl)) rfl), Or.inr (lwg (lwt_3 (List.mem_of_getElem? (i := 173) rfl)) rfl)⟩
set_option maxRecDepth 20000 in
theorem mok_173 : mOK 173 := ⟨(lwg (lwt_3 (List.mem_of_getElem? (i := 156) rfl)) rfl), (lwg (lwt_3 (List.mem_of_getElem? (i := 154) rfl)) rfl), Or.inr (lwg (lwt_3 (List.mem_of_getElem? (i := 155) rfl)) rfl)⟩
set_option maxRecDepth 20000 in
theorem mok_174 : mOK 174 := ⟨(lwg (lwt_3 (List.mem_of_getElem? (i := 160) rfl)) rfl), (lwg (lwt_3 (List.mem_of_getElem? (i := 158) rfl)) rfl), Or.inr (lwg (lwt_3 (List.mem_of_getElem? (i := 159) rfl)) rfl)⟩
set_option maxRecDepth 20000 in
theorem mok_175 : mOK 175 := ⟨(lwg (lwt_3 (List.mem_of_getElem? (i := 183) rfl)) rfl), (lwg (lwt_3 (List.mem_of_getElem? (i := 181) rfl)) rfl), Or.inr (lwg (lwt_3 (List.mem_of_getElem? (i := 182) rfl)) rfl)⟩
set_option maxRecDepth 20000 in
theorem mok_176 : mOK 176 := ⟨(lwg (lwt_4 (List.mem_of_getElem? (i := 24) rfl)) rfl), (lwg (lwt_4 (List.mem_of_getElem? (i := 22) rfl)) rfl), Or.inr (lwg (lwt_4 (List.mem_of_getElem? (i := 23) rfl)) rfl)⟩
set_option maxRecDepth 20000 in
theorem mok_177 : mOK 177 := ⟨(lwg (lwt_1 (List.mem_of_getElem? (i := 176) rfl)) rfl), (lwg (lwt_1 (List.mem_of_getElem? (i := 175) rfl)) rfl), Or.inl rfl⟩
set_option maxRecDepth 20000 in
theorem mok_178 : mOK 178 := ⟨(lwg (lwt_3 (List.mem_of_getElem? (i := 47) rfl)) rfl), (lwg (lwt_3 (List.mem_of_getElem? (i := 45) rfl)) rfl), Or.inr (lwg (lwt_3 (List.mem_of_getElem? (i := 46) rfl)) rfl)⟩
set_option maxRecDepth 20000 in
theorem mok_179 : mOK 179 := ⟨(lwg (lwt_3 (List.mem_of_getElem? (i := 51) rfl)) rfl), (lwg (lwt_3 (List.mem_of_getElem? (i := 50) rfl)) rfl), Or.inr (lwg (lwt_0 (List.mem_of_getElem? (i := 17) rfl)) rfl)⟩
set_option maxRecDepth 20000 in
theorem mok_180 : mOK 180 := ⟨(lwg (lwt_3 (List.mem_of_getElem? (i := 57) rfl)) rfl), (lwg (lwt_3 (List.mem_of_getElem? (i := 56) rfl)) rfl), Or.inr (lwg (lwt_0 (List.mem_of_getElem? (i := 18) rfl)) rfl)⟩
set_option maxRecDepth 20000 in
theorem mok_181 : mOK 181 := ⟨(lwg (lwt_3 (List.mem_of_getElem? (i := 61) rfl)) rfl), (lwg (lwt_3 (List.mem_of_getElem? (i := 60) rfl)) rfl), Or.inr (lwg (lwt_0 (List.mem_of_getElem? (i := 19) rfl)) rfl)⟩
set_option maxRecDepth 20000 in
theorem mok_182 : mOK 182 := ⟨(lwg (lwt_3 (List.mem_of_getElem? (i := 65) rfl)) rfl), (lwg (lwt_3 (List.mem_of_getElem? (i := 64) rfl)) rfl), Or.inr (lwg (lwt_0 (List.mem_of_getElem? (i := 20) rfl)) rfl)⟩
set_option maxRecDepth 20000 in
theorem mok_183 : mOK 183 := ⟨(lwg (lwt_3 (List.mem_of_getElem? (i := 69) rfl)) rfl), (lwg (lwt_3 (List.mem_of_getElem? (i := 68) rfl)) rfl), Or.inr (lwg (lwt_0 (List.mem_of_getElem? (i := 21) rfl)) rfl)⟩
set_option maxRecDepth 20000 in
theorem mok_184 : mOK 184 := ⟨(lwg (lwt_3 (List.mem_of_getElem? (i := 74) rfl)) rfl), (lwg (lwt_3 (List.mem_of_getElem? (i := 73) rfl)) rfl), Or.inr (lwg (lwt_0 (List.mem_of_getElem? (i := 22) rfl)) rfl)⟩
set_option maxRecDepth 20000 in
theorem mok_185 : mOK 185 := ⟨(lwg (lwt_3 (List.mem_of_getElem? (i := 78) rfl)) rfl), (lwg (lwt_3 (List.mem_of_getElem? (i := 77) rfl)) rfl), Or.inr (lwg (lwt_0 (List.mem_of_getElem? (i := 23) rfl)) rfl)⟩
set_option maxRecDepth 20000 in
theorem mok_186 : mOK 186 := ⟨(lwg (lwt_1 (List.mem_of_getElem? (i := 154) rfl)) rfl), (lwg (lwt_1 (List.mem_of_getElem? (i := 153) rfl)) rfl), Or.inl rfl⟩
set_option maxRecDepth 20000 in
theorem mok_187 : mOK 187 := ⟨(lwg (lwt_2 (List.mem_of_getElem? (i := 123) rfl)) rfl), (lwg (lwt_2 (List.mem_of_getElem? (i := 121) rfl)) rfl), Or.inr (lwg (lwt_2 (List.mem_of_getElem? (i := 122) rfl)) rfl)⟩
set_option maxRecDepth 20000 in
theorem mok_188 : mOK 188 := ⟨(lwg (lwt_2 (List.mem_of_getElem? (i := 231) rfl)) rfl), (lwg (lwt_2 (List.mem_of_getElem? (i := 229) rfl)) rfl), Or.inr (lwg (lwt_2 (List.mem_of_getElem? (i := 230) rfl)) rfl)⟩
set_option maxRecDepth 20000 in
theorem mok_189 : mOK 189 := ⟨(lwg (lwt_2 (List.mem_of_getElem? (i := 131) rfl)) rfl), (lwg (lwt_2 (List.mem_of_getElem? (i := 129) rfl)) rfl), Or.inr (lwg (lwt_2 (List.mem_of_getElem? (i := 130) rfl)) rfl)⟩
set_option maxRecDepth 20000 in
theorem mok_190 : mOK 190 := ⟨(lwg (lwt_2 (List.mem_of_getElem? (i := 135) rfl)) rfl), (lwg (lwt_2 (List.mem_of_getElem? (i := 134) rfl)) rfl), Or.inr (lwg (lwt_0 (List.mem_of_getElem? (i := 1) rfl)) rfl)⟩
set_option maxRecDepth 20000 in
theorem mok_191 : mOK 191 := ⟨(lwg (lwt_2 (List.mem_of_getElem? (i := 147) rfl)) rfl), (lwg (lwt_2 (List.mem_of_getElem? (i := 146) rfl)) rfl), Or.inr (lwg (lwt_0 (List.mem_of_getElem? (i := 2) rfl)) rfl)⟩
set_option maxRecDepth 20000 in
theorem mok_192 : mOK 192 := ⟨(lwg (lwt_2 (List.mem_of_getElem? (i := 151) rfl)) rfl), (lwg (lwt_2 (List.mem_of_getElem? (i := 150) rfl)) rfl), Or.inr (lwg (lwt_0 (List.mem_of_getElem? (i := 3) rfl)) rfl)⟩
set_option maxRecDepth 20000 in
theorem mok_193 : mOK 193 := ⟨(lwg (lwt_2 (List.mem_of_getElem? (i := 155) rfl)) rfl), (lwg (lwt_2 (List.mem_of_getElem? (i := 154) rfl)) rfl), Or.inr (lwg (lwt_0 (List.mem_of_getElem? (i := 4) rfl)) rfl)⟩
set_option maxRecDepth 20000 in
theorem mok_194 : mOK 194 := ⟨(lwg (lwt_2 (List.mem_of_getElem? (i := 158) rfl)) rfl), (lwg (lwt_2 (List.mem_of_getElem? (i := 157) rfl)) rfl)⟩
set_option maxRecDepth 20000 in
theorem mok_195 : mOK 195 := ⟨(lwg (lwt_2 (List.mem_of_getElem? (i := 178) rfl)) rfl), (lwg (lwt_2 (List.mem_of_getElem? (i := 177) rfl)) rfl), Or.inr (lwg (lwt_0 (List.mem_of_getElem? (i := 6) rfl)) rfl)⟩
set_option maxRecDepth 20000 in
theorem mok_196 : mOK 196 := ⟨(lwg (lwt_2 (List.mem_of_getElem? (i := 174) rfl)) rfl), (lwg (lwt_2 (List.mem_of_getElem? (i := 173) rfl)) rfl), Or.inr (lwg (lwt_0 (List.mem_of_getElem? (i := 5) rfl)) rfl)⟩
set_option maxRecDepth 20000 in
theorem mok_197 : mOK 197 := ⟨(lwg (lwt_2 (List.mem_of_getElem? (i := 182) rfl)) rfl), (lwg (lwt_2 (List.mem_of_getElem? (i := 181) rfl)) rfl), Or.inr (lwg (lwt_0 (List.mem_of_getElem? (i := 7) rfl)) rfl)⟩
set_option maxRecDepth 20000 in
theorem mok_198 : mOK 198 := ⟨(lwg (lwt_2 (List.mem_of_getElem? (i := 198) rfl)) rfl), (lwg (lwt_2 (List.mem_of_getElem? (i := 197) rfl)) rfl), Or.inr (lwg (lwt_0 (List.mem_of_getElem? (i := 8) rfl)) rfl)⟩
set_option maxRecDepth 20000 in
theorem mok_199 : mOK 199 := ⟨(lwg (lwt_2 (List.mem_of_getElem? (i := 217) rfl)) rfl), (lwg (lwt_2 (List.mem_of_getElem? (i := 216) rfl)) rfl), Or.inr (lwg (lwt_0 (List.mem_of_getElem? (i := 10) rfl)) rfl)⟩
set_option maxRecDepth 20000 in
theorem mok_200 : mOK 200 := ⟨(lwg (lwt_2 (List.mem_of_getElem? (i := 213) rfl)) rfl), (lwg (lwt_2 (List.mem_of_getElem? (i := 212) rfl)) rfl), Or.inr (lwg (lwt_0 (List.mem_of_getElem? (i := 9) rfl)) rfl)⟩
set_option maxRecDepth 20000 in
theorem mok_201 : mOK 201 := ⟨(lwg (lwt_1 (List.mem_of_getElem? (i := 33) rfl)) rfl), (lwg (lwt_1 (List.mem_of_getElem? (i := 32) rfl)) rfl), Or.inl rfl⟩
set_option maxRecDepth 20000 in
theorem mok_202 : mOK 202 := ⟨(lwg (lwt_2 (List.mem_of_getElem? (i := 166) rfl)) rfl), (lwg (lwt_2 (List.mem_of_getElem? (i := 164) rfl)) rfl), Or.inr (lwg (lwt_2 (List.mem_of_getElem? (i := 165) rfl)) rfl)⟩
set_option maxRecDepth 20000 in
theorem mok_203 : mOK 203 := ⟨(lwg (lwt_3 (List.mem_of_getElem? (i := 24) rfl)) rfl), (lwg (lwt_3 (List.mem_of_getElem? (i := 22) rfl)) rfl), Or.inr (lwg (lwt_3 (List.mem_of_getElem? (i := 23) rfl)) rfl)⟩
set_option maxRecDepth 20000 in
theorem mok_204 : mOK 204 := ⟨(lwg (lwt_2 (List.mem_of_getElem? (i := 202) rfl)) rfl), (lwg (lwt_2 (List.mem_of_getElem? (i := 200) rfl)) rfl), Or.inr (lwg (lwt_2 (List.mem_of_getElem? (i := 201) rfl)) rfl)⟩
set_option maxRecDepth 20000 in
theorem mok_205 : mOK 205 := ⟨(lwg (lwt_2 (List.mem_of_getElem? (i := 223) rfl)) rfl), (lwg (lwt_2 (List.mem_of_getElem? (i := 221) rfl)) rfl), Or.inr (lwg (lwt_2 (List.mem_of_getElem? (i := 222) rfl)) rfl)⟩
set_option maxRecDepth 20000 in
theorem mok_206 : mOK 206 := ⟨(lwg (lwt_1 (List.mem_of_getElem? (i := 39) rfl)) rfl), (lwg (lwt_1 (List.mem_of_getElem? (i := 38) rfl)) rfl), Or.inl rfl⟩
set_option maxRecDepth 20000 in
theorem mok_207 : mOK 207 := ⟨(lwg (lwt_2 (List.mem_of_getElem? (i := 185) rfl)) rfl), (lwg (lwt_2 (List.mem_of_getElem? (i := 184) rfl)) rfl)⟩
set_option maxRecDepth 20000 in
theorem mok_208 : mOK 208 := ⟨(lwg (lwt_2 (List.mem_of_getElem? (i := 188) rfl)) rfl), (lwg (lwt_2 (List.mem_of_getElem? (i := 187) rfl)) rfl)⟩
set_option maxRecDepth 20000 in
theorem mok_209 : mOK 209 := ⟨(lwg (lwt_2 (List.mem_of_getElem? (i := 209) rfl)) rfl), (lwg (lwt_2 (List.mem_of_getElem? (i := 208) rfl)) rfl)⟩
set_option maxRecDepth 20000 in
theorem mok_210 : mOK 210 := ⟨(lwg (lwt_2 (List.mem_of_getElem? (i := 170) rfl)) rfl), (lwg (lwt_2 (List.mem_of_getElem? (i := 168) rfl)) rfl), Or.inr (lwg (lwt_2 (List.mem_of_getElem? (i := 169) rfl)) rfl)⟩
set_option maxRecDepth 20000 in
theorem mok_211 : mOK 211 := ⟨(lwg (lwt_2 (List.mem_of_getElem? (i := 194) rfl)) rfl), (lwg (lwt_2 (List.mem_of_getElem? (i := 192) rfl)) rfl), Or.inr (lwg (lwt_2 (List.mem_of_getElem? (i := 193) rfl)) rfl)⟩
set_option maxRecDepth 20000 in
theorem mok_212 : mOK 212 := ⟨(lwg (lwt_3 (List.mem_of_getElem? (i := 7) rfl)) rfl), (lwg (lwt_3 (List.mem_of_getElem? (i := 5) rfl)) rfl), Or.inr (lwg (lwt_3 (List.mem_of_getElem? (i := 6) rfl)) rfl)⟩
set_option maxRecDepth 20000 in
theorem mok_213 : mOK 213 := ⟨(lwg (lwt_3 (List.mem_of_getElem? (i := 12) rfl)) rfl), (lwg (lwt_3 (List.mem_of_getElem? (i := 10) rfl)) rfl), Or.inr (lwg (lwt_3 (List.mem_of_getElem? (i := 11) rfl)) rfl)⟩
set_option maxRecDepth 20000 in
theorem mok_214 : mOK 214 := ⟨(lwg (lwt_3 (List.mem_of_getElem? (i := 16) rfl)) rfl), (lwg (lwt_3 (List.mem_of_getElem? (i := 15) rfl)) rfl), Or.inr (lwg (lwt_0 (List.mem_of_getElem? (i := 13) rfl)) rfl)⟩
set_option maxRecDepth 20000 in
theorem mok_215 : mOK 215 := ⟨(lwg (lwt_3 (List.mem_of_getElem? (i := 20) rfl)) rfl), (lwg (lwt_3 (List.mem_of_getElem? (i := 19) rfl)) rfl), Or.inr (lwg (lwt_0 (List.mem_of_getElem? (i := 14) rfl)) rfl)⟩
set_option maxRecDepth 20000 in
theorem mok_216 : mOK 216 := ⟨(lwg (lwt_3 (List.mem_of_getElem? (i := 28) rfl)) rfl), (lwg (lwt_3 (List.mem_of_getElem? (i := 26) rfl)) rfl), Or.inr (lwg (lwt_3 (List.mem_of_getElem? (i := 27) rfl)) rfl)⟩
set_option maxRecDepth 20000 in
theorem mok_217 : mOK 217 := ⟨(lwg (lwt_2 (List.mem_of_getElem? (i := 206) rfl)) rfl), (lwg (lwt_2 (List.mem_of_getElem? (i := 204) rfl)) rfl), Or.inr (lwg (lwt_2 (List.mem_of_getElem? (i := 205) rfl)) rfl)⟩
set_option maxRecDepth 20000 in
theorem mok_218 : mOK 218 := ⟨(lwg (lwt_3 (List.mem_of_getElem? (i := 43) rfl)) rfl), (lwg (lwt_3 (List.mem_of_getElem? (i := 41) rfl)) rfl), Or.inr (lwg (lwt_3 (List.mem_of_getElem? (i := 42) rfl)) rfl)⟩
set_option maxRecDepth 20000 in
theorem mok_219 : mOK 219 := ⟨(lwg (lwt_4 (List.mem_of_getElem? (i := 102) rfl)) rfl), (lwg (lwt_4 (List.mem_of_getElem? (i := 100) rfl)) rfl), Or.inr (lwg (lwt_4 (List.mem_of_getElem? (i := 101) rfl)) rfl)⟩
set_option maxRecDepth 20000 in
theorem mok_220 : mOK 220 := ⟨(lwg (lwt_4 (List.mem_of_getElem? (i := 69) rfl)) rfl), (lwg (lwt_4 (List.mem_of_getElem? (i := 67) rfl)) rfl), Or.inr (lwg (lwt_4 (List.mem_of_getElem? (i := 68) rfl)) rfl)⟩
set_option maxRecDepth 20000 in
theorem mok_221 : mOK 221 := ⟨(lwg (lwt_3 (List.mem_of_getElem? (i := 107) rfl)) rfl), (lwg (lwt_3 (List.mem_of_getElem? (i := 106) rfl)) rfl)⟩
set_option maxRecDepth 20000 in
theorem mok_222 : mOK 222 := ⟨(lwg (lwt_4 (List.mem_of_getElem? (i := 9) rfl)) rfl), (lwg (lwt_4 (List.mem_of_getElem? (i := 8) rfl)) rfl)⟩
set_option maxRecDepth 20000 in
theorem mok_223 : mOK 223 := ⟨(lwg (lwt_3 (List.mem_of_getElem? (i := 130) rfl)) rfl), (lwg (lwt_3 (List.mem_of_getElem? (i := 129) rfl)) rfl)⟩
theorem mok_all : ∀ k, 0 < k → k < 224 → mOK k := by
  intro k h0 hk
  match k, h0, hk with
  | 0, h0, _ => omega
  | 1, _, _ => exact mok_1
  | 2, _, _ => exact mok_2
  | 3, _, _ => exact mok_3
  | 4, _, _ => exact mok_4
  | 5, _, _ => exact mok_5
  | 6, _, _ => exact mok_6
  | 7, _, _ => exact mok_7
  | 8, _, _ => exact mok_8
  | 9, _, _ => exact mok_9
  | 10, _, _ => exact mok_10
  | 11, _, _ => exact mok_11
  | 12, _, _ => exact mok_12
  | 13, _, _ => exact mok_13
  | 14, _, _ => exact mok_14
  | 15, _, _ => exact mok_15
  | 16, _, _ => exact mok_16
  | 17, _, _ => exact mok_17
  | 18, _, _ => exact mok_18
  | 19, _, _ => exact mok_19
  | 20, _, _ => exact mok_20
  | 21, _, _ => exact mok_21
  | 22, _, _ => exact mok_22
  | 23, _, _ => exact mok_23
  | 24, _, _ => exact mok_24
  | 25, _, _ => exact mok_25
  | 26, _, _ => exact mok_26
  | 27, _, _ => exact mok_27
  | 28, _, _ => exact mok_28
  | 29, _, _ => exact mok_29
  | 30, _, _ => exact mok_30
  | 31, _, _ => exact mok_31
  | 32, _, _ => exact mok_32
  | 33, _, _ => exact mok_33
  | 34, _, _ => exact mok_34
  | 35, _, _ => exact mok_35
  | 36, _, _ => exact mok_36
  | 37, _, _ => exact mok_37
  | 38, _, _ => exact mok_38
  | 39, _, _ => exact mok_39
  | 40, _, _ => exact mok_40
  | 41, _, _ => exact mok_41
  | 42, _, _ => exact mok_42
  | 43, _, _ => exact mok_43
  | 44, _, _ => exact mok_44
  | 45, _, _ => exact mok_45
  | 46, _, _ => exact mok_46
  | 47, _, _ => exact mok_47
  | 48, _, _ => exact mok_48
  | 49, _, _ => exact mok_49
  | 50, _, _ => exact mok_50
  | 51, _, _ => exact mok_51
  | 52, _, _ => exact mok_52
  | 53, _, _ => exact mok_53
  | 54, _, _ => exact mok_54
  | 55, _, _ => exact mok_55
  | 56, _, _ => exact mok_56
  | 57, _, _ => exact mok_57
  | 58, _, _ => exact mok_58
  | 59, _, _ => exact mok_59
  | 60, _, _ => exact mok_60
  | 61, _, _ => exact mok_61
  | 62, _, _ => exact mok_62
  | 63, _, _ => exact mok_63
  | 64, _, _ => exact mok_64
  | 65, _, _ => exact mok_65
  | 66, _, _ => exact mok_66
  | 67, _, _ => exact mok_67
  | 68, _, _ => exact mok_68
  | 69, _, _ => exact mok_69
  | 70, _, _ => exact mok_70
  | 71, _, _ => exact mok_71
  | 72, _, _ => exact mok_72
  | 73, _, _ => exact mok_73
  | 74, _, _ => exact mok_74
  | 75, _, _ => exact mok_75
  | 76, _, _ => exact mok_76
  | 77, _, _ => exact mok_77
  | 78, _, _ => exact mok_78
  | 79, _, _ => exact mok_79
  | 80, _, _ => exact mok_80
  | 81, _, _ => exact mok_81
  | 82, _, _ => exact mok_82
  | 83, _, _ => exact mok_83
  | 84, _, _ => exact mok_84
  | 85, _, _ => exact mok_85
  | 86, _, _ => exact mok_86
  | 87, _, _ => exact mok_87
  | 88, _, _ => exact mok_88
  | 89, _, _ => exact mok_89
  | 90, _, _ => exact mok_90
  | 91, _, _ => exact mok_91
  | 92, _, _ => exact mok_92
  | 93, _, _ => exact mok_93
  | 94, _, _ => exact mok_94
  | 95, _, _ => exact mok_95
  | 96, _, _ => exact mok_96
  | 97, _, _ => exact mok_97
  | 98, _, _ => exact mok_98
  | 99, _, _ => exact mok_99
  | 100, _, _ => exact mok_100
  | 101, _, _ => exact mok_101
  | 102, _, _ => exact mok_102
  | 103, _, _ => exact mok_103
  | 104, _, _ => exact mok_104
  | 105, _, _ => exact mok_105
  | 106, _, _ => exact mok_106
  | 107, _, _ => exact mok_107
  | 108, _, _ => exact mok_108
  | 109, _, _ => exact mok_109
  | 110, _, _ => exact mok_110
  | 111, _, _ => exact mok_111
  | 112, _, _ => exact mok_112
  | 113, _, _ => exact mok_113
  | 114, _, _ => exact mok_114
  | 115, _, _ => exact mok_115
  | 116, _, _ => exact mok_116
  | 117, _, _ => exact mok_117
  | 118, _, _ => exact mok_118
  | 119, _, _ => exact mok_119
  | 120, _, _ => exact mok_120
  | 121, _, _ => exact mok_121
  | 122, _, _ => exact mok_122
  | 123, _, _ => exact mok_123
  | 124, _, _ => exact mok_124
  | 125, _, _ => exact mok_125
  | 126, _, _ => exact mok_126
  | 127, _, _ => exact mok_127
  | 128, _, _ => exact mok_128
  | 129, _, _ => exact mok_129
  | 130, _, _ => exact mok_130
  | 131, _, _ => exact mok_131
  | 132, _, _ => exact mok_132
  | 133, _, _ => exact mok_133
  | 134, _, _ => exact mok_134
  | 135, _, _ => exact mok_135
  | 136, _, _ => exact mok_136
  | 137, _, _ => exact mok_137
  | 138, _, _ => exact mok_138
  | 139, _, _ => exact mok_139
  | 140, _, _ => exact mok_140
  | 141, _, _ => exact mok_141
  | 142, _, _ => exact mok_142
  | 143, _, _ => exact mok_143
  | 144, _, _ => exact mok_144
  | 145, _, _ => exact mok_145
  | 146, _, _ => exact mok_146
  | 147, _, _ => exact mok_147
  | 148, _, _ => exact mok_148
  | 149, _, _ => exact mok_149
  | 150, _, _ => exact mok_150
  | 151, _, _ => exact mok_151
  | 152, _, _ => exact mok_152
  | 153, _, _ => exact mok_153
  | 154, _, _ => exact mok_154
  | 155, _, _ => exact mok_155
  | 156, _, _ => exact mok_156
  | 157, _, _ => exact mok_157
  | 158, _, _ => exact mok_158
  | 159, _, _ => exact mok_159
  | 160, _, _ => exact mok_160
  | 161, _, _ => exact mok_161
  | 162, _, _ => exact mok_162
  | 163, _, _ => exact mok_163
  | 164, _, _ => exact mok_164
  | 165, _, _ => exact mok_165
  | 166, _, _ => exact mok_166
  | 167, _, _ => exact mok_167
  | 168, _, _ => exact mok_168
  | 169, _, _ => exact mok_169
  | 170, _, _ => exact mok_170
  | 171, _, _ => exact mok_171
  | 172, _, _ => exact mok_172
  | 173, _, _ => exact mok_173
  | 174, _, _ => exact mok_174
  | 175, _, _ => exact mok_175
  | 176, _, _ => exact mok_176
  | 177, _, _ => exact mok_177
  | 178, _, _ => exact mok_178
  | 179, _, _ => exact mok_179
  | 180, _, _ => exact mok_180
  | 181, _, _ => exact mok_181
  | 182, _, _ => exact mok_182
  | 183, _, _ => exact mok_183
  | 184, _, _ => exact mok_184
  | 185, _, _ => exact mok_185
  | 186, _, _ => exact mok_186
  | 187, _, _ => exact mok_187
  | 188, _, _ => exact mok_188
  | 189, _, _ => exact mok_189
  | 190, _, _ => exact mok_190
  | 191, _, _ => exact mok_191
  | 192, _, _ => exact mok_192
  | 193, _, _ => exact mok_193
  | 194, _, _ => exact mok_194
  | 195, _, _ => exact mok_195
  | 196, _, _ => exact mok_196
  | 197, _, _ => exact mok_197
  | 198, _, _ => exact mok_198
  | 199, _, _ => exact mok_199
  | 200, _, _ => exact mok_200
  | 201, _, _ => exact mok_201
  | 202, _, _ => exact mok_202
  | 203, _, _ => exact mok_203
  | 204, _, _ => exact mok_204
  | 205, _, _ => exact mok_205
  | 206, _, _ => exact mok_206
  | 207, _, _ => exact mok_207
  | 208, _, _ => exact mok_208
  | 209, _, _ => exact mok_209
  | 210, _, _ => exact mok_210
  | 211, _, _ => exact mok_211
  | 212, _, _ => exact mok_212
  | 213, _, _ => exact mok_213
  | 214, _, _ => exact mok_214
  | 215, _, _ => exact mok_215
  | 216, _, _ => exact mok_216
  | 217, _, _ => exact mok_217
  | 218, _, _ => exact mok_218
  | 219, _, _ => exact mok_219
  | 220, _, _ => exact mok_220
  | 221, _, _ => exact mok_221
  | 222, _, _ => exact mok_222
  | 223, _, _ => exact mok_223
  | k + 224, _, hk => omega
def mPl (k : Nat) : Bool := plainFor (yK k) && decide ((yK k).cls ≠ "java/lang/invoke/MethodHandle") && decide ((yK k).cls ≠ "java/lang/invoke/VarHandle") && decide ((parseMethodDescriptor (yK k).desc).map (fun d => d.parameters.length) = some (naK k)) && decide ((yK k).cls = cnm (owK k)) && decide (owK k < 14)
theorem mpl_0 : (List.range 32).all (fun i => mPl (0 + i)) = true := by decide +kernel
theorem mpl_32 : (List.range 32).all (fun i => mPl (32 + i)) = true := by decide +kernel
theorem mpl_64 : (List.range 32).all (fun i => mPl (64 + i)) = true := by decide +kernel
theorem mpl_96 : (List.range 32).all (fun i => mPl (96 + i)) = true := by decide +kernel
theorem mpl_128 : (List.range 32).all (fun i => mPl (128 + i)) = true := by decide +kernel
theorem mpl_160 : (List.range 32).all (fun i => mPl (160 + i)) = true := by decide +kernel
theorem mpl_192 : (List.range 32).all (fun i => mPl (192 + i)) = true := by decide +kernel
theorem mpl_all : ∀ k, k < 224 → mPl k = true := by
  intro k hk
  by_cases h0 : k < 32
  · have h := List.all_eq_true.mp mpl_0 (k - 0) (List.mem_range.mpr (by omega)); rwa [show 0 + (k - 0) = k by omega] at h
  by_cases h32 : k < 64
  · have h := List.all_eq_true.mp mpl_32 (k - 32) (List.mem_range.mpr (by omega)); rwa [show 32 + (k - 32) = k by omega] at h
  by_cases h64 : k < 96
  · have h := List.all_eq_true.mp mpl_64 (k - 64) (List.mem_range.mpr (by omega)); rwa [show 64 + (k - 64) = k by omega] at h
  by_cases h96 : k < 128
  · have h := List.all_eq_true.mp mpl_96 (k - 96) (List.mem_range.mpr (by omega)); rwa [show 96 + (k - 96) = k by omega] at h
  by_cases h128 : k < 160
  · have h := List.all_eq_true.mp mpl_128 (k - 128) (List.mem_range.mpr (by omega)); rwa [show 128 + (k - 128) = k by omega] at h
  by_cases h160 : k < 192
  · have h := List.all_eq_true.mp mpl_160 (k - 160) (List.mem_range.mpr (by omega)); rwa [show 160 + (k - 160) = k by omega] at h
  by_cases h192 : k < 224
  · have h := List.all_eq_true.mp mpl_192 (k - 192) (List.mem_range.mpr (by omega)); rwa [show 192 + (k - 192) = k by omega] at h
  omega
