-- ===== the looking through, method by method, 2 =====
theorem okc_46_0 : (List.range 12).all (fun j => okOp 46 (0 + j)) = true := by decide +kernel
theorem okc_46_12 : (List.range 2).all (fun j => okOp 46 (12 + j)) = true := by decide +kernel
theorem okj_46 : ∀ j, j < 14 → okOp 46 j = true := by
  intro j hj
  by_cases h0 : j < 12
  · have h := List.all_eq_true.mp okc_46_0 (j - 0) (List.mem_range.mpr (by omega)); rwa [show 0 + (j - 0) = j by omega] at h
  by_cases h12 : j < 14
  · have h := List.all_eq_true.mp okc_46_12 (j - 12) (List.mem_range.mpr (by omega)); rwa [show 12 + (j - 12) = j by omega] at h
  omega
theorem okc_47_0 : (List.range 12).all (fun j => okOp 47 (0 + j)) = true := by decide +kernel
theorem okc_47_12 : (List.range 2).all (fun j => okOp 47 (12 + j)) = true := by decide +kernel
theorem okj_47 : ∀ j, j < 14 → okOp 47 j = true := by
  intro j hj
  by_cases h0 : j < 12
  · have h := List.all_eq_true.mp okc_47_0 (j - 0) (List.mem_range.mpr (by omega)); rwa [show 0 + (j - 0) = j by omega] at h
  by_cases h12 : j < 14
  · have h := List.all_eq_true.mp okc_47_12 (j - 12) (List.mem_range.mpr (by omega)); rwa [show 12 + (j - 12) = j by omega] at h
  omega
theorem okc_48_0 : (List.range 12).all (fun j => okOp 48 (0 + j)) = true := by decide +kernel
theorem okc_48_12 : (List.range 12).all (fun j => okOp 48 (12 + j)) = true := by decide +kernel
theorem okc_48_24 : (List.range 10).all (fun j => okOp 48 (24 + j)) = true := by decide +kernel
theorem okj_48 : ∀ j, j < 34 → okOp 48 j = true := by
  intro j hj
  by_cases h0 : j < 12
  · have h := List.all_eq_true.mp okc_48_0 (j - 0) (List.mem_range.mpr (by omega)); rwa [show 0 + (j - 0) = j by omega] at h
  by_cases h12 : j < 24
  · have h := List.all_eq_true.mp okc_48_12 (j - 12) (List.mem_range.mpr (by omega)); rwa [show 12 + (j - 12) = j by omega] at h
  by_cases h24 : j < 34
  · have h := List.all_eq_true.mp okc_48_24 (j - 24) (List.mem_range.mpr (by omega)); rwa [show 24 + (j - 24) = j by omega] at h
  omega
theorem okc_49_0 : (List.range 8).all (fun j => okOp 49 (0 + j)) = true := by decide +kernel
theorem okj_49 : ∀ j, j < 8 → okOp 49 j = true := by
  intro j hj
  by_cases h0 : j < 8
  · have h := List.all_eq_true.mp okc_49_0 (j - 0) (List.mem_range.mpr (by omega)); rwa [show 0 + (j - 0) = j by omega] at h
  omega
theorem okc_50_0 : (List.range 12).all (fun j => okOp 50 (0 + j)) = true := by decide +kernel
theorem okc_50_12 : (List.range 8).all (fun j => okOp 50 (12 + j)) = true := by decide +kernel
theorem okj_50 : ∀ j, j < 20 → okOp 50 j = true := by
  intro j hj
  by_cases h0 : j < 12
  · have h := List.all_eq_true.mp okc_50_0 (j - 0) (List.mem_range.mpr (by omega)); rwa [show 0 + (j - 0) = j by omega] at h
  by_cases h12 : j < 20
  · have h := List.all_eq_true.mp okc_50_12 (j - 12) (List.mem_range.mpr (by omega)); rwa [show 12 + (j - 12) = j by omega] at h
  omega
theorem okc_51_0 : (List.range 12).all (fun j => okOp 51 (0 + j)) = true := by decide +kernel
theorem okc_51_12 : (List.range 2).all (fun j => okOp 51 (12 + j)) = true := by decide +kernel
theorem okj_51 : ∀ j, j < 14 → okOp 51 j = true := by
  intro j hj
  by_cases h0 : j < 12
  · have h := List.all_eq_true.mp okc_51_0 (j - 0) (List.mem_range.mpr (by omega)); rwa [show 0 + (j - 0) = j by omega] at h
  by_cases h12 : j < 14
  · have h := List.all_eq_true.mp okc_51_12 (j - 12) (List.mem_range.mpr (by omega)); rwa [show 12 + (j - 12) = j by omega] at h
  omega
theorem okc_52_0 : (List.range 7).all (fun j => okOp 52 (0 + j)) = true := by decide +kernel
theorem okj_52 : ∀ j, j < 7 → okOp 52 j = true := by
  intro j hj
  by_cases h0 : j < 7
  · have h := List.all_eq_true.mp okc_52_0 (j - 0) (List.mem_range.mpr (by omega)); rwa [show 0 + (j - 0) = j by omega] at h
  omega
theorem okc_53_0 : (List.range 5).all (fun j => okOp 53 (0 + j)) = true := by decide +kernel
theorem okj_53 : ∀ j, j < 5 → okOp 53 j = true := by
  intro j hj
  by_cases h0 : j < 5
  · have h := List.all_eq_true.mp okc_53_0 (j - 0) (List.mem_range.mpr (by omega)); rwa [show 0 + (j - 0) = j by omega] at h
  omega
theorem okc_54_0 : (List.range 12).all (fun j => okOp 54 (0 + j)) = true := by decide +kernel
theorem okc_54_12 : (List.range 12).all (fun j => okOp 54 (12 + j)) = true := by decide +kernel
theorem okc_54_24 : (List.range 12).all (fun j => okOp 54 (24 + j)) = true := by decide +kernel
theorem okc_54_36 : (List.range 12).all (fun j => okOp 54 (36 + j)) = true := by decide +kernel
theorem okc_54_48 : (List.range 12).all (fun j => okOp 54 (48 + j)) = true := by decide +kernel
theorem okc_54_60 : (List.range 12).all (fun j => okOp 54 (60 + j)) = true := by decide +kernel
theorem okc_54_72 : (List.range 12).all (fun j => okOp 54 (72 + j)) = true := by decide +kernel
theorem okc_54_84 : (List.range 12).all (fun j => okOp 54 (84 + j)) = true := by decide +kernel
theorem okc_54_96 : (List.range 1).all (fun j => okOp 54 (96 + j)) = true := by decide +kernel
theorem okj_54 : ∀ j, j < 97 → okOp 54 j = true := by
  intro j hj
  by_cases h0 : j < 12
  · have h := List.all_eq_true.mp okc_54_0 (j - 0) (List.mem_range.mpr (by omega)); rwa [show 0 + (j - 0) = j by omega] at h
  by_cases h12 : j < 24
  · have h := List.all_eq_true.mp okc_54_12 (j - 12) (List.mem_range.mpr (by omega)); rwa [show 12 + (j - 12) = j by omega] at h
  by_cases h24 : j < 36
  · have h := List.all_eq_true.mp okc_54_24 (j - 24) (List.mem_range.mpr (by omega)); rwa [show 24 + (j - 24) = j by omega] at h
  by_cases h36 : j < 48
  · have h := List.all_eq_true.mp okc_54_36 (j - 36) (List.mem_range.mpr (by omega)); rwa [show 36 + (j - 36) = j by omega] at h
  by_cases h48 : j < 60
  · have h := List.all_eq_true.mp okc_54_48 (j - 48) (List.mem_range.mpr (by omega)); rwa [show 48 + (j - 48) = j by omega] at h
  by_cases h60 : j < 72
  · have h := List.all_eq_true.mp okc_54_60 (j - 60) (List.mem_range.mpr (by omega)); rwa [show 60 + (j - 60) = j by omega] at h
  by_cases h72 : j < 84
  · have h := List.all_eq_true.mp okc_54_72 (j - 72) (List.mem_range.mpr (by omega)); rwa [show 72 + (j - 72) = j by omega] at h
  by_cases h84 : j < 96
  · have h := List.all_eq_true.mp okc_54_84 (j - 84) (List.mem_range.mpr (by omega)); rwa [show 84 + (j - 84) = j by omega] at h
  by_cases h96 : j < 97
  · have h := List.all_eq_true.mp okc_54_96 (j - 96) (List.mem_range.mpr (by omega)); rwa [show 96 + (j - 96) = j by omega] at h
  omega
theorem okc_55_0 : (List.range 12).all (fun j => okOp 55 (0 + j)) = true := by decide +kernel
theorem okc_55_12 : (List.range 12).all (fun j => okOp 55 (12 + j)) = true := by decide +kernel
theorem okc_55_24 : (List.range 9).all (fun j => okOp 55 (24 + j)) = true := by decide +kernel
theorem okj_55 : ∀ j, j < 33 → okOp 55 j = true := by
  intro j hj
  by_cases h0 : j < 12
  · have h := List.all_eq_true.mp okc_55_0 (j - 0) (List.mem_range.mpr (by omega)); rwa [show 0 + (j - 0) = j by omega] at h
  by_cases h12 : j < 24
  · have h := List.all_eq_true.mp okc_55_12 (j - 12) (List.mem_range.mpr (by omega)); rwa [show 12 + (j - 12) = j by omega] at h
  by_cases h24 : j < 33
  · have h := List.all_eq_true.mp okc_55_24 (j - 24) (List.mem_range.mpr (by omega)); rwa [show 24 + (j - 24) = j by omega] at h
  omega
theorem okc_56_0 : (List.range 12).all (fun j => okOp 56 (0 + j)) = true := by decide +kernel
theorem okc_56_12 : (List.range 12).all (fun j => okOp 56 (12 + j)) = true := by decide +kernel
theorem okc_56_24 : (List.range 12).all (fun j => okOp 56 (24 + j)) = true := by decide +kernel
theorem okc_56_36 : (List.range 12).all (fun j => okOp 56 (36 + j)) = true := by decide +kernel
theorem okc_56_48 : (List.range 10).all (fun j => okOp 56 (48 + j)) = true := by decide +kernel
theorem okj_56 : ∀ j, j < 58 → okOp 56 j = true := by
  intro j hj
  by_cases h0 : j < 12
  · have h := List.all_eq_true.mp okc_56_0 (j - 0) (List.mem_range.mpr (by omega)); rwa [show 0 + (j - 0) = j by omega] at h
  by_cases h12 : j < 24
  · have h := List.all_eq_true.mp okc_56_12 (j - 12) (List.mem_range.mpr (by omega)); rwa [show 12 + (j - 12) = j by omega] at h
  by_cases h24 : j < 36
  · have h := List.all_eq_true.mp okc_56_24 (j - 24) (List.mem_range.mpr (by omega)); rwa [show 24 + (j - 24) = j by omega] at h
  by_cases h36 : j < 48
  · have h := List.all_eq_true.mp okc_56_36 (j - 36) (List.mem_range.mpr (by omega)); rwa [show 36 + (j - 36) = j by omega] at h
  by_cases h48 : j < 58
  · have h := List.all_eq_true.mp okc_56_48 (j - 48) (List.mem_range.mpr (by omega)); rwa [show 48 + (j - 48) = j by omega] at h
  omega
theorem okc_57_0 : (List.range 12).all (fun j => okOp 57 (0 + j)) = true := by decide +kernel
theorem okc_57_12 : (List.range 12).all (fun j => okOp 57 (12 + j)) = true := by decide +kernel
theorem okc_57_24 : (List.range 12).all (fun j => okOp 57 (24 + j)) = true := by decide +kernel
theorem okc_57_36 : (List.range 2).all (fun j => okOp 57 (36 + j)) = true := by decide +kernel
theorem okj_57 : ∀ j, j < 38 → okOp 57 j = true := by
  intro j hj
  by_cases h0 : j < 12
  · have h := List.all_eq_true.mp okc_57_0 (j - 0) (List.mem_range.mpr (by omega)); rwa [show 0 + (j - 0) = j by omega] at h
  by_cases h12 : j < 24
  · have h := List.all_eq_true.mp okc_57_12 (j - 12) (List.mem_range.mpr (by omega)); rwa [show 12 + (j - 12) = j by omega] at h
  by_cases h24 : j < 36
  · have h := List.all_eq_true.mp okc_57_24 (j - 24) (List.mem_range.mpr (by omega)); rwa [show 24 + (j - 24) = j by omega] at h
  by_cases h36 : j < 38
  · have h := List.all_eq_true.mp okc_57_36 (j - 36) (List.mem_range.mpr (by omega)); rwa [show 36 + (j - 36) = j by omega] at h
  omega
theorem okc_58_0 : (List.range 12).all (fun j => okOp 58 (0 + j)) = true := by decide +kernel
theorem okc_58_12 : (List.range 12).all (fun j => okOp 58 (12 + j)) = true := by decide +kernel
theorem okc_58_24 : (List.range 12).all (fun j => okOp 58 (24 + j)) = true := by decide +kernel
theorem okc_58_36 : (List.range 12).all (fun j => okOp 58 (36 + j)) = true := by decide +kernel
theorem okc_58_48 : (List.range 12).all (fun j => okOp 58 (48 + j)) = true := by decide +kernel
theorem okc_58_60 : (List.range 12).all (fun j => okOp 58 (60 + j)) = true := by decide +kernel
theorem okc_58_72 : (List.range 12).all (fun j => okOp 58 (72 + j)) = true := by decide +kernel
theorem okc_58_84 : (List.range 12).all (fun j => okOp 58 (84 + j)) = true := by decide +kernel
theorem okc_58_96 : (List.range 12).all (fun j => okOp 58 (96 + j)) = true := by decide +kernel
theorem okc_58_108 : (List.range 9).all (fun j => okOp 58 (108 + j)) = true := by decide +kernel
theorem okj_58 : ∀ j, j < 117 → okOp 58 j = true := by
  intro j hj
  by_cases h0 : j < 12
  · have h := List.all_eq_true.mp okc_58_0 (j - 0) (List.mem_range.mpr (by omega)); rwa [show 0 + (j - 0) = j by omega] at h
  by_cases h12 : j < 24
  · have h := List.all_eq_true.mp okc_58_12 (j - 12) (List.mem_range.mpr (by omega)); rwa [show 12 + (j - 12) = j by omega] at h
  by_cases h24 : j < 36
  · have h := List.all_eq_true.mp okc_58_24 (j - 24) (List.mem_range.mpr (by omega)); rwa [show 24 + (j - 24) = j by omega] at h
  by_cases h36 : j < 48
  · have h := List.all_eq_true.mp okc_58_36 (j - 36) (List.mem_range.mpr (by omega)); rwa [show 36 + (j - 36) = j by omega] at h
  by_cases h48 : j < 60
  · have h := List.all_eq_true.mp okc_58_48 (j - 48) (List.mem_range.mpr (by omega)); rwa [show 48 + (j - 48) = j by omega] at h
  by_cases h60 : j < 72
  · have h := List.all_eq_true.mp okc_58_60 (j - 60) (List.mem_range.mpr (by omega)); rwa [show 60 + (j - 60) = j by omega] at h
  by_cases h72 : j < 84
  · have h := List.all_eq_true.mp okc_58_72 (j - 72) (List.mem_range.mpr (by omega)); rwa [show 72 + (j - 72) = j by omega] at h
  by_cases h84 : j < 96
  · have h := List.all_eq_true.mp okc_58_84 (j - 84) (List.mem_range.mpr (by omega)); rwa [show 84 + (j - 84) = j by omega] at h
  by_cases h96 : j < 108
  · have h := List.all_eq_true.mp okc_58_96 (j - 96) (List.mem_range.mpr (by omega)); rwa [show 96 + (j - 96) = j by omega] at h
  by_cases h108 : j < 117
  · have h := List.all_eq_true.mp okc_58_108 (j - 108) (List.mem_range.mpr (by omega)); rwa [show 108 + (j - 108) = j by omega] at h
  omega
theorem okc_59_0 : (List.range 12).all (fun j => okOp 59 (0 + j)) = true := by decide +kernel
theorem okc_59_12 : (List.range 12).all (fun j => okOp 59 (12 + j)) = true := by decide +kernel
theorem okc_59_24 : (List.range 12).all (fun j => okOp 59 (24 + j)) = true := by decide +kernel
theorem okc_59_36 : (List.range 12).all (fun j => okOp 59 (36 + j)) = true := by decide +kernel
theorem okc_59_48 : (List.range 12).all (fun j => okOp 59 (48 + j)) = true := by decide +kernel
theorem okc_59_60 : (List.range 12).all (fun j => okOp 59 (60 + j)) = true := by decide +kernel
theorem okc_59_72 : (List.range 12).all (fun j => okOp 59 (72 + j)) = true := by decide +kernel
theorem okj_59 : ∀ j, j < 84 → okOp 59 j = true := by
  intro j hj
  by_cases h0 : j < 12
  · have h := List.all_eq_true.mp okc_59_0 (j - 0) (List.mem_range.mpr (by omega)); rwa [show 0 + (j - 0) = j by omega] at h
  by_cases h12 : j < 24
  · have h := List.all_eq_true.mp okc_59_12 (j - 12) (List.mem_range.mpr (by omega)); rwa [show 12 + (j - 12) = j by omega] at h
  by_cases h24 : j < 36
  · have h := List.all_eq_true.mp okc_59_24 (j - 24) (List.mem_range.mpr (by omega)); rwa [show 24 + (j - 24) = j by omega] at h
  by_cases h36 : j < 48
  · have h := List.all_eq_true.mp okc_59_36 (j - 36) (List.mem_range.mpr (by omega)); rwa [show 36 + (j - 36) = j by omega] at h
  by_cases h48 : j < 60
  · have h := List.all_eq_true.mp okc_59_48 (j - 48) (List.mem_range.mpr (by omega)); rwa [show 48 + (j - 48) = j by omega] at h
  by_cases h60 : j < 72
  · have h := List.all_eq_true.mp okc_59_60 (j - 60) (List.mem_range.mpr (by omega)); rwa [show 60 + (j - 60) = j by omega] at h
  by_cases h72 : j < 84
  · have h := List.all_eq_true.mp okc_59_72 (j - 72) (List.mem_range.mpr (by omega)); rwa [show 72 + (j - 72) = j by omega] at h
  omega
theorem okc_60_0 : (List.range 12).all (fun j => okOp 60 (0 + j)) = true := by decide +kernel
theorem okc_60_12 : (List.range 12).all (fun j => okOp 60 (12 + j)) = true := by decide +kernel
theorem okc_60_24 : (List.range 12).all (fun j => okOp 60 (24 + j)) = true := by decide +kernel
theorem okc_60_36 : (List.range 12).all (fun j => okOp 60 (36 + j)) = true := by decide +kernel
theorem okc_60_48 : (List.range 12).all (fun j => okOp 60 (48 + j)) = true := by decide +kernel
theorem okc_60_60 : (List.range 12).all (fun j => okOp 60 (60 + j)) = true := by decide +kernel
theorem okc_60_72 : (List.range 9).all (fun j => okOp 60 (72 + j)) = true := by decide +kernel
theorem okj_60 : ∀ j, j < 81 → okOp 60 j = true := by
  intro j hj
  by_cases h0 : j < 12
  · have h := List.all_eq_true.mp okc_60_0 (j - 0) (List.mem_range.mpr (by omega)); rwa [show 0 + (j - 0) = j by omega] at h
  by_cases h12 : j < 24
  · have h := List.all_eq_true.mp okc_60_12 (j - 12) (List.mem_range.mpr (by omega)); rwa [show 12 + (j - 12) = j by omega] at h
  by_cases h24 : j < 36
  · have h := List.all_eq_true.mp okc_60_24 (j - 24) (List.mem_range.mpr (by omega)); rwa [show 24 + (j - 24) = j by omega] at h
  by_cases h36 : j < 48
  · have h := List.all_eq_true.mp okc_60_36 (j - 36) (List.mem_range.mpr (by omega)); rwa [show 36 + (j - 36) = j by omega] at h
  by_cases h48 : j < 60
  · have h := List.all_eq_true.mp okc_60_48 (j - 48) (List.mem_range.mpr (by omega)); rwa [show 48 + (j - 48) = j by omega] at h
  by_cases h60 : j < 72
  · have h := List.all_eq_true.mp okc_60_60 (j - 60) (List.mem_range.mpr (by omega)); rwa [show 60 + (j - 60) = j by omega] at h
  by_cases h72 : j < 81
  · have h := List.all_eq_true.mp okc_60_72 (j - 72) (List.mem_range.mpr (by omega)); rwa [show 72 + (j - 72) = j by omega] at h
  omega
theorem okc_61_0 : (List.range 4).all (fun j => okOp 61 (0 + j)) = true := by decide +kernel
theorem okj_61 : ∀ j, j < 4 → okOp 61 j = true := by
  intro j hj
  by_cases h0 : j < 4
  · have h := List.all_eq_true.mp okc_61_0 (j - 0) (List.mem_range.mpr (by omega)); rwa [show 0 + (j - 0) = j by omega] at h
  omega
theorem okc_62_0 : (List.range 12).all (fun j => okOp 62 (0 + j)) = true := by decide +kernel
theorem okc_62_12 : (List.range 12).all (fun j => okOp 62 (12 + j)) = true := by decide +kernel
theorem okc_62_24 : (List.range 12).all (fun j => okOp 62 (24 + j)) = true := by decide +kernel
theorem okc_62_36 : (List.range 12).all (fun j => okOp 62 (36 + j)) = true := by decide +kernel
theorem okc_62_48 : (List.range 12).all (fun j => okOp 62 (48 + j)) = true := by decide +kernel
theorem okc_62_60 : (List.range 12).all (fun j => okOp 62 (60 + j)) = true := by decide +kernel
theorem okc_62_72 : (List.range 12).all (fun j => okOp 62 (72 + j)) = true := by decide +kernel
theorem okc_62_84 : (List.range 12).all (fun j => okOp 62 (84 + j)) = true := by decide +kernel
theorem okc_62_96 : (List.range 12).all (fun j => okOp 62 (96 + j)) = true := by decide +kernel
theorem okc_62_108 : (List.range 12).all (fun j => okOp 62 (108 + j)) = true := by decide +kernel
theorem okc_62_120 : (List.range 8).all (fun j => okOp 62 (120 + j)) = true := by decide +kernel
theorem okj_62 : ∀ j, j < 128 → okOp 62 j = true := by
  intro j hj
  by_cases h0 : j < 12
  · have h := List.all_eq_true.mp okc_62_0 (j - 0) (List.mem_range.mpr (by omega)); rwa [show 0 + (j - 0) = j by omega] at h
  by_cases h12 : j < 24
  · have h := List.all_eq_true.mp okc_62_12 (j - 12) (List.mem_range.mpr (by omega)); rwa [show 12 + (j - 12) = j by omega] at h
  by_cases h24 : j < 36
  · have h := List.all_eq_true.mp okc_62_24 (j - 24) (List.mem_range.mpr (by omega)); rwa [show 24 + (j - 24) = j by omega] at h
  by_cases h36 : j < 48
  · have h := List.all_eq_true.mp okc_62_36 (j - 36) (List.mem_range.mpr (by omega)); rwa [show 36 + (j - 36) = j by omega] at h
  by_cases h48 : j < 60
  · have h := List.all_eq_true.mp okc_62_48 (j - 48) (List.mem_range.mpr (by omega)); rwa [show 48 + (j - 48) = j by omega] at h
  by_cases h60 : j < 72
  · have h := List.all_eq_true.mp okc_62_60 (j - 60) (List.mem_range.mpr (by omega)); rwa [show 60 + (j - 60) = j by omega] at h
  by_cases h72 : j < 84
  · have h := List.all_eq_true.mp okc_62_72 (j - 72) (List.mem_range.mpr (by omega)); rwa [show 72 + (j - 72) = j by omega] at h
  by_cases h84 : j < 96
  · have h := List.all_eq_true.mp okc_62_84 (j - 84) (List.mem_range.mpr (by omega)); rwa [show 84 + (j - 84) = j by omega] at h
  by_cases h96 : j < 108
  · have h := List.all_eq_true.mp okc_62_96 (j - 96) (List.mem_range.mpr (by omega)); rwa [show 96 + (j - 96) = j by omega] at h
  by_cases h108 : j < 120
  · have h := List.all_eq_true.mp okc_62_108 (j - 108) (List.mem_range.mpr (by omega)); rwa [show 108 + (j - 108) = j by omega] at h
  by_cases h120 : j < 128
  · have h := List.all_eq_true.mp okc_62_120 (j - 120) (List.mem_range.mpr (by omega)); rwa [show 120 + (j - 120) = j by omega] at h
  omega
theorem okc_63_0 : (List.range 12).all (fun j => okOp 63 (0 + j)) = true := by decide +kernel
theorem okc_63_12 : (List.range 12).all (fun j => okOp 63 (12 + j)) = true := by decide +kernel
theorem okc_63_24 : (List.range 12).all (fun j => okOp 63 (24 + j)) = true := by decide +kernel
theorem okc_63_36 : (List.range 12).all (fun j => okOp 63 (36 + j)) = true := by decide +kernel
theorem okc_63_48 : (List.range 12).all (fun j => okOp 63 (48 + j)) = true := by decide +kernel
theorem okc_63_60 : (List.range 12).all (fun j => okOp 63 (60 + j)) = true := by decide +kernel
theorem okc_63_72 : (List.range 12).all (fun j => okOp 63 (72 + j)) = true := by decide +kernel
theorem okc_63_84 : (List.range 12).all (fun j => okOp 63 (84 + j)) = true := by decide +kernel
theorem okc_63_96 : (List.range 12).all (fun j => okOp 63 (96 + j)) = true := by decide +kernel
theorem okc_63_108 : (List.range 5).all (fun j => okOp 63 (108 + j)) = true := by decide +kernel
theorem okj_63 : ∀ j, j < 113 → okOp 63 j = true := by
  intro j hj
  by_cases h0 : j < 12
  · have h := List.all_eq_true.mp okc_63_0 (j - 0) (List.mem_range.mpr (by omega)); rwa [show 0 + (j - 0) = j by omega] at h
  by_cases h12 : j < 24
  · have h := List.all_eq_true.mp okc_63_12 (j - 12) (List.mem_range.mpr (by omega)); rwa [show 12 + (j - 12) = j by omega] at h
  by_cases h24 : j < 36
  · have h := List.all_eq_true.mp okc_63_24 (j - 24) (List.mem_range.mpr (by omega)); rwa [show 24 + (j - 24) = j by omega] at h
  by_cases h36 : j < 48
  · have h := List.all_eq_true.mp okc_63_36 (j - 36) (List.mem_range.mpr (by omega)); rwa [show 36 + (j - 36) = j by omega] at h
  by_cases h48 : j < 60
  · have h := List.all_eq_true.mp okc_63_48 (j - 48) (List.mem_range.mpr (by omega)); rwa [show 48 + (j - 48) = j by omega] at h
  by_cases h60 : j < 72
  · have h := List.all_eq_true.mp okc_63_60 (j - 60) (List.mem_range.mpr (by omega)); rwa [show 60 + (j - 60) = j by omega] at h
  by_cases h72 : j < 84
  · have h := List.all_eq_true.mp okc_63_72 (j - 72) (List.mem_range.mpr (by omega)); rwa [show 72 + (j - 72) = j by omega] at h
  by_cases h84 : j < 96
  · have h := List.all_eq_true.mp okc_63_84 (j - 84) (List.mem_range.mpr (by omega)); rwa [show 84 + (j - 84) = j by omega] at h
  by_cases h96 : j < 108
  · have h := List.all_eq_true.mp okc_63_96 (j - 96) (List.mem_range.mpr (by omega)); rwa [show 96 + (j - 96) = j by omega] at h
  by_cases h108 : j < 113
  · have h := List.all_eq_true.mp okc_63_108 (j - 108) (List.mem_range.mpr (by omega)); rwa [show 108 + (j - 108) = j by omega] at h
  omega
theorem okc_64_0 : (List.range 12).all (fun j => okOp 64 (0 + j)) = true := by decide +kernel
theorem okc_64_12 : (List.range 12).all (fun j => okOp 64 (12 + j)) = true := by decide +kernel
theorem okc_64_24 : (List.range 12).all (fun j => okOp 64 (24 + j)) = true := by decide +kernel
theorem okc_64_36 : (List.range 10).all (fun j => okOp 64 (36 + j)) = true := by decide +kernel
theorem okj_64 : ∀ j, j < 46 → okOp 64 j = true := by
  intro j hj
  by_cases h0 : j < 12
  · have h := List.all_eq_true.mp okc_64_0 (j - 0) (List.mem_range.mpr (by omega)); rwa [show 0 + (j - 0) = j by omega] at h
  by_cases h12 : j < 24
  · have h := List.all_eq_true.mp okc_64_12 (j - 12) (List.mem_range.mpr (by omega)); rwa [show 12 + (j - 12) = j by omega] at h
  by_cases h24 : j < 36
  · have h := List.all_eq_true.mp okc_64_24 (j - 24) (List.mem_range.mpr (by omega)); rwa [show 24 + (j - 24) = j by omega] at h
  by_cases h36 : j < 46
  · have h := List.all_eq_true.mp okc_64_36 (j - 36) (List.mem_range.mpr (by omega)); rwa [show 36 + (j - 36) = j by omega] at h
  omega
theorem okc_65_0 : (List.range 12).all (fun j => okOp 65 (0 + j)) = true := by decide +kernel
theorem okc_65_12 : (List.range 12).all (fun j => okOp 65 (12 + j)) = true := by decide +kernel
theorem okc_65_24 : (List.range 9).all (fun j => okOp 65 (24 + j)) = true := by decide +kernel
theorem okj_65 : ∀ j, j < 33 → okOp 65 j = true := by
  intro j hj
  by_cases h0 : j < 12
  · have h := List.all_eq_true.mp okc_65_0 (j - 0) (List.mem_range.mpr (by omega)); rwa [show 0 + (j - 0) = j by omega] at h
  by_cases h12 : j < 24
  · have h := List.all_eq_true.mp okc_65_12 (j - 12) (List.mem_range.mpr (by omega)); rwa [show 12 + (j - 12) = j by omega] at h
  by_cases h24 : j < 33
  · have h := List.all_eq_true.mp okc_65_24 (j - 24) (List.mem_range.mpr (by omega)); rwa [show 24 + (j - 24) = j by omega] at h
  omega
theorem okc_66_0 : (List.range 12).all (fun j => okOp 66 (0 + j)) = true := by decide +kernel
theorem okc_66_12 : (List.range 12).all (fun j => okOp 66 (12 + j)) = true := by decide +kernel
theorem okc_66_24 : (List.range 9).all (fun j => okOp 66 (24 + j)) = true := by decide +kernel
theorem okj_66 : ∀ j, j < 33 → okOp 66 j = true := by
  intro j hj
  by_cases h0 : j < 12
  · have h := List.all_eq_true.mp okc_66_0 (j - 0) (List.mem_range.mpr (by omega)); rwa [show 0 + (j - 0) = j by omega] at h
  by_cases h12 : j < 24
  · have h := List.all_eq_true.mp okc_66_12 (j - 12) (List.mem_range.mpr (by omega)); rwa [show 12 + (j - 12) = j by omega] at h
  by_cases h24 : j < 33
  · have h := List.all_eq_true.mp okc_66_24 (j - 24) (List.mem_range.mpr (by omega)); rwa [show 24 + (j - 24) = j by omega] at h
  omega
theorem okc_67_0 : (List.range 12).all (fun j => okOp 67 (0 + j)) = true := by decide +kernel
theorem okc_67_12 : (List.range 12).all (fun j => okOp 67 (12 + j)) = true := by decide +kernel
theorem okc_67_24 : (List.range 12).all (fun j => okOp 67 (24 + j)) = true := by decide +kernel
theorem okc_67_36 : (List.range 12).all (fun j => okOp 67 (36 + j)) = true := by decide +kernel
theorem okc_67_48 : (List.range 6).all (fun j => okOp 67 (48 + j)) = true := by decide +kernel
theorem okj_67 : ∀ j, j < 54 → okOp 67 j = true := by
  intro j hj
  by_cases h0 : j < 12
  · have h := List.all_eq_true.mp okc_67_0 (j - 0) (List.mem_range.mpr (by omega)); rwa [show 0 + (j - 0) = j by omega] at h
  by_cases h12 : j < 24
  · have h := List.all_eq_true.mp okc_67_12 (j - 12) (List.mem_range.mpr (by omega)); rwa [show 12 + (j - 12) = j by omega] at h
  by_cases h24 : j < 36
  · have h := List.all_eq_true.mp okc_67_24 (j - 24) (List.mem_range.mpr (by omega)); rwa [show 24 + (j - 24) = j by omega] at h
  by_cases h36 : j < 48
  · have h := List.all_eq_true.mp okc_67_36 (j - 36) (List.mem_range.mpr (by omega)); rwa [show 36 + (j - 36) = j by omega] at h
  by_cases h48 : j < 54
  · have h := List.all_eq_true.mp okc_67_48 (j - 48) (List.mem_range.mpr (by omega)); rwa [show 48 + (j - 48) = j by omega] at h
  omega
theorem okc_68_0 : (List.range 12).all (fun j => okOp 68 (0 + j)) = true := by decide +kernel
theorem okc_68_12 : (List.range 12).all (fun j => okOp 68 (12 + j)) = true := by decide +kernel
theorem okc_68_24 : (List.range 12).all (fun j => okOp 68 (24 + j)) = true := by decide +kernel
theorem okc_68_36 : (List.range 12).all (fun j => okOp 68 (36 + j)) = true := by decide +kernel
theorem okc_68_48 : (List.range 12).all (fun j => okOp 68 (48 + j)) = true := by decide +kernel
theorem okc_68_60 : (List.range 12).all (fun j => okOp 68 (60 + j)) = true := by decide +kernel
theorem okc_68_72 : (List.range 12).all (fun j => okOp 68 (72 + j)) = true := by decide +kernel
theorem okc_68_84 : (List.range 7).all (fun j => okOp 68 (84 + j)) = true := by decide +kernel
theorem okj_68 : ∀ j, j < 91 → okOp 68 j = true := by
  intro j hj
  by_cases h0 : j < 12
  · have h := List.all_eq_true.mp okc_68_0 (j - 0) (List.mem_range.mpr (by omega)); rwa [show 0 + (j - 0) = j by omega] at h
  by_cases h12 : j < 24
  · have h := List.all_eq_true.mp okc_68_12 (j - 12) (List.mem_range.mpr (by omega)); rwa [show 12 + (j - 12) = j by omega] at h
  by_cases h24 : j < 36
  · have h := List.all_eq_true.mp okc_68_24 (j - 24) (List.mem_range.mpr (by omega)); rwa [show 24 + (j - 24) = j by omega] at h
  by_cases h36 : j < 48
  · have h := List.all_eq_true.mp okc_68_36 (j - 36) (List.mem_range.mpr (by omega)); rwa [show 36 + (j - 36) = j by omega] at h
  by_cases h48 : j < 60
  · have h := List.all_eq_true.mp okc_68_48 (j - 48) (List.mem_range.mpr (by omega)); rwa [show 48 + (j - 48) = j by omega] at h
  by_cases h60 : j < 72
  · have h := List.all_eq_true.mp okc_68_60 (j - 60) (List.mem_range.mpr (by omega)); rwa [show 60 + (j - 60) = j by omega] at h
  by_cases h72 : j < 84
  · have h := List.all_eq_true.mp okc_68_72 (j - 72) (List.mem_range.mpr (by omega)); rwa [show 72 + (j - 72) = j by omega] at h
  by_cases h84 : j < 91
  · have h := List.all_eq_true.mp okc_68_84 (j - 84) (List.mem_range.mpr (by omega)); rwa [show 84 + (j - 84) = j by omega] at h
  omega
theorem okc_69_0 : (List.range 12).all (fun j => okOp 69 (0 + j)) = true := by decide +kernel
theorem okc_69_12 : (List.range 12).all (fun j => okOp 69 (12 + j)) = true := by decide +kernel
theorem okc_69_24 : (List.range 12).all (fun j => okOp 69 (24 + j)) = true := by decide +kernel
theorem okc_69_36 : (List.range 12).all (fun j => okOp 69 (36 + j)) = true := by decide +kernel
theorem okc_69_48 : (List.range 12).all (fun j => okOp 69 (48 + j)) = true := by decide +kernel
theorem okj_69 : ∀ j, j < 60 → okOp 69 j = true := by
  intro j hj
  by_cases h0 : j < 12
  · have h := List.all_eq_true.mp okc_69_0 (j - 0) (List.mem_range.mpr (by omega)); rwa [show 0 + (j - 0) = j by omega] at h
  by_cases h12 : j < 24
  · have h := List.all_eq_true.mp okc_69_12 (j - 12) (List.mem_range.mpr (by omega)); rwa [show 12 + (j - 12) = j by omega] at h
  by_cases h24 : j < 36
  · have h := List.all_eq_true.mp okc_69_24 (j - 24) (List.mem_range.mpr (by omega)); rwa [show 24 + (j - 24) = j by omega] at h
  by_cases h36 : j < 48
  · have h := List.all_eq_true.mp okc_69_36 (j - 36) (List.mem_range.mpr (by omega)); rwa [show 36 + (j - 36) = j by omega] at h
  by_cases h48 : j < 60
  · have h := List.all_eq_true.mp okc_69_48 (j - 48) (List.mem_range.mpr (by omega)); rwa [show 48 + (j - 48) = j by omega] at h
  omega
theorem okc_70_0 : (List.range 12).all (fun j => okOp 70 (0 + j)) = true := by decide +kernel
theorem okc_70_12 : (List.range 12).all (fun j => okOp 70 (12 + j)) = true := by decide +kernel
theorem okc_70_24 : (List.range 5).all (fun j => okOp 70 (24 + j)) = true := by decide +kernel
theorem okj_70 : ∀ j, j < 29 → okOp 70 j = true := by
  intro j hj
  by_cases h0 : j < 12
  · have h := List.all_eq_true.mp okc_70_0 (j - 0) (List.mem_range.mpr (by omega)); rwa [show 0 + (j - 0) = j by omega] at h
  by_cases h12 : j < 24
  · have h := List.all_eq_true.mp okc_70_12 (j - 12) (List.mem_range.mpr (by omega)); rwa [show 12 + (j - 12) = j by omega] at h
  by_cases h24 : j < 29
  · have h := List.all_eq_true.mp okc_70_24 (j - 24) (List.mem_range.mpr (by omega)); rwa [show 24 + (j - 24) = j by omega] at h
  omega
theorem okc_71_0 : (List.range 12).all (fun j => okOp 71 (0 + j)) = true := by decide +kernel
theorem okc_71_12 : (List.range 12).all (fun j => okOp 71 (12 + j)) = true := by decide +kernel
theorem okc_71_24 : (List.range 12).all (fun j => okOp 71 (24 + j)) = true := by decide +kernel
theorem okc_71_36 : (List.range 12).all (fun j => okOp 71 (36 + j)) = true := by decide +kernel
theorem okc_71_48 : (List.range 12).all (fun j => okOp 71 (48 + j)) = true := by decide +kernel
theorem okc_71_60 : (List.range 1).all (fun j => okOp 71 (60 + j)) = true := by decide +kernel
theorem okj_71 : ∀ j, j < 61 → okOp 71 j = true := by
  intro j hj
  by_cases h0 : j < 12
  · have h := List.all_eq_true.mp okc_71_0 (j - 0) (List.mem_range.mpr (by omega)); rwa [show 0 + (j - 0) = j by omega] at h
  by_cases h12 : j < 24
  · have h := List.all_eq_true.mp okc_71_12 (j - 12) (List.mem_range.mpr (by omega)); rwa [show 12 + (j - 12) = j by omega] at h
  by_cases h24 : j < 36
  · have h := List.all_eq_true.mp okc_71_24 (j - 24) (List.mem_range.mpr (by omega)); rwa [show 24 + (j - 24) = j by omega] at h
  by_cases h36 : j < 48
  · have h := List.all_eq_true.mp okc_71_36 (j - 36) (List.mem_range.mpr (by omega)); rwa [show 36 + (j - 36) = j by omega] at h
  by_cases h48 : j < 60
  · have h := List.all_eq_true.mp okc_71_48 (j - 48) (List.mem_range.mpr (by omega)); rwa [show 48 + (j - 48) = j by omega] at h
  by_cases h60 : j < 61
  · have h := List.all_eq_true.mp okc_71_60 (j - 60) (List.mem_range.mpr (by omega)); rwa [show 60 + (j - 60) = j by omega] at h
  omega
theorem okc_72_0 : (List.range 12).all (fun j => okOp 72 (0 + j)) = true := by decide +kernel
theorem okc_72_12 : (List.range 12).all (fun j => okOp 72 (12 + j)) = true := by decide +kernel
theorem okc_72_24 : (List.range 12).all (fun j => okOp 72 (24 + j)) = true := by decide +kernel
theorem okc_72_36 : (List.range 12).all (fun j => okOp 72 (36 + j)) = true := by decide +kernel
theorem okc_72_48 : (List.range 12).all (fun j => okOp 72 (48 + j)) = true := by decide +kernel
theorem okc_72_60 : (List.range 5).all (fun j => okOp 72 (60 + j)) = true := by decide +kernel
theorem okj_72 : ∀ j, j < 65 → okOp 72 j = true := by
  intro j hj
  by_cases h0 : j < 12
  · have h := List.all_eq_true.mp okc_72_0 (j - 0) (List.mem_range.mpr (by omega)); rwa [show 0 + (j - 0) = j by omega] at h
  by_cases h12 : j < 24
  · have h := List.all_eq_true.mp okc_72_12 (j - 12) (List.mem_range.mpr (by omega)); rwa [show 12 + (j - 12) = j by omega] at h
  by_cases h24 : j < 36
  · have h := List.all_eq_true.mp okc_72_24 (j - 24) (List.mem_range.mpr (by omega)); rwa [show 24 + (j - 24) = j by omega] at h
  by_cases h36 : j < 48
  · have h := List.all_eq_true.mp okc_72_36 (j - 36) (List.mem_range.mpr (by omega)); rwa [show 36 + (j - 36) = j by omega] at h
  by_cases h48 : j < 60
  · have h := List.all_eq_true.mp okc_72_48 (j - 48) (List.mem_range.mpr (by omega)); rwa [show 48 + (j - 48) = j by omega] at h
  by_cases h60 : j < 65
  · have h := List.all_eq_true.mp okc_72_60 (j - 60) (List.mem_range.mpr (by omega)); rwa [show 60 + (j - 60) = j by omega] at h
  omega
theorem okc_73_0 : (List.range 12).all (fun j => okOp 73 (0 + j)) = true := by decide +kernel
theorem okc_73_12 : (List.range 12).all (fun j => okOp 73 (12 + j)) = true := by decide +kernel
theorem okc_73_24 : (List.range 12).all (fun j => okOp 73 (24 + j)) = true := by decide +kernel
theorem okc_73_36 : (List.range 1).all (fun j => okOp 73 (36 + j)) = true := by decide +kernel
theorem okj_73 : ∀ j, j < 37 → okOp 73 j = true := by
  intro j hj
  by_cases h0 : j < 12
  · have h := List.all_eq_true.mp okc_73_0 (j - 0) (List.mem_range.mpr (by omega)); rwa [show 0 + (j - 0) = j by omega] at h
  by_cases h12 : j < 24
  · have h := List.all_eq_true.mp okc_73_12 (j - 12) (List.mem_range.mpr (by omega)); rwa [show 12 + (j - 12) = j by omega] at h
  by_cases h24 : j < 36
  · have h := List.all_eq_true.mp okc_73_24 (j - 24) (List.mem_range.mpr (by omega)); rwa [show 24 + (j - 24) = j by omega] at h
  by_cases h36 : j < 37
  · have h := List.all_eq_true.mp okc_73_36 (j - 36) (List.mem_range.mpr (by omega)); rwa [show 36 + (j - 36) = j by omega] at h
  omega
theorem okc_74_0 : (List.range 12).all (fun j => okOp 74 (0 + j)) = true := by decide +kernel
theorem okc_74_12 : (List.range 12).all (fun j => okOp 74 (12 + j)) = true := by decide +kernel
theorem okc_74_24 : (List.range 12).all (fun j => okOp 74 (24 + j)) = true := by decide +kernel
theorem okc_74_36 : (List.range 12).all (fun j => okOp 74 (36 + j)) = true := by decide +kernel
theorem okc_74_48 : (List.range 12).all (fun j => okOp 74 (48 + j)) = true := by decide +kernel
theorem okc_74_60 : (List.range 10).all (fun j => okOp 74 (60 + j)) = true := by decide +kernel
theorem okj_74 : ∀ j, j < 70 → okOp 74 j = true := by
  intro j hj
  by_cases h0 : j < 12
  · have h := List.all_eq_true.mp okc_74_0 (j - 0) (List.mem_range.mpr (by omega)); rwa [show 0 + (j - 0) = j by omega] at h
  by_cases h12 : j < 24
  · have h := List.all_eq_true.mp okc_74_12 (j - 12) (List.mem_range.mpr (by omega)); rwa [show 12 + (j - 12) = j by omega] at h
  by_cases h24 : j < 36
  · have h := List.all_eq_true.mp okc_74_24 (j - 24) (List.mem_range.mpr (by omega)); rwa [show 24 + (j - 24) = j by omega] at h
  by_cases h36 : j < 48
  · have h := List.all_eq_true.mp okc_74_36 (j - 36) (List.mem_range.mpr (by omega)); rwa [show 36 + (j - 36) = j by omega] at h
  by_cases h48 : j < 60
  · have h := List.all_eq_true.mp okc_74_48 (j - 48) (List.mem_range.mpr (by omega)); rwa [show 48 + (j - 48) = j by omega] at h
  by_cases h60 : j < 70
  · have h := List.all_eq_true.mp okc_74_60 (j - 60) (List.mem_range.mpr (by omega)); rwa [show 60 + (j - 60) = j by omega] at h
  omega
theorem okc_75_0 : (List.range 12).all (fun j => okOp 75 (0 + j)) = true := by decide +kernel
theorem okc_75_12 : (List.range 12).all (fun j => okOp 75 (12 + j)) = true := by decide +kernel
theorem okc_75_24 : (List.range 12).all (fun j => okOp 75 (24 + j)) = true := by decide +kernel
theorem okc_75_36 : (List.range 12).all (fun j => okOp 75 (36 + j)) = true := by decide +kernel
theorem okc_75_48 : (List.range 12).all (fun j => okOp 75 (48 + j)) = true := by decide +kernel
theorem okc_75_60 : (List.range 3).all (fun j => okOp 75 (60 + j)) = true := by decide +kernel
theorem okj_75 : ∀ j, j < 63 → okOp 75 j = true := by
  intro j hj
  by_cases h0 : j < 12
  · have h := List.all_eq_true.mp okc_75_0 (j - 0) (List.mem_range.mpr (by omega)); rwa [show 0 + (j - 0) = j by omega] at h
  by_cases h12 : j < 24
  · have h := List.all_eq_true.mp okc_75_12 (j - 12) (List.mem_range.mpr (by omega)); rwa [show 12 + (j - 12) = j by omega] at h
  by_cases h24 : j < 36
  · have h := List.all_eq_true.mp okc_75_24 (j - 24) (List.mem_range.mpr (by omega)); rwa [show 24 + (j - 24) = j by omega] at h
  by_cases h36 : j < 48
  · have h := List.all_eq_true.mp okc_75_36 (j - 36) (List.mem_range.mpr (by omega)); rwa [show 36 + (j - 36) = j by omega] at h
  by_cases h48 : j < 60
  · have h := List.all_eq_true.mp okc_75_48 (j - 48) (List.mem_range.mpr (by omega)); rwa [show 48 + (j - 48) = j by omega] at h
  by_cases h60 : j < 63
  · have h := List.all_eq_true.mp okc_75_60 (j - 60) (List.mem_range.mpr (by omega)); rwa [show 60 + (j - 60) = j by omega] at h
  omega
theorem okc_76_0 : (List.range 12).all (fun j => okOp 76 (0 + j)) = true := by decide +kernel
theorem okc_76_12 : (List.range 12).all (fun j => okOp 76 (12 + j)) = true := by decide +kernel
theorem okc_76_24 : (List.range 12).all (fun j => okOp 76 (24 + j)) = true := by decide +kernel
theorem okc_76_36 : (List.range 12).all (fun j => okOp 76 (36 + j)) = true := by decide +kernel
theorem okc_76_48 : (List.range 12).all (fun j => okOp 76 (48 + j)) = true := by decide +kernel
theorem okc_76_60 : (List.range 6).all (fun j => okOp 76 (60 + j)) = true := by decide +kernel
theorem okj_76 : ∀ j, j < 66 → okOp 76 j = true := by
  intro j hj
  by_cases h0 : j < 12
  · have h := List.all_eq_true.mp okc_76_0 (j - 0) (List.mem_range.mpr (by omega)); rwa [show 0 + (j - 0) = j by omega] at h
  by_cases h12 : j < 24
  · have h := List.all_eq_true.mp okc_76_12 (j - 12) (List.mem_range.mpr (by omega)); rwa [show 12 + (j - 12) = j by omega] at h
  by_cases h24 : j < 36
  · have h := List.all_eq_true.mp okc_76_24 (j - 24) (List.mem_range.mpr (by omega)); rwa [show 24 + (j - 24) = j by omega] at h
  by_cases h36 : j < 48
  · have h := List.all_eq_true.mp okc_76_36 (j - 36) (List.mem_range.mpr (by omega)); rwa [show 36 + (j - 36) = j by omega] at h
  by_cases h48 : j < 60
  · have h := List.all_eq_true.mp okc_76_48 (j - 48) (List.mem_range.mpr (by omega)); rwa [show 48 + (j - 48) = j by omega] at h
  by_cases h60 : j < 66
  · have h := List.all_eq_true.mp okc_76_60 (j - 60) (List.mem_range.mpr (by omega)); rwa [show 60 + (j - 60) = j by omega] at h
  omega
theorem okc_77_0 : (List.range 12).all (fun j => okOp 77 (0 + j)) = true := by decide +kernel
theorem okc_77_12 : (List.range 12).all (fun j => okOp 77 (12 + j)) = true := by decide +kernel
theorem okc_77_24 : (List.range 12).all (fun j => okOp 77 (24 + j)) = true := by decide +kernel
theorem okc_77_36 : (List.range 12).all (fun j => okOp 77 (36 + j)) = true := by decide +kernel
theorem okc_77_48 : (List.range 12).all (fun j => okOp 77 (48 + j)) = true := by decide +kernel
theorem okc_77_60 : (List.range 12).all (fun j => okOp 77 (60 + j)) = true := by decide +kernel
theorem okc_77_72 : (List.range 12).all (fun j => okOp 77 (72 + j)) = true := by decide +kernel
theorem okc_77_84 : (List.range 12).all (fun j => okOp 77 (84 + j)) = true := by decide +kernel
theorem okj_77 : ∀ j, j < 96 → okOp 77 j = true := by
  intro j hj
  by_cases h0 : j < 12
  · have h := List.all_eq_true.mp okc_77_0 (j - 0) (List.mem_range.mpr (by omega)); rwa [show 0 + (j - 0) = j by omega] at h
  by_cases h12 : j < 24
  · have h := List.all_eq_true.mp okc_77_12 (j - 12) (List.mem_range.mpr (by omega)); rwa [show 12 + (j - 12) = j by omega] at h
  by_cases h24 : j < 36
  · have h := List.all_eq_true.mp okc_77_24 (j - 24) (List.mem_range.mpr (by omega)); rwa [show 24 + (j - 24) = j by omega] at h
  by_cases h36 : j < 48
  · have h := List.all_eq_true.mp okc_77_36 (j - 36) (List.mem_range.mpr (by omega)); rwa [show 36 + (j - 36) = j by omega] at h
  by_cases h48 : j < 60
  · have h := List.all_eq_true.mp okc_77_48 (j - 48) (List.mem_range.mpr (by omega)); rwa [show 48 + (j - 48) = j by omega] at h
  by_cases h60 : j < 72
  · have h := List.all_eq_true.mp okc_77_60 (j - 60) (List.mem_range.mpr (by omega)); rwa [show 60 + (j - 60) = j by omega] at h
  by_cases h72 : j < 84
  · have h := List.all_eq_true.mp okc_77_72 (j - 72) (List.mem_range.mpr (by omega)); rwa [show 72 + (j - 72) = j by omega] at h
  by_cases h84 : j < 96
  · have h := List.all_eq_true.mp okc_77_84 (j - 84) (List.mem_range.mpr (by omega)); rwa [show 84 + (j - 84) = j by omega] at h
  omega
theorem okc_78_0 : (List.range 12).all (fun j => okOp 78 (0 + j)) = true := by decide +kernel
theorem okc_78_12 : (List.range 12).all (fun j => okOp 78 (12 + j)) = true := by decide +kernel
theorem okc_78_24 : (List.range 12).all (fun j => okOp 78 (24 + j)) = true := by decide +kernel
theorem okc_78_36 : (List.range 12).all (fun j => okOp 78 (36 + j)) = true := by decide +kernel
theorem okc_78_48 : (List.range 12).all (fun j => okOp 78 (48 + j)) = true := by decide +kernel
theorem okc_78_60 : (List.range 12).all (fun j => okOp 78 (60 + j)) = true := by decide +kernel
theorem okc_78_72 : (List.range 12).all (fun j => okOp 78 (72 + j)) = true := by decide +kernel
theorem okc_78_84 : (List.range 12).all (fun j => okOp 78 (84 + j)) = true := by decide +kernel
theorem okc_78_96 : (List.range 12).all (fun j => okOp 78 (96 + j)) = true := by decide +kernel
theorem okc_78_108 : (List.range 12).all (fun j => okOp 78 (108 + j)) = true := by decide +kernel
theorem okc_78_120 : (List.range 12).all (fun j => okOp 78 (120 + j)) = true := by decide +kernel
theorem okc_78_132 : (List.range 12).all (fun j => okOp 78 (132 + j)) = true := by decide +kernel
theorem okc_78_144 : (List.range 12).all (fun j => okOp 78 (144 + j)) = true := by decide +kernel
theorem okc_78_156 : (List.range 12).all (fun j => okOp 78 (156 + j)) = true := by decide +kernel
theorem okj_78 : ∀ j, j < 168 → okOp 78 j = true := by
  intro j hj
  by_cases h0 : j < 12
  · have h := List.all_eq_true.mp okc_78_0 (j - 0) (List.mem_range.mpr (by omega)); rwa [show 0 + (j - 0) = j by omega] at h
  by_cases h12 : j < 24
  · have h := List.all_eq_true.mp okc_78_12 (j - 12) (List.mem_range.mpr (by omega)); rwa [show 12 + (j - 12) = j by omega] at h
  by_cases h24 : j < 36
  · have h := List.all_eq_true.mp okc_78_24 (j - 24) (List.mem_range.mpr (by omega)); rwa [show 24 + (j - 24) = j by omega] at h
  by_cases h36 : j < 48
  · have h := List.all_eq_true.mp okc_78_36 (j - 36) (List.mem_range.mpr (by omega)); rwa [show 36 + (j - 36) = j by omega] at h
  by_cases h48 : j < 60
  · have h := List.all_eq_true.mp okc_78_48 (j - 48) (List.mem_range.mpr (by omega)); rwa [show 48 + (j - 48) = j by omega] at h
  by_cases h60 : j < 72
  · have h := List.all_eq_true.mp okc_78_60 (j - 60) (List.mem_range.mpr (by omega)); rwa [show 60 + (j - 60) = j by omega] at h
  by_cases h72 : j < 84
  · have h := List.all_eq_true.mp okc_78_72 (j - 72) (List.mem_range.mpr (by omega)); rwa [show 72 + (j - 72) = j by omega] at h
  by_cases h84 : j < 96
  · have h := List.all_eq_true.mp okc_78_84 (j - 84) (List.mem_range.mpr (by omega)); rwa [show 84 + (j - 84) = j by omega] at h
  by_cases h96 : j < 108
  · have h := List.all_eq_true.mp okc_78_96 (j - 96) (List.mem_range.mpr (by omega)); rwa [show 96 + (j - 96) = j by omega] at h
  by_cases h108 : j < 120
  · have h := List.all_eq_true.mp okc_78_108 (j - 108) (List.mem_range.mpr (by omega)); rwa [show 108 + (j - 108) = j by omega] at h
  by_cases h120 : j < 132
  · have h := List.all_eq_true.mp okc_78_120 (j - 120) (List.mem_range.mpr (by omega)); rwa [show 120 + (j - 120) = j by omega] at h
  by_cases h132 : j < 144
  · have h := List.all_eq_true.mp okc_78_132 (j - 132) (List.mem_range.mpr (by omega)); rwa [show 132 + (j - 132) = j by omega] at h
  by_cases h144 : j < 156
  · have h := List.all_eq_true.mp okc_78_144 (j - 144) (List.mem_range.mpr (by omega)); rwa [show 144 + (j - 144) = j by omega] at h
  by_cases h156 : j < 168
  · have h := List.all_eq_true.mp okc_78_156 (j - 156) (List.mem_range.mpr (by omega)); rwa [show 156 + (j - 156) = j by omega] at h
  omega
theorem okc_79_0 : (List.range 12).all (fun j => okOp 79 (0 + j)) = true := by decide +kernel
theorem okc_79_12 : (List.range 12).all (fun j => okOp 79 (12 + j)) = true := by decide +kernel
theorem okc_79_24 : (List.range 12).all (fun j => okOp 79 (24 + j)) = true := by decide +kernel
theorem okc_79_36 : (List.range 8).all (fun j => okOp 79 (36 + j)) = true := by decide +kernel
theorem okj_79 : ∀ j, j < 44 → okOp 79 j = true := by
  intro j hj
  by_cases h0 : j < 12
  · have h := List.all_eq_true.mp okc_79_0 (j - 0) (List.mem_range.mpr (by omega)); rwa [show 0 + (j - 0) = j by omega] at h
  by_cases h12 : j < 24
  · have h := List.all_eq_true.mp okc_79_12 (j - 12) (List.mem_range.mpr (by omega)); rwa [show 12 + (j - 12) = j by omega] at h
  by_cases h24 : j < 36
  · have h := List.all_eq_true.mp okc_79_24 (j - 24) (List.mem_range.mpr (by omega)); rwa [show 24 + (j - 24) = j by omega] at h
  by_cases h36 : j < 44
  · have h := List.all_eq_true.mp okc_79_36 (j - 36) (List.mem_range.mpr (by omega)); rwa [show 36 + (j - 36) = j by omega] at h
  omega
theorem okc_80_0 : (List.range 12).all (fun j => okOp 80 (0 + j)) = true := by decide +kernel
theorem okc_80_12 : (List.range 12).all (fun j => okOp 80 (12 + j)) = true := by decide +kernel
theorem okc_80_24 : (List.range 12).all (fun j => okOp 80 (24 + j)) = true := by decide +kernel
theorem okc_80_36 : (List.range 4).all (fun j => okOp 80 (36 + j)) = true := by decide +kernel
theorem okj_80 : ∀ j, j < 40 → okOp 80 j = true := by
  intro j hj
  by_cases h0 : j < 12
  · have h := List.all_eq_true.mp okc_80_0 (j - 0) (List.mem_range.mpr (by omega)); rwa [show 0 + (j - 0) = j by omega] at h
  by_cases h12 : j < 24
  · have h := List.all_eq_true.mp okc_80_12 (j - 12) (List.mem_range.mpr (by omega)); rwa [show 12 + (j - 12) = j by omega] at h
  by_cases h24 : j < 36
  · have h := List.all_eq_true.mp okc_80_24 (j - 24) (List.mem_range.mpr (by omega)); rwa [show 24 + (j - 24) = j by omega] at h
  by_cases h36 : j < 40
  · have h := List.all_eq_true.mp okc_80_36 (j - 36) (List.mem_range.mpr (by omega)); rwa [show 36 + (j - 36) = j by omega] at h
  omega
theorem okc_81_0 : (List.range 12).all (fun j => okOp 81 (0 + j)) = true := by decide +kernel
theorem okc_81_12 : (List.range 12).all (fun j => okOp 81 (12 + j)) = true := by decide +kernel
theorem okc_81_24 : (List.range 12).all (fun j => okOp 81 (24 + j)) = true := by decide +kernel
theorem okc_81_36 : (List.range 12).all (fun j => okOp 81 (36 + j)) = true := by decide +kernel
theorem okc_81_48 : (List.range 12).all (fun j => okOp 81 (48 + j)) = true := by decide +kernel
theorem okc_81_60 : (List.range 12).all (fun j => okOp 81 (60 + j)) = true := by decide +kernel
theorem okc_81_72 : (List.range 12).all (fun j => okOp 81 (72 + j)) = true := by decide +kernel
theorem okc_81_84 : (List.range 7).all (fun j => okOp 81 (84 + j)) = true := by decide +kernel
theorem okj_81 : ∀ j, j < 91 → okOp 81 j = true := by
  intro j hj
  by_cases h0 : j < 12
  · have h := List.all_eq_true.mp okc_81_0 (j - 0) (List.mem_range.mpr (by omega)); rwa [show 0 + (j - 0) = j by omega] at h
  by_cases h12 : j < 24
  · have h := List.all_eq_true.mp okc_81_12 (j - 12) (List.mem_range.mpr (by omega)); rwa [show 12 + (j - 12) = j by omega] at h
  by_cases h24 : j < 36
  · have h := List.all_eq_true.mp okc_81_24 (j - 24) (List.mem_range.mpr (by omega)); rwa [show 24 + (j - 24) = j by omega] at h
  by_cases h36 : j < 48
  · have h := List.all_eq_true.mp okc_81_36 (j - 36) (List.mem_range.mpr (by omega)); rwa [show 36 + (j - 36) = j by omega] at h
  by_cases h48 : j < 60
  · have h := List.all_eq_true.mp okc_81_48 (j - 48) (List.mem_range.mpr (by omega)); rwa [show 48 + (j - 48) = j by omega] at h
  by_cases h60 : j < 72
  · have h := List.all_eq_true.mp okc_81_60 (j - 60) (List.mem_range.mpr (by omega)); rwa [show 60 + (j - 60) = j by omega] at h
  by_cases h72 : j < 84
  · have h := List.all_eq_true.mp okc_81_72 (j - 72) (List.mem_range.mpr (by omega)); rwa [show 72 + (j - 72) = j by omega] at h
  by_cases h84 : j < 91
  · have h := List.all_eq_true.mp okc_81_84 (j - 84) (List.mem_range.mpr (by omega)); rwa [show 84 + (j - 84) = j by omega] at h
  omega
theorem okc_82_0 : (List.range 11).all (fun j => okOp 82 (0 + j)) = true := by decide +kernel
theorem okj_82 : ∀ j, j < 11 → okOp 82 j = true := by
  intro j hj
  by_cases h0 : j < 11
  · have h := List.all_eq_true.mp okc_82_0 (j - 0) (List.mem_range.mpr (by omega)); rwa [show 0 + (j - 0) = j by omega] at h
  omega
theorem okc_83_0 : (List.range 12).all (fun j => okOp 83 (0 + j)) = true := by decide +kernel
theorem okc_83_12 : (List.range 12).all (fun j => okOp 83 (12 + j)) = true := by decide +kernel
theorem okc_83_24 : (List.range 12).all (fun j => okOp 83 (24 + j)) = true := by decide +kernel
theorem okc_83_36 : (List.range 12).all (fun j => okOp 83 (36 + j)) = true := by decide +kernel
theorem okc_83_48 : (List.range 12).all (fun j => okOp 83 (48 + j)) = true := by decide +kernel
theorem okc_83_60 : (List.range 12).all (fun j => okOp 83 (60 + j)) = true := by decide +kernel
theorem okc_83_72 : (List.range 6).all (fun j => okOp 83 (72 + j)) = true := by decide +kernel
theorem okj_83 : ∀ j, j < 78 → okOp 83 j = true := by
  intro j hj
  by_cases h0 : j < 12
  · have h := List.all_eq_true.mp okc_83_0 (j - 0) (List.mem_range.mpr (by omega)); rwa [show 0 + (j - 0) = j by omega] at h
  by_cases h12 : j < 24
  · have h := List.all_eq_true.mp okc_83_12 (j - 12) (List.mem_range.mpr (by omega)); rwa [show 12 + (j - 12) = j by omega] at h
  by_cases h24 : j < 36
  · have h := List.all_eq_true.mp okc_83_24 (j - 24) (List.mem_range.mpr (by omega)); rwa [show 24 + (j - 24) = j by omega] at h
  by_cases h36 : j < 48
  · have h := List.all_eq_true.mp okc_83_36 (j - 36) (List.mem_range.mpr (by omega)); rwa [show 36 + (j - 36) = j by omega] at h
  by_cases h48 : j < 60
  · have h := List.all_eq_true.mp okc_83_48 (j - 48) (List.mem_range.mpr (by omega)); rwa [show 48 + (j - 48) = j by omega] at h
  by_cases h60 : j < 72
  · have h := List.all_eq_true.mp okc_83_60 (j - 60) (List.mem_range.mpr (by omega)); rwa [show 60 + (j - 60) = j by omega] at h
  by_cases h72 : j < 78
  · have h := List.all_eq_true.mp okc_83_72 (j - 72) (List.mem_range.mpr (by omega)); rwa [show 72 + (j - 72) = j by omega] at h
  omega
theorem okc_84_0 : (List.range 12).all (fun j => okOp 84 (0 + j)) = true := by decide +kernel
theorem okc_84_12 : (List.range 12).all (fun j => okOp 84 (12 + j)) = true := by decide +kernel
theorem okc_84_24 : (List.range 12).all (fun j => okOp 84 (24 + j)) = true := by decide +kernel
theorem okc_84_36 : (List.range 12).all (fun j => okOp 84 (36 + j)) = true := by decide +kernel
theorem okc_84_48 : (List.range 12).all (fun j => okOp 84 (48 + j)) = true := by decide +kernel
theorem okc_84_60 : (List.range 12).all (fun j => okOp 84 (60 + j)) = true := by decide +kernel
theorem okc_84_72 : (List.range 2).all (fun j => okOp 84 (72 + j)) = true := by decide +kernel
theorem okj_84 : ∀ j, j < 74 → okOp 84 j = true := by
  intro j hj
  by_cases h0 : j < 12
  · have h := List.all_eq_true.mp okc_84_0 (j - 0) (List.mem_range.mpr (by omega)); rwa [show 0 + (j - 0) = j by omega] at h
  by_cases h12 : j < 24
  · have h := List.all_eq_true.mp okc_84_12 (j - 12) (List.mem_range.mpr (by omega)); rwa [show 12 + (j - 12) = j by omega] at h
  by_cases h24 : j < 36
  · have h := List.all_eq_true.mp okc_84_24 (j - 24) (List.mem_range.mpr (by omega)); rwa [show 24 + (j - 24) = j by omega] at h
  by_cases h36 : j < 48
  · have h := List.all_eq_true.mp okc_84_36 (j - 36) (List.mem_range.mpr (by omega)); rwa [show 36 + (j - 36) = j by omega] at h
  by_cases h48 : j < 60
  · have h := List.all_eq_true.mp okc_84_48 (j - 48) (List.mem_range.mpr (by omega)); rwa [show 48 + (j - 48) = j by omega] at h
  by_cases h60 : j < 72
  · have h := List.all_eq_true.mp okc_84_60 (j - 60) (List.mem_range.mpr (by omega)); rwa [show 60 + (j - 60) = j by omega] at h
  by_cases h72 : j < 74
  · have h := List.all_eq_true.mp okc_84_72 (j - 72) (List.mem_range.mpr (by omega)); rwa [show 72 + (j - 72) = j by omega] at h
  omega
theorem okc_85_0 : (List.range 9).all (fun j => okOp 85 (0 + j)) = true := by decide +kernel
theorem okj_85 : ∀ j, j < 9 → okOp 85 j = true := by
  intro j hj
  by_cases h0 : j < 9
  · have h := List.all_eq_true.mp okc_85_0 (j - 0) (List.mem_range.mpr (by omega)); rwa [show 0 + (j - 0) = j by omega] at h
  omega
theorem okc_86_0 : (List.range 9).all (fun j => okOp 86 (0 + j)) = true := by decide +kernel
theorem okj_86 : ∀ j, j < 9 → okOp 86 j = true := by
  intro j hj
  by_cases h0 : j < 9
  · have h := List.all_eq_true.mp okc_86_0 (j - 0) (List.mem_range.mpr (by omega)); rwa [show 0 + (j - 0) = j by omega] at h
  omega
theorem okc_87_0 : (List.range 12).all (fun j => okOp 87 (0 + j)) = true := by decide +kernel
theorem okc_87_12 : (List.range 7).all (fun j => okOp 87 (12 + j)) = true := by decide +kernel
theorem okj_87 : ∀ j, j < 19 → okOp 87 j = true := by
  intro j hj
  by_cases h0 : j < 12
  · have h := List.all_eq_true.mp okc_87_0 (j - 0) (List.mem_range.mpr (by omega)); rwa [show 0 + (j - 0) = j by omega] at h
  by_cases h12 : j < 19
  · have h := List.all_eq_true.mp okc_87_12 (j - 12) (List.mem_range.mpr (by omega)); rwa [show 12 + (j - 12) = j by omega] at h
  omega
theorem okc_88_0 : (List.range 12).all (fun j => okOp 88 (0 + j)) = true := by decide +kernel
theorem okc_88_12 : (List.range 12).all (fun j => okOp 88 (12 + j)) = true := by decide +kernel
theorem okc_88_24 : (List.range 12).all (fun j => okOp 88 (24 + j)) = true := by decide +kernel
theorem okc_88_36 : (List.range 12).all (fun j => okOp 88 (36 + j)) = true := by decide +kernel
theorem okc_88_48 : (List.range 12).all (fun j => okOp 88 (48 + j)) = true := by decide +kernel
theorem okc_88_60 : (List.range 12).all (fun j => okOp 88 (60 + j)) = true := by decide +kernel
theorem okc_88_72 : (List.range 12).all (fun j => okOp 88 (72 + j)) = true := by decide +kernel
theorem okc_88_84 : (List.range 11).all (fun j => okOp 88 (84 + j)) = true := by decide +kernel
theorem okj_88 : ∀ j, j < 95 → okOp 88 j = true := by
  intro j hj
  by_cases h0 : j < 12
  · have h := List.all_eq_true.mp okc_88_0 (j - 0) (List.mem_range.mpr (by omega)); rwa [show 0 + (j - 0) = j by omega] at h
  by_cases h12 : j < 24
  · have h := List.all_eq_true.mp okc_88_12 (j - 12) (List.mem_range.mpr (by omega)); rwa [show 12 + (j - 12) = j by omega] at h
  by_cases h24 : j < 36
  · have h := List.all_eq_true.mp okc_88_24 (j - 24) (List.mem_range.mpr (by omega)); rwa [show 24 + (j - 24) = j by omega] at h
  by_cases h36 : j < 48
  · have h := List.all_eq_true.mp okc_88_36 (j - 36) (List.mem_range.mpr (by omega)); rwa [show 36 + (j - 36) = j by omega] at h
  by_cases h48 : j < 60
  · have h := List.all_eq_true.mp okc_88_48 (j - 48) (List.mem_range.mpr (by omega)); rwa [show 48 + (j - 48) = j by omega] at h
  by_cases h60 : j < 72
  · have h := List.all_eq_true.mp okc_88_60 (j - 60) (List.mem_range.mpr (by omega)); rwa [show 60 + (j - 60) = j by omega] at h
  by_cases h72 : j < 84
  · have h := List.all_eq_true.mp okc_88_72 (j - 72) (List.mem_range.mpr (by omega)); rwa [show 72 + (j - 72) = j by omega] at h
  by_cases h84 : j < 95
  · have h := List.all_eq_true.mp okc_88_84 (j - 84) (List.mem_range.mpr (by omega)); rwa [show 84 + (j - 84) = j by omega] at h
  omega
theorem okc_89_0 : (List.range 12).all (fun j => okOp 89 (0 + j)) = true := by decide +kernel
theorem okc_89_12 : (List.range 12).all (fun j => okOp 89 (12 + j)) = true := by decide +kernel
theorem okc_89_24 : (List.range 6).all (fun j => okOp 89 (24 + j)) = true := by decide +kernel
theorem okj_89 : ∀ j, j < 30 → okOp 89 j = true := by
  intro j hj
  by_cases h0 : j < 12
  · have h := List.all_eq_true.mp okc_89_0 (j - 0) (List.mem_range.mpr (by omega)); rwa [show 0 + (j - 0) = j by omega] at h
  by_cases h12 : j < 24
  · have h := List.all_eq_true.mp okc_89_12 (j - 12) (List.mem_range.mpr (by omega)); rwa [show 12 + (j - 12) = j by omega] at h
  by_cases h24 : j < 30
  · have h := List.all_eq_true.mp okc_89_24 (j - 24) (List.mem_range.mpr (by omega)); rwa [show 24 + (j - 24) = j by omega] at h
  omega
theorem okc_90_0 : (List.range 12).all (fun j => okOp 90 (0 + j)) = true := by decide +kernel
theorem okc_90_12 : (List.range 12).all (fun j => okOp 90 (12 + j)) = true := by decide +kernel
theorem okj_90 : ∀ j, j < 24 → okOp 90 j = true := by
  intro j hj
  by_cases h0 : j < 12
  · have h := List.all_eq_true.mp okc_90_0 (j - 0) (List.mem_range.mpr (by omega)); rwa [show 0 + (j - 0) = j by omega] at h
  by_cases h12 : j < 24
  · have h := List.all_eq_true.mp okc_90_12 (j - 12) (List.mem_range.mpr (by omega)); rwa [show 12 + (j - 12) = j by omega] at h
  omega
theorem okc_91_0 : (List.range 12).all (fun j => okOp 91 (0 + j)) = true := by decide +kernel
theorem okc_91_12 : (List.range 12).all (fun j => okOp 91 (12 + j)) = true := by decide +kernel
theorem okc_91_24 : (List.range 2).all (fun j => okOp 91 (24 + j)) = true := by decide +kernel
theorem okj_91 : ∀ j, j < 26 → okOp 91 j = true := by
  intro j hj
  by_cases h0 : j < 12
  · have h := List.all_eq_true.mp okc_91_0 (j - 0) (List.mem_range.mpr (by omega)); rwa [show 0 + (j - 0) = j by omega] at h
  by_cases h12 : j < 24
  · have h := List.all_eq_true.mp okc_91_12 (j - 12) (List.mem_range.mpr (by omega)); rwa [show 12 + (j - 12) = j by omega] at h
  by_cases h24 : j < 26
  · have h := List.all_eq_true.mp okc_91_24 (j - 24) (List.mem_range.mpr (by omega)); rwa [show 24 + (j - 24) = j by omega] at h
  omega
theorem okc_92_0 : (List.range 12).all (fun j => okOp 92 (0 + j)) = true := by decide +kernel
theorem okc_92_12 : (List.range 12).all (fun j => okOp 92 (12 + j)) = true := by decide +kernel
theorem okc_92_24 : (List.range 12).all (fun j => okOp 92 (24 + j)) = true := by decide +kernel
theorem okc_92_36 : (List.range 12).all (fun j => okOp 92 (36 + j)) = true := by decide +kernel
theorem okc_92_48 : (List.range 12).all (fun j => okOp 92 (48 + j)) = true := by decide +kernel
theorem okc_92_60 : (List.range 12).all (fun j => okOp 92 (60 + j)) = true := by decide +kernel
theorem okc_92_72 : (List.range 2).all (fun j => okOp 92 (72 + j)) = true := by decide +kernel
theorem okj_92 : ∀ j, j < 74 → okOp 92 j = true := by
  intro j hj
  by_cases h0 : j < 12
  · have h := List.all_eq_true.mp okc_92_0 (j - 0) (List.mem_range.mpr (by omega)); rwa [show 0 + (j - 0) = j by omega] at h
  by_cases h12 : j < 24
  · have h := List.all_eq_true.mp okc_92_12 (j - 12) (List.mem_range.mpr (by omega)); rwa [show 12 + (j - 12) = j by omega] at h
  by_cases h24 : j < 36
  · have h := List.all_eq_true.mp okc_92_24 (j - 24) (List.mem_range.mpr (by omega)); rwa [show 24 + (j - 24) = j by omega] at h
  by_cases h36 : j < 48
  · have h := List.all_eq_true.mp okc_92_36 (j - 36) (List.mem_range.mpr (by omega)); rwa [show 36 + (j - 36) = j by omega] at h
  by_cases h48 : j < 60
  · have h := List.all_eq_true.mp okc_92_48 (j - 48) (List.mem_range.mpr (by omega)); rwa [show 48 + (j - 48) = j by omega] at h
  by_cases h60 : j < 72
  · have h := List.all_eq_true.mp okc_92_60 (j - 60) (List.mem_range.mpr (by omega)); rwa [show 60 + (j - 60) = j by omega] at h
  by_cases h72 : j < 74
  · have h := List.all_eq_true.mp okc_92_72 (j - 72) (List.mem_range.mpr (by omega)); rwa [show 72 + (j - 72) = j by omega] at h
  omega
theorem okc_93_0 : (List.range 12).all (fun j => okOp 93 (0 + j)) = true := by decide +kernel
theorem okc_93_12 : (List.range 12).all (fun j => okOp 93 (12 + j)) = true := by decide +kernel
theorem okc_93_24 : (List.range 12).all (fun j => okOp 93 (24 + j)) = true := by decide +kernel
theorem okc_93_36 : (List.range 12).all (fun j => okOp 93 (36 + j)) = true := by decide +kernel
theorem okc_93_48 : (List.range 12).all (fun j => okOp 93 (48 + j)) = true := by decide +kernel
theorem okc_93_60 : (List.range 12).all (fun j => okOp 93 (60 + j)) = true := by decide +kernel
theorem okc_93_72 : (List.range 12).all (fun j => okOp 93 (72 + j)) = true := by decide +kernel
theorem okc_93_84 : (List.range 12).all (fun j => okOp 93 (84 + j)) = true := by decide +kernel
theorem okc_93_96 : (List.range 3).all (fun j => okOp 93 (96 + j)) = true := by decide +kernel
theorem okj_93 : ∀ j, j < 99 → okOp 93 j = true := by
  intro j hj
  by_cases h0 : j < 12
  · have h := List.all_eq_true.mp okc_93_0 (j - 0) (List.mem_range.mpr (by omega)); rwa [show 0 + (j - 0) = j by omega] at h
  by_cases h12 : j < 24
  · have h := List.all_eq_true.mp okc_93_12 (j - 12) (List.mem_range.mpr (by omega)); rwa [show 12 + (j - 12) = j by omega] at h
  by_cases h24 : j < 36
  · have h := List.all_eq_true.mp okc_93_24 (j - 24) (List.mem_range.mpr (by omega)); rwa [show 24 + (j - 24) = j by omega] at h
  by_cases h36 : j < 48
  · have h := List.all_eq_true.mp okc_93_36 (j - 36) (List.mem_range.mpr (by omega)); rwa [show 36 + (j - 36) = j by omega] at h
  by_cases h48 : j < 60
  · have h := List.all_eq_true.mp okc_93_48 (j - 48) (List.mem_range.mpr (by omega)); rwa [show 48 + (j - 48) = j by omega] at h
  by_cases h60 : j < 72
  · have h := List.all_eq_true.mp okc_93_60 (j - 60) (List.mem_range.mpr (by omega)); rwa [show 60 + (j - 60) = j by omega] at h
  by_cases h72 : j < 84
  · have h := List.all_eq_true.mp okc_93_72 (j - 72) (List.mem_range.mpr (by omega)); rwa [show 72 + (j - 72) = j by omega] at h
  by_cases h84 : j < 96
  · have h := List.all_eq_true.mp okc_93_84 (j - 84) (List.mem_range.mpr (by omega)); rwa [show 84 + (j - 84) = j by omega] at h
  by_cases h96 : j < 99
  · have h := List.all_eq_true.mp okc_93_96 (j - 96) (List.mem_range.mpr (by omega)); rwa [show 96 + (j - 96) = j by omega] at h
  omega
theorem okc_94_0 : (List.range 12).all (fun j => okOp 94 (0 + j)) = true := by decide +kernel
theorem okc_94_12 : (List.range 12).all (fun j => okOp 94 (12 + j)) = true := by decide +kernel
theorem okc_94_24 : (List.range 12).all (fun j => okOp 94 (24 + j)) = true := by decide +kernel
theorem okc_94_36 : (List.range 12).all (fun j => okOp 94 (36 + j)) = true := by decide +kernel
theorem okc_94_48 : (List.range 9).all (fun j => okOp 94 (48 + j)) = true := by decide +kernel
theorem okj_94 : ∀ j, j < 57 → okOp 94 j = true := by
  intro j hj
  by_cases h0 : j < 12
  · have h := List.all_eq_true.mp okc_94_0 (j - 0) (List.mem_range.mpr (by omega)); rwa [show 0 + (j - 0) = j by omega] at h
  by_cases h12 : j < 24
  · have h := List.all_eq_true.mp okc_94_12 (j - 12) (List.mem_range.mpr (by omega)); rwa [show 12 + (j - 12) = j by omega] at h
  by_cases h24 : j < 36
  · have h := List.all_eq_true.mp okc_94_24 (j - 24) (List.mem_range.mpr (by omega)); rwa [show 24 + (j - 24) = j by omega] at h
  by_cases h36 : j < 48
  · have h := List.all_eq_true.mp okc_94_36 (j - 36) (List.mem_range.mpr (by omega)); rwa [show 36 + (j - 36) = j by omega] at h
  by_cases h48 : j < 57
  · have h := List.all_eq_true.mp okc_94_48 (j - 48) (List.mem_range.mpr (by omega)); rwa [show 48 + (j - 48) = j by omega] at h
  omega
