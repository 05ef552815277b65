-- ===== the looking through, method by method, 3 =====
theorem okc_95_0 : (List.range 12).all (fun j => okOp 95 (0 + j)) = true := by decide +kernel
theorem okc_95_12 : (List.range 12).all (fun j => okOp 95 (12 + j)) = true := by decide +kernel
theorem okc_95_24 : (List.range 2).all (fun j => okOp 95 (24 + j)) = true := by decide +kernel
theorem okj_95 : ∀ j, j < 26 → okOp 95 j = true := by
  intro j hj
  by_cases h0 : j < 12
  · have h := List.all_eq_true.mp okc_95_0 (j - 0) (List.mem_range.mpr (by omega)); rwa [show 0 + (j - 0) = j by omega] at h
  by_cases h12 : j < 24
  · have h := List.all_eq_true.mp okc_95_12 (j - 12) (List.mem_range.mpr (by omega)); rwa [show 12 + (j - 12) = j by omega] at h
  by_cases h24 : j < 26
  · have h := List.all_eq_true.mp okc_95_24 (j - 24) (List.mem_range.mpr (by omega)); rwa [show 24 + (j - 24) = j by omega] at h
  omega
theorem okc_96_0 : (List.range 12).all (fun j => okOp 96 (0 + j)) = true := by decide +kernel
theorem okc_96_12 : (List.range 12).all (fun j => okOp 96 (12 + j)) = true := by decide +kernel
theorem okc_96_24 : (List.range 12).all (fun j => okOp 96 (24 + j)) = true := by decide +kernel
theorem okc_96_36 : (List.range 9).all (fun j => okOp 96 (36 + j)) = true := by decide +kernel
theorem okj_96 : ∀ j, j < 45 → okOp 96 j = true := by
  intro j hj
  by_cases h0 : j < 12
  · have h := List.all_eq_true.mp okc_96_0 (j - 0) (List.mem_range.mpr (by omega)); rwa [show 0 + (j - 0) = j by omega] at h
  by_cases h12 : j < 24
  · have h := List.all_eq_true.mp okc_96_12 (j - 12) (List.mem_range.mpr (by omega)); rwa [show 12 + (j - 12) = j by omega] at h
  by_cases h24 : j < 36
  · have h := List.all_eq_true.mp okc_96_24 (j - 24) (List.mem_range.mpr (by omega)); rwa [show 24 + (j - 24) = j by omega] at h
  by_cases h36 : j < 45
  · have h := List.all_eq_true.mp okc_96_36 (j - 36) (List.mem_range.mpr (by omega)); rwa [show 36 + (j - 36) = j by omega] at h
  omega
theorem okc_97_0 : (List.range 12).all (fun j => okOp 97 (0 + j)) = true := by decide +kernel
theorem okc_97_12 : (List.range 12).all (fun j => okOp 97 (12 + j)) = true := by decide +kernel
theorem okc_97_24 : (List.range 7).all (fun j => okOp 97 (24 + j)) = true := by decide +kernel
theorem okj_97 : ∀ j, j < 31 → okOp 97 j = true := by
  intro j hj
  by_cases h0 : j < 12
  · have h := List.all_eq_true.mp okc_97_0 (j - 0) (List.mem_range.mpr (by omega)); rwa [show 0 + (j - 0) = j by omega] at h
  by_cases h12 : j < 24
  · have h := List.all_eq_true.mp okc_97_12 (j - 12) (List.mem_range.mpr (by omega)); rwa [show 12 + (j - 12) = j by omega] at h
  by_cases h24 : j < 31
  · have h := List.all_eq_true.mp okc_97_24 (j - 24) (List.mem_range.mpr (by omega)); rwa [show 24 + (j - 24) = j by omega] at h
  omega
theorem okc_98_0 : (List.range 12).all (fun j => okOp 98 (0 + j)) = true := by decide +kernel
theorem okc_98_12 : (List.range 9).all (fun j => okOp 98 (12 + j)) = true := by decide +kernel
theorem okj_98 : ∀ j, j < 21 → okOp 98 j = true := by
  intro j hj
  by_cases h0 : j < 12
  · have h := List.all_eq_true.mp okc_98_0 (j - 0) (List.mem_range.mpr (by omega)); rwa [show 0 + (j - 0) = j by omega] at h
  by_cases h12 : j < 21
  · have h := List.all_eq_true.mp okc_98_12 (j - 12) (List.mem_range.mpr (by omega)); rwa [show 12 + (j - 12) = j by omega] at h
  omega
theorem okc_99_0 : (List.range 12).all (fun j => okOp 99 (0 + j)) = true := by decide +kernel
theorem okc_99_12 : (List.range 1).all (fun j => okOp 99 (12 + j)) = true := by decide +kernel
theorem okj_99 : ∀ j, j < 13 → okOp 99 j = true := by
  intro j hj
  by_cases h0 : j < 12
  · have h := List.all_eq_true.mp okc_99_0 (j - 0) (List.mem_range.mpr (by omega)); rwa [show 0 + (j - 0) = j by omega] at h
  by_cases h12 : j < 13
  · have h := List.all_eq_true.mp okc_99_12 (j - 12) (List.mem_range.mpr (by omega)); rwa [show 12 + (j - 12) = j by omega] at h
  omega
theorem okc_100_0 : (List.range 12).all (fun j => okOp 100 (0 + j)) = true := by decide +kernel
theorem okc_100_12 : (List.range 12).all (fun j => okOp 100 (12 + j)) = true := by decide +kernel
theorem okc_100_24 : (List.range 9).all (fun j => okOp 100 (24 + j)) = true := by decide +kernel
theorem okj_100 : ∀ j, j < 33 → okOp 100 j = true := by
  intro j hj
  by_cases h0 : j < 12
  · have h := List.all_eq_true.mp okc_100_0 (j - 0) (List.mem_range.mpr (by omega)); rwa [show 0 + (j - 0) = j by omega] at h
  by_cases h12 : j < 24
  · have h := List.all_eq_true.mp okc_100_12 (j - 12) (List.mem_range.mpr (by omega)); rwa [show 12 + (j - 12) = j by omega] at h
  by_cases h24 : j < 33
  · have h := List.all_eq_true.mp okc_100_24 (j - 24) (List.mem_range.mpr (by omega)); rwa [show 24 + (j - 24) = j by omega] at h
  omega
theorem okc_101_0 : (List.range 12).all (fun j => okOp 101 (0 + j)) = true := by decide +kernel
theorem okc_101_12 : (List.range 12).all (fun j => okOp 101 (12 + j)) = true := by decide +kernel
theorem okj_101 : ∀ j, j < 24 → okOp 101 j = true := by
  intro j hj
  by_cases h0 : j < 12
  · have h := List.all_eq_true.mp okc_101_0 (j - 0) (List.mem_range.mpr (by omega)); rwa [show 0 + (j - 0) = j by omega] at h
  by_cases h12 : j < 24
  · have h := List.all_eq_true.mp okc_101_12 (j - 12) (List.mem_range.mpr (by omega)); rwa [show 12 + (j - 12) = j by omega] at h
  omega
theorem okc_102_0 : (List.range 12).all (fun j => okOp 102 (0 + j)) = true := by decide +kernel
theorem okc_102_12 : (List.range 12).all (fun j => okOp 102 (12 + j)) = true := by decide +kernel
theorem okc_102_24 : (List.range 12).all (fun j => okOp 102 (24 + j)) = true := by decide +kernel
theorem okc_102_36 : (List.range 12).all (fun j => okOp 102 (36 + j)) = true := by decide +kernel
theorem okc_102_48 : (List.range 12).all (fun j => okOp 102 (48 + j)) = true := by decide +kernel
theorem okc_102_60 : (List.range 12).all (fun j => okOp 102 (60 + j)) = true := by decide +kernel
theorem okc_102_72 : (List.range 4).all (fun j => okOp 102 (72 + j)) = true := by decide +kernel
theorem okj_102 : ∀ j, j < 76 → okOp 102 j = true := by
  intro j hj
  by_cases h0 : j < 12
  · have h := List.all_eq_true.mp okc_102_0 (j - 0) (List.mem_range.mpr (by omega)); rwa [show 0 + (j - 0) = j by omega] at h
  by_cases h12 : j < 24
  · have h := List.all_eq_true.mp okc_102_12 (j - 12) (List.mem_range.mpr (by omega)); rwa [show 12 + (j - 12) = j by omega] at h
  by_cases h24 : j < 36
  · have h := List.all_eq_true.mp okc_102_24 (j - 24) (List.mem_range.mpr (by omega)); rwa [show 24 + (j - 24) = j by omega] at h
  by_cases h36 : j < 48
  · have h := List.all_eq_true.mp okc_102_36 (j - 36) (List.mem_range.mpr (by omega)); rwa [show 36 + (j - 36) = j by omega] at h
  by_cases h48 : j < 60
  · have h := List.all_eq_true.mp okc_102_48 (j - 48) (List.mem_range.mpr (by omega)); rwa [show 48 + (j - 48) = j by omega] at h
  by_cases h60 : j < 72
  · have h := List.all_eq_true.mp okc_102_60 (j - 60) (List.mem_range.mpr (by omega)); rwa [show 60 + (j - 60) = j by omega] at h
  by_cases h72 : j < 76
  · have h := List.all_eq_true.mp okc_102_72 (j - 72) (List.mem_range.mpr (by omega)); rwa [show 72 + (j - 72) = j by omega] at h
  omega
theorem okc_103_0 : (List.range 12).all (fun j => okOp 103 (0 + j)) = true := by decide +kernel
theorem okc_103_12 : (List.range 7).all (fun j => okOp 103 (12 + j)) = true := by decide +kernel
theorem okj_103 : ∀ j, j < 19 → okOp 103 j = true := by
  intro j hj
  by_cases h0 : j < 12
  · have h := List.all_eq_true.mp okc_103_0 (j - 0) (List.mem_range.mpr (by omega)); rwa [show 0 + (j - 0) = j by omega] at h
  by_cases h12 : j < 19
  · have h := List.all_eq_true.mp okc_103_12 (j - 12) (List.mem_range.mpr (by omega)); rwa [show 12 + (j - 12) = j by omega] at h
  omega
theorem okc_104_0 : (List.range 12).all (fun j => okOp 104 (0 + j)) = true := by decide +kernel
theorem okc_104_12 : (List.range 12).all (fun j => okOp 104 (12 + j)) = true := by decide +kernel
theorem okc_104_24 : (List.range 12).all (fun j => okOp 104 (24 + j)) = true := by decide +kernel
theorem okc_104_36 : (List.range 12).all (fun j => okOp 104 (36 + j)) = true := by decide +kernel
theorem okc_104_48 : (List.range 12).all (fun j => okOp 104 (48 + j)) = true := by decide +kernel
theorem okc_104_60 : (List.range 12).all (fun j => okOp 104 (60 + j)) = true := by decide +kernel
theorem okc_104_72 : (List.range 12).all (fun j => okOp 104 (72 + j)) = true := by decide +kernel
theorem okc_104_84 : (List.range 12).all (fun j => okOp 104 (84 + j)) = true := by decide +kernel
theorem okc_104_96 : (List.range 12).all (fun j => okOp 104 (96 + j)) = true := by decide +kernel
theorem okc_104_108 : (List.range 12).all (fun j => okOp 104 (108 + j)) = true := by decide +kernel
theorem okc_104_120 : (List.range 12).all (fun j => okOp 104 (120 + j)) = true := by decide +kernel
theorem okc_104_132 : (List.range 2).all (fun j => okOp 104 (132 + j)) = true := by decide +kernel
theorem okj_104 : ∀ j, j < 134 → okOp 104 j = true := by
  intro j hj
  by_cases h0 : j < 12
  · have h := List.all_eq_true.mp okc_104_0 (j - 0) (List.mem_range.mpr (by omega)); rwa [show 0 + (j - 0) = j by omega] at h
  by_cases h12 : j < 24
  · have h := List.all_eq_true.mp okc_104_12 (j - 12) (List.mem_range.mpr (by omega)); rwa [show 12 + (j - 12) = j by omega] at h
  by_cases h24 : j < 36
  · have h := List.all_eq_true.mp okc_104_24 (j - 24) (List.mem_range.mpr (by omega)); rwa [show 24 + (j - 24) = j by omega] at h
  by_cases h36 : j < 48
  · have h := List.all_eq_true.mp okc_104_36 (j - 36) (List.mem_range.mpr (by omega)); rwa [show 36 + (j - 36) = j by omega] at h
  by_cases h48 : j < 60
  · have h := List.all_eq_true.mp okc_104_48 (j - 48) (List.mem_range.mpr (by omega)); rwa [show 48 + (j - 48) = j by omega] at h
  by_cases h60 : j < 72
  · have h := List.all_eq_true.mp okc_104_60 (j - 60) (List.mem_range.mpr (by omega)); rwa [show 60 + (j - 60) = j by omega] at h
  by_cases h72 : j < 84
  · have h := List.all_eq_true.mp okc_104_72 (j - 72) (List.mem_range.mpr (by omega)); rwa [show 72 + (j - 72) = j by omega] at h
  by_cases h84 : j < 96
  · have h := List.all_eq_true.mp okc_104_84 (j - 84) (List.mem_range.mpr (by omega)); rwa [show 84 + (j - 84) = j by omega] at h
  by_cases h96 : j < 108
  · have h := List.all_eq_true.mp okc_104_96 (j - 96) (List.mem_range.mpr (by omega)); rwa [show 96 + (j - 96) = j by omega] at h
  by_cases h108 : j < 120
  · have h := List.all_eq_true.mp okc_104_108 (j - 108) (List.mem_range.mpr (by omega)); rwa [show 108 + (j - 108) = j by omega] at h
  by_cases h120 : j < 132
  · have h := List.all_eq_true.mp okc_104_120 (j - 120) (List.mem_range.mpr (by omega)); rwa [show 120 + (j - 120) = j by omega] at h
  by_cases h132 : j < 134
  · have h := List.all_eq_true.mp okc_104_132 (j - 132) (List.mem_range.mpr (by omega)); rwa [show 132 + (j - 132) = j by omega] at h
  omega
theorem okc_105_0 : (List.range 12).all (fun j => okOp 105 (0 + j)) = true := by decide +kernel
theorem okc_105_12 : (List.range 12).all (fun j => okOp 105 (12 + j)) = true := by decide +kernel
theorem okc_105_24 : (List.range 12).all (fun j => okOp 105 (24 + j)) = true := by decide +kernel
theorem okc_105_36 : (List.range 12).all (fun j => okOp 105 (36 + j)) = true := by decide +kernel
theorem okc_105_48 : (List.range 12).all (fun j => okOp 105 (48 + j)) = true := by decide +kernel
theorem okc_105_60 : (List.range 5).all (fun j => okOp 105 (60 + j)) = true := by decide +kernel
theorem okj_105 : ∀ j, j < 65 → okOp 105 j = true := by
  intro j hj
  by_cases h0 : j < 12
  · have h := List.all_eq_true.mp okc_105_0 (j - 0) (List.mem_range.mpr (by omega)); rwa [show 0 + (j - 0) = j by omega] at h
  by_cases h12 : j < 24
  · have h := List.all_eq_true.mp okc_105_12 (j - 12) (List.mem_range.mpr (by omega)); rwa [show 12 + (j - 12) = j by omega] at h
  by_cases h24 : j < 36
  · have h := List.all_eq_true.mp okc_105_24 (j - 24) (List.mem_range.mpr (by omega)); rwa [show 24 + (j - 24) = j by omega] at h
  by_cases h36 : j < 48
  · have h := List.all_eq_true.mp okc_105_36 (j - 36) (List.mem_range.mpr (by omega)); rwa [show 36 + (j - 36) = j by omega] at h
  by_cases h48 : j < 60
  · have h := List.all_eq_true.mp okc_105_48 (j - 48) (List.mem_range.mpr (by omega)); rwa [show 48 + (j - 48) = j by omega] at h
  by_cases h60 : j < 65
  · have h := List.all_eq_true.mp okc_105_60 (j - 60) (List.mem_range.mpr (by omega)); rwa [show 60 + (j - 60) = j by omega] at h
  omega
theorem okc_106_0 : (List.range 12).all (fun j => okOp 106 (0 + j)) = true := by decide +kernel
theorem okc_106_12 : (List.range 12).all (fun j => okOp 106 (12 + j)) = true := by decide +kernel
theorem okc_106_24 : (List.range 12).all (fun j => okOp 106 (24 + j)) = true := by decide +kernel
theorem okc_106_36 : (List.range 1).all (fun j => okOp 106 (36 + j)) = true := by decide +kernel
theorem okj_106 : ∀ j, j < 37 → okOp 106 j = true := by
  intro j hj
  by_cases h0 : j < 12
  · have h := List.all_eq_true.mp okc_106_0 (j - 0) (List.mem_range.mpr (by omega)); rwa [show 0 + (j - 0) = j by omega] at h
  by_cases h12 : j < 24
  · have h := List.all_eq_true.mp okc_106_12 (j - 12) (List.mem_range.mpr (by omega)); rwa [show 12 + (j - 12) = j by omega] at h
  by_cases h24 : j < 36
  · have h := List.all_eq_true.mp okc_106_24 (j - 24) (List.mem_range.mpr (by omega)); rwa [show 24 + (j - 24) = j by omega] at h
  by_cases h36 : j < 37
  · have h := List.all_eq_true.mp okc_106_36 (j - 36) (List.mem_range.mpr (by omega)); rwa [show 36 + (j - 36) = j by omega] at h
  omega
theorem okc_107_0 : (List.range 12).all (fun j => okOp 107 (0 + j)) = true := by decide +kernel
theorem okc_107_12 : (List.range 5).all (fun j => okOp 107 (12 + j)) = true := by decide +kernel
theorem okj_107 : ∀ j, j < 17 → okOp 107 j = true := by
  intro j hj
  by_cases h0 : j < 12
  · have h := List.all_eq_true.mp okc_107_0 (j - 0) (List.mem_range.mpr (by omega)); rwa [show 0 + (j - 0) = j by omega] at h
  by_cases h12 : j < 17
  · have h := List.all_eq_true.mp okc_107_12 (j - 12) (List.mem_range.mpr (by omega)); rwa [show 12 + (j - 12) = j by omega] at h
  omega
theorem okc_108_0 : (List.range 12).all (fun j => okOp 108 (0 + j)) = true := by decide +kernel
theorem okc_108_12 : (List.range 12).all (fun j => okOp 108 (12 + j)) = true := by decide +kernel
theorem okc_108_24 : (List.range 12).all (fun j => okOp 108 (24 + j)) = true := by decide +kernel
theorem okc_108_36 : (List.range 12).all (fun j => okOp 108 (36 + j)) = true := by decide +kernel
theorem okc_108_48 : (List.range 2).all (fun j => okOp 108 (48 + j)) = true := by decide +kernel
theorem okj_108 : ∀ j, j < 50 → okOp 108 j = true := by
  intro j hj
  by_cases h0 : j < 12
  · have h := List.all_eq_true.mp okc_108_0 (j - 0) (List.mem_range.mpr (by omega)); rwa [show 0 + (j - 0) = j by omega] at h
  by_cases h12 : j < 24
  · have h := List.all_eq_true.mp okc_108_12 (j - 12) (List.mem_range.mpr (by omega)); rwa [show 12 + (j - 12) = j by omega] at h
  by_cases h24 : j < 36
  · have h := List.all_eq_true.mp okc_108_24 (j - 24) (List.mem_range.mpr (by omega)); rwa [show 24 + (j - 24) = j by omega] at h
  by_cases h36 : j < 48
  · have h := List.all_eq_true.mp okc_108_36 (j - 36) (List.mem_range.mpr (by omega)); rwa [show 36 + (j - 36) = j by omega] at h
  by_cases h48 : j < 50
  · have h := List.all_eq_true.mp okc_108_48 (j - 48) (List.mem_range.mpr (by omega)); rwa [show 48 + (j - 48) = j by omega] at h
  omega
theorem okc_109_0 : (List.range 12).all (fun j => okOp 109 (0 + j)) = true := by decide +kernel
theorem okc_109_12 : (List.range 12).all (fun j => okOp 109 (12 + j)) = true := by decide +kernel
theorem okc_109_24 : (List.range 3).all (fun j => okOp 109 (24 + j)) = true := by decide +kernel
theorem okj_109 : ∀ j, j < 27 → okOp 109 j = true := by
  intro j hj
  by_cases h0 : j < 12
  · have h := List.all_eq_true.mp okc_109_0 (j - 0) (List.mem_range.mpr (by omega)); rwa [show 0 + (j - 0) = j by omega] at h
  by_cases h12 : j < 24
  · have h := List.all_eq_true.mp okc_109_12 (j - 12) (List.mem_range.mpr (by omega)); rwa [show 12 + (j - 12) = j by omega] at h
  by_cases h24 : j < 27
  · have h := List.all_eq_true.mp okc_109_24 (j - 24) (List.mem_range.mpr (by omega)); rwa [show 24 + (j - 24) = j by omega] at h
  omega
theorem okc_110_0 : (List.range 12).all (fun j => okOp 110 (0 + j)) = true := by decide +kernel
theorem okc_110_12 : (List.range 12).all (fun j => okOp 110 (12 + j)) = true := by decide +kernel
theorem okc_110_24 : (List.range 12).all (fun j => okOp 110 (24 + j)) = true := by decide +kernel
theorem okc_110_36 : (List.range 7).all (fun j => okOp 110 (36 + j)) = true := by decide +kernel
theorem okj_110 : ∀ j, j < 43 → okOp 110 j = true := by
  intro j hj
  by_cases h0 : j < 12
  · have h := List.all_eq_true.mp okc_110_0 (j - 0) (List.mem_range.mpr (by omega)); rwa [show 0 + (j - 0) = j by omega] at h
  by_cases h12 : j < 24
  · have h := List.all_eq_true.mp okc_110_12 (j - 12) (List.mem_range.mpr (by omega)); rwa [show 12 + (j - 12) = j by omega] at h
  by_cases h24 : j < 36
  · have h := List.all_eq_true.mp okc_110_24 (j - 24) (List.mem_range.mpr (by omega)); rwa [show 24 + (j - 24) = j by omega] at h
  by_cases h36 : j < 43
  · have h := List.all_eq_true.mp okc_110_36 (j - 36) (List.mem_range.mpr (by omega)); rwa [show 36 + (j - 36) = j by omega] at h
  omega
theorem okc_111_0 : (List.range 12).all (fun j => okOp 111 (0 + j)) = true := by decide +kernel
theorem okc_111_12 : (List.range 12).all (fun j => okOp 111 (12 + j)) = true := by decide +kernel
theorem okc_111_24 : (List.range 8).all (fun j => okOp 111 (24 + j)) = true := by decide +kernel
theorem okj_111 : ∀ j, j < 32 → okOp 111 j = true := by
  intro j hj
  by_cases h0 : j < 12
  · have h := List.all_eq_true.mp okc_111_0 (j - 0) (List.mem_range.mpr (by omega)); rwa [show 0 + (j - 0) = j by omega] at h
  by_cases h12 : j < 24
  · have h := List.all_eq_true.mp okc_111_12 (j - 12) (List.mem_range.mpr (by omega)); rwa [show 12 + (j - 12) = j by omega] at h
  by_cases h24 : j < 32
  · have h := List.all_eq_true.mp okc_111_24 (j - 24) (List.mem_range.mpr (by omega)); rwa [show 24 + (j - 24) = j by omega] at h
  omega
theorem okc_112_0 : (List.range 12).all (fun j => okOp 112 (0 + j)) = true := by decide +kernel
theorem okc_112_12 : (List.range 12).all (fun j => okOp 112 (12 + j)) = true := by decide +kernel
theorem okc_112_24 : (List.range 12).all (fun j => okOp 112 (24 + j)) = true := by decide +kernel
theorem okc_112_36 : (List.range 12).all (fun j => okOp 112 (36 + j)) = true := by decide +kernel
theorem okc_112_48 : (List.range 12).all (fun j => okOp 112 (48 + j)) = true := by decide +kernel
theorem okc_112_60 : (List.range 8).all (fun j => okOp 112 (60 + j)) = true := by decide +kernel
theorem okj_112 : ∀ j, j < 68 → okOp 112 j = true := by
  intro j hj
  by_cases h0 : j < 12
  · have h := List.all_eq_true.mp okc_112_0 (j - 0) (List.mem_range.mpr (by omega)); rwa [show 0 + (j - 0) = j by omega] at h
  by_cases h12 : j < 24
  · have h := List.all_eq_true.mp okc_112_12 (j - 12) (List.mem_range.mpr (by omega)); rwa [show 12 + (j - 12) = j by omega] at h
  by_cases h24 : j < 36
  · have h := List.all_eq_true.mp okc_112_24 (j - 24) (List.mem_range.mpr (by omega)); rwa [show 24 + (j - 24) = j by omega] at h
  by_cases h36 : j < 48
  · have h := List.all_eq_true.mp okc_112_36 (j - 36) (List.mem_range.mpr (by omega)); rwa [show 36 + (j - 36) = j by omega] at h
  by_cases h48 : j < 60
  · have h := List.all_eq_true.mp okc_112_48 (j - 48) (List.mem_range.mpr (by omega)); rwa [show 48 + (j - 48) = j by omega] at h
  by_cases h60 : j < 68
  · have h := List.all_eq_true.mp okc_112_60 (j - 60) (List.mem_range.mpr (by omega)); rwa [show 60 + (j - 60) = j by omega] at h
  omega
theorem okc_113_0 : (List.range 12).all (fun j => okOp 113 (0 + j)) = true := by decide +kernel
theorem okc_113_12 : (List.range 12).all (fun j => okOp 113 (12 + j)) = true := by decide +kernel
theorem okc_113_24 : (List.range 12).all (fun j => okOp 113 (24 + j)) = true := by decide +kernel
theorem okc_113_36 : (List.range 2).all (fun j => okOp 113 (36 + j)) = true := by decide +kernel
theorem okj_113 : ∀ j, j < 38 → okOp 113 j = true := by
  intro j hj
  by_cases h0 : j < 12
  · have h := List.all_eq_true.mp okc_113_0 (j - 0) (List.mem_range.mpr (by omega)); rwa [show 0 + (j - 0) = j by omega] at h
  by_cases h12 : j < 24
  · have h := List.all_eq_true.mp okc_113_12 (j - 12) (List.mem_range.mpr (by omega)); rwa [show 12 + (j - 12) = j by omega] at h
  by_cases h24 : j < 36
  · have h := List.all_eq_true.mp okc_113_24 (j - 24) (List.mem_range.mpr (by omega)); rwa [show 24 + (j - 24) = j by omega] at h
  by_cases h36 : j < 38
  · have h := List.all_eq_true.mp okc_113_36 (j - 36) (List.mem_range.mpr (by omega)); rwa [show 36 + (j - 36) = j by omega] at h
  omega
theorem okc_114_0 : (List.range 12).all (fun j => okOp 114 (0 + j)) = true := by decide +kernel
theorem okc_114_12 : (List.range 12).all (fun j => okOp 114 (12 + j)) = true := by decide +kernel
theorem okc_114_24 : (List.range 12).all (fun j => okOp 114 (24 + j)) = true := by decide +kernel
theorem okc_114_36 : (List.range 12).all (fun j => okOp 114 (36 + j)) = true := by decide +kernel
theorem okc_114_48 : (List.range 7).all (fun j => okOp 114 (48 + j)) = true := by decide +kernel
theorem okj_114 : ∀ j, j < 55 → okOp 114 j = true := by
  intro j hj
  by_cases h0 : j < 12
  · have h := List.all_eq_true.mp okc_114_0 (j - 0) (List.mem_range.mpr (by omega)); rwa [show 0 + (j - 0) = j by omega] at h
  by_cases h12 : j < 24
  · have h := List.all_eq_true.mp okc_114_12 (j - 12) (List.mem_range.mpr (by omega)); rwa [show 12 + (j - 12) = j by omega] at h
  by_cases h24 : j < 36
  · have h := List.all_eq_true.mp okc_114_24 (j - 24) (List.mem_range.mpr (by omega)); rwa [show 24 + (j - 24) = j by omega] at h
  by_cases h36 : j < 48
  · have h := List.all_eq_true.mp okc_114_36 (j - 36) (List.mem_range.mpr (by omega)); rwa [show 36 + (j - 36) = j by omega] at h
  by_cases h48 : j < 55
  · have h := List.all_eq_true.mp okc_114_48 (j - 48) (List.mem_range.mpr (by omega)); rwa [show 48 + (j - 48) = j by omega] at h
  omega
theorem okc_115_0 : (List.range 12).all (fun j => okOp 115 (0 + j)) = true := by decide +kernel
theorem okc_115_12 : (List.range 12).all (fun j => okOp 115 (12 + j)) = true := by decide +kernel
theorem okc_115_24 : (List.range 12).all (fun j => okOp 115 (24 + j)) = true := by decide +kernel
theorem okc_115_36 : (List.range 12).all (fun j => okOp 115 (36 + j)) = true := by decide +kernel
theorem okc_115_48 : (List.range 12).all (fun j => okOp 115 (48 + j)) = true := by decide +kernel
theorem okc_115_60 : (List.range 12).all (fun j => okOp 115 (60 + j)) = true := by decide +kernel
theorem okc_115_72 : (List.range 12).all (fun j => okOp 115 (72 + j)) = true := by decide +kernel
theorem okc_115_84 : (List.range 4).all (fun j => okOp 115 (84 + j)) = true := by decide +kernel
theorem okj_115 : ∀ j, j < 88 → okOp 115 j = true := by
  intro j hj
  by_cases h0 : j < 12
  · have h := List.all_eq_true.mp okc_115_0 (j - 0) (List.mem_range.mpr (by omega)); rwa [show 0 + (j - 0) = j by omega] at h
  by_cases h12 : j < 24
  · have h := List.all_eq_true.mp okc_115_12 (j - 12) (List.mem_range.mpr (by omega)); rwa [show 12 + (j - 12) = j by omega] at h
  by_cases h24 : j < 36
  · have h := List.all_eq_true.mp okc_115_24 (j - 24) (List.mem_range.mpr (by omega)); rwa [show 24 + (j - 24) = j by omega] at h
  by_cases h36 : j < 48
  · have h := List.all_eq_true.mp okc_115_36 (j - 36) (List.mem_range.mpr (by omega)); rwa [show 36 + (j - 36) = j by omega] at h
  by_cases h48 : j < 60
  · have h := List.all_eq_true.mp okc_115_48 (j - 48) (List.mem_range.mpr (by omega)); rwa [show 48 + (j - 48) = j by omega] at h
  by_cases h60 : j < 72
  · have h := List.all_eq_true.mp okc_115_60 (j - 60) (List.mem_range.mpr (by omega)); rwa [show 60 + (j - 60) = j by omega] at h
  by_cases h72 : j < 84
  · have h := List.all_eq_true.mp okc_115_72 (j - 72) (List.mem_range.mpr (by omega)); rwa [show 72 + (j - 72) = j by omega] at h
  by_cases h84 : j < 88
  · have h := List.all_eq_true.mp okc_115_84 (j - 84) (List.mem_range.mpr (by omega)); rwa [show 84 + (j - 84) = j by omega] at h
  omega
theorem okc_116_0 : (List.range 12).all (fun j => okOp 116 (0 + j)) = true := by decide +kernel
theorem okc_116_12 : (List.range 12).all (fun j => okOp 116 (12 + j)) = true := by decide +kernel
theorem okc_116_24 : (List.range 12).all (fun j => okOp 116 (24 + j)) = true := by decide +kernel
theorem okc_116_36 : (List.range 12).all (fun j => okOp 116 (36 + j)) = true := by decide +kernel
theorem okc_116_48 : (List.range 4).all (fun j => okOp 116 (48 + j)) = true := by decide +kernel
theorem okj_116 : ∀ j, j < 52 → okOp 116 j = true := by
  intro j hj
  by_cases h0 : j < 12
  · have h := List.all_eq_true.mp okc_116_0 (j - 0) (List.mem_range.mpr (by omega)); rwa [show 0 + (j - 0) = j by omega] at h
  by_cases h12 : j < 24
  · have h := List.all_eq_true.mp okc_116_12 (j - 12) (List.mem_range.mpr (by omega)); rwa [show 12 + (j - 12) = j by omega] at h
  by_cases h24 : j < 36
  · have h := List.all_eq_true.mp okc_116_24 (j - 24) (List.mem_range.mpr (by omega)); rwa [show 24 + (j - 24) = j by omega] at h
  by_cases h36 : j < 48
  · have h := List.all_eq_true.mp okc_116_36 (j - 36) (List.mem_range.mpr (by omega)); rwa [show 36 + (j - 36) = j by omega] at h
  by_cases h48 : j < 52
  · have h := List.all_eq_true.mp okc_116_48 (j - 48) (List.mem_range.mpr (by omega)); rwa [show 48 + (j - 48) = j by omega] at h
  omega
theorem okc_117_0 : (List.range 12).all (fun j => okOp 117 (0 + j)) = true := by decide +kernel
theorem okc_117_12 : (List.range 12).all (fun j => okOp 117 (12 + j)) = true := by decide +kernel
theorem okc_117_24 : (List.range 12).all (fun j => okOp 117 (24 + j)) = true := by decide +kernel
theorem okc_117_36 : (List.range 12).all (fun j => okOp 117 (36 + j)) = true := by decide +kernel
theorem okc_117_48 : (List.range 12).all (fun j => okOp 117 (48 + j)) = true := by decide +kernel
theorem okc_117_60 : (List.range 1).all (fun j => okOp 117 (60 + j)) = true := by decide +kernel
theorem okj_117 : ∀ j, j < 61 → okOp 117 j = true := by
  intro j hj
  by_cases h0 : j < 12
  · have h := List.all_eq_true.mp okc_117_0 (j - 0) (List.mem_range.mpr (by omega)); rwa [show 0 + (j - 0) = j by omega] at h
  by_cases h12 : j < 24
  · have h := List.all_eq_true.mp okc_117_12 (j - 12) (List.mem_range.mpr (by omega)); rwa [show 12 + (j - 12) = j by omega] at h
  by_cases h24 : j < 36
  · have h := List.all_eq_true.mp okc_117_24 (j - 24) (List.mem_range.mpr (by omega)); rwa [show 24 + (j - 24) = j by omega] at h
  by_cases h36 : j < 48
  · have h := List.all_eq_true.mp okc_117_36 (j - 36) (List.mem_range.mpr (by omega)); rwa [show 36 + (j - 36) = j by omega] at h
  by_cases h48 : j < 60
  · have h := List.all_eq_true.mp okc_117_48 (j - 48) (List.mem_range.mpr (by omega)); rwa [show 48 + (j - 48) = j by omega] at h
  by_cases h60 : j < 61
  · have h := List.all_eq_true.mp okc_117_60 (j - 60) (List.mem_range.mpr (by omega)); rwa [show 60 + (j - 60) = j by omega] at h
  omega
theorem okc_118_0 : (List.range 8).all (fun j => okOp 118 (0 + j)) = true := by decide +kernel
theorem okj_118 : ∀ j, j < 8 → okOp 118 j = true := by
  intro j hj
  by_cases h0 : j < 8
  · have h := List.all_eq_true.mp okc_118_0 (j - 0) (List.mem_range.mpr (by omega)); rwa [show 0 + (j - 0) = j by omega] at h
  omega
theorem okc_119_0 : (List.range 12).all (fun j => okOp 119 (0 + j)) = true := by decide +kernel
theorem okc_119_12 : (List.range 12).all (fun j => okOp 119 (12 + j)) = true := by decide +kernel
theorem okc_119_24 : (List.range 12).all (fun j => okOp 119 (24 + j)) = true := by decide +kernel
theorem okc_119_36 : (List.range 12).all (fun j => okOp 119 (36 + j)) = true := by decide +kernel
theorem okc_119_48 : (List.range 12).all (fun j => okOp 119 (48 + j)) = true := by decide +kernel
theorem okc_119_60 : (List.range 12).all (fun j => okOp 119 (60 + j)) = true := by decide +kernel
theorem okc_119_72 : (List.range 5).all (fun j => okOp 119 (72 + j)) = true := by decide +kernel
theorem okj_119 : ∀ j, j < 77 → okOp 119 j = true := by
  intro j hj
  by_cases h0 : j < 12
  · have h := List.all_eq_true.mp okc_119_0 (j - 0) (List.mem_range.mpr (by omega)); rwa [show 0 + (j - 0) = j by omega] at h
  by_cases h12 : j < 24
  · have h := List.all_eq_true.mp okc_119_12 (j - 12) (List.mem_range.mpr (by omega)); rwa [show 12 + (j - 12) = j by omega] at h
  by_cases h24 : j < 36
  · have h := List.all_eq_true.mp okc_119_24 (j - 24) (List.mem_range.mpr (by omega)); rwa [show 24 + (j - 24) = j by omega] at h
  by_cases h36 : j < 48
  · have h := List.all_eq_true.mp okc_119_36 (j - 36) (List.mem_range.mpr (by omega)); rwa [show 36 + (j - 36) = j by omega] at h
  by_cases h48 : j < 60
  · have h := List.all_eq_true.mp okc_119_48 (j - 48) (List.mem_range.mpr (by omega)); rwa [show 48 + (j - 48) = j by omega] at h
  by_cases h60 : j < 72
  · have h := List.all_eq_true.mp okc_119_60 (j - 60) (List.mem_range.mpr (by omega)); rwa [show 60 + (j - 60) = j by omega] at h
  by_cases h72 : j < 77
  · have h := List.all_eq_true.mp okc_119_72 (j - 72) (List.mem_range.mpr (by omega)); rwa [show 72 + (j - 72) = j by omega] at h
  omega
theorem okc_120_0 : (List.range 12).all (fun j => okOp 120 (0 + j)) = true := by decide +kernel
theorem okc_120_12 : (List.range 12).all (fun j => okOp 120 (12 + j)) = true := by decide +kernel
theorem okc_120_24 : (List.range 12).all (fun j => okOp 120 (24 + j)) = true := by decide +kernel
theorem okc_120_36 : (List.range 12).all (fun j => okOp 120 (36 + j)) = true := by decide +kernel
theorem okc_120_48 : (List.range 12).all (fun j => okOp 120 (48 + j)) = true := by decide +kernel
theorem okc_120_60 : (List.range 12).all (fun j => okOp 120 (60 + j)) = true := by decide +kernel
theorem okc_120_72 : (List.range 12).all (fun j => okOp 120 (72 + j)) = true := by decide +kernel
theorem okc_120_84 : (List.range 8).all (fun j => okOp 120 (84 + j)) = true := by decide +kernel
theorem okj_120 : ∀ j, j < 92 → okOp 120 j = true := by
  intro j hj
  by_cases h0 : j < 12
  · have h := List.all_eq_true.mp okc_120_0 (j - 0) (List.mem_range.mpr (by omega)); rwa [show 0 + (j - 0) = j by omega] at h
  by_cases h12 : j < 24
  · have h := List.all_eq_true.mp okc_120_12 (j - 12) (List.mem_range.mpr (by omega)); rwa [show 12 + (j - 12) = j by omega] at h
  by_cases h24 : j < 36
  · have h := List.all_eq_true.mp okc_120_24 (j - 24) (List.mem_range.mpr (by omega)); rwa [show 24 + (j - 24) = j by omega] at h
  by_cases h36 : j < 48
  · have h := List.all_eq_true.mp okc_120_36 (j - 36) (List.mem_range.mpr (by omega)); rwa [show 36 + (j - 36) = j by omega] at h
  by_cases h48 : j < 60
  · have h := List.all_eq_true.mp okc_120_48 (j - 48) (List.mem_range.mpr (by omega)); rwa [show 48 + (j - 48) = j by omega] at h
  by_cases h60 : j < 72
  · have h := List.all_eq_true.mp okc_120_60 (j - 60) (List.mem_range.mpr (by omega)); rwa [show 60 + (j - 60) = j by omega] at h
  by_cases h72 : j < 84
  · have h := List.all_eq_true.mp okc_120_72 (j - 72) (List.mem_range.mpr (by omega)); rwa [show 72 + (j - 72) = j by omega] at h
  by_cases h84 : j < 92
  · have h := List.all_eq_true.mp okc_120_84 (j - 84) (List.mem_range.mpr (by omega)); rwa [show 84 + (j - 84) = j by omega] at h
  omega
theorem okc_121_0 : (List.range 12).all (fun j => okOp 121 (0 + j)) = true := by decide +kernel
theorem okc_121_12 : (List.range 7).all (fun j => okOp 121 (12 + j)) = true := by decide +kernel
theorem okj_121 : ∀ j, j < 19 → okOp 121 j = true := by
  intro j hj
  by_cases h0 : j < 12
  · have h := List.all_eq_true.mp okc_121_0 (j - 0) (List.mem_range.mpr (by omega)); rwa [show 0 + (j - 0) = j by omega] at h
  by_cases h12 : j < 19
  · have h := List.all_eq_true.mp okc_121_12 (j - 12) (List.mem_range.mpr (by omega)); rwa [show 12 + (j - 12) = j by omega] at h
  omega
theorem okc_122_0 : (List.range 12).all (fun j => okOp 122 (0 + j)) = true := by decide +kernel
theorem okc_122_12 : (List.range 2).all (fun j => okOp 122 (12 + j)) = true := by decide +kernel
theorem okj_122 : ∀ j, j < 14 → okOp 122 j = true := by
  intro j hj
  by_cases h0 : j < 12
  · have h := List.all_eq_true.mp okc_122_0 (j - 0) (List.mem_range.mpr (by omega)); rwa [show 0 + (j - 0) = j by omega] at h
  by_cases h12 : j < 14
  · have h := List.all_eq_true.mp okc_122_12 (j - 12) (List.mem_range.mpr (by omega)); rwa [show 12 + (j - 12) = j by omega] at h
  omega
theorem okc_123_0 : (List.range 12).all (fun j => okOp 123 (0 + j)) = true := by decide +kernel
theorem okc_123_12 : (List.range 1).all (fun j => okOp 123 (12 + j)) = true := by decide +kernel
theorem okj_123 : ∀ j, j < 13 → okOp 123 j = true := by
  intro j hj
  by_cases h0 : j < 12
  · have h := List.all_eq_true.mp okc_123_0 (j - 0) (List.mem_range.mpr (by omega)); rwa [show 0 + (j - 0) = j by omega] at h
  by_cases h12 : j < 13
  · have h := List.all_eq_true.mp okc_123_12 (j - 12) (List.mem_range.mpr (by omega)); rwa [show 12 + (j - 12) = j by omega] at h
  omega
theorem okc_124_0 : (List.range 12).all (fun j => okOp 124 (0 + j)) = true := by decide +kernel
theorem okc_124_12 : (List.range 12).all (fun j => okOp 124 (12 + j)) = true := by decide +kernel
theorem okc_124_24 : (List.range 12).all (fun j => okOp 124 (24 + j)) = true := by decide +kernel
theorem okc_124_36 : (List.range 12).all (fun j => okOp 124 (36 + j)) = true := by decide +kernel
theorem okc_124_48 : (List.range 12).all (fun j => okOp 124 (48 + j)) = true := by decide +kernel
theorem okc_124_60 : (List.range 5).all (fun j => okOp 124 (60 + j)) = true := by decide +kernel
theorem okj_124 : ∀ j, j < 65 → okOp 124 j = true := by
  intro j hj
  by_cases h0 : j < 12
  · have h := List.all_eq_true.mp okc_124_0 (j - 0) (List.mem_range.mpr (by omega)); rwa [show 0 + (j - 0) = j by omega] at h
  by_cases h12 : j < 24
  · have h := List.all_eq_true.mp okc_124_12 (j - 12) (List.mem_range.mpr (by omega)); rwa [show 12 + (j - 12) = j by omega] at h
  by_cases h24 : j < 36
  · have h := List.all_eq_true.mp okc_124_24 (j - 24) (List.mem_range.mpr (by omega)); rwa [show 24 + (j - 24) = j by omega] at h
  by_cases h36 : j < 48
  · have h := List.all_eq_true.mp okc_124_36 (j - 36) (List.mem_range.mpr (by omega)); rwa [show 36 + (j - 36) = j by omega] at h
  by_cases h48 : j < 60
  · have h := List.all_eq_true.mp okc_124_48 (j - 48) (List.mem_range.mpr (by omega)); rwa [show 48 + (j - 48) = j by omega] at h
  by_cases h60 : j < 65
  · have h := List.all_eq_true.mp okc_124_60 (j - 60) (List.mem_range.mpr (by omega)); rwa [show 60 + (j - 60) = j by omega] at h
  omega
theorem okc_125_0 : (List.range 12).all (fun j => okOp 125 (0 + j)) = true := by decide +kernel
theorem okc_125_12 : (List.range 12).all (fun j => okOp 125 (12 + j)) = true := by decide +kernel
theorem okc_125_24 : (List.range 12).all (fun j => okOp 125 (24 + j)) = true := by decide +kernel
theorem okc_125_36 : (List.range 12).all (fun j => okOp 125 (36 + j)) = true := by decide +kernel
theorem okc_125_48 : (List.range 12).all (fun j => okOp 125 (48 + j)) = true := by decide +kernel
theorem okc_125_60 : (List.range 10).all (fun j => okOp 125 (60 + j)) = true := by decide +kernel
theorem okj_125 : ∀ j, j < 70 → okOp 125 j = true := by
  intro j hj
  by_cases h0 : j < 12
  · have h := List.all_eq_true.mp okc_125_0 (j - 0) (List.mem_range.mpr (by omega)); rwa [show 0 + (j - 0) = j by omega] at h
  by_cases h12 : j < 24
  · have h := List.all_eq_true.mp okc_125_12 (j - 12) (List.mem_range.mpr (by omega)); rwa [show 12 + (j - 12) = j by omega] at h
  by_cases h24 : j < 36
  · have h := List.all_eq_true.mp okc_125_24 (j - 24) (List.mem_range.mpr (by omega)); rwa [show 24 + (j - 24) = j by omega] at h
  by_cases h36 : j < 48
  · have h := List.all_eq_true.mp okc_125_36 (j - 36) (List.mem_range.mpr (by omega)); rwa [show 36 + (j - 36) = j by omega] at h
  by_cases h48 : j < 60
  · have h := List.all_eq_true.mp okc_125_48 (j - 48) (List.mem_range.mpr (by omega)); rwa [show 48 + (j - 48) = j by omega] at h
  by_cases h60 : j < 70
  · have h := List.all_eq_true.mp okc_125_60 (j - 60) (List.mem_range.mpr (by omega)); rwa [show 60 + (j - 60) = j by omega] at h
  omega
theorem okc_126_0 : (List.range 12).all (fun j => okOp 126 (0 + j)) = true := by decide +kernel
theorem okc_126_12 : (List.range 12).all (fun j => okOp 126 (12 + j)) = true := by decide +kernel
theorem okc_126_24 : (List.range 10).all (fun j => okOp 126 (24 + j)) = true := by decide +kernel
theorem okj_126 : ∀ j, j < 34 → okOp 126 j = true := by
  intro j hj
  by_cases h0 : j < 12
  · have h := List.all_eq_true.mp okc_126_0 (j - 0) (List.mem_range.mpr (by omega)); rwa [show 0 + (j - 0) = j by omega] at h
  by_cases h12 : j < 24
  · have h := List.all_eq_true.mp okc_126_12 (j - 12) (List.mem_range.mpr (by omega)); rwa [show 12 + (j - 12) = j by omega] at h
  by_cases h24 : j < 34
  · have h := List.all_eq_true.mp okc_126_24 (j - 24) (List.mem_range.mpr (by omega)); rwa [show 24 + (j - 24) = j by omega] at h
  omega
theorem okc_127_0 : (List.range 12).all (fun j => okOp 127 (0 + j)) = true := by decide +kernel
theorem okc_127_12 : (List.range 12).all (fun j => okOp 127 (12 + j)) = true := by decide +kernel
theorem okc_127_24 : (List.range 4).all (fun j => okOp 127 (24 + j)) = true := by decide +kernel
theorem okj_127 : ∀ j, j < 28 → okOp 127 j = true := by
  intro j hj
  by_cases h0 : j < 12
  · have h := List.all_eq_true.mp okc_127_0 (j - 0) (List.mem_range.mpr (by omega)); rwa [show 0 + (j - 0) = j by omega] at h
  by_cases h12 : j < 24
  · have h := List.all_eq_true.mp okc_127_12 (j - 12) (List.mem_range.mpr (by omega)); rwa [show 12 + (j - 12) = j by omega] at h
  by_cases h24 : j < 28
  · have h := List.all_eq_true.mp okc_127_24 (j - 24) (List.mem_range.mpr (by omega)); rwa [show 24 + (j - 24) = j by omega] at h
  omega
theorem okc_128_0 : (List.range 12).all (fun j => okOp 128 (0 + j)) = true := by decide +kernel
theorem okc_128_12 : (List.range 12).all (fun j => okOp 128 (12 + j)) = true := by decide +kernel
theorem okc_128_24 : (List.range 12).all (fun j => okOp 128 (24 + j)) = true := by decide +kernel
theorem okc_128_36 : (List.range 12).all (fun j => okOp 128 (36 + j)) = true := by decide +kernel
theorem okc_128_48 : (List.range 12).all (fun j => okOp 128 (48 + j)) = true := by decide +kernel
theorem okc_128_60 : (List.range 12).all (fun j => okOp 128 (60 + j)) = true := by decide +kernel
theorem okc_128_72 : (List.range 12).all (fun j => okOp 128 (72 + j)) = true := by decide +kernel
theorem okc_128_84 : (List.range 12).all (fun j => okOp 128 (84 + j)) = true := by decide +kernel
theorem okc_128_96 : (List.range 4).all (fun j => okOp 128 (96 + j)) = true := by decide +kernel
theorem okj_128 : ∀ j, j < 100 → okOp 128 j = true := by
  intro j hj
  by_cases h0 : j < 12
  · have h := List.all_eq_true.mp okc_128_0 (j - 0) (List.mem_range.mpr (by omega)); rwa [show 0 + (j - 0) = j by omega] at h
  by_cases h12 : j < 24
  · have h := List.all_eq_true.mp okc_128_12 (j - 12) (List.mem_range.mpr (by omega)); rwa [show 12 + (j - 12) = j by omega] at h
  by_cases h24 : j < 36
  · have h := List.all_eq_true.mp okc_128_24 (j - 24) (List.mem_range.mpr (by omega)); rwa [show 24 + (j - 24) = j by omega] at h
  by_cases h36 : j < 48
  · have h := List.all_eq_true.mp okc_128_36 (j - 36) (List.mem_range.mpr (by omega)); rwa [show 36 + (j - 36) = j by omega] at h
  by_cases h48 : j < 60
  · have h := List.all_eq_true.mp okc_128_48 (j - 48) (List.mem_range.mpr (by omega)); rwa [show 48 + (j - 48) = j by omega] at h
  by_cases h60 : j < 72
  · have h := List.all_eq_true.mp okc_128_60 (j - 60) (List.mem_range.mpr (by omega)); rwa [show 60 + (j - 60) = j by omega] at h
  by_cases h72 : j < 84
  · have h := List.all_eq_true.mp okc_128_72 (j - 72) (List.mem_range.mpr (by omega)); rwa [show 72 + (j - 72) = j by omega] at h
  by_cases h84 : j < 96
  · have h := List.all_eq_true.mp okc_128_84 (j - 84) (List.mem_range.mpr (by omega)); rwa [show 84 + (j - 84) = j by omega] at h
  by_cases h96 : j < 100
  · have h := List.all_eq_true.mp okc_128_96 (j - 96) (List.mem_range.mpr (by omega)); rwa [show 96 + (j - 96) = j by omega] at h
  omega
theorem okc_129_0 : (List.range 12).all (fun j => okOp 129 (0 + j)) = true := by decide +kernel
theorem okc_129_12 : (List.range 12).all (fun j => okOp 129 (12 + j)) = true := by decide +kernel
theorem okc_129_24 : (List.range 12).all (fun j => okOp 129 (24 + j)) = true := by decide +kernel
theorem okc_129_36 : (List.range 12).all (fun j => okOp 129 (36 + j)) = true := by decide +kernel
theorem okc_129_48 : (List.range 12).all (fun j => okOp 129 (48 + j)) = true := by decide +kernel
theorem okc_129_60 : (List.range 12).all (fun j => okOp 129 (60 + j)) = true := by decide +kernel
theorem okc_129_72 : (List.range 12).all (fun j => okOp 129 (72 + j)) = true := by decide +kernel
theorem okc_129_84 : (List.range 12).all (fun j => okOp 129 (84 + j)) = true := by decide +kernel
theorem okc_129_96 : (List.range 3).all (fun j => okOp 129 (96 + j)) = true := by decide +kernel
theorem okj_129 : ∀ j, j < 99 → okOp 129 j = true := by
  intro j hj
  by_cases h0 : j < 12
  · have h := List.all_eq_true.mp okc_129_0 (j - 0) (List.mem_range.mpr (by omega)); rwa [show 0 + (j - 0) = j by omega] at h
  by_cases h12 : j < 24
  · have h := List.all_eq_true.mp okc_129_12 (j - 12) (List.mem_range.mpr (by omega)); rwa [show 12 + (j - 12) = j by omega] at h
  by_cases h24 : j < 36
  · have h := List.all_eq_true.mp okc_129_24 (j - 24) (List.mem_range.mpr (by omega)); rwa [show 24 + (j - 24) = j by omega] at h
  by_cases h36 : j < 48
  · have h := List.all_eq_true.mp okc_129_36 (j - 36) (List.mem_range.mpr (by omega)); rwa [show 36 + (j - 36) = j by omega] at h
  by_cases h48 : j < 60
  · have h := List.all_eq_true.mp okc_129_48 (j - 48) (List.mem_range.mpr (by omega)); rwa [show 48 + (j - 48) = j by omega] at h
  by_cases h60 : j < 72
  · have h := List.all_eq_true.mp okc_129_60 (j - 60) (List.mem_range.mpr (by omega)); rwa [show 60 + (j - 60) = j by omega] at h
  by_cases h72 : j < 84
  · have h := List.all_eq_true.mp okc_129_72 (j - 72) (List.mem_range.mpr (by omega)); rwa [show 72 + (j - 72) = j by omega] at h
  by_cases h84 : j < 96
  · have h := List.all_eq_true.mp okc_129_84 (j - 84) (List.mem_range.mpr (by omega)); rwa [show 84 + (j - 84) = j by omega] at h
  by_cases h96 : j < 99
  · have h := List.all_eq_true.mp okc_129_96 (j - 96) (List.mem_range.mpr (by omega)); rwa [show 96 + (j - 96) = j by omega] at h
  omega
theorem okc_130_0 : (List.range 12).all (fun j => okOp 130 (0 + j)) = true := by decide +kernel
theorem okc_130_12 : (List.range 12).all (fun j => okOp 130 (12 + j)) = true := by decide +kernel
theorem okc_130_24 : (List.range 5).all (fun j => okOp 130 (24 + j)) = true := by decide +kernel
theorem okj_130 : ∀ j, j < 29 → okOp 130 j = true := by
  intro j hj
  by_cases h0 : j < 12
  · have h := List.all_eq_true.mp okc_130_0 (j - 0) (List.mem_range.mpr (by omega)); rwa [show 0 + (j - 0) = j by omega] at h
  by_cases h12 : j < 24
  · have h := List.all_eq_true.mp okc_130_12 (j - 12) (List.mem_range.mpr (by omega)); rwa [show 12 + (j - 12) = j by omega] at h
  by_cases h24 : j < 29
  · have h := List.all_eq_true.mp okc_130_24 (j - 24) (List.mem_range.mpr (by omega)); rwa [show 24 + (j - 24) = j by omega] at h
  omega
theorem okc_131_0 : (List.range 12).all (fun j => okOp 131 (0 + j)) = true := by decide +kernel
theorem okc_131_12 : (List.range 12).all (fun j => okOp 131 (12 + j)) = true := by decide +kernel
theorem okc_131_24 : (List.range 12).all (fun j => okOp 131 (24 + j)) = true := by decide +kernel
theorem okc_131_36 : (List.range 5).all (fun j => okOp 131 (36 + j)) = true := by decide +kernel
theorem okj_131 : ∀ j, j < 41 → okOp 131 j = true := by
  intro j hj
  by_cases h0 : j < 12
  · have h := List.all_eq_true.mp okc_131_0 (j - 0) (List.mem_range.mpr (by omega)); rwa [show 0 + (j - 0) = j by omega] at h
  by_cases h12 : j < 24
  · have h := List.all_eq_true.mp okc_131_12 (j - 12) (List.mem_range.mpr (by omega)); rwa [show 12 + (j - 12) = j by omega] at h
  by_cases h24 : j < 36
  · have h := List.all_eq_true.mp okc_131_24 (j - 24) (List.mem_range.mpr (by omega)); rwa [show 24 + (j - 24) = j by omega] at h
  by_cases h36 : j < 41
  · have h := List.all_eq_true.mp okc_131_36 (j - 36) (List.mem_range.mpr (by omega)); rwa [show 36 + (j - 36) = j by omega] at h
  omega
theorem okc_132_0 : (List.range 12).all (fun j => okOp 132 (0 + j)) = true := by decide +kernel
theorem okc_132_12 : (List.range 12).all (fun j => okOp 132 (12 + j)) = true := by decide +kernel
theorem okj_132 : ∀ j, j < 24 → okOp 132 j = true := by
  intro j hj
  by_cases h0 : j < 12
  · have h := List.all_eq_true.mp okc_132_0 (j - 0) (List.mem_range.mpr (by omega)); rwa [show 0 + (j - 0) = j by omega] at h
  by_cases h12 : j < 24
  · have h := List.all_eq_true.mp okc_132_12 (j - 12) (List.mem_range.mpr (by omega)); rwa [show 12 + (j - 12) = j by omega] at h
  omega
theorem okc_133_0 : (List.range 12).all (fun j => okOp 133 (0 + j)) = true := by decide +kernel
theorem okc_133_12 : (List.range 12).all (fun j => okOp 133 (12 + j)) = true := by decide +kernel
theorem okc_133_24 : (List.range 12).all (fun j => okOp 133 (24 + j)) = true := by decide +kernel
theorem okc_133_36 : (List.range 12).all (fun j => okOp 133 (36 + j)) = true := by decide +kernel
theorem okc_133_48 : (List.range 10).all (fun j => okOp 133 (48 + j)) = true := by decide +kernel
theorem okj_133 : ∀ j, j < 58 → okOp 133 j = true := by
  intro j hj
  by_cases h0 : j < 12
  · have h := List.all_eq_true.mp okc_133_0 (j - 0) (List.mem_range.mpr (by omega)); rwa [show 0 + (j - 0) = j by omega] at h
  by_cases h12 : j < 24
  · have h := List.all_eq_true.mp okc_133_12 (j - 12) (List.mem_range.mpr (by omega)); rwa [show 12 + (j - 12) = j by omega] at h
  by_cases h24 : j < 36
  · have h := List.all_eq_true.mp okc_133_24 (j - 24) (List.mem_range.mpr (by omega)); rwa [show 24 + (j - 24) = j by omega] at h
  by_cases h36 : j < 48
  · have h := List.all_eq_true.mp okc_133_36 (j - 36) (List.mem_range.mpr (by omega)); rwa [show 36 + (j - 36) = j by omega] at h
  by_cases h48 : j < 58
  · have h := List.all_eq_true.mp okc_133_48 (j - 48) (List.mem_range.mpr (by omega)); rwa [show 48 + (j - 48) = j by omega] at h
  omega
theorem okc_134_0 : (List.range 12).all (fun j => okOp 134 (0 + j)) = true := by decide +kernel
theorem okc_134_12 : (List.range 12).all (fun j => okOp 134 (12 + j)) = true := by decide +kernel
theorem okc_134_24 : (List.range 12).all (fun j => okOp 134 (24 + j)) = true := by decide +kernel
theorem okc_134_36 : (List.range 12).all (fun j => okOp 134 (36 + j)) = true := by decide +kernel
theorem okc_134_48 : (List.range 12).all (fun j => okOp 134 (48 + j)) = true := by decide +kernel
theorem okc_134_60 : (List.range 3).all (fun j => okOp 134 (60 + j)) = true := by decide +kernel
theorem okj_134 : ∀ j, j < 63 → okOp 134 j = true := by
  intro j hj
  by_cases h0 : j < 12
  · have h := List.all_eq_true.mp okc_134_0 (j - 0) (List.mem_range.mpr (by omega)); rwa [show 0 + (j - 0) = j by omega] at h
  by_cases h12 : j < 24
  · have h := List.all_eq_true.mp okc_134_12 (j - 12) (List.mem_range.mpr (by omega)); rwa [show 12 + (j - 12) = j by omega] at h
  by_cases h24 : j < 36
  · have h := List.all_eq_true.mp okc_134_24 (j - 24) (List.mem_range.mpr (by omega)); rwa [show 24 + (j - 24) = j by omega] at h
  by_cases h36 : j < 48
  · have h := List.all_eq_true.mp okc_134_36 (j - 36) (List.mem_range.mpr (by omega)); rwa [show 36 + (j - 36) = j by omega] at h
  by_cases h48 : j < 60
  · have h := List.all_eq_true.mp okc_134_48 (j - 48) (List.mem_range.mpr (by omega)); rwa [show 48 + (j - 48) = j by omega] at h
  by_cases h60 : j < 63
  · have h := List.all_eq_true.mp okc_134_60 (j - 60) (List.mem_range.mpr (by omega)); rwa [show 60 + (j - 60) = j by omega] at h
  omega
theorem okc_135_0 : (List.range 12).all (fun j => okOp 135 (0 + j)) = true := by decide +kernel
theorem okc_135_12 : (List.range 12).all (fun j => okOp 135 (12 + j)) = true := by decide +kernel
theorem okc_135_24 : (List.range 12).all (fun j => okOp 135 (24 + j)) = true := by decide +kernel
theorem okc_135_36 : (List.range 12).all (fun j => okOp 135 (36 + j)) = true := by decide +kernel
theorem okc_135_48 : (List.range 5).all (fun j => okOp 135 (48 + j)) = true := by decide +kernel
theorem okj_135 : ∀ j, j < 53 → okOp 135 j = true := by
  intro j hj
  by_cases h0 : j < 12
  · have h := List.all_eq_true.mp okc_135_0 (j - 0) (List.mem_range.mpr (by omega)); rwa [show 0 + (j - 0) = j by omega] at h
  by_cases h12 : j < 24
  · have h := List.all_eq_true.mp okc_135_12 (j - 12) (List.mem_range.mpr (by omega)); rwa [show 12 + (j - 12) = j by omega] at h
  by_cases h24 : j < 36
  · have h := List.all_eq_true.mp okc_135_24 (j - 24) (List.mem_range.mpr (by omega)); rwa [show 24 + (j - 24) = j by omega] at h
  by_cases h36 : j < 48
  · have h := List.all_eq_true.mp okc_135_36 (j - 36) (List.mem_range.mpr (by omega)); rwa [show 36 + (j - 36) = j by omega] at h
  by_cases h48 : j < 53
  · have h := List.all_eq_true.mp okc_135_48 (j - 48) (List.mem_range.mpr (by omega)); rwa [show 48 + (j - 48) = j by omega] at h
  omega
theorem okc_136_0 : (List.range 5).all (fun j => okOp 136 (0 + j)) = true := by decide +kernel
theorem okj_136 : ∀ j, j < 5 → okOp 136 j = true := by
  intro j hj
  by_cases h0 : j < 5
  · have h := List.all_eq_true.mp okc_136_0 (j - 0) (List.mem_range.mpr (by omega)); rwa [show 0 + (j - 0) = j by omega] at h
  omega
theorem okc_137_0 : (List.range 9).all (fun j => okOp 137 (0 + j)) = true := by decide +kernel
theorem okj_137 : ∀ j, j < 9 → okOp 137 j = true := by
  intro j hj
  by_cases h0 : j < 9
  · have h := List.all_eq_true.mp okc_137_0 (j - 0) (List.mem_range.mpr (by omega)); rwa [show 0 + (j - 0) = j by omega] at h
  omega
theorem okc_138_0 : (List.range 12).all (fun j => okOp 138 (0 + j)) = true := by decide +kernel
theorem okc_138_12 : (List.range 12).all (fun j => okOp 138 (12 + j)) = true := by decide +kernel
theorem okc_138_24 : (List.range 12).all (fun j => okOp 138 (24 + j)) = true := by decide +kernel
theorem okc_138_36 : (List.range 2).all (fun j => okOp 138 (36 + j)) = true := by decide +kernel
theorem okj_138 : ∀ j, j < 38 → okOp 138 j = true := by
  intro j hj
  by_cases h0 : j < 12
  · have h := List.all_eq_true.mp okc_138_0 (j - 0) (List.mem_range.mpr (by omega)); rwa [show 0 + (j - 0) = j by omega] at h
  by_cases h12 : j < 24
  · have h := List.all_eq_true.mp okc_138_12 (j - 12) (List.mem_range.mpr (by omega)); rwa [show 12 + (j - 12) = j by omega] at h
  by_cases h24 : j < 36
  · have h := List.all_eq_true.mp okc_138_24 (j - 24) (List.mem_range.mpr (by omega)); rwa [show 24 + (j - 24) = j by omega] at h
  by_cases h36 : j < 38
  · have h := List.all_eq_true.mp okc_138_36 (j - 36) (List.mem_range.mpr (by omega)); rwa [show 36 + (j - 36) = j by omega] at h
  omega
theorem okc_139_0 : (List.range 12).all (fun j => okOp 139 (0 + j)) = true := by decide +kernel
theorem okc_139_12 : (List.range 12).all (fun j => okOp 139 (12 + j)) = true := by decide +kernel
theorem okc_139_24 : (List.range 12).all (fun j => okOp 139 (24 + j)) = true := by decide +kernel
theorem okc_139_36 : (List.range 12).all (fun j => okOp 139 (36 + j)) = true := by decide +kernel
theorem okc_139_48 : (List.range 12).all (fun j => okOp 139 (48 + j)) = true := by decide +kernel
theorem okc_139_60 : (List.range 12).all (fun j => okOp 139 (60 + j)) = true := by decide +kernel
theorem okc_139_72 : (List.range 12).all (fun j => okOp 139 (72 + j)) = true := by decide +kernel
theorem okc_139_84 : (List.range 12).all (fun j => okOp 139 (84 + j)) = true := by decide +kernel
theorem okc_139_96 : (List.range 12).all (fun j => okOp 139 (96 + j)) = true := by decide +kernel
theorem okc_139_108 : (List.range 12).all (fun j => okOp 139 (108 + j)) = true := by decide +kernel
theorem okc_139_120 : (List.range 3).all (fun j => okOp 139 (120 + j)) = true := by decide +kernel
theorem okj_139 : ∀ j, j < 123 → okOp 139 j = true := by
  intro j hj
  by_cases h0 : j < 12
  · have h := List.all_eq_true.mp okc_139_0 (j - 0) (List.mem_range.mpr (by omega)); rwa [show 0 + (j - 0) = j by omega] at h
  by_cases h12 : j < 24
  · have h := List.all_eq_true.mp okc_139_12 (j - 12) (List.mem_range.mpr (by omega)); rwa [show 12 + (j - 12) = j by omega] at h
  by_cases h24 : j < 36
  · have h := List.all_eq_true.mp okc_139_24 (j - 24) (List.mem_range.mpr (by omega)); rwa [show 24 + (j - 24) = j by omega] at h
  by_cases h36 : j < 48
  · have h := List.all_eq_true.mp okc_139_36 (j - 36) (List.mem_range.mpr (by omega)); rwa [show 36 + (j - 36) = j by omega] at h
  by_cases h48 : j < 60
  · have h := List.all_eq_true.mp okc_139_48 (j - 48) (List.mem_range.mpr (by omega)); rwa [show 48 + (j - 48) = j by omega] at h
  by_cases h60 : j < 72
  · have h := List.all_eq_true.mp okc_139_60 (j - 60) (List.mem_range.mpr (by omega)); rwa [show 60 + (j - 60) = j by omega] at h
  by_cases h72 : j < 84
  · have h := List.all_eq_true.mp okc_139_72 (j - 72) (List.mem_range.mpr (by omega)); rwa [show 72 + (j - 72) = j by omega] at h
  by_cases h84 : j < 96
  · have h := List.all_eq_true.mp okc_139_84 (j - 84) (List.mem_range.mpr (by omega)); rwa [show 84 + (j - 84) = j by omega] at h
  by_cases h96 : j < 108
  · have h := List.all_eq_true.mp okc_139_96 (j - 96) (List.mem_range.mpr (by omega)); rwa [show 96 + (j - 96) = j by omega] at h
  by_cases h108 : j < 120
  · have h := List.all_eq_true.mp okc_139_108 (j - 108) (List.mem_range.mpr (by omega)); rwa [show 108 + (j - 108) = j by omega] at h
  by_cases h120 : j < 123
  · have h := List.all_eq_true.mp okc_139_120 (j - 120) (List.mem_range.mpr (by omega)); rwa [show 120 + (j - 120) = j by omega] at h
  omega
theorem okc_140_0 : (List.range 12).all (fun j => okOp 140 (0 + j)) = true := by decide +kernel
theorem okc_140_12 : (List.range 12).all (fun j => okOp 140 (12 + j)) = true := by decide +kernel
theorem okc_140_24 : (List.range 12).all (fun j => okOp 140 (24 + j)) = true := by decide +kernel
theorem okc_140_36 : (List.range 12).all (fun j => okOp 140 (36 + j)) = true := by decide +kernel
theorem okc_140_48 : (List.range 10).all (fun j => okOp 140 (48 + j)) = true := by decide +kernel
theorem okj_140 : ∀ j, j < 58 → okOp 140 j = true := by
  intro j hj
  by_cases h0 : j < 12
  · have h := List.all_eq_true.mp okc_140_0 (j - 0) (List.mem_range.mpr (by omega)); rwa [show 0 + (j - 0) = j by omega] at h
  by_cases h12 : j < 24
  · have h := List.all_eq_true.mp okc_140_12 (j - 12) (List.mem_range.mpr (by omega)); rwa [show 12 + (j - 12) = j by omega] at h
  by_cases h24 : j < 36
  · have h := List.all_eq_true.mp okc_140_24 (j - 24) (List.mem_range.mpr (by omega)); rwa [show 24 + (j - 24) = j by omega] at h
  by_cases h36 : j < 48
  · have h := List.all_eq_true.mp okc_140_36 (j - 36) (List.mem_range.mpr (by omega)); rwa [show 36 + (j - 36) = j by omega] at h
  by_cases h48 : j < 58
  · have h := List.all_eq_true.mp okc_140_48 (j - 48) (List.mem_range.mpr (by omega)); rwa [show 48 + (j - 48) = j by omega] at h
  omega
theorem okc_141_0 : (List.range 7).all (fun j => okOp 141 (0 + j)) = true := by decide +kernel
theorem okj_141 : ∀ j, j < 7 → okOp 141 j = true := by
  intro j hj
  by_cases h0 : j < 7
  · have h := List.all_eq_true.mp okc_141_0 (j - 0) (List.mem_range.mpr (by omega)); rwa [show 0 + (j - 0) = j by omega] at h
  omega
theorem okc_142_0 : (List.range 12).all (fun j => okOp 142 (0 + j)) = true := by decide +kernel
theorem okc_142_12 : (List.range 7).all (fun j => okOp 142 (12 + j)) = true := by decide +kernel
theorem okj_142 : ∀ j, j < 19 → okOp 142 j = true := by
  intro j hj
  by_cases h0 : j < 12
  · have h := List.all_eq_true.mp okc_142_0 (j - 0) (List.mem_range.mpr (by omega)); rwa [show 0 + (j - 0) = j by omega] at h
  by_cases h12 : j < 19
  · have h := List.all_eq_true.mp okc_142_12 (j - 12) (List.mem_range.mpr (by omega)); rwa [show 12 + (j - 12) = j by omega] at h
  omega
theorem okc_143_0 : (List.range 12).all (fun j => okOp 143 (0 + j)) = true := by decide +kernel
theorem okc_143_12 : (List.range 7).all (fun j => okOp 143 (12 + j)) = true := by decide +kernel
theorem okj_143 : ∀ j, j < 19 → okOp 143 j = true := by
  intro j hj
  by_cases h0 : j < 12
  · have h := List.all_eq_true.mp okc_143_0 (j - 0) (List.mem_range.mpr (by omega)); rwa [show 0 + (j - 0) = j by omega] at h
  by_cases h12 : j < 19
  · have h := List.all_eq_true.mp okc_143_12 (j - 12) (List.mem_range.mpr (by omega)); rwa [show 12 + (j - 12) = j by omega] at h
  omega
theorem okc_144_0 : (List.range 12).all (fun j => okOp 144 (0 + j)) = true := by decide +kernel
theorem okc_144_12 : (List.range 9).all (fun j => okOp 144 (12 + j)) = true := by decide +kernel
theorem okj_144 : ∀ j, j < 21 → okOp 144 j = true := by
  intro j hj
  by_cases h0 : j < 12
  · have h := List.all_eq_true.mp okc_144_0 (j - 0) (List.mem_range.mpr (by omega)); rwa [show 0 + (j - 0) = j by omega] at h
  by_cases h12 : j < 21
  · have h := List.all_eq_true.mp okc_144_12 (j - 12) (List.mem_range.mpr (by omega)); rwa [show 12 + (j - 12) = j by omega] at h
  omega
theorem okc_145_0 : (List.range 12).all (fun j => okOp 145 (0 + j)) = true := by decide +kernel
theorem okc_145_12 : (List.range 12).all (fun j => okOp 145 (12 + j)) = true := by decide +kernel
theorem okc_145_24 : (List.range 12).all (fun j => okOp 145 (24 + j)) = true := by decide +kernel
theorem okc_145_36 : (List.range 12).all (fun j => okOp 145 (36 + j)) = true := by decide +kernel
theorem okc_145_48 : (List.range 2).all (fun j => okOp 145 (48 + j)) = true := by decide +kernel
theorem okj_145 : ∀ j, j < 50 → okOp 145 j = true := by
  intro j hj
  by_cases h0 : j < 12
  · have h := List.all_eq_true.mp okc_145_0 (j - 0) (List.mem_range.mpr (by omega)); rwa [show 0 + (j - 0) = j by omega] at h
  by_cases h12 : j < 24
  · have h := List.all_eq_true.mp okc_145_12 (j - 12) (List.mem_range.mpr (by omega)); rwa [show 12 + (j - 12) = j by omega] at h
  by_cases h24 : j < 36
  · have h := List.all_eq_true.mp okc_145_24 (j - 24) (List.mem_range.mpr (by omega)); rwa [show 24 + (j - 24) = j by omega] at h
  by_cases h36 : j < 48
  · have h := List.all_eq_true.mp okc_145_36 (j - 36) (List.mem_range.mpr (by omega)); rwa [show 36 + (j - 36) = j by omega] at h
  by_cases h48 : j < 50
  · have h := List.all_eq_true.mp okc_145_48 (j - 48) (List.mem_range.mpr (by omega)); rwa [show 48 + (j - 48) = j by omega] at h
  omega
theorem okc_146_0 : (List.range 12).all (fun j => okOp 146 (0 + j)) = true := by decide +kernel
theorem okc_146_12 : (List.range 12).all (fun j => okOp 146 (12 + j)) = true := by decide +kernel
theorem okc_146_24 : (List.range 12).all (fun j => okOp 146 (24 + j)) = true := by decide +kernel
theorem okc_146_36 : (List.range 11).all (fun j => okOp 146 (36 + j)) = true := by decide +kernel
theorem okj_146 : ∀ j, j < 47 → okOp 146 j = true := by
  intro j hj
  by_cases h0 : j < 12
  · have h := List.all_eq_true.mp okc_146_0 (j - 0) (List.mem_range.mpr (by omega)); rwa [show 0 + (j - 0) = j by omega] at h
  by_cases h12 : j < 24
  · have h := List.all_eq_true.mp okc_146_12 (j - 12) (List.mem_range.mpr (by omega)); rwa [show 12 + (j - 12) = j by omega] at h
  by_cases h24 : j < 36
  · have h := List.all_eq_true.mp okc_146_24 (j - 24) (List.mem_range.mpr (by omega)); rwa [show 24 + (j - 24) = j by omega] at h
  by_cases h36 : j < 47
  · have h := List.all_eq_true.mp okc_146_36 (j - 36) (List.mem_range.mpr (by omega)); rwa [show 36 + (j - 36) = j by omega] at h
  omega
theorem okc_147_0 : (List.range 12).all (fun j => okOp 147 (0 + j)) = true := by decide +kernel
theorem okc_147_12 : (List.range 12).all (fun j => okOp 147 (12 + j)) = true := by decide +kernel
theorem okc_147_24 : (List.range 12).all (fun j => okOp 147 (24 + j)) = true := by decide +kernel
theorem okc_147_36 : (List.range 12).all (fun j => okOp 147 (36 + j)) = true := by decide +kernel
theorem okc_147_48 : (List.range 12).all (fun j => okOp 147 (48 + j)) = true := by decide +kernel
theorem okc_147_60 : (List.range 12).all (fun j => okOp 147 (60 + j)) = true := by decide +kernel
theorem okc_147_72 : (List.range 8).all (fun j => okOp 147 (72 + j)) = true := by decide +kernel
theorem okj_147 : ∀ j, j < 80 → okOp 147 j = true := by
  intro j hj
  by_cases h0 : j < 12
  · have h := List.all_eq_true.mp okc_147_0 (j - 0) (List.mem_range.mpr (by omega)); rwa [show 0 + (j - 0) = j by omega] at h
  by_cases h12 : j < 24
  · have h := List.all_eq_true.mp okc_147_12 (j - 12) (List.mem_range.mpr (by omega)); rwa [show 12 + (j - 12) = j by omega] at h
  by_cases h24 : j < 36
  · have h := List.all_eq_true.mp okc_147_24 (j - 24) (List.mem_range.mpr (by omega)); rwa [show 24 + (j - 24) = j by omega] at h
  by_cases h36 : j < 48
  · have h := List.all_eq_true.mp okc_147_36 (j - 36) (List.mem_range.mpr (by omega)); rwa [show 36 + (j - 36) = j by omega] at h
  by_cases h48 : j < 60
  · have h := List.all_eq_true.mp okc_147_48 (j - 48) (List.mem_range.mpr (by omega)); rwa [show 48 + (j - 48) = j by omega] at h
  by_cases h60 : j < 72
  · have h := List.all_eq_true.mp okc_147_60 (j - 60) (List.mem_range.mpr (by omega)); rwa [show 60 + (j - 60) = j by omega] at h
  by_cases h72 : j < 80
  · have h := List.all_eq_true.mp okc_147_72 (j - 72) (List.mem_range.mpr (by omega)); rwa [show 72 + (j - 72) = j by omega] at h
  omega
theorem okc_148_0 : (List.range 12).all (fun j => okOp 148 (0 + j)) = true := by decide +kernel
theorem okc_148_12 : (List.range 12).all (fun j => okOp 148 (12 + j)) = true := by decide +kernel
theorem okc_148_24 : (List.range 12).all (fun j => okOp 148 (24 + j)) = true := by decide +kernel
theorem okc_148_36 : (List.range 12).all (fun j => okOp 148 (36 + j)) = true := by decide +kernel
theorem okc_148_48 : (List.range 12).all (fun j => okOp 148 (48 + j)) = true := by decide +kernel
theorem okc_148_60 : (List.range 12).all (fun j => okOp 148 (60 + j)) = true := by decide +kernel
theorem okc_148_72 : (List.range 9).all (fun j => okOp 148 (72 + j)) = true := by decide +kernel
theorem okj_148 : ∀ j, j < 81 → okOp 148 j = true := by
  intro j hj
  by_cases h0 : j < 12
  · have h := List.all_eq_true.mp okc_148_0 (j - 0) (List.mem_range.mpr (by omega)); rwa [show 0 + (j - 0) = j by omega] at h
  by_cases h12 : j < 24
  · have h := List.all_eq_true.mp okc_148_12 (j - 12) (List.mem_range.mpr (by omega)); rwa [show 12 + (j - 12) = j by omega] at h
  by_cases h24 : j < 36
  · have h := List.all_eq_true.mp okc_148_24 (j - 24) (List.mem_range.mpr (by omega)); rwa [show 24 + (j - 24) = j by omega] at h
  by_cases h36 : j < 48
  · have h := List.all_eq_true.mp okc_148_36 (j - 36) (List.mem_range.mpr (by omega)); rwa [show 36 + (j - 36) = j by omega] at h
  by_cases h48 : j < 60
  · have h := List.all_eq_true.mp okc_148_48 (j - 48) (List.mem_range.mpr (by omega)); rwa [show 48 + (j - 48) = j by omega] at h
  by_cases h60 : j < 72
  · have h := List.all_eq_true.mp okc_148_60 (j - 60) (List.mem_range.mpr (by omega)); rwa [show 60 + (j - 60) = j by omega] at h
  by_cases h72 : j < 81
  · have h := List.all_eq_true.mp okc_148_72 (j - 72) (List.mem_range.mpr (by omega)); rwa [show 72 + (j - 72) = j by omega] at h
  omega
theorem okc_149_0 : (List.range 12).all (fun j => okOp 149 (0 + j)) = true := by decide +kernel
theorem okc_149_12 : (List.range 5).all (fun j => okOp 149 (12 + j)) = true := by decide +kernel
theorem okj_149 : ∀ j, j < 17 → okOp 149 j = true := by
  intro j hj
  by_cases h0 : j < 12
  · have h := List.all_eq_true.mp okc_149_0 (j - 0) (List.mem_range.mpr (by omega)); rwa [show 0 + (j - 0) = j by omega] at h
  by_cases h12 : j < 17
  · have h := List.all_eq_true.mp okc_149_12 (j - 12) (List.mem_range.mpr (by omega)); rwa [show 12 + (j - 12) = j by omega] at h
  omega
theorem okc_150_0 : (List.range 12).all (fun j => okOp 150 (0 + j)) = true := by decide +kernel
theorem okc_150_12 : (List.range 5).all (fun j => okOp 150 (12 + j)) = true := by decide +kernel
theorem okj_150 : ∀ j, j < 17 → okOp 150 j = true := by
  intro j hj
  by_cases h0 : j < 12
  · have h := List.all_eq_true.mp okc_150_0 (j - 0) (List.mem_range.mpr (by omega)); rwa [show 0 + (j - 0) = j by omega] at h
  by_cases h12 : j < 17
  · have h := List.all_eq_true.mp okc_150_12 (j - 12) (List.mem_range.mpr (by omega)); rwa [show 12 + (j - 12) = j by omega] at h
  omega
theorem okc_151_0 : (List.range 12).all (fun j => okOp 151 (0 + j)) = true := by decide +kernel
theorem okc_151_12 : (List.range 12).all (fun j => okOp 151 (12 + j)) = true := by decide +kernel
theorem okc_151_24 : (List.range 12).all (fun j => okOp 151 (24 + j)) = true := by decide +kernel
theorem okc_151_36 : (List.range 2).all (fun j => okOp 151 (36 + j)) = true := by decide +kernel
theorem okj_151 : ∀ j, j < 38 → okOp 151 j = true := by
  intro j hj
  by_cases h0 : j < 12
  · have h := List.all_eq_true.mp okc_151_0 (j - 0) (List.mem_range.mpr (by omega)); rwa [show 0 + (j - 0) = j by omega] at h
  by_cases h12 : j < 24
  · have h := List.all_eq_true.mp okc_151_12 (j - 12) (List.mem_range.mpr (by omega)); rwa [show 12 + (j - 12) = j by omega] at h
  by_cases h24 : j < 36
  · have h := List.all_eq_true.mp okc_151_24 (j - 24) (List.mem_range.mpr (by omega)); rwa [show 24 + (j - 24) = j by omega] at h
  by_cases h36 : j < 38
  · have h := List.all_eq_true.mp okc_151_36 (j - 36) (List.mem_range.mpr (by omega)); rwa [show 36 + (j - 36) = j by omega] at h
  omega
theorem okc_152_0 : (List.range 12).all (fun j => okOp 152 (0 + j)) = true := by decide +kernel
theorem okc_152_12 : (List.range 12).all (fun j => okOp 152 (12 + j)) = true := by decide +kernel
theorem okc_152_24 : (List.range 12).all (fun j => okOp 152 (24 + j)) = true := by decide +kernel
theorem okc_152_36 : (List.range 10).all (fun j => okOp 152 (36 + j)) = true := by decide +kernel
theorem okj_152 : ∀ j, j < 46 → okOp 152 j = true := by
  intro j hj
  by_cases h0 : j < 12
  · have h := List.all_eq_true.mp okc_152_0 (j - 0) (List.mem_range.mpr (by omega)); rwa [show 0 + (j - 0) = j by omega] at h
  by_cases h12 : j < 24
  · have h := List.all_eq_true.mp okc_152_12 (j - 12) (List.mem_range.mpr (by omega)); rwa [show 12 + (j - 12) = j by omega] at h
  by_cases h24 : j < 36
  · have h := List.all_eq_true.mp okc_152_24 (j - 24) (List.mem_range.mpr (by omega)); rwa [show 24 + (j - 24) = j by omega] at h
  by_cases h36 : j < 46
  · have h := List.all_eq_true.mp okc_152_36 (j - 36) (List.mem_range.mpr (by omega)); rwa [show 36 + (j - 36) = j by omega] at h
  omega
