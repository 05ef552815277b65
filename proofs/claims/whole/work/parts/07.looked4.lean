-- ===== the looking through, method by method, 4 =====
theorem okc_153_0 : (List.range 12).all (fun j => okOp 153 (0 + j)) = true := by decide +kernel
theorem okc_153_12 : (List.range 12).all (fun j => okOp 153 (12 + j)) = true := by decide +kernel
theorem okc_153_24 : (List.range 9).all (fun j => okOp 153 (24 + j)) = true := by decide +kernel
theorem okj_153 : ∀ j, j < 33 → okOp 153 j = true := by
  intro j hj
  by_cases h0 : j < 12
  · have h := List.all_eq_true.mp okc_153_0 (j - 0) (List.mem_range.mpr (by omega)); rwa [show 0 + (j - 0) = j by omega] at h
  by_cases h12 : j < 24
  · have h := List.all_eq_true.mp okc_153_12 (j - 12) (List.mem_range.mpr (by omega)); rwa [show 12 + (j - 12) = j by omega] at h
  by_cases h24 : j < 33
  · have h := List.all_eq_true.mp okc_153_24 (j - 24) (List.mem_range.mpr (by omega)); rwa [show 24 + (j - 24) = j by omega] at h
  omega
theorem okc_154_0 : (List.range 12).all (fun j => okOp 154 (0 + j)) = true := by decide +kernel
theorem okc_154_12 : (List.range 12).all (fun j => okOp 154 (12 + j)) = true := by decide +kernel
theorem okc_154_24 : (List.range 12).all (fun j => okOp 154 (24 + j)) = true := by decide +kernel
theorem okc_154_36 : (List.range 4).all (fun j => okOp 154 (36 + j)) = true := by decide +kernel
theorem okj_154 : ∀ j, j < 40 → okOp 154 j = true := by
  intro j hj
  by_cases h0 : j < 12
  · have h := List.all_eq_true.mp okc_154_0 (j - 0) (List.mem_range.mpr (by omega)); rwa [show 0 + (j - 0) = j by omega] at h
  by_cases h12 : j < 24
  · have h := List.all_eq_true.mp okc_154_12 (j - 12) (List.mem_range.mpr (by omega)); rwa [show 12 + (j - 12) = j by omega] at h
  by_cases h24 : j < 36
  · have h := List.all_eq_true.mp okc_154_24 (j - 24) (List.mem_range.mpr (by omega)); rwa [show 24 + (j - 24) = j by omega] at h
  by_cases h36 : j < 40
  · have h := List.all_eq_true.mp okc_154_36 (j - 36) (List.mem_range.mpr (by omega)); rwa [show 36 + (j - 36) = j by omega] at h
  omega
theorem okc_155_0 : (List.range 12).all (fun j => okOp 155 (0 + j)) = true := by decide +kernel
theorem okc_155_12 : (List.range 12).all (fun j => okOp 155 (12 + j)) = true := by decide +kernel
theorem okc_155_24 : (List.range 12).all (fun j => okOp 155 (24 + j)) = true := by decide +kernel
theorem okc_155_36 : (List.range 4).all (fun j => okOp 155 (36 + j)) = true := by decide +kernel
theorem okj_155 : ∀ j, j < 40 → okOp 155 j = true := by
  intro j hj
  by_cases h0 : j < 12
  · have h := List.all_eq_true.mp okc_155_0 (j - 0) (List.mem_range.mpr (by omega)); rwa [show 0 + (j - 0) = j by omega] at h
  by_cases h12 : j < 24
  · have h := List.all_eq_true.mp okc_155_12 (j - 12) (List.mem_range.mpr (by omega)); rwa [show 12 + (j - 12) = j by omega] at h
  by_cases h24 : j < 36
  · have h := List.all_eq_true.mp okc_155_24 (j - 24) (List.mem_range.mpr (by omega)); rwa [show 24 + (j - 24) = j by omega] at h
  by_cases h36 : j < 40
  · have h := List.all_eq_true.mp okc_155_36 (j - 36) (List.mem_range.mpr (by omega)); rwa [show 36 + (j - 36) = j by omega] at h
  omega
theorem okc_156_0 : (List.range 12).all (fun j => okOp 156 (0 + j)) = true := by decide +kernel
theorem okc_156_12 : (List.range 12).all (fun j => okOp 156 (12 + j)) = true := by decide +kernel
theorem okc_156_24 : (List.range 12).all (fun j => okOp 156 (24 + j)) = true := by decide +kernel
theorem okc_156_36 : (List.range 12).all (fun j => okOp 156 (36 + j)) = true := by decide +kernel
theorem okc_156_48 : (List.range 12).all (fun j => okOp 156 (48 + j)) = true := by decide +kernel
theorem okc_156_60 : (List.range 9).all (fun j => okOp 156 (60 + j)) = true := by decide +kernel
theorem okj_156 : ∀ j, j < 69 → okOp 156 j = true := by
  intro j hj
  by_cases h0 : j < 12
  · have h := List.all_eq_true.mp okc_156_0 (j - 0) (List.mem_range.mpr (by omega)); rwa [show 0 + (j - 0) = j by omega] at h
  by_cases h12 : j < 24
  · have h := List.all_eq_true.mp okc_156_12 (j - 12) (List.mem_range.mpr (by omega)); rwa [show 12 + (j - 12) = j by omega] at h
  by_cases h24 : j < 36
  · have h := List.all_eq_true.mp okc_156_24 (j - 24) (List.mem_range.mpr (by omega)); rwa [show 24 + (j - 24) = j by omega] at h
  by_cases h36 : j < 48
  · have h := List.all_eq_true.mp okc_156_36 (j - 36) (List.mem_range.mpr (by omega)); rwa [show 36 + (j - 36) = j by omega] at h
  by_cases h48 : j < 60
  · have h := List.all_eq_true.mp okc_156_48 (j - 48) (List.mem_range.mpr (by omega)); rwa [show 48 + (j - 48) = j by omega] at h
  by_cases h60 : j < 69
  · have h := List.all_eq_true.mp okc_156_60 (j - 60) (List.mem_range.mpr (by omega)); rwa [show 60 + (j - 60) = j by omega] at h
  omega
theorem okc_157_0 : (List.range 12).all (fun j => okOp 157 (0 + j)) = true := by decide +kernel
theorem okc_157_12 : (List.range 12).all (fun j => okOp 157 (12 + j)) = true := by decide +kernel
theorem okc_157_24 : (List.range 1).all (fun j => okOp 157 (24 + j)) = true := by decide +kernel
theorem okj_157 : ∀ j, j < 25 → okOp 157 j = true := by
  intro j hj
  by_cases h0 : j < 12
  · have h := List.all_eq_true.mp okc_157_0 (j - 0) (List.mem_range.mpr (by omega)); rwa [show 0 + (j - 0) = j by omega] at h
  by_cases h12 : j < 24
  · have h := List.all_eq_true.mp okc_157_12 (j - 12) (List.mem_range.mpr (by omega)); rwa [show 12 + (j - 12) = j by omega] at h
  by_cases h24 : j < 25
  · have h := List.all_eq_true.mp okc_157_24 (j - 24) (List.mem_range.mpr (by omega)); rwa [show 24 + (j - 24) = j by omega] at h
  omega
theorem okc_158_0 : (List.range 12).all (fun j => okOp 158 (0 + j)) = true := by decide +kernel
theorem okc_158_12 : (List.range 12).all (fun j => okOp 158 (12 + j)) = true := by decide +kernel
theorem okc_158_24 : (List.range 6).all (fun j => okOp 158 (24 + j)) = true := by decide +kernel
theorem okj_158 : ∀ j, j < 30 → okOp 158 j = true := by
  intro j hj
  by_cases h0 : j < 12
  · have h := List.all_eq_true.mp okc_158_0 (j - 0) (List.mem_range.mpr (by omega)); rwa [show 0 + (j - 0) = j by omega] at h
  by_cases h12 : j < 24
  · have h := List.all_eq_true.mp okc_158_12 (j - 12) (List.mem_range.mpr (by omega)); rwa [show 12 + (j - 12) = j by omega] at h
  by_cases h24 : j < 30
  · have h := List.all_eq_true.mp okc_158_24 (j - 24) (List.mem_range.mpr (by omega)); rwa [show 24 + (j - 24) = j by omega] at h
  omega
theorem okc_159_0 : (List.range 12).all (fun j => okOp 159 (0 + j)) = true := by decide +kernel
theorem okc_159_12 : (List.range 12).all (fun j => okOp 159 (12 + j)) = true := by decide +kernel
theorem okc_159_24 : (List.range 7).all (fun j => okOp 159 (24 + j)) = true := by decide +kernel
theorem okj_159 : ∀ j, j < 31 → okOp 159 j = true := by
  intro j hj
  by_cases h0 : j < 12
  · have h := List.all_eq_true.mp okc_159_0 (j - 0) (List.mem_range.mpr (by omega)); rwa [show 0 + (j - 0) = j by omega] at h
  by_cases h12 : j < 24
  · have h := List.all_eq_true.mp okc_159_12 (j - 12) (List.mem_range.mpr (by omega)); rwa [show 12 + (j - 12) = j by omega] at h
  by_cases h24 : j < 31
  · have h := List.all_eq_true.mp okc_159_24 (j - 24) (List.mem_range.mpr (by omega)); rwa [show 24 + (j - 24) = j by omega] at h
  omega
theorem okc_160_0 : (List.range 12).all (fun j => okOp 160 (0 + j)) = true := by decide +kernel
theorem okc_160_12 : (List.range 12).all (fun j => okOp 160 (12 + j)) = true := by decide +kernel
theorem okc_160_24 : (List.range 12).all (fun j => okOp 160 (24 + j)) = true := by decide +kernel
theorem okc_160_36 : (List.range 1).all (fun j => okOp 160 (36 + j)) = true := by decide +kernel
theorem okj_160 : ∀ j, j < 37 → okOp 160 j = true := by
  intro j hj
  by_cases h0 : j < 12
  · have h := List.all_eq_true.mp okc_160_0 (j - 0) (List.mem_range.mpr (by omega)); rwa [show 0 + (j - 0) = j by omega] at h
  by_cases h12 : j < 24
  · have h := List.all_eq_true.mp okc_160_12 (j - 12) (List.mem_range.mpr (by omega)); rwa [show 12 + (j - 12) = j by omega] at h
  by_cases h24 : j < 36
  · have h := List.all_eq_true.mp okc_160_24 (j - 24) (List.mem_range.mpr (by omega)); rwa [show 24 + (j - 24) = j by omega] at h
  by_cases h36 : j < 37
  · have h := List.all_eq_true.mp okc_160_36 (j - 36) (List.mem_range.mpr (by omega)); rwa [show 36 + (j - 36) = j by omega] at h
  omega
theorem okc_161_0 : (List.range 12).all (fun j => okOp 161 (0 + j)) = true := by decide +kernel
theorem okc_161_12 : (List.range 12).all (fun j => okOp 161 (12 + j)) = true := by decide +kernel
theorem okc_161_24 : (List.range 3).all (fun j => okOp 161 (24 + j)) = true := by decide +kernel
theorem okj_161 : ∀ j, j < 27 → okOp 161 j = true := by
  intro j hj
  by_cases h0 : j < 12
  · have h := List.all_eq_true.mp okc_161_0 (j - 0) (List.mem_range.mpr (by omega)); rwa [show 0 + (j - 0) = j by omega] at h
  by_cases h12 : j < 24
  · have h := List.all_eq_true.mp okc_161_12 (j - 12) (List.mem_range.mpr (by omega)); rwa [show 12 + (j - 12) = j by omega] at h
  by_cases h24 : j < 27
  · have h := List.all_eq_true.mp okc_161_24 (j - 24) (List.mem_range.mpr (by omega)); rwa [show 24 + (j - 24) = j by omega] at h
  omega
theorem okc_162_0 : (List.range 12).all (fun j => okOp 162 (0 + j)) = true := by decide +kernel
theorem okc_162_12 : (List.range 12).all (fun j => okOp 162 (12 + j)) = true := by decide +kernel
theorem okc_162_24 : (List.range 12).all (fun j => okOp 162 (24 + j)) = true := by decide +kernel
theorem okc_162_36 : (List.range 4).all (fun j => okOp 162 (36 + j)) = true := by decide +kernel
theorem okj_162 : ∀ j, j < 40 → okOp 162 j = true := by
  intro j hj
  by_cases h0 : j < 12
  · have h := List.all_eq_true.mp okc_162_0 (j - 0) (List.mem_range.mpr (by omega)); rwa [show 0 + (j - 0) = j by omega] at h
  by_cases h12 : j < 24
  · have h := List.all_eq_true.mp okc_162_12 (j - 12) (List.mem_range.mpr (by omega)); rwa [show 12 + (j - 12) = j by omega] at h
  by_cases h24 : j < 36
  · have h := List.all_eq_true.mp okc_162_24 (j - 24) (List.mem_range.mpr (by omega)); rwa [show 24 + (j - 24) = j by omega] at h
  by_cases h36 : j < 40
  · have h := List.all_eq_true.mp okc_162_36 (j - 36) (List.mem_range.mpr (by omega)); rwa [show 36 + (j - 36) = j by omega] at h
  omega
theorem okc_163_0 : (List.range 12).all (fun j => okOp 163 (0 + j)) = true := by decide +kernel
theorem okc_163_12 : (List.range 12).all (fun j => okOp 163 (12 + j)) = true := by decide +kernel
theorem okc_163_24 : (List.range 12).all (fun j => okOp 163 (24 + j)) = true := by decide +kernel
theorem okc_163_36 : (List.range 12).all (fun j => okOp 163 (36 + j)) = true := by decide +kernel
theorem okc_163_48 : (List.range 2).all (fun j => okOp 163 (48 + j)) = true := by decide +kernel
theorem okj_163 : ∀ j, j < 50 → okOp 163 j = true := by
  intro j hj
  by_cases h0 : j < 12
  · have h := List.all_eq_true.mp okc_163_0 (j - 0) (List.mem_range.mpr (by omega)); rwa [show 0 + (j - 0) = j by omega] at h
  by_cases h12 : j < 24
  · have h := List.all_eq_true.mp okc_163_12 (j - 12) (List.mem_range.mpr (by omega)); rwa [show 12 + (j - 12) = j by omega] at h
  by_cases h24 : j < 36
  · have h := List.all_eq_true.mp okc_163_24 (j - 24) (List.mem_range.mpr (by omega)); rwa [show 24 + (j - 24) = j by omega] at h
  by_cases h36 : j < 48
  · have h := List.all_eq_true.mp okc_163_36 (j - 36) (List.mem_range.mpr (by omega)); rwa [show 36 + (j - 36) = j by omega] at h
  by_cases h48 : j < 50
  · have h := List.all_eq_true.mp okc_163_48 (j - 48) (List.mem_range.mpr (by omega)); rwa [show 48 + (j - 48) = j by omega] at h
  omega
theorem okc_164_0 : (List.range 6).all (fun j => okOp 164 (0 + j)) = true := by decide +kernel
theorem okj_164 : ∀ j, j < 6 → okOp 164 j = true := by
  intro j hj
  by_cases h0 : j < 6
  · have h := List.all_eq_true.mp okc_164_0 (j - 0) (List.mem_range.mpr (by omega)); rwa [show 0 + (j - 0) = j by omega] at h
  omega
theorem okc_165_0 : (List.range 12).all (fun j => okOp 165 (0 + j)) = true := by decide +kernel
theorem okc_165_12 : (List.range 12).all (fun j => okOp 165 (12 + j)) = true := by decide +kernel
theorem okc_165_24 : (List.range 12).all (fun j => okOp 165 (24 + j)) = true := by decide +kernel
theorem okj_165 : ∀ j, j < 36 → okOp 165 j = true := by
  intro j hj
  by_cases h0 : j < 12
  · have h := List.all_eq_true.mp okc_165_0 (j - 0) (List.mem_range.mpr (by omega)); rwa [show 0 + (j - 0) = j by omega] at h
  by_cases h12 : j < 24
  · have h := List.all_eq_true.mp okc_165_12 (j - 12) (List.mem_range.mpr (by omega)); rwa [show 12 + (j - 12) = j by omega] at h
  by_cases h24 : j < 36
  · have h := List.all_eq_true.mp okc_165_24 (j - 24) (List.mem_range.mpr (by omega)); rwa [show 24 + (j - 24) = j by omega] at h
  omega
theorem okc_166_0 : (List.range 12).all (fun j => okOp 166 (0 + j)) = true := by decide +kernel
theorem okc_166_12 : (List.range 12).all (fun j => okOp 166 (12 + j)) = true := by decide +kernel
theorem okc_166_24 : (List.range 12).all (fun j => okOp 166 (24 + j)) = true := by decide +kernel
theorem okc_166_36 : (List.range 9).all (fun j => okOp 166 (36 + j)) = true := by decide +kernel
theorem okj_166 : ∀ j, j < 45 → okOp 166 j = true := by
  intro j hj
  by_cases h0 : j < 12
  · have h := List.all_eq_true.mp okc_166_0 (j - 0) (List.mem_range.mpr (by omega)); rwa [show 0 + (j - 0) = j by omega] at h
  by_cases h12 : j < 24
  · have h := List.all_eq_true.mp okc_166_12 (j - 12) (List.mem_range.mpr (by omega)); rwa [show 12 + (j - 12) = j by omega] at h
  by_cases h24 : j < 36
  · have h := List.all_eq_true.mp okc_166_24 (j - 24) (List.mem_range.mpr (by omega)); rwa [show 24 + (j - 24) = j by omega] at h
  by_cases h36 : j < 45
  · have h := List.all_eq_true.mp okc_166_36 (j - 36) (List.mem_range.mpr (by omega)); rwa [show 36 + (j - 36) = j by omega] at h
  omega
theorem okc_167_0 : (List.range 12).all (fun j => okOp 167 (0 + j)) = true := by decide +kernel
theorem okc_167_12 : (List.range 12).all (fun j => okOp 167 (12 + j)) = true := by decide +kernel
theorem okc_167_24 : (List.range 12).all (fun j => okOp 167 (24 + j)) = true := by decide +kernel
theorem okc_167_36 : (List.range 12).all (fun j => okOp 167 (36 + j)) = true := by decide +kernel
theorem okc_167_48 : (List.range 3).all (fun j => okOp 167 (48 + j)) = true := by decide +kernel
theorem okj_167 : ∀ j, j < 51 → okOp 167 j = true := by
  intro j hj
  by_cases h0 : j < 12
  · have h := List.all_eq_true.mp okc_167_0 (j - 0) (List.mem_range.mpr (by omega)); rwa [show 0 + (j - 0) = j by omega] at h
  by_cases h12 : j < 24
  · have h := List.all_eq_true.mp okc_167_12 (j - 12) (List.mem_range.mpr (by omega)); rwa [show 12 + (j - 12) = j by omega] at h
  by_cases h24 : j < 36
  · have h := List.all_eq_true.mp okc_167_24 (j - 24) (List.mem_range.mpr (by omega)); rwa [show 24 + (j - 24) = j by omega] at h
  by_cases h36 : j < 48
  · have h := List.all_eq_true.mp okc_167_36 (j - 36) (List.mem_range.mpr (by omega)); rwa [show 36 + (j - 36) = j by omega] at h
  by_cases h48 : j < 51
  · have h := List.all_eq_true.mp okc_167_48 (j - 48) (List.mem_range.mpr (by omega)); rwa [show 48 + (j - 48) = j by omega] at h
  omega
theorem okc_168_0 : (List.range 12).all (fun j => okOp 168 (0 + j)) = true := by decide +kernel
theorem okc_168_12 : (List.range 12).all (fun j => okOp 168 (12 + j)) = true := by decide +kernel
theorem okc_168_24 : (List.range 12).all (fun j => okOp 168 (24 + j)) = true := by decide +kernel
theorem okc_168_36 : (List.range 12).all (fun j => okOp 168 (36 + j)) = true := by decide +kernel
theorem okc_168_48 : (List.range 12).all (fun j => okOp 168 (48 + j)) = true := by decide +kernel
theorem okc_168_60 : (List.range 12).all (fun j => okOp 168 (60 + j)) = true := by decide +kernel
theorem okc_168_72 : (List.range 5).all (fun j => okOp 168 (72 + j)) = true := by decide +kernel
theorem okj_168 : ∀ j, j < 77 → okOp 168 j = true := by
  intro j hj
  by_cases h0 : j < 12
  · have h := List.all_eq_true.mp okc_168_0 (j - 0) (List.mem_range.mpr (by omega)); rwa [show 0 + (j - 0) = j by omega] at h
  by_cases h12 : j < 24
  · have h := List.all_eq_true.mp okc_168_12 (j - 12) (List.mem_range.mpr (by omega)); rwa [show 12 + (j - 12) = j by omega] at h
  by_cases h24 : j < 36
  · have h := List.all_eq_true.mp okc_168_24 (j - 24) (List.mem_range.mpr (by omega)); rwa [show 24 + (j - 24) = j by omega] at h
  by_cases h36 : j < 48
  · have h := List.all_eq_true.mp okc_168_36 (j - 36) (List.mem_range.mpr (by omega)); rwa [show 36 + (j - 36) = j by omega] at h
  by_cases h48 : j < 60
  · have h := List.all_eq_true.mp okc_168_48 (j - 48) (List.mem_range.mpr (by omega)); rwa [show 48 + (j - 48) = j by omega] at h
  by_cases h60 : j < 72
  · have h := List.all_eq_true.mp okc_168_60 (j - 60) (List.mem_range.mpr (by omega)); rwa [show 60 + (j - 60) = j by omega] at h
  by_cases h72 : j < 77
  · have h := List.all_eq_true.mp okc_168_72 (j - 72) (List.mem_range.mpr (by omega)); rwa [show 72 + (j - 72) = j by omega] at h
  omega
theorem okc_169_0 : (List.range 12).all (fun j => okOp 169 (0 + j)) = true := by decide +kernel
theorem okc_169_12 : (List.range 12).all (fun j => okOp 169 (12 + j)) = true := by decide +kernel
theorem okc_169_24 : (List.range 12).all (fun j => okOp 169 (24 + j)) = true := by decide +kernel
theorem okc_169_36 : (List.range 12).all (fun j => okOp 169 (36 + j)) = true := by decide +kernel
theorem okc_169_48 : (List.range 7).all (fun j => okOp 169 (48 + j)) = true := by decide +kernel
theorem okj_169 : ∀ j, j < 55 → okOp 169 j = true := by
  intro j hj
  by_cases h0 : j < 12
  · have h := List.all_eq_true.mp okc_169_0 (j - 0) (List.mem_range.mpr (by omega)); rwa [show 0 + (j - 0) = j by omega] at h
  by_cases h12 : j < 24
  · have h := List.all_eq_true.mp okc_169_12 (j - 12) (List.mem_range.mpr (by omega)); rwa [show 12 + (j - 12) = j by omega] at h
  by_cases h24 : j < 36
  · have h := List.all_eq_true.mp okc_169_24 (j - 24) (List.mem_range.mpr (by omega)); rwa [show 24 + (j - 24) = j by omega] at h
  by_cases h36 : j < 48
  · have h := List.all_eq_true.mp okc_169_36 (j - 36) (List.mem_range.mpr (by omega)); rwa [show 36 + (j - 36) = j by omega] at h
  by_cases h48 : j < 55
  · have h := List.all_eq_true.mp okc_169_48 (j - 48) (List.mem_range.mpr (by omega)); rwa [show 48 + (j - 48) = j by omega] at h
  omega
theorem okc_170_0 : (List.range 12).all (fun j => okOp 170 (0 + j)) = true := by decide +kernel
theorem okc_170_12 : (List.range 12).all (fun j => okOp 170 (12 + j)) = true := by decide +kernel
theorem okc_170_24 : (List.range 12).all (fun j => okOp 170 (24 + j)) = true := by decide +kernel
theorem okc_170_36 : (List.range 6).all (fun j => okOp 170 (36 + j)) = true := by decide +kernel
theorem okj_170 : ∀ j, j < 42 → okOp 170 j = true := by
  intro j hj
  by_cases h0 : j < 12
  · have h := List.all_eq_true.mp okc_170_0 (j - 0) (List.mem_range.mpr (by omega)); rwa [show 0 + (j - 0) = j by omega] at h
  by_cases h12 : j < 24
  · have h := List.all_eq_true.mp okc_170_12 (j - 12) (List.mem_range.mpr (by omega)); rwa [show 12 + (j - 12) = j by omega] at h
  by_cases h24 : j < 36
  · have h := List.all_eq_true.mp okc_170_24 (j - 24) (List.mem_range.mpr (by omega)); rwa [show 24 + (j - 24) = j by omega] at h
  by_cases h36 : j < 42
  · have h := List.all_eq_true.mp okc_170_36 (j - 36) (List.mem_range.mpr (by omega)); rwa [show 36 + (j - 36) = j by omega] at h
  omega
theorem okc_171_0 : (List.range 12).all (fun j => okOp 171 (0 + j)) = true := by decide +kernel
theorem okc_171_12 : (List.range 12).all (fun j => okOp 171 (12 + j)) = true := by decide +kernel
theorem okc_171_24 : (List.range 7).all (fun j => okOp 171 (24 + j)) = true := by decide +kernel
theorem okj_171 : ∀ j, j < 31 → okOp 171 j = true := by
  intro j hj
  by_cases h0 : j < 12
  · have h := List.all_eq_true.mp okc_171_0 (j - 0) (List.mem_range.mpr (by omega)); rwa [show 0 + (j - 0) = j by omega] at h
  by_cases h12 : j < 24
  · have h := List.all_eq_true.mp okc_171_12 (j - 12) (List.mem_range.mpr (by omega)); rwa [show 12 + (j - 12) = j by omega] at h
  by_cases h24 : j < 31
  · have h := List.all_eq_true.mp okc_171_24 (j - 24) (List.mem_range.mpr (by omega)); rwa [show 24 + (j - 24) = j by omega] at h
  omega
theorem okc_172_0 : (List.range 12).all (fun j => okOp 172 (0 + j)) = true := by decide +kernel
theorem okc_172_12 : (List.range 1).all (fun j => okOp 172 (12 + j)) = true := by decide +kernel
theorem okj_172 : ∀ j, j < 13 → okOp 172 j = true := by
  intro j hj
  by_cases h0 : j < 12
  · have h := List.all_eq_true.mp okc_172_0 (j - 0) (List.mem_range.mpr (by omega)); rwa [show 0 + (j - 0) = j by omega] at h
  by_cases h12 : j < 13
  · have h := List.all_eq_true.mp okc_172_12 (j - 12) (List.mem_range.mpr (by omega)); rwa [show 12 + (j - 12) = j by omega] at h
  omega
theorem okc_173_0 : (List.range 12).all (fun j => okOp 173 (0 + j)) = true := by decide +kernel
theorem okc_173_12 : (List.range 10).all (fun j => okOp 173 (12 + j)) = true := by decide +kernel
theorem okj_173 : ∀ j, j < 22 → okOp 173 j = true := by
  intro j hj
  by_cases h0 : j < 12
  · have h := List.all_eq_true.mp okc_173_0 (j - 0) (List.mem_range.mpr (by omega)); rwa [show 0 + (j - 0) = j by omega] at h
  by_cases h12 : j < 22
  · have h := List.all_eq_true.mp okc_173_12 (j - 12) (List.mem_range.mpr (by omega)); rwa [show 12 + (j - 12) = j by omega] at h
  omega
theorem okc_174_0 : (List.range 12).all (fun j => okOp 174 (0 + j)) = true := by decide +kernel
theorem okc_174_12 : (List.range 12).all (fun j => okOp 174 (12 + j)) = true := by decide +kernel
theorem okc_174_24 : (List.range 7).all (fun j => okOp 174 (24 + j)) = true := by decide +kernel
theorem okj_174 : ∀ j, j < 31 → okOp 174 j = true := by
  intro j hj
  by_cases h0 : j < 12
  · have h := List.all_eq_true.mp okc_174_0 (j - 0) (List.mem_range.mpr (by omega)); rwa [show 0 + (j - 0) = j by omega] at h
  by_cases h12 : j < 24
  · have h := List.all_eq_true.mp okc_174_12 (j - 12) (List.mem_range.mpr (by omega)); rwa [show 12 + (j - 12) = j by omega] at h
  by_cases h24 : j < 31
  · have h := List.all_eq_true.mp okc_174_24 (j - 24) (List.mem_range.mpr (by omega)); rwa [show 24 + (j - 24) = j by omega] at h
  omega
theorem okc_175_0 : (List.range 12).all (fun j => okOp 175 (0 + j)) = true := by decide +kernel
theorem okc_175_12 : (List.range 12).all (fun j => okOp 175 (12 + j)) = true := by decide +kernel
theorem okc_175_24 : (List.range 12).all (fun j => okOp 175 (24 + j)) = true := by decide +kernel
theorem okc_175_36 : (List.range 12).all (fun j => okOp 175 (36 + j)) = true := by decide +kernel
theorem okc_175_48 : (List.range 12).all (fun j => okOp 175 (48 + j)) = true := by decide +kernel
theorem okc_175_60 : (List.range 12).all (fun j => okOp 175 (60 + j)) = true := by decide +kernel
theorem okj_175 : ∀ j, j < 72 → okOp 175 j = true := by
  intro j hj
  by_cases h0 : j < 12
  · have h := List.all_eq_true.mp okc_175_0 (j - 0) (List.mem_range.mpr (by omega)); rwa [show 0 + (j - 0) = j by omega] at h
  by_cases h12 : j < 24
  · have h := List.all_eq_true.mp okc_175_12 (j - 12) (List.mem_range.mpr (by omega)); rwa [show 12 + (j - 12) = j by omega] at h
  by_cases h24 : j < 36
  · have h := List.all_eq_true.mp okc_175_24 (j - 24) (List.mem_range.mpr (by omega)); rwa [show 24 + (j - 24) = j by omega] at h
  by_cases h36 : j < 48
  · have h := List.all_eq_true.mp okc_175_36 (j - 36) (List.mem_range.mpr (by omega)); rwa [show 36 + (j - 36) = j by omega] at h
  by_cases h48 : j < 60
  · have h := List.all_eq_true.mp okc_175_48 (j - 48) (List.mem_range.mpr (by omega)); rwa [show 48 + (j - 48) = j by omega] at h
  by_cases h60 : j < 72
  · have h := List.all_eq_true.mp okc_175_60 (j - 60) (List.mem_range.mpr (by omega)); rwa [show 60 + (j - 60) = j by omega] at h
  omega
theorem okc_176_0 : (List.range 12).all (fun j => okOp 176 (0 + j)) = true := by decide +kernel
theorem okc_176_12 : (List.range 12).all (fun j => okOp 176 (12 + j)) = true := by decide +kernel
theorem okc_176_24 : (List.range 12).all (fun j => okOp 176 (24 + j)) = true := by decide +kernel
theorem okc_176_36 : (List.range 12).all (fun j => okOp 176 (36 + j)) = true := by decide +kernel
theorem okc_176_48 : (List.range 12).all (fun j => okOp 176 (48 + j)) = true := by decide +kernel
theorem okc_176_60 : (List.range 9).all (fun j => okOp 176 (60 + j)) = true := by decide +kernel
theorem okj_176 : ∀ j, j < 69 → okOp 176 j = true := by
  intro j hj
  by_cases h0 : j < 12
  · have h := List.all_eq_true.mp okc_176_0 (j - 0) (List.mem_range.mpr (by omega)); rwa [show 0 + (j - 0) = j by omega] at h
  by_cases h12 : j < 24
  · have h := List.all_eq_true.mp okc_176_12 (j - 12) (List.mem_range.mpr (by omega)); rwa [show 12 + (j - 12) = j by omega] at h
  by_cases h24 : j < 36
  · have h := List.all_eq_true.mp okc_176_24 (j - 24) (List.mem_range.mpr (by omega)); rwa [show 24 + (j - 24) = j by omega] at h
  by_cases h36 : j < 48
  · have h := List.all_eq_true.mp okc_176_36 (j - 36) (List.mem_range.mpr (by omega)); rwa [show 36 + (j - 36) = j by omega] at h
  by_cases h48 : j < 60
  · have h := List.all_eq_true.mp okc_176_48 (j - 48) (List.mem_range.mpr (by omega)); rwa [show 48 + (j - 48) = j by omega] at h
  by_cases h60 : j < 69
  · have h := List.all_eq_true.mp okc_176_60 (j - 60) (List.mem_range.mpr (by omega)); rwa [show 60 + (j - 60) = j by omega] at h
  omega
theorem okc_177_0 : (List.range 12).all (fun j => okOp 177 (0 + j)) = true := by decide +kernel
theorem okc_177_12 : (List.range 12).all (fun j => okOp 177 (12 + j)) = true := by decide +kernel
theorem okc_177_24 : (List.range 10).all (fun j => okOp 177 (24 + j)) = true := by decide +kernel
theorem okj_177 : ∀ j, j < 34 → okOp 177 j = true := by
  intro j hj
  by_cases h0 : j < 12
  · have h := List.all_eq_true.mp okc_177_0 (j - 0) (List.mem_range.mpr (by omega)); rwa [show 0 + (j - 0) = j by omega] at h
  by_cases h12 : j < 24
  · have h := List.all_eq_true.mp okc_177_12 (j - 12) (List.mem_range.mpr (by omega)); rwa [show 12 + (j - 12) = j by omega] at h
  by_cases h24 : j < 34
  · have h := List.all_eq_true.mp okc_177_24 (j - 24) (List.mem_range.mpr (by omega)); rwa [show 24 + (j - 24) = j by omega] at h
  omega
theorem okc_178_0 : (List.range 12).all (fun j => okOp 178 (0 + j)) = true := by decide +kernel
theorem okc_178_12 : (List.range 12).all (fun j => okOp 178 (12 + j)) = true := by decide +kernel
theorem okc_178_24 : (List.range 12).all (fun j => okOp 178 (24 + j)) = true := by decide +kernel
theorem okc_178_36 : (List.range 12).all (fun j => okOp 178 (36 + j)) = true := by decide +kernel
theorem okc_178_48 : (List.range 12).all (fun j => okOp 178 (48 + j)) = true := by decide +kernel
theorem okc_178_60 : (List.range 12).all (fun j => okOp 178 (60 + j)) = true := by decide +kernel
theorem okc_178_72 : (List.range 5).all (fun j => okOp 178 (72 + j)) = true := by decide +kernel
theorem okj_178 : ∀ j, j < 77 → okOp 178 j = true := by
  intro j hj
  by_cases h0 : j < 12
  · have h := List.all_eq_true.mp okc_178_0 (j - 0) (List.mem_range.mpr (by omega)); rwa [show 0 + (j - 0) = j by omega] at h
  by_cases h12 : j < 24
  · have h := List.all_eq_true.mp okc_178_12 (j - 12) (List.mem_range.mpr (by omega)); rwa [show 12 + (j - 12) = j by omega] at h
  by_cases h24 : j < 36
  · have h := List.all_eq_true.mp okc_178_24 (j - 24) (List.mem_range.mpr (by omega)); rwa [show 24 + (j - 24) = j by omega] at h
  by_cases h36 : j < 48
  · have h := List.all_eq_true.mp okc_178_36 (j - 36) (List.mem_range.mpr (by omega)); rwa [show 36 + (j - 36) = j by omega] at h
  by_cases h48 : j < 60
  · have h := List.all_eq_true.mp okc_178_48 (j - 48) (List.mem_range.mpr (by omega)); rwa [show 48 + (j - 48) = j by omega] at h
  by_cases h60 : j < 72
  · have h := List.all_eq_true.mp okc_178_60 (j - 60) (List.mem_range.mpr (by omega)); rwa [show 60 + (j - 60) = j by omega] at h
  by_cases h72 : j < 77
  · have h := List.all_eq_true.mp okc_178_72 (j - 72) (List.mem_range.mpr (by omega)); rwa [show 72 + (j - 72) = j by omega] at h
  omega
theorem okc_179_0 : (List.range 12).all (fun j => okOp 179 (0 + j)) = true := by decide +kernel
theorem okc_179_12 : (List.range 12).all (fun j => okOp 179 (12 + j)) = true := by decide +kernel
theorem okc_179_24 : (List.range 12).all (fun j => okOp 179 (24 + j)) = true := by decide +kernel
theorem okc_179_36 : (List.range 12).all (fun j => okOp 179 (36 + j)) = true := by decide +kernel
theorem okc_179_48 : (List.range 12).all (fun j => okOp 179 (48 + j)) = true := by decide +kernel
theorem okc_179_60 : (List.range 12).all (fun j => okOp 179 (60 + j)) = true := by decide +kernel
theorem okc_179_72 : (List.range 3).all (fun j => okOp 179 (72 + j)) = true := by decide +kernel
theorem okj_179 : ∀ j, j < 75 → okOp 179 j = true := by
  intro j hj
  by_cases h0 : j < 12
  · have h := List.all_eq_true.mp okc_179_0 (j - 0) (List.mem_range.mpr (by omega)); rwa [show 0 + (j - 0) = j by omega] at h
  by_cases h12 : j < 24
  · have h := List.all_eq_true.mp okc_179_12 (j - 12) (List.mem_range.mpr (by omega)); rwa [show 12 + (j - 12) = j by omega] at h
  by_cases h24 : j < 36
  · have h := List.all_eq_true.mp okc_179_24 (j - 24) (List.mem_range.mpr (by omega)); rwa [show 24 + (j - 24) = j by omega] at h
  by_cases h36 : j < 48
  · have h := List.all_eq_true.mp okc_179_36 (j - 36) (List.mem_range.mpr (by omega)); rwa [show 36 + (j - 36) = j by omega] at h
  by_cases h48 : j < 60
  · have h := List.all_eq_true.mp okc_179_48 (j - 48) (List.mem_range.mpr (by omega)); rwa [show 48 + (j - 48) = j by omega] at h
  by_cases h60 : j < 72
  · have h := List.all_eq_true.mp okc_179_60 (j - 60) (List.mem_range.mpr (by omega)); rwa [show 60 + (j - 60) = j by omega] at h
  by_cases h72 : j < 75
  · have h := List.all_eq_true.mp okc_179_72 (j - 72) (List.mem_range.mpr (by omega)); rwa [show 72 + (j - 72) = j by omega] at h
  omega
theorem okc_180_0 : (List.range 12).all (fun j => okOp 180 (0 + j)) = true := by decide +kernel
theorem okc_180_12 : (List.range 12).all (fun j => okOp 180 (12 + j)) = true := by decide +kernel
theorem okc_180_24 : (List.range 12).all (fun j => okOp 180 (24 + j)) = true := by decide +kernel
theorem okc_180_36 : (List.range 12).all (fun j => okOp 180 (36 + j)) = true := by decide +kernel
theorem okj_180 : ∀ j, j < 48 → okOp 180 j = true := by
  intro j hj
  by_cases h0 : j < 12
  · have h := List.all_eq_true.mp okc_180_0 (j - 0) (List.mem_range.mpr (by omega)); rwa [show 0 + (j - 0) = j by omega] at h
  by_cases h12 : j < 24
  · have h := List.all_eq_true.mp okc_180_12 (j - 12) (List.mem_range.mpr (by omega)); rwa [show 12 + (j - 12) = j by omega] at h
  by_cases h24 : j < 36
  · have h := List.all_eq_true.mp okc_180_24 (j - 24) (List.mem_range.mpr (by omega)); rwa [show 24 + (j - 24) = j by omega] at h
  by_cases h36 : j < 48
  · have h := List.all_eq_true.mp okc_180_36 (j - 36) (List.mem_range.mpr (by omega)); rwa [show 36 + (j - 36) = j by omega] at h
  omega
theorem okc_181_0 : (List.range 12).all (fun j => okOp 181 (0 + j)) = true := by decide +kernel
theorem okc_181_12 : (List.range 12).all (fun j => okOp 181 (12 + j)) = true := by decide +kernel
theorem okc_181_24 : (List.range 12).all (fun j => okOp 181 (24 + j)) = true := by decide +kernel
theorem okc_181_36 : (List.range 3).all (fun j => okOp 181 (36 + j)) = true := by decide +kernel
theorem okj_181 : ∀ j, j < 39 → okOp 181 j = true := by
  intro j hj
  by_cases h0 : j < 12
  · have h := List.all_eq_true.mp okc_181_0 (j - 0) (List.mem_range.mpr (by omega)); rwa [show 0 + (j - 0) = j by omega] at h
  by_cases h12 : j < 24
  · have h := List.all_eq_true.mp okc_181_12 (j - 12) (List.mem_range.mpr (by omega)); rwa [show 12 + (j - 12) = j by omega] at h
  by_cases h24 : j < 36
  · have h := List.all_eq_true.mp okc_181_24 (j - 24) (List.mem_range.mpr (by omega)); rwa [show 24 + (j - 24) = j by omega] at h
  by_cases h36 : j < 39
  · have h := List.all_eq_true.mp okc_181_36 (j - 36) (List.mem_range.mpr (by omega)); rwa [show 36 + (j - 36) = j by omega] at h
  omega
theorem okc_182_0 : (List.range 12).all (fun j => okOp 182 (0 + j)) = true := by decide +kernel
theorem okc_182_12 : (List.range 12).all (fun j => okOp 182 (12 + j)) = true := by decide +kernel
theorem okc_182_24 : (List.range 2).all (fun j => okOp 182 (24 + j)) = true := by decide +kernel
theorem okj_182 : ∀ j, j < 26 → okOp 182 j = true := by
  intro j hj
  by_cases h0 : j < 12
  · have h := List.all_eq_true.mp okc_182_0 (j - 0) (List.mem_range.mpr (by omega)); rwa [show 0 + (j - 0) = j by omega] at h
  by_cases h12 : j < 24
  · have h := List.all_eq_true.mp okc_182_12 (j - 12) (List.mem_range.mpr (by omega)); rwa [show 12 + (j - 12) = j by omega] at h
  by_cases h24 : j < 26
  · have h := List.all_eq_true.mp okc_182_24 (j - 24) (List.mem_range.mpr (by omega)); rwa [show 24 + (j - 24) = j by omega] at h
  omega
theorem okc_183_0 : (List.range 12).all (fun j => okOp 183 (0 + j)) = true := by decide +kernel
theorem okc_183_12 : (List.range 12).all (fun j => okOp 183 (12 + j)) = true := by decide +kernel
theorem okc_183_24 : (List.range 12).all (fun j => okOp 183 (24 + j)) = true := by decide +kernel
theorem okc_183_36 : (List.range 12).all (fun j => okOp 183 (36 + j)) = true := by decide +kernel
theorem okc_183_48 : (List.range 12).all (fun j => okOp 183 (48 + j)) = true := by decide +kernel
theorem okc_183_60 : (List.range 12).all (fun j => okOp 183 (60 + j)) = true := by decide +kernel
theorem okc_183_72 : (List.range 7).all (fun j => okOp 183 (72 + j)) = true := by decide +kernel
theorem okj_183 : ∀ j, j < 79 → okOp 183 j = true := by
  intro j hj
  by_cases h0 : j < 12
  · have h := List.all_eq_true.mp okc_183_0 (j - 0) (List.mem_range.mpr (by omega)); rwa [show 0 + (j - 0) = j by omega] at h
  by_cases h12 : j < 24
  · have h := List.all_eq_true.mp okc_183_12 (j - 12) (List.mem_range.mpr (by omega)); rwa [show 12 + (j - 12) = j by omega] at h
  by_cases h24 : j < 36
  · have h := List.all_eq_true.mp okc_183_24 (j - 24) (List.mem_range.mpr (by omega)); rwa [show 24 + (j - 24) = j by omega] at h
  by_cases h36 : j < 48
  · have h := List.all_eq_true.mp okc_183_36 (j - 36) (List.mem_range.mpr (by omega)); rwa [show 36 + (j - 36) = j by omega] at h
  by_cases h48 : j < 60
  · have h := List.all_eq_true.mp okc_183_48 (j - 48) (List.mem_range.mpr (by omega)); rwa [show 48 + (j - 48) = j by omega] at h
  by_cases h60 : j < 72
  · have h := List.all_eq_true.mp okc_183_60 (j - 60) (List.mem_range.mpr (by omega)); rwa [show 60 + (j - 60) = j by omega] at h
  by_cases h72 : j < 79
  · have h := List.all_eq_true.mp okc_183_72 (j - 72) (List.mem_range.mpr (by omega)); rwa [show 72 + (j - 72) = j by omega] at h
  omega
theorem okc_184_0 : (List.range 12).all (fun j => okOp 184 (0 + j)) = true := by decide +kernel
theorem okc_184_12 : (List.range 12).all (fun j => okOp 184 (12 + j)) = true := by decide +kernel
theorem okc_184_24 : (List.range 12).all (fun j => okOp 184 (24 + j)) = true := by decide +kernel
theorem okc_184_36 : (List.range 12).all (fun j => okOp 184 (36 + j)) = true := by decide +kernel
theorem okc_184_48 : (List.range 12).all (fun j => okOp 184 (48 + j)) = true := by decide +kernel
theorem okc_184_60 : (List.range 10).all (fun j => okOp 184 (60 + j)) = true := by decide +kernel
theorem okj_184 : ∀ j, j < 70 → okOp 184 j = true := by
  intro j hj
  by_cases h0 : j < 12
  · have h := List.all_eq_true.mp okc_184_0 (j - 0) (List.mem_range.mpr (by omega)); rwa [show 0 + (j - 0) = j by omega] at h
  by_cases h12 : j < 24
  · have h := List.all_eq_true.mp okc_184_12 (j - 12) (List.mem_range.mpr (by omega)); rwa [show 12 + (j - 12) = j by omega] at h
  by_cases h24 : j < 36
  · have h := List.all_eq_true.mp okc_184_24 (j - 24) (List.mem_range.mpr (by omega)); rwa [show 24 + (j - 24) = j by omega] at h
  by_cases h36 : j < 48
  · have h := List.all_eq_true.mp okc_184_36 (j - 36) (List.mem_range.mpr (by omega)); rwa [show 36 + (j - 36) = j by omega] at h
  by_cases h48 : j < 60
  · have h := List.all_eq_true.mp okc_184_48 (j - 48) (List.mem_range.mpr (by omega)); rwa [show 48 + (j - 48) = j by omega] at h
  by_cases h60 : j < 70
  · have h := List.all_eq_true.mp okc_184_60 (j - 60) (List.mem_range.mpr (by omega)); rwa [show 60 + (j - 60) = j by omega] at h
  omega
theorem okc_185_0 : (List.range 12).all (fun j => okOp 185 (0 + j)) = true := by decide +kernel
theorem okc_185_12 : (List.range 10).all (fun j => okOp 185 (12 + j)) = true := by decide +kernel
theorem okj_185 : ∀ j, j < 22 → okOp 185 j = true := by
  intro j hj
  by_cases h0 : j < 12
  · have h := List.all_eq_true.mp okc_185_0 (j - 0) (List.mem_range.mpr (by omega)); rwa [show 0 + (j - 0) = j by omega] at h
  by_cases h12 : j < 22
  · have h := List.all_eq_true.mp okc_185_12 (j - 12) (List.mem_range.mpr (by omega)); rwa [show 12 + (j - 12) = j by omega] at h
  omega
theorem okc_186_0 : (List.range 12).all (fun j => okOp 186 (0 + j)) = true := by decide +kernel
theorem okc_186_12 : (List.range 6).all (fun j => okOp 186 (12 + j)) = true := by decide +kernel
theorem okj_186 : ∀ j, j < 18 → okOp 186 j = true := by
  intro j hj
  by_cases h0 : j < 12
  · have h := List.all_eq_true.mp okc_186_0 (j - 0) (List.mem_range.mpr (by omega)); rwa [show 0 + (j - 0) = j by omega] at h
  by_cases h12 : j < 18
  · have h := List.all_eq_true.mp okc_186_12 (j - 12) (List.mem_range.mpr (by omega)); rwa [show 12 + (j - 12) = j by omega] at h
  omega
theorem okc_187_0 : (List.range 12).all (fun j => okOp 187 (0 + j)) = true := by decide +kernel
theorem okc_187_12 : (List.range 6).all (fun j => okOp 187 (12 + j)) = true := by decide +kernel
theorem okj_187 : ∀ j, j < 18 → okOp 187 j = true := by
  intro j hj
  by_cases h0 : j < 12
  · have h := List.all_eq_true.mp okc_187_0 (j - 0) (List.mem_range.mpr (by omega)); rwa [show 0 + (j - 0) = j by omega] at h
  by_cases h12 : j < 18
  · have h := List.all_eq_true.mp okc_187_12 (j - 12) (List.mem_range.mpr (by omega)); rwa [show 12 + (j - 12) = j by omega] at h
  omega
theorem okc_188_0 : (List.range 11).all (fun j => okOp 188 (0 + j)) = true := by decide +kernel
theorem okj_188 : ∀ j, j < 11 → okOp 188 j = true := by
  intro j hj
  by_cases h0 : j < 11
  · have h := List.all_eq_true.mp okc_188_0 (j - 0) (List.mem_range.mpr (by omega)); rwa [show 0 + (j - 0) = j by omega] at h
  omega
theorem okc_189_0 : (List.range 12).all (fun j => okOp 189 (0 + j)) = true := by decide +kernel
theorem okc_189_12 : (List.range 12).all (fun j => okOp 189 (12 + j)) = true := by decide +kernel
theorem okc_189_24 : (List.range 12).all (fun j => okOp 189 (24 + j)) = true := by decide +kernel
theorem okc_189_36 : (List.range 12).all (fun j => okOp 189 (36 + j)) = true := by decide +kernel
theorem okc_189_48 : (List.range 12).all (fun j => okOp 189 (48 + j)) = true := by decide +kernel
theorem okc_189_60 : (List.range 12).all (fun j => okOp 189 (60 + j)) = true := by decide +kernel
theorem okc_189_72 : (List.range 12).all (fun j => okOp 189 (72 + j)) = true := by decide +kernel
theorem okc_189_84 : (List.range 4).all (fun j => okOp 189 (84 + j)) = true := by decide +kernel
theorem okj_189 : ∀ j, j < 88 → okOp 189 j = true := by
  intro j hj
  by_cases h0 : j < 12
  · have h := List.all_eq_true.mp okc_189_0 (j - 0) (List.mem_range.mpr (by omega)); rwa [show 0 + (j - 0) = j by omega] at h
  by_cases h12 : j < 24
  · have h := List.all_eq_true.mp okc_189_12 (j - 12) (List.mem_range.mpr (by omega)); rwa [show 12 + (j - 12) = j by omega] at h
  by_cases h24 : j < 36
  · have h := List.all_eq_true.mp okc_189_24 (j - 24) (List.mem_range.mpr (by omega)); rwa [show 24 + (j - 24) = j by omega] at h
  by_cases h36 : j < 48
  · have h := List.all_eq_true.mp okc_189_36 (j - 36) (List.mem_range.mpr (by omega)); rwa [show 36 + (j - 36) = j by omega] at h
  by_cases h48 : j < 60
  · have h := List.all_eq_true.mp okc_189_48 (j - 48) (List.mem_range.mpr (by omega)); rwa [show 48 + (j - 48) = j by omega] at h
  by_cases h60 : j < 72
  · have h := List.all_eq_true.mp okc_189_60 (j - 60) (List.mem_range.mpr (by omega)); rwa [show 60 + (j - 60) = j by omega] at h
  by_cases h72 : j < 84
  · have h := List.all_eq_true.mp okc_189_72 (j - 72) (List.mem_range.mpr (by omega)); rwa [show 72 + (j - 72) = j by omega] at h
  by_cases h84 : j < 88
  · have h := List.all_eq_true.mp okc_189_84 (j - 84) (List.mem_range.mpr (by omega)); rwa [show 84 + (j - 84) = j by omega] at h
  omega
theorem okc_190_0 : (List.range 12).all (fun j => okOp 190 (0 + j)) = true := by decide +kernel
theorem okc_190_12 : (List.range 12).all (fun j => okOp 190 (12 + j)) = true := by decide +kernel
theorem okc_190_24 : (List.range 12).all (fun j => okOp 190 (24 + j)) = true := by decide +kernel
theorem okc_190_36 : (List.range 12).all (fun j => okOp 190 (36 + j)) = true := by decide +kernel
theorem okj_190 : ∀ j, j < 48 → okOp 190 j = true := by
  intro j hj
  by_cases h0 : j < 12
  · have h := List.all_eq_true.mp okc_190_0 (j - 0) (List.mem_range.mpr (by omega)); rwa [show 0 + (j - 0) = j by omega] at h
  by_cases h12 : j < 24
  · have h := List.all_eq_true.mp okc_190_12 (j - 12) (List.mem_range.mpr (by omega)); rwa [show 12 + (j - 12) = j by omega] at h
  by_cases h24 : j < 36
  · have h := List.all_eq_true.mp okc_190_24 (j - 24) (List.mem_range.mpr (by omega)); rwa [show 24 + (j - 24) = j by omega] at h
  by_cases h36 : j < 48
  · have h := List.all_eq_true.mp okc_190_36 (j - 36) (List.mem_range.mpr (by omega)); rwa [show 36 + (j - 36) = j by omega] at h
  omega
theorem okc_191_0 : (List.range 12).all (fun j => okOp 191 (0 + j)) = true := by decide +kernel
theorem okc_191_12 : (List.range 12).all (fun j => okOp 191 (12 + j)) = true := by decide +kernel
theorem okc_191_24 : (List.range 6).all (fun j => okOp 191 (24 + j)) = true := by decide +kernel
theorem okj_191 : ∀ j, j < 30 → okOp 191 j = true := by
  intro j hj
  by_cases h0 : j < 12
  · have h := List.all_eq_true.mp okc_191_0 (j - 0) (List.mem_range.mpr (by omega)); rwa [show 0 + (j - 0) = j by omega] at h
  by_cases h12 : j < 24
  · have h := List.all_eq_true.mp okc_191_12 (j - 12) (List.mem_range.mpr (by omega)); rwa [show 12 + (j - 12) = j by omega] at h
  by_cases h24 : j < 30
  · have h := List.all_eq_true.mp okc_191_24 (j - 24) (List.mem_range.mpr (by omega)); rwa [show 24 + (j - 24) = j by omega] at h
  omega
theorem okc_192_0 : (List.range 12).all (fun j => okOp 192 (0 + j)) = true := by decide +kernel
theorem okc_192_12 : (List.range 12).all (fun j => okOp 192 (12 + j)) = true := by decide +kernel
theorem okc_192_24 : (List.range 4).all (fun j => okOp 192 (24 + j)) = true := by decide +kernel
theorem okj_192 : ∀ j, j < 28 → okOp 192 j = true := by
  intro j hj
  by_cases h0 : j < 12
  · have h := List.all_eq_true.mp okc_192_0 (j - 0) (List.mem_range.mpr (by omega)); rwa [show 0 + (j - 0) = j by omega] at h
  by_cases h12 : j < 24
  · have h := List.all_eq_true.mp okc_192_12 (j - 12) (List.mem_range.mpr (by omega)); rwa [show 12 + (j - 12) = j by omega] at h
  by_cases h24 : j < 28
  · have h := List.all_eq_true.mp okc_192_24 (j - 24) (List.mem_range.mpr (by omega)); rwa [show 24 + (j - 24) = j by omega] at h
  omega
theorem okc_193_0 : (List.range 12).all (fun j => okOp 193 (0 + j)) = true := by decide +kernel
theorem okc_193_12 : (List.range 12).all (fun j => okOp 193 (12 + j)) = true := by decide +kernel
theorem okc_193_24 : (List.range 12).all (fun j => okOp 193 (24 + j)) = true := by decide +kernel
theorem okj_193 : ∀ j, j < 36 → okOp 193 j = true := by
  intro j hj
  by_cases h0 : j < 12
  · have h := List.all_eq_true.mp okc_193_0 (j - 0) (List.mem_range.mpr (by omega)); rwa [show 0 + (j - 0) = j by omega] at h
  by_cases h12 : j < 24
  · have h := List.all_eq_true.mp okc_193_12 (j - 12) (List.mem_range.mpr (by omega)); rwa [show 12 + (j - 12) = j by omega] at h
  by_cases h24 : j < 36
  · have h := List.all_eq_true.mp okc_193_24 (j - 24) (List.mem_range.mpr (by omega)); rwa [show 24 + (j - 24) = j by omega] at h
  omega
theorem okc_194_0 : (List.range 12).all (fun j => okOp 194 (0 + j)) = true := by decide +kernel
theorem okc_194_12 : (List.range 8).all (fun j => okOp 194 (12 + j)) = true := by decide +kernel
theorem okj_194 : ∀ j, j < 20 → okOp 194 j = true := by
  intro j hj
  by_cases h0 : j < 12
  · have h := List.all_eq_true.mp okc_194_0 (j - 0) (List.mem_range.mpr (by omega)); rwa [show 0 + (j - 0) = j by omega] at h
  by_cases h12 : j < 20
  · have h := List.all_eq_true.mp okc_194_12 (j - 12) (List.mem_range.mpr (by omega)); rwa [show 12 + (j - 12) = j by omega] at h
  omega
theorem okc_195_0 : (List.range 12).all (fun j => okOp 195 (0 + j)) = true := by decide +kernel
theorem okc_195_12 : (List.range 6).all (fun j => okOp 195 (12 + j)) = true := by decide +kernel
theorem okj_195 : ∀ j, j < 18 → okOp 195 j = true := by
  intro j hj
  by_cases h0 : j < 12
  · have h := List.all_eq_true.mp okc_195_0 (j - 0) (List.mem_range.mpr (by omega)); rwa [show 0 + (j - 0) = j by omega] at h
  by_cases h12 : j < 18
  · have h := List.all_eq_true.mp okc_195_12 (j - 12) (List.mem_range.mpr (by omega)); rwa [show 12 + (j - 12) = j by omega] at h
  omega
theorem okc_196_0 : (List.range 12).all (fun j => okOp 196 (0 + j)) = true := by decide +kernel
theorem okc_196_12 : (List.range 11).all (fun j => okOp 196 (12 + j)) = true := by decide +kernel
theorem okj_196 : ∀ j, j < 23 → okOp 196 j = true := by
  intro j hj
  by_cases h0 : j < 12
  · have h := List.all_eq_true.mp okc_196_0 (j - 0) (List.mem_range.mpr (by omega)); rwa [show 0 + (j - 0) = j by omega] at h
  by_cases h12 : j < 23
  · have h := List.all_eq_true.mp okc_196_12 (j - 12) (List.mem_range.mpr (by omega)); rwa [show 12 + (j - 12) = j by omega] at h
  omega
theorem okc_197_0 : (List.range 12).all (fun j => okOp 197 (0 + j)) = true := by decide +kernel
theorem okc_197_12 : (List.range 12).all (fun j => okOp 197 (12 + j)) = true := by decide +kernel
theorem okc_197_24 : (List.range 12).all (fun j => okOp 197 (24 + j)) = true := by decide +kernel
theorem okc_197_36 : (List.range 12).all (fun j => okOp 197 (36 + j)) = true := by decide +kernel
theorem okc_197_48 : (List.range 5).all (fun j => okOp 197 (48 + j)) = true := by decide +kernel
theorem okj_197 : ∀ j, j < 53 → okOp 197 j = true := by
  intro j hj
  by_cases h0 : j < 12
  · have h := List.all_eq_true.mp okc_197_0 (j - 0) (List.mem_range.mpr (by omega)); rwa [show 0 + (j - 0) = j by omega] at h
  by_cases h12 : j < 24
  · have h := List.all_eq_true.mp okc_197_12 (j - 12) (List.mem_range.mpr (by omega)); rwa [show 12 + (j - 12) = j by omega] at h
  by_cases h24 : j < 36
  · have h := List.all_eq_true.mp okc_197_24 (j - 24) (List.mem_range.mpr (by omega)); rwa [show 24 + (j - 24) = j by omega] at h
  by_cases h36 : j < 48
  · have h := List.all_eq_true.mp okc_197_36 (j - 36) (List.mem_range.mpr (by omega)); rwa [show 36 + (j - 36) = j by omega] at h
  by_cases h48 : j < 53
  · have h := List.all_eq_true.mp okc_197_48 (j - 48) (List.mem_range.mpr (by omega)); rwa [show 48 + (j - 48) = j by omega] at h
  omega
theorem okc_198_0 : (List.range 12).all (fun j => okOp 198 (0 + j)) = true := by decide +kernel
theorem okc_198_12 : (List.range 12).all (fun j => okOp 198 (12 + j)) = true := by decide +kernel
theorem okc_198_24 : (List.range 1).all (fun j => okOp 198 (24 + j)) = true := by decide +kernel
theorem okj_198 : ∀ j, j < 25 → okOp 198 j = true := by
  intro j hj
  by_cases h0 : j < 12
  · have h := List.all_eq_true.mp okc_198_0 (j - 0) (List.mem_range.mpr (by omega)); rwa [show 0 + (j - 0) = j by omega] at h
  by_cases h12 : j < 24
  · have h := List.all_eq_true.mp okc_198_12 (j - 12) (List.mem_range.mpr (by omega)); rwa [show 12 + (j - 12) = j by omega] at h
  by_cases h24 : j < 25
  · have h := List.all_eq_true.mp okc_198_24 (j - 24) (List.mem_range.mpr (by omega)); rwa [show 24 + (j - 24) = j by omega] at h
  omega
theorem okc_199_0 : (List.range 12).all (fun j => okOp 199 (0 + j)) = true := by decide +kernel
theorem okc_199_12 : (List.range 12).all (fun j => okOp 199 (12 + j)) = true := by decide +kernel
theorem okc_199_24 : (List.range 9).all (fun j => okOp 199 (24 + j)) = true := by decide +kernel
theorem okj_199 : ∀ j, j < 33 → okOp 199 j = true := by
  intro j hj
  by_cases h0 : j < 12
  · have h := List.all_eq_true.mp okc_199_0 (j - 0) (List.mem_range.mpr (by omega)); rwa [show 0 + (j - 0) = j by omega] at h
  by_cases h12 : j < 24
  · have h := List.all_eq_true.mp okc_199_12 (j - 12) (List.mem_range.mpr (by omega)); rwa [show 12 + (j - 12) = j by omega] at h
  by_cases h24 : j < 33
  · have h := List.all_eq_true.mp okc_199_24 (j - 24) (List.mem_range.mpr (by omega)); rwa [show 24 + (j - 24) = j by omega] at h
  omega
theorem okc_200_0 : (List.range 12).all (fun j => okOp 200 (0 + j)) = true := by decide +kernel
theorem okc_200_12 : (List.range 6).all (fun j => okOp 200 (12 + j)) = true := by decide +kernel
theorem okj_200 : ∀ j, j < 18 → okOp 200 j = true := by
  intro j hj
  by_cases h0 : j < 12
  · have h := List.all_eq_true.mp okc_200_0 (j - 0) (List.mem_range.mpr (by omega)); rwa [show 0 + (j - 0) = j by omega] at h
  by_cases h12 : j < 18
  · have h := List.all_eq_true.mp okc_200_12 (j - 12) (List.mem_range.mpr (by omega)); rwa [show 12 + (j - 12) = j by omega] at h
  omega
theorem okc_201_0 : (List.range 12).all (fun j => okOp 201 (0 + j)) = true := by decide +kernel
theorem okc_201_12 : (List.range 12).all (fun j => okOp 201 (12 + j)) = true := by decide +kernel
theorem okc_201_24 : (List.range 5).all (fun j => okOp 201 (24 + j)) = true := by decide +kernel
theorem okj_201 : ∀ j, j < 29 → okOp 201 j = true := by
  intro j hj
  by_cases h0 : j < 12
  · have h := List.all_eq_true.mp okc_201_0 (j - 0) (List.mem_range.mpr (by omega)); rwa [show 0 + (j - 0) = j by omega] at h
  by_cases h12 : j < 24
  · have h := List.all_eq_true.mp okc_201_12 (j - 12) (List.mem_range.mpr (by omega)); rwa [show 12 + (j - 12) = j by omega] at h
  by_cases h24 : j < 29
  · have h := List.all_eq_true.mp okc_201_24 (j - 24) (List.mem_range.mpr (by omega)); rwa [show 24 + (j - 24) = j by omega] at h
  omega
theorem okc_202_0 : (List.range 12).all (fun j => okOp 202 (0 + j)) = true := by decide +kernel
theorem okc_202_12 : (List.range 2).all (fun j => okOp 202 (12 + j)) = true := by decide +kernel
theorem okj_202 : ∀ j, j < 14 → okOp 202 j = true := by
  intro j hj
  by_cases h0 : j < 12
  · have h := List.all_eq_true.mp okc_202_0 (j - 0) (List.mem_range.mpr (by omega)); rwa [show 0 + (j - 0) = j by omega] at h
  by_cases h12 : j < 14
  · have h := List.all_eq_true.mp okc_202_12 (j - 12) (List.mem_range.mpr (by omega)); rwa [show 12 + (j - 12) = j by omega] at h
  omega
theorem okc_203_0 : (List.range 12).all (fun j => okOp 203 (0 + j)) = true := by decide +kernel
theorem okc_203_12 : (List.range 6).all (fun j => okOp 203 (12 + j)) = true := by decide +kernel
theorem okj_203 : ∀ j, j < 18 → okOp 203 j = true := by
  intro j hj
  by_cases h0 : j < 12
  · have h := List.all_eq_true.mp okc_203_0 (j - 0) (List.mem_range.mpr (by omega)); rwa [show 0 + (j - 0) = j by omega] at h
  by_cases h12 : j < 18
  · have h := List.all_eq_true.mp okc_203_12 (j - 12) (List.mem_range.mpr (by omega)); rwa [show 12 + (j - 12) = j by omega] at h
  omega
theorem okc_204_0 : (List.range 12).all (fun j => okOp 204 (0 + j)) = true := by decide +kernel
theorem okc_204_12 : (List.range 12).all (fun j => okOp 204 (12 + j)) = true := by decide +kernel
theorem okc_204_24 : (List.range 1).all (fun j => okOp 204 (24 + j)) = true := by decide +kernel
theorem okj_204 : ∀ j, j < 25 → okOp 204 j = true := by
  intro j hj
  by_cases h0 : j < 12
  · have h := List.all_eq_true.mp okc_204_0 (j - 0) (List.mem_range.mpr (by omega)); rwa [show 0 + (j - 0) = j by omega] at h
  by_cases h12 : j < 24
  · have h := List.all_eq_true.mp okc_204_12 (j - 12) (List.mem_range.mpr (by omega)); rwa [show 12 + (j - 12) = j by omega] at h
  by_cases h24 : j < 25
  · have h := List.all_eq_true.mp okc_204_24 (j - 24) (List.mem_range.mpr (by omega)); rwa [show 24 + (j - 24) = j by omega] at h
  omega
theorem okc_205_0 : (List.range 12).all (fun j => okOp 205 (0 + j)) = true := by decide +kernel
theorem okc_205_12 : (List.range 12).all (fun j => okOp 205 (12 + j)) = true := by decide +kernel
theorem okc_205_24 : (List.range 1).all (fun j => okOp 205 (24 + j)) = true := by decide +kernel
theorem okj_205 : ∀ j, j < 25 → okOp 205 j = true := by
  intro j hj
  by_cases h0 : j < 12
  · have h := List.all_eq_true.mp okc_205_0 (j - 0) (List.mem_range.mpr (by omega)); rwa [show 0 + (j - 0) = j by omega] at h
  by_cases h12 : j < 24
  · have h := List.all_eq_true.mp okc_205_12 (j - 12) (List.mem_range.mpr (by omega)); rwa [show 12 + (j - 12) = j by omega] at h
  by_cases h24 : j < 25
  · have h := List.all_eq_true.mp okc_205_24 (j - 24) (List.mem_range.mpr (by omega)); rwa [show 24 + (j - 24) = j by omega] at h
  omega
theorem okc_206_0 : (List.range 12).all (fun j => okOp 206 (0 + j)) = true := by decide +kernel
theorem okc_206_12 : (List.range 6).all (fun j => okOp 206 (12 + j)) = true := by decide +kernel
theorem okj_206 : ∀ j, j < 18 → okOp 206 j = true := by
  intro j hj
  by_cases h0 : j < 12
  · have h := List.all_eq_true.mp okc_206_0 (j - 0) (List.mem_range.mpr (by omega)); rwa [show 0 + (j - 0) = j by omega] at h
  by_cases h12 : j < 18
  · have h := List.all_eq_true.mp okc_206_12 (j - 12) (List.mem_range.mpr (by omega)); rwa [show 12 + (j - 12) = j by omega] at h
  omega
theorem okc_207_0 : (List.range 12).all (fun j => okOp 207 (0 + j)) = true := by decide +kernel
theorem okc_207_12 : (List.range 11).all (fun j => okOp 207 (12 + j)) = true := by decide +kernel
theorem okj_207 : ∀ j, j < 23 → okOp 207 j = true := by
  intro j hj
  by_cases h0 : j < 12
  · have h := List.all_eq_true.mp okc_207_0 (j - 0) (List.mem_range.mpr (by omega)); rwa [show 0 + (j - 0) = j by omega] at h
  by_cases h12 : j < 23
  · have h := List.all_eq_true.mp okc_207_12 (j - 12) (List.mem_range.mpr (by omega)); rwa [show 12 + (j - 12) = j by omega] at h
  omega
theorem okc_208_0 : (List.range 12).all (fun j => okOp 208 (0 + j)) = true := by decide +kernel
theorem okc_208_12 : (List.range 4).all (fun j => okOp 208 (12 + j)) = true := by decide +kernel
theorem okj_208 : ∀ j, j < 16 → okOp 208 j = true := by
  intro j hj
  by_cases h0 : j < 12
  · have h := List.all_eq_true.mp okc_208_0 (j - 0) (List.mem_range.mpr (by omega)); rwa [show 0 + (j - 0) = j by omega] at h
  by_cases h12 : j < 16
  · have h := List.all_eq_true.mp okc_208_12 (j - 12) (List.mem_range.mpr (by omega)); rwa [show 12 + (j - 12) = j by omega] at h
  omega
theorem okc_209_0 : (List.range 12).all (fun j => okOp 209 (0 + j)) = true := by decide +kernel
theorem okj_209 : ∀ j, j < 12 → okOp 209 j = true := by
  intro j hj
  by_cases h0 : j < 12
  · have h := List.all_eq_true.mp okc_209_0 (j - 0) (List.mem_range.mpr (by omega)); rwa [show 0 + (j - 0) = j by omega] at h
  omega
theorem okc_210_0 : (List.range 4).all (fun j => okOp 210 (0 + j)) = true := by decide +kernel
theorem okj_210 : ∀ j, j < 4 → okOp 210 j = true := by
  intro j hj
  by_cases h0 : j < 4
  · have h := List.all_eq_true.mp okc_210_0 (j - 0) (List.mem_range.mpr (by omega)); rwa [show 0 + (j - 0) = j by omega] at h
  omega
theorem okc_211_0 : (List.range 12).all (fun j => okOp 211 (0 + j)) = true := by decide +kernel
theorem okc_211_12 : (List.range 7).all (fun j => okOp 211 (12 + j)) = true := by decide +kernel
theorem okj_211 : ∀ j, j < 19 → okOp 211 j = true := by
  intro j hj
  by_cases h0 : j < 12
  · have h := List.all_eq_true.mp okc_211_0 (j - 0) (List.mem_range.mpr (by omega)); rwa [show 0 + (j - 0) = j by omega] at h
  by_cases h12 : j < 19
  · have h := List.all_eq_true.mp okc_211_12 (j - 12) (List.mem_range.mpr (by omega)); rwa [show 12 + (j - 12) = j by omega] at h
  omega
theorem okc_212_0 : (List.range 12).all (fun j => okOp 212 (0 + j)) = true := by decide +kernel
theorem okc_212_12 : (List.range 12).all (fun j => okOp 212 (12 + j)) = true := by decide +kernel
theorem okc_212_24 : (List.range 12).all (fun j => okOp 212 (24 + j)) = true := by decide +kernel
theorem okc_212_36 : (List.range 12).all (fun j => okOp 212 (36 + j)) = true := by decide +kernel
theorem okc_212_48 : (List.range 12).all (fun j => okOp 212 (48 + j)) = true := by decide +kernel
theorem okc_212_60 : (List.range 1).all (fun j => okOp 212 (60 + j)) = true := by decide +kernel
theorem okj_212 : ∀ j, j < 61 → okOp 212 j = true := by
  intro j hj
  by_cases h0 : j < 12
  · have h := List.all_eq_true.mp okc_212_0 (j - 0) (List.mem_range.mpr (by omega)); rwa [show 0 + (j - 0) = j by omega] at h
  by_cases h12 : j < 24
  · have h := List.all_eq_true.mp okc_212_12 (j - 12) (List.mem_range.mpr (by omega)); rwa [show 12 + (j - 12) = j by omega] at h
  by_cases h24 : j < 36
  · have h := List.all_eq_true.mp okc_212_24 (j - 24) (List.mem_range.mpr (by omega)); rwa [show 24 + (j - 24) = j by omega] at h
  by_cases h36 : j < 48
  · have h := List.all_eq_true.mp okc_212_36 (j - 36) (List.mem_range.mpr (by omega)); rwa [show 36 + (j - 36) = j by omega] at h
  by_cases h48 : j < 60
  · have h := List.all_eq_true.mp okc_212_48 (j - 48) (List.mem_range.mpr (by omega)); rwa [show 48 + (j - 48) = j by omega] at h
  by_cases h60 : j < 61
  · have h := List.all_eq_true.mp okc_212_60 (j - 60) (List.mem_range.mpr (by omega)); rwa [show 60 + (j - 60) = j by omega] at h
  omega
theorem okc_213_0 : (List.range 12).all (fun j => okOp 213 (0 + j)) = true := by decide +kernel
theorem okc_213_12 : (List.range 6).all (fun j => okOp 213 (12 + j)) = true := by decide +kernel
theorem okj_213 : ∀ j, j < 18 → okOp 213 j = true := by
  intro j hj
  by_cases h0 : j < 12
  · have h := List.all_eq_true.mp okc_213_0 (j - 0) (List.mem_range.mpr (by omega)); rwa [show 0 + (j - 0) = j by omega] at h
  by_cases h12 : j < 18
  · have h := List.all_eq_true.mp okc_213_12 (j - 12) (List.mem_range.mpr (by omega)); rwa [show 12 + (j - 12) = j by omega] at h
  omega
theorem okc_214_0 : (List.range 12).all (fun j => okOp 214 (0 + j)) = true := by decide +kernel
theorem okc_214_12 : (List.range 10).all (fun j => okOp 214 (12 + j)) = true := by decide +kernel
theorem okj_214 : ∀ j, j < 22 → okOp 214 j = true := by
  intro j hj
  by_cases h0 : j < 12
  · have h := List.all_eq_true.mp okc_214_0 (j - 0) (List.mem_range.mpr (by omega)); rwa [show 0 + (j - 0) = j by omega] at h
  by_cases h12 : j < 22
  · have h := List.all_eq_true.mp okc_214_12 (j - 12) (List.mem_range.mpr (by omega)); rwa [show 12 + (j - 12) = j by omega] at h
  omega
theorem okc_215_0 : (List.range 12).all (fun j => okOp 215 (0 + j)) = true := by decide +kernel
theorem okc_215_12 : (List.range 12).all (fun j => okOp 215 (12 + j)) = true := by decide +kernel
theorem okc_215_24 : (List.range 12).all (fun j => okOp 215 (24 + j)) = true := by decide +kernel
theorem okc_215_36 : (List.range 12).all (fun j => okOp 215 (36 + j)) = true := by decide +kernel
theorem okc_215_48 : (List.range 7).all (fun j => okOp 215 (48 + j)) = true := by decide +kernel
theorem okj_215 : ∀ j, j < 55 → okOp 215 j = true := by
  intro j hj
  by_cases h0 : j < 12
  · have h := List.all_eq_true.mp okc_215_0 (j - 0) (List.mem_range.mpr (by omega)); rwa [show 0 + (j - 0) = j by omega] at h
  by_cases h12 : j < 24
  · have h := List.all_eq_true.mp okc_215_12 (j - 12) (List.mem_range.mpr (by omega)); rwa [show 12 + (j - 12) = j by omega] at h
  by_cases h24 : j < 36
  · have h := List.all_eq_true.mp okc_215_24 (j - 24) (List.mem_range.mpr (by omega)); rwa [show 24 + (j - 24) = j by omega] at h
  by_cases h36 : j < 48
  · have h := List.all_eq_true.mp okc_215_36 (j - 36) (List.mem_range.mpr (by omega)); rwa [show 36 + (j - 36) = j by omega] at h
  by_cases h48 : j < 55
  · have h := List.all_eq_true.mp okc_215_48 (j - 48) (List.mem_range.mpr (by omega)); rwa [show 48 + (j - 48) = j by omega] at h
  omega
theorem okc_216_0 : (List.range 12).all (fun j => okOp 216 (0 + j)) = true := by decide +kernel
theorem okc_216_12 : (List.range 6).all (fun j => okOp 216 (12 + j)) = true := by decide +kernel
theorem okj_216 : ∀ j, j < 18 → okOp 216 j = true := by
  intro j hj
  by_cases h0 : j < 12
  · have h := List.all_eq_true.mp okc_216_0 (j - 0) (List.mem_range.mpr (by omega)); rwa [show 0 + (j - 0) = j by omega] at h
  by_cases h12 : j < 18
  · have h := List.all_eq_true.mp okc_216_12 (j - 12) (List.mem_range.mpr (by omega)); rwa [show 12 + (j - 12) = j by omega] at h
  omega
theorem okc_217_0 : (List.range 12).all (fun j => okOp 217 (0 + j)) = true := by decide +kernel
theorem okc_217_12 : (List.range 12).all (fun j => okOp 217 (12 + j)) = true := by decide +kernel
theorem okc_217_24 : (List.range 1).all (fun j => okOp 217 (24 + j)) = true := by decide +kernel
theorem okj_217 : ∀ j, j < 25 → okOp 217 j = true := by
  intro j hj
  by_cases h0 : j < 12
  · have h := List.all_eq_true.mp okc_217_0 (j - 0) (List.mem_range.mpr (by omega)); rwa [show 0 + (j - 0) = j by omega] at h
  by_cases h12 : j < 24
  · have h := List.all_eq_true.mp okc_217_12 (j - 12) (List.mem_range.mpr (by omega)); rwa [show 12 + (j - 12) = j by omega] at h
  by_cases h24 : j < 25
  · have h := List.all_eq_true.mp okc_217_24 (j - 24) (List.mem_range.mpr (by omega)); rwa [show 24 + (j - 24) = j by omega] at h
  omega
theorem okc_218_0 : (List.range 12).all (fun j => okOp 218 (0 + j)) = true := by decide +kernel
theorem okc_218_12 : (List.range 12).all (fun j => okOp 218 (12 + j)) = true := by decide +kernel
theorem okc_218_24 : (List.range 12).all (fun j => okOp 218 (24 + j)) = true := by decide +kernel
theorem okc_218_36 : (List.range 12).all (fun j => okOp 218 (36 + j)) = true := by decide +kernel
theorem okc_218_48 : (List.range 12).all (fun j => okOp 218 (48 + j)) = true := by decide +kernel
theorem okc_218_60 : (List.range 12).all (fun j => okOp 218 (60 + j)) = true := by decide +kernel
theorem okc_218_72 : (List.range 12).all (fun j => okOp 218 (72 + j)) = true := by decide +kernel
theorem okc_218_84 : (List.range 12).all (fun j => okOp 218 (84 + j)) = true := by decide +kernel
theorem okc_218_96 : (List.range 12).all (fun j => okOp 218 (96 + j)) = true := by decide +kernel
theorem okc_218_108 : (List.range 5).all (fun j => okOp 218 (108 + j)) = true := by decide +kernel
theorem okj_218 : ∀ j, j < 113 → okOp 218 j = true := by
  intro j hj
  by_cases h0 : j < 12
  · have h := List.all_eq_true.mp okc_218_0 (j - 0) (List.mem_range.mpr (by omega)); rwa [show 0 + (j - 0) = j by omega] at h
  by_cases h12 : j < 24
  · have h := List.all_eq_true.mp okc_218_12 (j - 12) (List.mem_range.mpr (by omega)); rwa [show 12 + (j - 12) = j by omega] at h
  by_cases h24 : j < 36
  · have h := List.all_eq_true.mp okc_218_24 (j - 24) (List.mem_range.mpr (by omega)); rwa [show 24 + (j - 24) = j by omega] at h
  by_cases h36 : j < 48
  · have h := List.all_eq_true.mp okc_218_36 (j - 36) (List.mem_range.mpr (by omega)); rwa [show 36 + (j - 36) = j by omega] at h
  by_cases h48 : j < 60
  · have h := List.all_eq_true.mp okc_218_48 (j - 48) (List.mem_range.mpr (by omega)); rwa [show 48 + (j - 48) = j by omega] at h
  by_cases h60 : j < 72
  · have h := List.all_eq_true.mp okc_218_60 (j - 60) (List.mem_range.mpr (by omega)); rwa [show 60 + (j - 60) = j by omega] at h
  by_cases h72 : j < 84
  · have h := List.all_eq_true.mp okc_218_72 (j - 72) (List.mem_range.mpr (by omega)); rwa [show 72 + (j - 72) = j by omega] at h
  by_cases h84 : j < 96
  · have h := List.all_eq_true.mp okc_218_84 (j - 84) (List.mem_range.mpr (by omega)); rwa [show 84 + (j - 84) = j by omega] at h
  by_cases h96 : j < 108
  · have h := List.all_eq_true.mp okc_218_96 (j - 96) (List.mem_range.mpr (by omega)); rwa [show 96 + (j - 96) = j by omega] at h
  by_cases h108 : j < 113
  · have h := List.all_eq_true.mp okc_218_108 (j - 108) (List.mem_range.mpr (by omega)); rwa [show 108 + (j - 108) = j by omega] at h
  omega
theorem okc_219_0 : (List.range 12).all (fun j => okOp 219 (0 + j)) = true := by decide +kernel
theorem okc_219_12 : (List.range 12).all (fun j => okOp 219 (12 + j)) = true := by decide +kernel
theorem okc_219_24 : (List.range 11).all (fun j => okOp 219 (24 + j)) = true := by decide +kernel
theorem okj_219 : ∀ j, j < 35 → okOp 219 j = true := by
  intro j hj
  by_cases h0 : j < 12
  · have h := List.all_eq_true.mp okc_219_0 (j - 0) (List.mem_range.mpr (by omega)); rwa [show 0 + (j - 0) = j by omega] at h
  by_cases h12 : j < 24
  · have h := List.all_eq_true.mp okc_219_12 (j - 12) (List.mem_range.mpr (by omega)); rwa [show 12 + (j - 12) = j by omega] at h
  by_cases h24 : j < 35
  · have h := List.all_eq_true.mp okc_219_24 (j - 24) (List.mem_range.mpr (by omega)); rwa [show 24 + (j - 24) = j by omega] at h
  omega
theorem okc_220_0 : (List.range 12).all (fun j => okOp 220 (0 + j)) = true := by decide +kernel
theorem okc_220_12 : (List.range 12).all (fun j => okOp 220 (12 + j)) = true := by decide +kernel
theorem okc_220_24 : (List.range 12).all (fun j => okOp 220 (24 + j)) = true := by decide +kernel
theorem okc_220_36 : (List.range 4).all (fun j => okOp 220 (36 + j)) = true := by decide +kernel
theorem okj_220 : ∀ j, j < 40 → okOp 220 j = true := by
  intro j hj
  by_cases h0 : j < 12
  · have h := List.all_eq_true.mp okc_220_0 (j - 0) (List.mem_range.mpr (by omega)); rwa [show 0 + (j - 0) = j by omega] at h
  by_cases h12 : j < 24
  · have h := List.all_eq_true.mp okc_220_12 (j - 12) (List.mem_range.mpr (by omega)); rwa [show 12 + (j - 12) = j by omega] at h
  by_cases h24 : j < 36
  · have h := List.all_eq_true.mp okc_220_24 (j - 24) (List.mem_range.mpr (by omega)); rwa [show 24 + (j - 24) = j by omega] at h
  by_cases h36 : j < 40
  · have h := List.all_eq_true.mp okc_220_36 (j - 36) (List.mem_range.mpr (by omega)); rwa [show 36 + (j - 36) = j by omega] at h
  omega
theorem okc_221_0 : (List.range 12).all (fun j => okOp 221 (0 + j)) = true := by decide +kernel
theorem okc_221_12 : (List.range 12).all (fun j => okOp 221 (12 + j)) = true := by decide +kernel
theorem okc_221_24 : (List.range 12).all (fun j => okOp 221 (24 + j)) = true := by decide +kernel
theorem okc_221_36 : (List.range 6).all (fun j => okOp 221 (36 + j)) = true := by decide +kernel
theorem okj_221 : ∀ j, j < 42 → okOp 221 j = true := by
  intro j hj
  by_cases h0 : j < 12
  · have h := List.all_eq_true.mp okc_221_0 (j - 0) (List.mem_range.mpr (by omega)); rwa [show 0 + (j - 0) = j by omega] at h
  by_cases h12 : j < 24
  · have h := List.all_eq_true.mp okc_221_12 (j - 12) (List.mem_range.mpr (by omega)); rwa [show 12 + (j - 12) = j by omega] at h
  by_cases h24 : j < 36
  · have h := List.all_eq_true.mp okc_221_24 (j - 24) (List.mem_range.mpr (by omega)); rwa [show 24 + (j - 24) = j by omega] at h
  by_cases h36 : j < 42
  · have h := List.all_eq_true.mp okc_221_36 (j - 36) (List.mem_range.mpr (by omega)); rwa [show 36 + (j - 36) = j by omega] at h
  omega
theorem okc_222_0 : (List.range 12).all (fun j => okOp 222 (0 + j)) = true := by decide +kernel
theorem okc_222_12 : (List.range 12).all (fun j => okOp 222 (12 + j)) = true := by decide +kernel
theorem okc_222_24 : (List.range 12).all (fun j => okOp 222 (24 + j)) = true := by decide +kernel
theorem okc_222_36 : (List.range 12).all (fun j => okOp 222 (36 + j)) = true := by decide +kernel
theorem okc_222_48 : (List.range 1).all (fun j => okOp 222 (48 + j)) = true := by decide +kernel
theorem okj_222 : ∀ j, j < 49 → okOp 222 j = true := by
  intro j hj
  by_cases h0 : j < 12
  · have h := List.all_eq_true.mp okc_222_0 (j - 0) (List.mem_range.mpr (by omega)); rwa [show 0 + (j - 0) = j by omega] at h
  by_cases h12 : j < 24
  · have h := List.all_eq_true.mp okc_222_12 (j - 12) (List.mem_range.mpr (by omega)); rwa [show 12 + (j - 12) = j by omega] at h
  by_cases h24 : j < 36
  · have h := List.all_eq_true.mp okc_222_24 (j - 24) (List.mem_range.mpr (by omega)); rwa [show 24 + (j - 24) = j by omega] at h
  by_cases h36 : j < 48
  · have h := List.all_eq_true.mp okc_222_36 (j - 36) (List.mem_range.mpr (by omega)); rwa [show 36 + (j - 36) = j by omega] at h
  by_cases h48 : j < 49
  · have h := List.all_eq_true.mp okc_222_48 (j - 48) (List.mem_range.mpr (by omega)); rwa [show 48 + (j - 48) = j by omega] at h
  omega
theorem okc_223_0 : (List.range 10).all (fun j => okOp 223 (0 + j)) = true := by decide +kernel
theorem okj_223 : ∀ j, j < 10 → okOp 223 j = true := by
  intro j hj
  by_cases h0 : j < 10
  · have h := List.all_eq_true.mp okc_223_0 (j - 0) (List.mem_range.mpr (by omega)); rwa [show 0 + (j - 0) = j by omega] at h
  omega
