-- ===== the looking through, method by method, 1 =====
theorem okc_0_0 : (List.range 12).all (fun j => okOp 0 (0 + j)) = true := by decide +kernel
theorem okc_0_12 : (List.range 12).all (fun j => okOp 0 (12 + j)) = true := by decide +kernel
theorem okc_0_24 : (List.range 12).all (fun j => okOp 0 (24 + j)) = true := by decide +kernel
theorem okc_0_36 : (List.range 12).all (fun j => okOp 0 (36 + j)) = true := by decide +kernel
theorem okc_0_48 : (List.range 12).all (fun j => okOp 0 (48 + j)) = true := by decide +kernel
theorem okc_0_60 : (List.range 12).all (fun j => okOp 0 (60 + j)) = true := by decide +kernel
theorem okc_0_72 : (List.range 12).all (fun j => okOp 0 (72 + j)) = true := by decide +kernel
theorem okc_0_84 : (List.range 12).all (fun j => okOp 0 (84 + j)) = true := by decide +kernel
theorem okc_0_96 : (List.range 12).all (fun j => okOp 0 (96 + j)) = true := by decide +kernel
theorem okc_0_108 : (List.range 12).all (fun j => okOp 0 (108 + j)) = true := by decide +kernel
theorem okc_0_120 : (List.range 12).all (fun j => okOp 0 (120 + j)) = true := by decide +kernel
theorem okc_0_132 : (List.range 12).all (fun j => okOp 0 (132 + j)) = true := by decide +kernel
theorem okc_0_144 : (List.range 12).all (fun j => okOp 0 (144 + j)) = true := by decide +kernel
theorem okc_0_156 : (List.range 12).all (fun j => okOp 0 (156 + j)) = true := by decide +kernel
theorem okc_0_168 : (List.range 12).all (fun j => okOp 0 (168 + j)) = true := by decide +kernel
theorem okc_0_180 : (List.range 12).all (fun j => okOp 0 (180 + j)) = true := by decide +kernel
theorem okc_0_192 : (List.range 12).all (fun j => okOp 0 (192 + j)) = true := by decide +kernel
theorem okc_0_204 : (List.range 12).all (fun j => okOp 0 (204 + j)) = true := by decide +kernel
theorem okc_0_216 : (List.range 12).all (fun j => okOp 0 (216 + j)) = true := by decide +kernel
theorem okc_0_228 : (List.range 12).all (fun j => okOp 0 (228 + j)) = true := by decide +kernel
theorem okc_0_240 : (List.range 12).all (fun j => okOp 0 (240 + j)) = true := by decide +kernel
theorem okc_0_252 : (List.range 12).all (fun j => okOp 0 (252 + j)) = true := by decide +kernel
theorem okc_0_264 : (List.range 12).all (fun j => okOp 0 (264 + j)) = true := by decide +kernel
theorem okc_0_276 : (List.range 12).all (fun j => okOp 0 (276 + j)) = true := by decide +kernel
theorem okc_0_288 : (List.range 12).all (fun j => okOp 0 (288 + j)) = true := by decide +kernel
theorem okc_0_300 : (List.range 12).all (fun j => okOp 0 (300 + j)) = true := by decide +kernel
theorem okc_0_312 : (List.range 12).all (fun j => okOp 0 (312 + j)) = true := by decide +kernel
theorem okc_0_324 : (List.range 12).all (fun j => okOp 0 (324 + j)) = true := by decide +kernel
theorem okc_0_336 : (List.range 12).all (fun j => okOp 0 (336 + j)) = true := by decide +kernel
theorem okc_0_348 : (List.range 12).all (fun j => okOp 0 (348 + j)) = true := by decide +kernel
theorem okc_0_360 : (List.range 12).all (fun j => okOp 0 (360 + j)) = true := by decide +kernel
theorem okc_0_372 : (List.range 12).all (fun j => okOp 0 (372 + j)) = true := by decide +kernel
theorem okc_0_384 : (List.range 12).all (fun j => okOp 0 (384 + j)) = true := by decide +kernel
theorem okc_0_396 : (List.range 12).all (fun j => okOp 0 (396 + j)) = true := by decide +kernel
theorem okc_0_408 : (List.range 12).all (fun j => okOp 0 (408 + j)) = true := by decide +kernel
theorem okc_0_420 : (List.range 12).all (fun j => okOp 0 (420 + j)) = true := by decide +kernel
theorem okc_0_432 : (List.range 12).all (fun j => okOp 0 (432 + j)) = true := by decide +kernel
theorem okc_0_444 : (List.range 12).all (fun j => okOp 0 (444 + j)) = true := by decide +kernel
theorem okc_0_456 : (List.range 12).all (fun j => okOp 0 (456 + j)) = true := by decide +kernel
theorem okc_0_468 : (List.range 12).all (fun j => okOp 0 (468 + j)) = true := by decide +kernel
theorem okc_0_480 : (List.range 12).all (fun j => okOp 0 (480 + j)) = true := by decide +kernel
theorem okc_0_492 : (List.range 12).all (fun j => okOp 0 (492 + j)) = true := by decide +kernel
theorem okc_0_504 : (List.range 12).all (fun j => okOp 0 (504 + j)) = true := by decide +kernel
theorem okc_0_516 : (List.range 12).all (fun j => okOp 0 (516 + j)) = true := by decide +kernel
theorem okc_0_528 : (List.range 12).all (fun j => okOp 0 (528 + j)) = true := by decide +kernel
theorem okc_0_540 : (List.range 12).all (fun j => okOp 0 (540 + j)) = true := by decide +kernel
theorem okc_0_552 : (List.range 12).all (fun j => okOp 0 (552 + j)) = true := by decide +kernel
theorem okc_0_564 : (List.range 12).all (fun j => okOp 0 (564 + j)) = true := by decide +kernel
theorem okc_0_576 : (List.range 12).all (fun j => okOp 0 (576 + j)) = true := by decide +kernel
theorem okc_0_588 : (List.range 10).all (fun j => okOp 0 (588 + j)) = true := by decide +kernel
theorem okj_0 : ∀ j, j < 598 → okOp 0 j = true := by
  intro j hj
  by_cases h0 : j < 12
  · have h := List.all_eq_true.mp okc_0_0 (j - 0) (List.mem_range.mpr (by omega)); rwa [show 0 + (j - 0) = j by omega] at h
  by_cases h12 : j < 24
  · have h := List.all_eq_true.mp okc_0_12 (j - 12) (List.mem_range.mpr (by omega)); rwa [show 12 + (j - 12) = j by omega] at h
  by_cases h24 : j < 36
  · have h := List.all_eq_true.mp okc_0_24 (j - 24) (List.mem_range.mpr (by omega)); rwa [show 24 + (j - 24) = j by omega] at h
  by_cases h36 : j < 48
  · have h := List.all_eq_true.mp okc_0_36 (j - 36) (List.mem_range.mpr (by omega)); rwa [show 36 + (j - 36) = j by omega] at h
  by_cases h48 : j < 60
  · have h := List.all_eq_true.mp okc_0_48 (j - 48) (List.mem_range.mpr (by omega)); rwa [show 48 + (j - 48) = j by omega] at h
  by_cases h60 : j < 72
  · have h := List.all_eq_true.mp okc_0_60 (j - 60) (List.mem_range.mpr (by omega)); rwa [show 60 + (j - 60) = j by omega] at h
  by_cases h72 : j < 84
  · have h := List.all_eq_true.mp okc_0_72 (j - 72) (List.mem_range.mpr (by omega)); rwa [show 72 + (j - 72) = j by omega] at h
  by_cases h84 : j < 96
  · have h := List.all_eq_true.mp okc_0_84 (j - 84) (List.mem_range.mpr (by omega)); rwa [show 84 + (j - 84) = j by omega] at h
  by_cases h96 : j < 108
  · have h := List.all_eq_true.mp okc_0_96 (j - 96) (List.mem_range.mpr (by omega)); rwa [show 96 + (j - 96) = j by omega] at h
  by_cases h108 : j < 120
  · have h := List.all_eq_true.mp okc_0_108 (j - 108) (List.mem_range.mpr (by omega)); rwa [show 108 + (j - 108) = j by omega] at h
  by_cases h120 : j < 132
  · have h := List.all_eq_true.mp okc_0_120 (j - 120) (List.mem_range.mpr (by omega)); rwa [show 120 + (j - 120) = j by omega] at h
  by_cases h132 : j < 144
  · have h := List.all_eq_true.mp okc_0_132 (j - 132) (List.mem_range.mpr (by omega)); rwa [show 132 + (j - 132) = j by omega] at h
  by_cases h144 : j < 156
  · have h := List.all_eq_true.mp okc_0_144 (j - 144) (List.mem_range.mpr (by omega)); rwa [show 144 + (j - 144) = j by omega] at h
  by_cases h156 : j < 168
  · have h := List.all_eq_true.mp okc_0_156 (j - 156) (List.mem_range.mpr (by omega)); rwa [show 156 + (j - 156) = j by omega] at h
  by_cases h168 : j < 180
  · have h := List.all_eq_true.mp okc_0_168 (j - 168) (List.mem_range.mpr (by omega)); rwa [show 168 + (j - 168) = j by omega] at h
  by_cases h180 : j < 192
  · have h := List.all_eq_true.mp okc_0_180 (j - 180) (List.mem_range.mpr (by omega)); rwa [show 180 + (j - 180) = j by omega] at h
  by_cases h192 : j < 204
  · have h := List.all_eq_true.mp okc_0_192 (j - 192) (List.mem_range.mpr (by omega)); rwa [show 192 + (j - 192) = j by omega] at h
  by_cases h204 : j < 216
  · have h := List.all_eq_true.mp okc_0_204 (j - 204) (List.mem_range.mpr (by omega)); rwa [show 204 + (j - 204) = j by omega] at h
  by_cases h216 : j < 228
  · have h := List.all_eq_true.mp okc_0_216 (j - 216) (List.mem_range.mpr (by omega)); rwa [show 216 + (j - 216) = j by omega] at h
  by_cases h228 : j < 240
  · have h := List.all_eq_true.mp okc_0_228 (j - 228) (List.mem_range.mpr (by omega)); rwa [show 228 + (j - 228) = j by omega] at h
  by_cases h240 : j < 252
  · have h := List.all_eq_true.mp okc_0_240 (j - 240) (List.mem_range.mpr (by omega)); rwa [show 240 + (j - 240) = j by omega] at h
  by_cases h252 : j < 264
  · have h := List.all_eq_true.mp okc_0_252 (j - 252) (List.mem_range.mpr (by omega)); rwa [show 252 + (j - 252) = j by omega] at h
  by_cases h264 : j < 276
  · have h := List.all_eq_true.mp okc_0_264 (j - 264) (List.mem_range.mpr (by omega)); rwa [show 264 + (j - 264) = j by omega] at h
  by_cases h276 : j < 288
  · have h := List.all_eq_true.mp okc_0_276 (j - 276) (List.mem_range.mpr (by omega)); rwa [show 276 + (j - 276) = j by omega] at h
  by_cases h288 : j < 300
  · have h := List.all_eq_true.mp okc_0_288 (j - 288) (List.mem_range.mpr (by omega)); rwa [show 288 + (j - 288) = j by omega] at h
  by_cases h300 : j < 312
  · have h := List.all_eq_true.mp okc_0_300 (j - 300) (List.mem_range.mpr (by omega)); rwa [show 300 + (j - 300) = j by omega] at h
  by_cases h312 : j < 324
  · have h := List.all_eq_true.mp okc_0_312 (j - 312) (List.mem_range.mpr (by omega)); rwa [show 312 + (j - 312) = j by omega] at h
  by_cases h324 : j < 336
  · have h := List.all_eq_true.mp okc_0_324 (j - 324) (List.mem_range.mpr (by omega)); rwa [show 324 + (j - 324) = j by omega] at h
  by_cases h336 : j < 348
  · have h := List.all_eq_true.mp okc_0_336 (j - 336) (List.mem_range.mpr (by omega)); rwa [show 336 + (j - 336) = j by omega] at h
  by_cases h348 : j < 360
  · have h := List.all_eq_true.mp okc_0_348 (j - 348) (List.mem_range.mpr (by omega)); rwa [show 348 + (j - 348) = j by omega] at h
  by_cases h360 : j < 372
  · have h := List.all_eq_true.mp okc_0_360 (j - 360) (List.mem_range.mpr (by omega)); rwa [show 360 + (j - 360) = j by omega] at h
  by_cases h372 : j < 384
  · have h := List.all_eq_true.mp okc_0_372 (j - 372) (List.mem_range.mpr (by omega)); rwa [show 372 + (j - 372) = j by omega] at h
  by_cases h384 : j < 396
  · have h := List.all_eq_true.mp okc_0_384 (j - 384) (List.mem_range.mpr (by omega)); rwa [show 384 + (j - 384) = j by omega] at h
  by_cases h396 : j < 408
  · have h := List.all_eq_true.mp okc_0_396 (j - 396) (List.mem_range.mpr (by omega)); rwa [show 396 + (j - 396) = j by omega] at h
  by_cases h408 : j < 420
  · have h := List.all_eq_true.mp okc_0_408 (j - 408) (List.mem_range.mpr (by omega)); rwa [show 408 + (j - 408) = j by omega] at h
  by_cases h420 : j < 432
  · have h := List.all_eq_true.mp okc_0_420 (j - 420) (List.mem_range.mpr (by omega)); rwa [show 420 + (j - 420) = j by omega] at h
  by_cases h432 : j < 444
  · have h := List.all_eq_true.mp okc_0_432 (j - 432) (List.mem_range.mpr (by omega)); rwa [show 432 + (j - 432) = j by omega] at h
  by_cases h444 : j < 456
  · have h := List.all_eq_true.mp okc_0_444 (j - 444) (List.mem_range.mpr (by omega)); rwa [show 444 + (j - 444) = j by omega] at h
  by_cases h456 : j < 468
  · have h := List.all_eq_true.mp okc_0_456 (j - 456) (List.mem_range.mpr (by omega)); rwa [show 456 + (j - 456) = j by omega] at h
  by_cases h468 : j < 480
  · have h := List.all_eq_true.mp okc_0_468 (j - 468) (List.mem_range.mpr (by omega)); rwa [show 468 + (j - 468) = j by omega] at h
  by_cases h480 : j < 492
  · have h := List.all_eq_true.mp okc_0_480 (j - 480) (List.mem_range.mpr (by omega)); rwa [show 480 + (j - 480) = j by omega] at h
  by_cases h492 : j < 504
  · have h := List.all_eq_true.mp okc_0_492 (j - 492) (List.mem_range.mpr (by omega)); rwa [show 492 + (j - 492) = j by omega] at h
  by_cases h504 : j < 516
  · have h := List.all_eq_true.mp okc_0_504 (j - 504) (List.mem_range.mpr (by omega)); rwa [show 504 + (j - 504) = j by omega] at h
  by_cases h516 : j < 528
  · have h := List.all_eq_true.mp okc_0_516 (j - 516) (List.mem_range.mpr (by omega)); rwa [show 516 + (j - 516) = j by omega] at h
  by_cases h528 : j < 540
  · have h := List.all_eq_true.mp okc_0_528 (j - 528) (List.mem_range.mpr (by omega)); rwa [show 528 + (j - 528) = j by omega] at h
  by_cases h540 : j < 552
  · have h := List.all_eq_true.mp okc_0_540 (j - 540) (List.mem_range.mpr (by omega)); rwa [show 540 + (j - 540) = j by omega] at h
  by_cases h552 : j < 564
  · have h := List.all_eq_true.mp okc_0_552 (j - 552) (List.mem_range.mpr (by omega)); rwa [show 552 + (j - 552) = j by omega] at h
  by_cases h564 : j < 576
  · have h := List.all_eq_true.mp okc_0_564 (j - 564) (List.mem_range.mpr (by omega)); rwa [show 564 + (j - 564) = j by omega] at h
  by_cases h576 : j < 588
  · have h := List.all_eq_true.mp okc_0_576 (j - 576) (List.mem_range.mpr (by omega)); rwa [show 576 + (j - 576) = j by omega] at h
  by_cases h588 : j < 598
  · have h := List.all_eq_true.mp okc_0_588 (j - 588) (List.mem_range.mpr (by omega)); rwa [show 588 + (j - 588) = j by omega] at h
  omega
theorem okc_1_0 : (List.range 12).all (fun j => okOp 1 (0 + j)) = true := by decide +kernel
theorem okc_1_12 : (List.range 12).all (fun j => okOp 1 (12 + j)) = true := by decide +kernel
theorem okc_1_24 : (List.range 12).all (fun j => okOp 1 (24 + j)) = true := by decide +kernel
theorem okc_1_36 : (List.range 12).all (fun j => okOp 1 (36 + j)) = true := by decide +kernel
theorem okc_1_48 : (List.range 12).all (fun j => okOp 1 (48 + j)) = true := by decide +kernel
theorem okc_1_60 : (List.range 11).all (fun j => okOp 1 (60 + j)) = true := by decide +kernel
theorem okj_1 : ∀ j, j < 71 → okOp 1 j = true := by
  intro j hj
  by_cases h0 : j < 12
  · have h := List.all_eq_true.mp okc_1_0 (j - 0) (List.mem_range.mpr (by omega)); rwa [show 0 + (j - 0) = j by omega] at h
  by_cases h12 : j < 24
  · have h := List.all_eq_true.mp okc_1_12 (j - 12) (List.mem_range.mpr (by omega)); rwa [show 12 + (j - 12) = j by omega] at h
  by_cases h24 : j < 36
  · have h := List.all_eq_true.mp okc_1_24 (j - 24) (List.mem_range.mpr (by omega)); rwa [show 24 + (j - 24) = j by omega] at h
  by_cases h36 : j < 48
  · have h := List.all_eq_true.mp okc_1_36 (j - 36) (List.mem_range.mpr (by omega)); rwa [show 36 + (j - 36) = j by omega] at h
  by_cases h48 : j < 60
  · have h := List.all_eq_true.mp okc_1_48 (j - 48) (List.mem_range.mpr (by omega)); rwa [show 48 + (j - 48) = j by omega] at h
  by_cases h60 : j < 71
  · have h := List.all_eq_true.mp okc_1_60 (j - 60) (List.mem_range.mpr (by omega)); rwa [show 60 + (j - 60) = j by omega] at h
  omega
theorem okc_2_0 : (List.range 12).all (fun j => okOp 2 (0 + j)) = true := by decide +kernel
theorem okc_2_12 : (List.range 12).all (fun j => okOp 2 (12 + j)) = true := by decide +kernel
theorem okc_2_24 : (List.range 10).all (fun j => okOp 2 (24 + j)) = true := by decide +kernel
theorem okj_2 : ∀ j, j < 34 → okOp 2 j = true := by
  intro j hj
  by_cases h0 : j < 12
  · have h := List.all_eq_true.mp okc_2_0 (j - 0) (List.mem_range.mpr (by omega)); rwa [show 0 + (j - 0) = j by omega] at h
  by_cases h12 : j < 24
  · have h := List.all_eq_true.mp okc_2_12 (j - 12) (List.mem_range.mpr (by omega)); rwa [show 12 + (j - 12) = j by omega] at h
  by_cases h24 : j < 34
  · have h := List.all_eq_true.mp okc_2_24 (j - 24) (List.mem_range.mpr (by omega)); rwa [show 24 + (j - 24) = j by omega] at h
  omega
theorem okc_3_0 : (List.range 8).all (fun j => okOp 3 (0 + j)) = true := by decide +kernel
theorem okj_3 : ∀ j, j < 8 → okOp 3 j = true := by
  intro j hj
  by_cases h0 : j < 8
  · have h := List.all_eq_true.mp okc_3_0 (j - 0) (List.mem_range.mpr (by omega)); rwa [show 0 + (j - 0) = j by omega] at h
  omega
theorem okc_4_0 : (List.range 4).all (fun j => okOp 4 (0 + j)) = true := by decide +kernel
theorem okj_4 : ∀ j, j < 4 → okOp 4 j = true := by
  intro j hj
  by_cases h0 : j < 4
  · have h := List.all_eq_true.mp okc_4_0 (j - 0) (List.mem_range.mpr (by omega)); rwa [show 0 + (j - 0) = j by omega] at h
  omega
theorem okc_5_0 : (List.range 12).all (fun j => okOp 5 (0 + j)) = true := by decide +kernel
theorem okc_5_12 : (List.range 12).all (fun j => okOp 5 (12 + j)) = true := by decide +kernel
theorem okc_5_24 : (List.range 12).all (fun j => okOp 5 (24 + j)) = true := by decide +kernel
theorem okc_5_36 : (List.range 12).all (fun j => okOp 5 (36 + j)) = true := by decide +kernel
theorem okc_5_48 : (List.range 6).all (fun j => okOp 5 (48 + j)) = true := by decide +kernel
theorem okj_5 : ∀ j, j < 54 → okOp 5 j = true := by
  intro j hj
  by_cases h0 : j < 12
  · have h := List.all_eq_true.mp okc_5_0 (j - 0) (List.mem_range.mpr (by omega)); rwa [show 0 + (j - 0) = j by omega] at h
  by_cases h12 : j < 24
  · have h := List.all_eq_true.mp okc_5_12 (j - 12) (List.mem_range.mpr (by omega)); rwa [show 12 + (j - 12) = j by omega] at h
  by_cases h24 : j < 36
  · have h := List.all_eq_true.mp okc_5_24 (j - 24) (List.mem_range.mpr (by omega)); rwa [show 24 + (j - 24) = j by omega] at h
  by_cases h36 : j < 48
  · have h := List.all_eq_true.mp okc_5_36 (j - 36) (List.mem_range.mpr (by omega)); rwa [show 36 + (j - 36) = j by omega] at h
  by_cases h48 : j < 54
  · have h := List.all_eq_true.mp okc_5_48 (j - 48) (List.mem_range.mpr (by omega)); rwa [show 48 + (j - 48) = j by omega] at h
  omega
theorem okc_6_0 : (List.range 12).all (fun j => okOp 6 (0 + j)) = true := by decide +kernel
theorem okc_6_12 : (List.range 12).all (fun j => okOp 6 (12 + j)) = true := by decide +kernel
theorem okc_6_24 : (List.range 12).all (fun j => okOp 6 (24 + j)) = true := by decide +kernel
theorem okc_6_36 : (List.range 12).all (fun j => okOp 6 (36 + j)) = true := by decide +kernel
theorem okc_6_48 : (List.range 12).all (fun j => okOp 6 (48 + j)) = true := by decide +kernel
theorem okc_6_60 : (List.range 8).all (fun j => okOp 6 (60 + j)) = true := by decide +kernel
theorem okj_6 : ∀ j, j < 68 → okOp 6 j = true := by
  intro j hj
  by_cases h0 : j < 12
  · have h := List.all_eq_true.mp okc_6_0 (j - 0) (List.mem_range.mpr (by omega)); rwa [show 0 + (j - 0) = j by omega] at h
  by_cases h12 : j < 24
  · have h := List.all_eq_true.mp okc_6_12 (j - 12) (List.mem_range.mpr (by omega)); rwa [show 12 + (j - 12) = j by omega] at h
  by_cases h24 : j < 36
  · have h := List.all_eq_true.mp okc_6_24 (j - 24) (List.mem_range.mpr (by omega)); rwa [show 24 + (j - 24) = j by omega] at h
  by_cases h36 : j < 48
  · have h := List.all_eq_true.mp okc_6_36 (j - 36) (List.mem_range.mpr (by omega)); rwa [show 36 + (j - 36) = j by omega] at h
  by_cases h48 : j < 60
  · have h := List.all_eq_true.mp okc_6_48 (j - 48) (List.mem_range.mpr (by omega)); rwa [show 48 + (j - 48) = j by omega] at h
  by_cases h60 : j < 68
  · have h := List.all_eq_true.mp okc_6_60 (j - 60) (List.mem_range.mpr (by omega)); rwa [show 60 + (j - 60) = j by omega] at h
  omega
theorem okc_7_0 : (List.range 12).all (fun j => okOp 7 (0 + j)) = true := by decide +kernel
theorem okc_7_12 : (List.range 12).all (fun j => okOp 7 (12 + j)) = true := by decide +kernel
theorem okc_7_24 : (List.range 9).all (fun j => okOp 7 (24 + j)) = true := by decide +kernel
theorem okj_7 : ∀ j, j < 33 → okOp 7 j = true := by
  intro j hj
  by_cases h0 : j < 12
  · have h := List.all_eq_true.mp okc_7_0 (j - 0) (List.mem_range.mpr (by omega)); rwa [show 0 + (j - 0) = j by omega] at h
  by_cases h12 : j < 24
  · have h := List.all_eq_true.mp okc_7_12 (j - 12) (List.mem_range.mpr (by omega)); rwa [show 12 + (j - 12) = j by omega] at h
  by_cases h24 : j < 33
  · have h := List.all_eq_true.mp okc_7_24 (j - 24) (List.mem_range.mpr (by omega)); rwa [show 24 + (j - 24) = j by omega] at h
  omega
theorem okc_8_0 : (List.range 12).all (fun j => okOp 8 (0 + j)) = true := by decide +kernel
theorem okc_8_12 : (List.range 12).all (fun j => okOp 8 (12 + j)) = true := by decide +kernel
theorem okc_8_24 : (List.range 12).all (fun j => okOp 8 (24 + j)) = true := by decide +kernel
theorem okc_8_36 : (List.range 11).all (fun j => okOp 8 (36 + j)) = true := by decide +kernel
theorem okj_8 : ∀ j, j < 47 → okOp 8 j = true := by
  intro j hj
  by_cases h0 : j < 12
  · have h := List.all_eq_true.mp okc_8_0 (j - 0) (List.mem_range.mpr (by omega)); rwa [show 0 + (j - 0) = j by omega] at h
  by_cases h12 : j < 24
  · have h := List.all_eq_true.mp okc_8_12 (j - 12) (List.mem_range.mpr (by omega)); rwa [show 12 + (j - 12) = j by omega] at h
  by_cases h24 : j < 36
  · have h := List.all_eq_true.mp okc_8_24 (j - 24) (List.mem_range.mpr (by omega)); rwa [show 24 + (j - 24) = j by omega] at h
  by_cases h36 : j < 47
  · have h := List.all_eq_true.mp okc_8_36 (j - 36) (List.mem_range.mpr (by omega)); rwa [show 36 + (j - 36) = j by omega] at h
  omega
theorem okc_9_0 : (List.range 12).all (fun j => okOp 9 (0 + j)) = true := by decide +kernel
theorem okc_9_12 : (List.range 12).all (fun j => okOp 9 (12 + j)) = true := by decide +kernel
theorem okc_9_24 : (List.range 12).all (fun j => okOp 9 (24 + j)) = true := by decide +kernel
theorem okc_9_36 : (List.range 1).all (fun j => okOp 9 (36 + j)) = true := by decide +kernel
theorem okj_9 : ∀ j, j < 37 → okOp 9 j = true := by
  intro j hj
  by_cases h0 : j < 12
  · have h := List.all_eq_true.mp okc_9_0 (j - 0) (List.mem_range.mpr (by omega)); rwa [show 0 + (j - 0) = j by omega] at h
  by_cases h12 : j < 24
  · have h := List.all_eq_true.mp okc_9_12 (j - 12) (List.mem_range.mpr (by omega)); rwa [show 12 + (j - 12) = j by omega] at h
  by_cases h24 : j < 36
  · have h := List.all_eq_true.mp okc_9_24 (j - 24) (List.mem_range.mpr (by omega)); rwa [show 24 + (j - 24) = j by omega] at h
  by_cases h36 : j < 37
  · have h := List.all_eq_true.mp okc_9_36 (j - 36) (List.mem_range.mpr (by omega)); rwa [show 36 + (j - 36) = j by omega] at h
  omega
theorem okc_10_0 : (List.range 12).all (fun j => okOp 10 (0 + j)) = true := by decide +kernel
theorem okc_10_12 : (List.range 12).all (fun j => okOp 10 (12 + j)) = true := by decide +kernel
theorem okc_10_24 : (List.range 12).all (fun j => okOp 10 (24 + j)) = true := by decide +kernel
theorem okc_10_36 : (List.range 12).all (fun j => okOp 10 (36 + j)) = true := by decide +kernel
theorem okc_10_48 : (List.range 12).all (fun j => okOp 10 (48 + j)) = true := by decide +kernel
theorem okc_10_60 : (List.range 12).all (fun j => okOp 10 (60 + j)) = true := by decide +kernel
theorem okc_10_72 : (List.range 10).all (fun j => okOp 10 (72 + j)) = true := by decide +kernel
theorem okj_10 : ∀ j, j < 82 → okOp 10 j = true := by
  intro j hj
  by_cases h0 : j < 12
  · have h := List.all_eq_true.mp okc_10_0 (j - 0) (List.mem_range.mpr (by omega)); rwa [show 0 + (j - 0) = j by omega] at h
  by_cases h12 : j < 24
  · have h := List.all_eq_true.mp okc_10_12 (j - 12) (List.mem_range.mpr (by omega)); rwa [show 12 + (j - 12) = j by omega] at h
  by_cases h24 : j < 36
  · have h := List.all_eq_true.mp okc_10_24 (j - 24) (List.mem_range.mpr (by omega)); rwa [show 24 + (j - 24) = j by omega] at h
  by_cases h36 : j < 48
  · have h := List.all_eq_true.mp okc_10_36 (j - 36) (List.mem_range.mpr (by omega)); rwa [show 36 + (j - 36) = j by omega] at h
  by_cases h48 : j < 60
  · have h := List.all_eq_true.mp okc_10_48 (j - 48) (List.mem_range.mpr (by omega)); rwa [show 48 + (j - 48) = j by omega] at h
  by_cases h60 : j < 72
  · have h := List.all_eq_true.mp okc_10_60 (j - 60) (List.mem_range.mpr (by omega)); rwa [show 60 + (j - 60) = j by omega] at h
  by_cases h72 : j < 82
  · have h := List.all_eq_true.mp okc_10_72 (j - 72) (List.mem_range.mpr (by omega)); rwa [show 72 + (j - 72) = j by omega] at h
  omega
theorem okc_11_0 : (List.range 12).all (fun j => okOp 11 (0 + j)) = true := by decide +kernel
theorem okc_11_12 : (List.range 12).all (fun j => okOp 11 (12 + j)) = true := by decide +kernel
theorem okc_11_24 : (List.range 12).all (fun j => okOp 11 (24 + j)) = true := by decide +kernel
theorem okc_11_36 : (List.range 12).all (fun j => okOp 11 (36 + j)) = true := by decide +kernel
theorem okc_11_48 : (List.range 5).all (fun j => okOp 11 (48 + j)) = true := by decide +kernel
theorem okj_11 : ∀ j, j < 53 → okOp 11 j = true := by
  intro j hj
  by_cases h0 : j < 12
  · have h := List.all_eq_true.mp okc_11_0 (j - 0) (List.mem_range.mpr (by omega)); rwa [show 0 + (j - 0) = j by omega] at h
  by_cases h12 : j < 24
  · have h := List.all_eq_true.mp okc_11_12 (j - 12) (List.mem_range.mpr (by omega)); rwa [show 12 + (j - 12) = j by omega] at h
  by_cases h24 : j < 36
  · have h := List.all_eq_true.mp okc_11_24 (j - 24) (List.mem_range.mpr (by omega)); rwa [show 24 + (j - 24) = j by omega] at h
  by_cases h36 : j < 48
  · have h := List.all_eq_true.mp okc_11_36 (j - 36) (List.mem_range.mpr (by omega)); rwa [show 36 + (j - 36) = j by omega] at h
  by_cases h48 : j < 53
  · have h := List.all_eq_true.mp okc_11_48 (j - 48) (List.mem_range.mpr (by omega)); rwa [show 48 + (j - 48) = j by omega] at h
  omega
theorem okc_12_0 : (List.range 12).all (fun j => okOp 12 (0 + j)) = true := by decide +kernel
theorem okc_12_12 : (List.range 12).all (fun j => okOp 12 (12 + j)) = true := by decide +kernel
theorem okc_12_24 : (List.range 7).all (fun j => okOp 12 (24 + j)) = true := by decide +kernel
theorem okj_12 : ∀ j, j < 31 → okOp 12 j = true := by
  intro j hj
  by_cases h0 : j < 12
  · have h := List.all_eq_true.mp okc_12_0 (j - 0) (List.mem_range.mpr (by omega)); rwa [show 0 + (j - 0) = j by omega] at h
  by_cases h12 : j < 24
  · have h := List.all_eq_true.mp okc_12_12 (j - 12) (List.mem_range.mpr (by omega)); rwa [show 12 + (j - 12) = j by omega] at h
  by_cases h24 : j < 31
  · have h := List.all_eq_true.mp okc_12_24 (j - 24) (List.mem_range.mpr (by omega)); rwa [show 24 + (j - 24) = j by omega] at h
  omega
theorem okc_13_0 : (List.range 12).all (fun j => okOp 13 (0 + j)) = true := by decide +kernel
theorem okc_13_12 : (List.range 12).all (fun j => okOp 13 (12 + j)) = true := by decide +kernel
theorem okc_13_24 : (List.range 12).all (fun j => okOp 13 (24 + j)) = true := by decide +kernel
theorem okc_13_36 : (List.range 12).all (fun j => okOp 13 (36 + j)) = true := by decide +kernel
theorem okc_13_48 : (List.range 4).all (fun j => okOp 13 (48 + j)) = true := by decide +kernel
theorem okj_13 : ∀ j, j < 52 → okOp 13 j = true := by
  intro j hj
  by_cases h0 : j < 12
  · have h := List.all_eq_true.mp okc_13_0 (j - 0) (List.mem_range.mpr (by omega)); rwa [show 0 + (j - 0) = j by omega] at h
  by_cases h12 : j < 24
  · have h := List.all_eq_true.mp okc_13_12 (j - 12) (List.mem_range.mpr (by omega)); rwa [show 12 + (j - 12) = j by omega] at h
  by_cases h24 : j < 36
  · have h := List.all_eq_true.mp okc_13_24 (j - 24) (List.mem_range.mpr (by omega)); rwa [show 24 + (j - 24) = j by omega] at h
  by_cases h36 : j < 48
  · have h := List.all_eq_true.mp okc_13_36 (j - 36) (List.mem_range.mpr (by omega)); rwa [show 36 + (j - 36) = j by omega] at h
  by_cases h48 : j < 52
  · have h := List.all_eq_true.mp okc_13_48 (j - 48) (List.mem_range.mpr (by omega)); rwa [show 48 + (j - 48) = j by omega] at h
  omega
theorem okc_14_0 : (List.range 12).all (fun j => okOp 14 (0 + j)) = true := by decide +kernel
theorem okc_14_12 : (List.range 12).all (fun j => okOp 14 (12 + j)) = true := by decide +kernel
theorem okc_14_24 : (List.range 10).all (fun j => okOp 14 (24 + j)) = true := by decide +kernel
theorem okj_14 : ∀ j, j < 34 → okOp 14 j = true := by
  intro j hj
  by_cases h0 : j < 12
  · have h := List.all_eq_true.mp okc_14_0 (j - 0) (List.mem_range.mpr (by omega)); rwa [show 0 + (j - 0) = j by omega] at h
  by_cases h12 : j < 24
  · have h := List.all_eq_true.mp okc_14_12 (j - 12) (List.mem_range.mpr (by omega)); rwa [show 12 + (j - 12) = j by omega] at h
  by_cases h24 : j < 34
  · have h := List.all_eq_true.mp okc_14_24 (j - 24) (List.mem_range.mpr (by omega)); rwa [show 24 + (j - 24) = j by omega] at h
  omega
theorem okc_15_0 : (List.range 12).all (fun j => okOp 15 (0 + j)) = true := by decide +kernel
theorem okc_15_12 : (List.range 3).all (fun j => okOp 15 (12 + j)) = true := by decide +kernel
theorem okj_15 : ∀ j, j < 15 → okOp 15 j = true := by
  intro j hj
  by_cases h0 : j < 12
  · have h := List.all_eq_true.mp okc_15_0 (j - 0) (List.mem_range.mpr (by omega)); rwa [show 0 + (j - 0) = j by omega] at h
  by_cases h12 : j < 15
  · have h := List.all_eq_true.mp okc_15_12 (j - 12) (List.mem_range.mpr (by omega)); rwa [show 12 + (j - 12) = j by omega] at h
  omega
theorem okc_16_0 : (List.range 12).all (fun j => okOp 16 (0 + j)) = true := by decide +kernel
theorem okc_16_12 : (List.range 3).all (fun j => okOp 16 (12 + j)) = true := by decide +kernel
theorem okj_16 : ∀ j, j < 15 → okOp 16 j = true := by
  intro j hj
  by_cases h0 : j < 12
  · have h := List.all_eq_true.mp okc_16_0 (j - 0) (List.mem_range.mpr (by omega)); rwa [show 0 + (j - 0) = j by omega] at h
  by_cases h12 : j < 15
  · have h := List.all_eq_true.mp okc_16_12 (j - 12) (List.mem_range.mpr (by omega)); rwa [show 12 + (j - 12) = j by omega] at h
  omega
theorem okc_17_0 : (List.range 12).all (fun j => okOp 17 (0 + j)) = true := by decide +kernel
theorem okc_17_12 : (List.range 9).all (fun j => okOp 17 (12 + j)) = true := by decide +kernel
theorem okj_17 : ∀ j, j < 21 → okOp 17 j = true := by
  intro j hj
  by_cases h0 : j < 12
  · have h := List.all_eq_true.mp okc_17_0 (j - 0) (List.mem_range.mpr (by omega)); rwa [show 0 + (j - 0) = j by omega] at h
  by_cases h12 : j < 21
  · have h := List.all_eq_true.mp okc_17_12 (j - 12) (List.mem_range.mpr (by omega)); rwa [show 12 + (j - 12) = j by omega] at h
  omega
theorem okc_18_0 : (List.range 12).all (fun j => okOp 18 (0 + j)) = true := by decide +kernel
theorem okc_18_12 : (List.range 1).all (fun j => okOp 18 (12 + j)) = true := by decide +kernel
theorem okj_18 : ∀ j, j < 13 → okOp 18 j = true := by
  intro j hj
  by_cases h0 : j < 12
  · have h := List.all_eq_true.mp okc_18_0 (j - 0) (List.mem_range.mpr (by omega)); rwa [show 0 + (j - 0) = j by omega] at h
  by_cases h12 : j < 13
  · have h := List.all_eq_true.mp okc_18_12 (j - 12) (List.mem_range.mpr (by omega)); rwa [show 12 + (j - 12) = j by omega] at h
  omega
theorem okc_19_0 : (List.range 9).all (fun j => okOp 19 (0 + j)) = true := by decide +kernel
theorem okj_19 : ∀ j, j < 9 → okOp 19 j = true := by
  intro j hj
  by_cases h0 : j < 9
  · have h := List.all_eq_true.mp okc_19_0 (j - 0) (List.mem_range.mpr (by omega)); rwa [show 0 + (j - 0) = j by omega] at h
  omega
theorem okc_20_0 : (List.range 12).all (fun j => okOp 20 (0 + j)) = true := by decide +kernel
theorem okc_20_12 : (List.range 12).all (fun j => okOp 20 (12 + j)) = true := by decide +kernel
theorem okc_20_24 : (List.range 12).all (fun j => okOp 20 (24 + j)) = true := by decide +kernel
theorem okc_20_36 : (List.range 8).all (fun j => okOp 20 (36 + j)) = true := by decide +kernel
theorem okj_20 : ∀ j, j < 44 → okOp 20 j = true := by
  intro j hj
  by_cases h0 : j < 12
  · have h := List.all_eq_true.mp okc_20_0 (j - 0) (List.mem_range.mpr (by omega)); rwa [show 0 + (j - 0) = j by omega] at h
  by_cases h12 : j < 24
  · have h := List.all_eq_true.mp okc_20_12 (j - 12) (List.mem_range.mpr (by omega)); rwa [show 12 + (j - 12) = j by omega] at h
  by_cases h24 : j < 36
  · have h := List.all_eq_true.mp okc_20_24 (j - 24) (List.mem_range.mpr (by omega)); rwa [show 24 + (j - 24) = j by omega] at h
  by_cases h36 : j < 44
  · have h := List.all_eq_true.mp okc_20_36 (j - 36) (List.mem_range.mpr (by omega)); rwa [show 36 + (j - 36) = j by omega] at h
  omega
theorem okc_21_0 : (List.range 12).all (fun j => okOp 21 (0 + j)) = true := by decide +kernel
theorem okc_21_12 : (List.range 12).all (fun j => okOp 21 (12 + j)) = true := by decide +kernel
theorem okc_21_24 : (List.range 12).all (fun j => okOp 21 (24 + j)) = true := by decide +kernel
theorem okc_21_36 : (List.range 12).all (fun j => okOp 21 (36 + j)) = true := by decide +kernel
theorem okc_21_48 : (List.range 9).all (fun j => okOp 21 (48 + j)) = true := by decide +kernel
theorem okj_21 : ∀ j, j < 57 → okOp 21 j = true := by
  intro j hj
  by_cases h0 : j < 12
  · have h := List.all_eq_true.mp okc_21_0 (j - 0) (List.mem_range.mpr (by omega)); rwa [show 0 + (j - 0) = j by omega] at h
  by_cases h12 : j < 24
  · have h := List.all_eq_true.mp okc_21_12 (j - 12) (List.mem_range.mpr (by omega)); rwa [show 12 + (j - 12) = j by omega] at h
  by_cases h24 : j < 36
  · have h := List.all_eq_true.mp okc_21_24 (j - 24) (List.mem_range.mpr (by omega)); rwa [show 24 + (j - 24) = j by omega] at h
  by_cases h36 : j < 48
  · have h := List.all_eq_true.mp okc_21_36 (j - 36) (List.mem_range.mpr (by omega)); rwa [show 36 + (j - 36) = j by omega] at h
  by_cases h48 : j < 57
  · have h := List.all_eq_true.mp okc_21_48 (j - 48) (List.mem_range.mpr (by omega)); rwa [show 48 + (j - 48) = j by omega] at h
  omega
theorem okc_22_0 : (List.range 12).all (fun j => okOp 22 (0 + j)) = true := by decide +kernel
theorem okc_22_12 : (List.range 12).all (fun j => okOp 22 (12 + j)) = true := by decide +kernel
theorem okc_22_24 : (List.range 12).all (fun j => okOp 22 (24 + j)) = true := by decide +kernel
theorem okc_22_36 : (List.range 12).all (fun j => okOp 22 (36 + j)) = true := by decide +kernel
theorem okc_22_48 : (List.range 7).all (fun j => okOp 22 (48 + j)) = true := by decide +kernel
theorem okj_22 : ∀ j, j < 55 → okOp 22 j = true := by
  intro j hj
  by_cases h0 : j < 12
  · have h := List.all_eq_true.mp okc_22_0 (j - 0) (List.mem_range.mpr (by omega)); rwa [show 0 + (j - 0) = j by omega] at h
  by_cases h12 : j < 24
  · have h := List.all_eq_true.mp okc_22_12 (j - 12) (List.mem_range.mpr (by omega)); rwa [show 12 + (j - 12) = j by omega] at h
  by_cases h24 : j < 36
  · have h := List.all_eq_true.mp okc_22_24 (j - 24) (List.mem_range.mpr (by omega)); rwa [show 24 + (j - 24) = j by omega] at h
  by_cases h36 : j < 48
  · have h := List.all_eq_true.mp okc_22_36 (j - 36) (List.mem_range.mpr (by omega)); rwa [show 36 + (j - 36) = j by omega] at h
  by_cases h48 : j < 55
  · have h := List.all_eq_true.mp okc_22_48 (j - 48) (List.mem_range.mpr (by omega)); rwa [show 48 + (j - 48) = j by omega] at h
  omega
theorem okc_23_0 : (List.range 12).all (fun j => okOp 23 (0 + j)) = true := by decide +kernel
theorem okc_23_12 : (List.range 12).all (fun j => okOp 23 (12 + j)) = true := by decide +kernel
theorem okc_23_24 : (List.range 12).all (fun j => okOp 23 (24 + j)) = true := by decide +kernel
theorem okc_23_36 : (List.range 12).all (fun j => okOp 23 (36 + j)) = true := by decide +kernel
theorem okc_23_48 : (List.range 12).all (fun j => okOp 23 (48 + j)) = true := by decide +kernel
theorem okc_23_60 : (List.range 4).all (fun j => okOp 23 (60 + j)) = true := by decide +kernel
theorem okj_23 : ∀ j, j < 64 → okOp 23 j = true := by
  intro j hj
  by_cases h0 : j < 12
  · have h := List.all_eq_true.mp okc_23_0 (j - 0) (List.mem_range.mpr (by omega)); rwa [show 0 + (j - 0) = j by omega] at h
  by_cases h12 : j < 24
  · have h := List.all_eq_true.mp okc_23_12 (j - 12) (List.mem_range.mpr (by omega)); rwa [show 12 + (j - 12) = j by omega] at h
  by_cases h24 : j < 36
  · have h := List.all_eq_true.mp okc_23_24 (j - 24) (List.mem_range.mpr (by omega)); rwa [show 24 + (j - 24) = j by omega] at h
  by_cases h36 : j < 48
  · have h := List.all_eq_true.mp okc_23_36 (j - 36) (List.mem_range.mpr (by omega)); rwa [show 36 + (j - 36) = j by omega] at h
  by_cases h48 : j < 60
  · have h := List.all_eq_true.mp okc_23_48 (j - 48) (List.mem_range.mpr (by omega)); rwa [show 48 + (j - 48) = j by omega] at h
  by_cases h60 : j < 64
  · have h := List.all_eq_true.mp okc_23_60 (j - 60) (List.mem_range.mpr (by omega)); rwa [show 60 + (j - 60) = j by omega] at h
  omega
theorem okc_24_0 : (List.range 12).all (fun j => okOp 24 (0 + j)) = true := by decide +kernel
theorem okc_24_12 : (List.range 12).all (fun j => okOp 24 (12 + j)) = true := by decide +kernel
theorem okc_24_24 : (List.range 11).all (fun j => okOp 24 (24 + j)) = true := by decide +kernel
theorem okj_24 : ∀ j, j < 35 → okOp 24 j = true := by
  intro j hj
  by_cases h0 : j < 12
  · have h := List.all_eq_true.mp okc_24_0 (j - 0) (List.mem_range.mpr (by omega)); rwa [show 0 + (j - 0) = j by omega] at h
  by_cases h12 : j < 24
  · have h := List.all_eq_true.mp okc_24_12 (j - 12) (List.mem_range.mpr (by omega)); rwa [show 12 + (j - 12) = j by omega] at h
  by_cases h24 : j < 35
  · have h := List.all_eq_true.mp okc_24_24 (j - 24) (List.mem_range.mpr (by omega)); rwa [show 24 + (j - 24) = j by omega] at h
  omega
theorem okc_25_0 : (List.range 12).all (fun j => okOp 25 (0 + j)) = true := by decide +kernel
theorem okc_25_12 : (List.range 12).all (fun j => okOp 25 (12 + j)) = true := by decide +kernel
theorem okc_25_24 : (List.range 12).all (fun j => okOp 25 (24 + j)) = true := by decide +kernel
theorem okc_25_36 : (List.range 6).all (fun j => okOp 25 (36 + j)) = true := by decide +kernel
theorem okj_25 : ∀ j, j < 42 → okOp 25 j = true := by
  intro j hj
  by_cases h0 : j < 12
  · have h := List.all_eq_true.mp okc_25_0 (j - 0) (List.mem_range.mpr (by omega)); rwa [show 0 + (j - 0) = j by omega] at h
  by_cases h12 : j < 24
  · have h := List.all_eq_true.mp okc_25_12 (j - 12) (List.mem_range.mpr (by omega)); rwa [show 12 + (j - 12) = j by omega] at h
  by_cases h24 : j < 36
  · have h := List.all_eq_true.mp okc_25_24 (j - 24) (List.mem_range.mpr (by omega)); rwa [show 24 + (j - 24) = j by omega] at h
  by_cases h36 : j < 42
  · have h := List.all_eq_true.mp okc_25_36 (j - 36) (List.mem_range.mpr (by omega)); rwa [show 36 + (j - 36) = j by omega] at h
  omega
theorem okc_26_0 : (List.range 12).all (fun j => okOp 26 (0 + j)) = true := by decide +kernel
theorem okc_26_12 : (List.range 12).all (fun j => okOp 26 (12 + j)) = true := by decide +kernel
theorem okc_26_24 : (List.range 12).all (fun j => okOp 26 (24 + j)) = true := by decide +kernel
theorem okc_26_36 : (List.range 12).all (fun j => okOp 26 (36 + j)) = true := by decide +kernel
theorem okc_26_48 : (List.range 12).all (fun j => okOp 26 (48 + j)) = true := by decide +kernel
theorem okc_26_60 : (List.range 6).all (fun j => okOp 26 (60 + j)) = true := by decide +kernel
theorem okj_26 : ∀ j, j < 66 → okOp 26 j = true := by
  intro j hj
  by_cases h0 : j < 12
  · have h := List.all_eq_true.mp okc_26_0 (j - 0) (List.mem_range.mpr (by omega)); rwa [show 0 + (j - 0) = j by omega] at h
  by_cases h12 : j < 24
  · have h := List.all_eq_true.mp okc_26_12 (j - 12) (List.mem_range.mpr (by omega)); rwa [show 12 + (j - 12) = j by omega] at h
  by_cases h24 : j < 36
  · have h := List.all_eq_true.mp okc_26_24 (j - 24) (List.mem_range.mpr (by omega)); rwa [show 24 + (j - 24) = j by omega] at h
  by_cases h36 : j < 48
  · have h := List.all_eq_true.mp okc_26_36 (j - 36) (List.mem_range.mpr (by omega)); rwa [show 36 + (j - 36) = j by omega] at h
  by_cases h48 : j < 60
  · have h := List.all_eq_true.mp okc_26_48 (j - 48) (List.mem_range.mpr (by omega)); rwa [show 48 + (j - 48) = j by omega] at h
  by_cases h60 : j < 66
  · have h := List.all_eq_true.mp okc_26_60 (j - 60) (List.mem_range.mpr (by omega)); rwa [show 60 + (j - 60) = j by omega] at h
  omega
theorem okc_27_0 : (List.range 12).all (fun j => okOp 27 (0 + j)) = true := by decide +kernel
theorem okc_27_12 : (List.range 8).all (fun j => okOp 27 (12 + j)) = true := by decide +kernel
theorem okj_27 : ∀ j, j < 20 → okOp 27 j = true := by
  intro j hj
  by_cases h0 : j < 12
  · have h := List.all_eq_true.mp okc_27_0 (j - 0) (List.mem_range.mpr (by omega)); rwa [show 0 + (j - 0) = j by omega] at h
  by_cases h12 : j < 20
  · have h := List.all_eq_true.mp okc_27_12 (j - 12) (List.mem_range.mpr (by omega)); rwa [show 12 + (j - 12) = j by omega] at h
  omega
theorem okc_28_0 : (List.range 12).all (fun j => okOp 28 (0 + j)) = true := by decide +kernel
theorem okc_28_12 : (List.range 12).all (fun j => okOp 28 (12 + j)) = true := by decide +kernel
theorem okc_28_24 : (List.range 12).all (fun j => okOp 28 (24 + j)) = true := by decide +kernel
theorem okc_28_36 : (List.range 12).all (fun j => okOp 28 (36 + j)) = true := by decide +kernel
theorem okc_28_48 : (List.range 3).all (fun j => okOp 28 (48 + j)) = true := by decide +kernel
theorem okj_28 : ∀ j, j < 51 → okOp 28 j = true := by
  intro j hj
  by_cases h0 : j < 12
  · have h := List.all_eq_true.mp okc_28_0 (j - 0) (List.mem_range.mpr (by omega)); rwa [show 0 + (j - 0) = j by omega] at h
  by_cases h12 : j < 24
  · have h := List.all_eq_true.mp okc_28_12 (j - 12) (List.mem_range.mpr (by omega)); rwa [show 12 + (j - 12) = j by omega] at h
  by_cases h24 : j < 36
  · have h := List.all_eq_true.mp okc_28_24 (j - 24) (List.mem_range.mpr (by omega)); rwa [show 24 + (j - 24) = j by omega] at h
  by_cases h36 : j < 48
  · have h := List.all_eq_true.mp okc_28_36 (j - 36) (List.mem_range.mpr (by omega)); rwa [show 36 + (j - 36) = j by omega] at h
  by_cases h48 : j < 51
  · have h := List.all_eq_true.mp okc_28_48 (j - 48) (List.mem_range.mpr (by omega)); rwa [show 48 + (j - 48) = j by omega] at h
  omega
theorem okc_29_0 : (List.range 8).all (fun j => okOp 29 (0 + j)) = true := by decide +kernel
theorem okj_29 : ∀ j, j < 8 → okOp 29 j = true := by
  intro j hj
  by_cases h0 : j < 8
  · have h := List.all_eq_true.mp okc_29_0 (j - 0) (List.mem_range.mpr (by omega)); rwa [show 0 + (j - 0) = j by omega] at h
  omega
theorem okc_30_0 : (List.range 12).all (fun j => okOp 30 (0 + j)) = true := by decide +kernel
theorem okc_30_12 : (List.range 12).all (fun j => okOp 30 (12 + j)) = true := by decide +kernel
theorem okc_30_24 : (List.range 12).all (fun j => okOp 30 (24 + j)) = true := by decide +kernel
theorem okc_30_36 : (List.range 12).all (fun j => okOp 30 (36 + j)) = true := by decide +kernel
theorem okc_30_48 : (List.range 4).all (fun j => okOp 30 (48 + j)) = true := by decide +kernel
theorem okj_30 : ∀ j, j < 52 → okOp 30 j = true := by
  intro j hj
  by_cases h0 : j < 12
  · have h := List.all_eq_true.mp okc_30_0 (j - 0) (List.mem_range.mpr (by omega)); rwa [show 0 + (j - 0) = j by omega] at h
  by_cases h12 : j < 24
  · have h := List.all_eq_true.mp okc_30_12 (j - 12) (List.mem_range.mpr (by omega)); rwa [show 12 + (j - 12) = j by omega] at h
  by_cases h24 : j < 36
  · have h := List.all_eq_true.mp okc_30_24 (j - 24) (List.mem_range.mpr (by omega)); rwa [show 24 + (j - 24) = j by omega] at h
  by_cases h36 : j < 48
  · have h := List.all_eq_true.mp okc_30_36 (j - 36) (List.mem_range.mpr (by omega)); rwa [show 36 + (j - 36) = j by omega] at h
  by_cases h48 : j < 52
  · have h := List.all_eq_true.mp okc_30_48 (j - 48) (List.mem_range.mpr (by omega)); rwa [show 48 + (j - 48) = j by omega] at h
  omega
theorem okc_31_0 : (List.range 10).all (fun j => okOp 31 (0 + j)) = true := by decide +kernel
theorem okj_31 : ∀ j, j < 10 → okOp 31 j = true := by
  intro j hj
  by_cases h0 : j < 10
  · have h := List.all_eq_true.mp okc_31_0 (j - 0) (List.mem_range.mpr (by omega)); rwa [show 0 + (j - 0) = j by omega] at h
  omega
theorem okc_32_0 : (List.range 12).all (fun j => okOp 32 (0 + j)) = true := by decide +kernel
theorem okc_32_12 : (List.range 12).all (fun j => okOp 32 (12 + j)) = true := by decide +kernel
theorem okc_32_24 : (List.range 12).all (fun j => okOp 32 (24 + j)) = true := by decide +kernel
theorem okc_32_36 : (List.range 12).all (fun j => okOp 32 (36 + j)) = true := by decide +kernel
theorem okc_32_48 : (List.range 12).all (fun j => okOp 32 (48 + j)) = true := by decide +kernel
theorem okc_32_60 : (List.range 12).all (fun j => okOp 32 (60 + j)) = true := by decide +kernel
theorem okc_32_72 : (List.range 12).all (fun j => okOp 32 (72 + j)) = true := by decide +kernel
theorem okc_32_84 : (List.range 12).all (fun j => okOp 32 (84 + j)) = true := by decide +kernel
theorem okc_32_96 : (List.range 12).all (fun j => okOp 32 (96 + j)) = true := by decide +kernel
theorem okc_32_108 : (List.range 2).all (fun j => okOp 32 (108 + j)) = true := by decide +kernel
theorem okj_32 : ∀ j, j < 110 → okOp 32 j = true := by
  intro j hj
  by_cases h0 : j < 12
  · have h := List.all_eq_true.mp okc_32_0 (j - 0) (List.mem_range.mpr (by omega)); rwa [show 0 + (j - 0) = j by omega] at h
  by_cases h12 : j < 24
  · have h := List.all_eq_true.mp okc_32_12 (j - 12) (List.mem_range.mpr (by omega)); rwa [show 12 + (j - 12) = j by omega] at h
  by_cases h24 : j < 36
  · have h := List.all_eq_true.mp okc_32_24 (j - 24) (List.mem_range.mpr (by omega)); rwa [show 24 + (j - 24) = j by omega] at h
  by_cases h36 : j < 48
  · have h := List.all_eq_true.mp okc_32_36 (j - 36) (List.mem_range.mpr (by omega)); rwa [show 36 + (j - 36) = j by omega] at h
  by_cases h48 : j < 60
  · have h := List.all_eq_true.mp okc_32_48 (j - 48) (List.mem_range.mpr (by omega)); rwa [show 48 + (j - 48) = j by omega] at h
  by_cases h60 : j < 72
  · have h := List.all_eq_true.mp okc_32_60 (j - 60) (List.mem_range.mpr (by omega)); rwa [show 60 + (j - 60) = j by omega] at h
  by_cases h72 : j < 84
  · have h := List.all_eq_true.mp okc_32_72 (j - 72) (List.mem_range.mpr (by omega)); rwa [show 72 + (j - 72) = j by omega] at h
  by_cases h84 : j < 96
  · have h := List.all_eq_true.mp okc_32_84 (j - 84) (List.mem_range.mpr (by omega)); rwa [show 84 + (j - 84) = j by omega] at h
  by_cases h96 : j < 108
  · have h := List.all_eq_true.mp okc_32_96 (j - 96) (List.mem_range.mpr (by omega)); rwa [show 96 + (j - 96) = j by omega] at h
  by_cases h108 : j < 110
  · have h := List.all_eq_true.mp okc_32_108 (j - 108) (List.mem_range.mpr (by omega)); rwa [show 108 + (j - 108) = j by omega] at h
  omega
theorem okc_33_0 : (List.range 12).all (fun j => okOp 33 (0 + j)) = true := by decide +kernel
theorem okc_33_12 : (List.range 12).all (fun j => okOp 33 (12 + j)) = true := by decide +kernel
theorem okc_33_24 : (List.range 3).all (fun j => okOp 33 (24 + j)) = true := by decide +kernel
theorem okj_33 : ∀ j, j < 27 → okOp 33 j = true := by
  intro j hj
  by_cases h0 : j < 12
  · have h := List.all_eq_true.mp okc_33_0 (j - 0) (List.mem_range.mpr (by omega)); rwa [show 0 + (j - 0) = j by omega] at h
  by_cases h12 : j < 24
  · have h := List.all_eq_true.mp okc_33_12 (j - 12) (List.mem_range.mpr (by omega)); rwa [show 12 + (j - 12) = j by omega] at h
  by_cases h24 : j < 27
  · have h := List.all_eq_true.mp okc_33_24 (j - 24) (List.mem_range.mpr (by omega)); rwa [show 24 + (j - 24) = j by omega] at h
  omega
theorem okc_34_0 : (List.range 12).all (fun j => okOp 34 (0 + j)) = true := by decide +kernel
theorem okc_34_12 : (List.range 12).all (fun j => okOp 34 (12 + j)) = true := by decide +kernel
theorem okc_34_24 : (List.range 12).all (fun j => okOp 34 (24 + j)) = true := by decide +kernel
theorem okc_34_36 : (List.range 12).all (fun j => okOp 34 (36 + j)) = true := by decide +kernel
theorem okc_34_48 : (List.range 12).all (fun j => okOp 34 (48 + j)) = true := by decide +kernel
theorem okc_34_60 : (List.range 1).all (fun j => okOp 34 (60 + j)) = true := by decide +kernel
theorem okj_34 : ∀ j, j < 61 → okOp 34 j = true := by
  intro j hj
  by_cases h0 : j < 12
  · have h := List.all_eq_true.mp okc_34_0 (j - 0) (List.mem_range.mpr (by omega)); rwa [show 0 + (j - 0) = j by omega] at h
  by_cases h12 : j < 24
  · have h := List.all_eq_true.mp okc_34_12 (j - 12) (List.mem_range.mpr (by omega)); rwa [show 12 + (j - 12) = j by omega] at h
  by_cases h24 : j < 36
  · have h := List.all_eq_true.mp okc_34_24 (j - 24) (List.mem_range.mpr (by omega)); rwa [show 24 + (j - 24) = j by omega] at h
  by_cases h36 : j < 48
  · have h := List.all_eq_true.mp okc_34_36 (j - 36) (List.mem_range.mpr (by omega)); rwa [show 36 + (j - 36) = j by omega] at h
  by_cases h48 : j < 60
  · have h := List.all_eq_true.mp okc_34_48 (j - 48) (List.mem_range.mpr (by omega)); rwa [show 48 + (j - 48) = j by omega] at h
  by_cases h60 : j < 61
  · have h := List.all_eq_true.mp okc_34_60 (j - 60) (List.mem_range.mpr (by omega)); rwa [show 60 + (j - 60) = j by omega] at h
  omega
theorem okc_35_0 : (List.range 12).all (fun j => okOp 35 (0 + j)) = true := by decide +kernel
theorem okc_35_12 : (List.range 9).all (fun j => okOp 35 (12 + j)) = true := by decide +kernel
theorem okj_35 : ∀ j, j < 21 → okOp 35 j = true := by
  intro j hj
  by_cases h0 : j < 12
  · have h := List.all_eq_true.mp okc_35_0 (j - 0) (List.mem_range.mpr (by omega)); rwa [show 0 + (j - 0) = j by omega] at h
  by_cases h12 : j < 21
  · have h := List.all_eq_true.mp okc_35_12 (j - 12) (List.mem_range.mpr (by omega)); rwa [show 12 + (j - 12) = j by omega] at h
  omega
theorem okc_36_0 : (List.range 12).all (fun j => okOp 36 (0 + j)) = true := by decide +kernel
theorem okc_36_12 : (List.range 6).all (fun j => okOp 36 (12 + j)) = true := by decide +kernel
theorem okj_36 : ∀ j, j < 18 → okOp 36 j = true := by
  intro j hj
  by_cases h0 : j < 12
  · have h := List.all_eq_true.mp okc_36_0 (j - 0) (List.mem_range.mpr (by omega)); rwa [show 0 + (j - 0) = j by omega] at h
  by_cases h12 : j < 18
  · have h := List.all_eq_true.mp okc_36_12 (j - 12) (List.mem_range.mpr (by omega)); rwa [show 12 + (j - 12) = j by omega] at h
  omega
theorem okc_37_0 : (List.range 12).all (fun j => okOp 37 (0 + j)) = true := by decide +kernel
theorem okc_37_12 : (List.range 12).all (fun j => okOp 37 (12 + j)) = true := by decide +kernel
theorem okc_37_24 : (List.range 12).all (fun j => okOp 37 (24 + j)) = true := by decide +kernel
theorem okc_37_36 : (List.range 12).all (fun j => okOp 37 (36 + j)) = true := by decide +kernel
theorem okc_37_48 : (List.range 12).all (fun j => okOp 37 (48 + j)) = true := by decide +kernel
theorem okc_37_60 : (List.range 8).all (fun j => okOp 37 (60 + j)) = true := by decide +kernel
theorem okj_37 : ∀ j, j < 68 → okOp 37 j = true := by
  intro j hj
  by_cases h0 : j < 12
  · have h := List.all_eq_true.mp okc_37_0 (j - 0) (List.mem_range.mpr (by omega)); rwa [show 0 + (j - 0) = j by omega] at h
  by_cases h12 : j < 24
  · have h := List.all_eq_true.mp okc_37_12 (j - 12) (List.mem_range.mpr (by omega)); rwa [show 12 + (j - 12) = j by omega] at h
  by_cases h24 : j < 36
  · have h := List.all_eq_true.mp okc_37_24 (j - 24) (List.mem_range.mpr (by omega)); rwa [show 24 + (j - 24) = j by omega] at h
  by_cases h36 : j < 48
  · have h := List.all_eq_true.mp okc_37_36 (j - 36) (List.mem_range.mpr (by omega)); rwa [show 36 + (j - 36) = j by omega] at h
  by_cases h48 : j < 60
  · have h := List.all_eq_true.mp okc_37_48 (j - 48) (List.mem_range.mpr (by omega)); rwa [show 48 + (j - 48) = j by omega] at h
  by_cases h60 : j < 68
  · have h := List.all_eq_true.mp okc_37_60 (j - 60) (List.mem_range.mpr (by omega)); rwa [show 60 + (j - 60) = j by omega] at h
  omega
theorem okc_38_0 : (List.range 12).all (fun j => okOp 38 (0 + j)) = true := by decide +kernel
theorem okc_38_12 : (List.range 12).all (fun j => okOp 38 (12 + j)) = true := by decide +kernel
theorem okc_38_24 : (List.range 12).all (fun j => okOp 38 (24 + j)) = true := by decide +kernel
theorem okc_38_36 : (List.range 12).all (fun j => okOp 38 (36 + j)) = true := by decide +kernel
theorem okc_38_48 : (List.range 12).all (fun j => okOp 38 (48 + j)) = true := by decide +kernel
theorem okc_38_60 : (List.range 12).all (fun j => okOp 38 (60 + j)) = true := by decide +kernel
theorem okc_38_72 : (List.range 12).all (fun j => okOp 38 (72 + j)) = true := by decide +kernel
theorem okc_38_84 : (List.range 12).all (fun j => okOp 38 (84 + j)) = true := by decide +kernel
theorem okc_38_96 : (List.range 12).all (fun j => okOp 38 (96 + j)) = true := by decide +kernel
theorem okc_38_108 : (List.range 12).all (fun j => okOp 38 (108 + j)) = true := by decide +kernel
theorem okc_38_120 : (List.range 7).all (fun j => okOp 38 (120 + j)) = true := by decide +kernel
theorem okj_38 : ∀ j, j < 127 → okOp 38 j = true := by
  intro j hj
  by_cases h0 : j < 12
  · have h := List.all_eq_true.mp okc_38_0 (j - 0) (List.mem_range.mpr (by omega)); rwa [show 0 + (j - 0) = j by omega] at h
  by_cases h12 : j < 24
  · have h := List.all_eq_true.mp okc_38_12 (j - 12) (List.mem_range.mpr (by omega)); rwa [show 12 + (j - 12) = j by omega] at h
  by_cases h24 : j < 36
  · have h := List.all_eq_true.mp okc_38_24 (j - 24) (List.mem_range.mpr (by omega)); rwa [show 24 + (j - 24) = j by omega] at h
  by_cases h36 : j < 48
  · have h := List.all_eq_true.mp okc_38_36 (j - 36) (List.mem_range.mpr (by omega)); rwa [show 36 + (j - 36) = j by omega] at h
  by_cases h48 : j < 60
  · have h := List.all_eq_true.mp okc_38_48 (j - 48) (List.mem_range.mpr (by omega)); rwa [show 48 + (j - 48) = j by omega] at h
  by_cases h60 : j < 72
  · have h := List.all_eq_true.mp okc_38_60 (j - 60) (List.mem_range.mpr (by omega)); rwa [show 60 + (j - 60) = j by omega] at h
  by_cases h72 : j < 84
  · have h := List.all_eq_true.mp okc_38_72 (j - 72) (List.mem_range.mpr (by omega)); rwa [show 72 + (j - 72) = j by omega] at h
  by_cases h84 : j < 96
  · have h := List.all_eq_true.mp okc_38_84 (j - 84) (List.mem_range.mpr (by omega)); rwa [show 84 + (j - 84) = j by omega] at h
  by_cases h96 : j < 108
  · have h := List.all_eq_true.mp okc_38_96 (j - 96) (List.mem_range.mpr (by omega)); rwa [show 96 + (j - 96) = j by omega] at h
  by_cases h108 : j < 120
  · have h := List.all_eq_true.mp okc_38_108 (j - 108) (List.mem_range.mpr (by omega)); rwa [show 108 + (j - 108) = j by omega] at h
  by_cases h120 : j < 127
  · have h := List.all_eq_true.mp okc_38_120 (j - 120) (List.mem_range.mpr (by omega)); rwa [show 120 + (j - 120) = j by omega] at h
  omega
theorem okc_39_0 : (List.range 12).all (fun j => okOp 39 (0 + j)) = true := by decide +kernel
theorem okc_39_12 : (List.range 12).all (fun j => okOp 39 (12 + j)) = true := by decide +kernel
theorem okc_39_24 : (List.range 12).all (fun j => okOp 39 (24 + j)) = true := by decide +kernel
theorem okc_39_36 : (List.range 12).all (fun j => okOp 39 (36 + j)) = true := by decide +kernel
theorem okc_39_48 : (List.range 12).all (fun j => okOp 39 (48 + j)) = true := by decide +kernel
theorem okc_39_60 : (List.range 4).all (fun j => okOp 39 (60 + j)) = true := by decide +kernel
theorem okj_39 : ∀ j, j < 64 → okOp 39 j = true := by
  intro j hj
  by_cases h0 : j < 12
  · have h := List.all_eq_true.mp okc_39_0 (j - 0) (List.mem_range.mpr (by omega)); rwa [show 0 + (j - 0) = j by omega] at h
  by_cases h12 : j < 24
  · have h := List.all_eq_true.mp okc_39_12 (j - 12) (List.mem_range.mpr (by omega)); rwa [show 12 + (j - 12) = j by omega] at h
  by_cases h24 : j < 36
  · have h := List.all_eq_true.mp okc_39_24 (j - 24) (List.mem_range.mpr (by omega)); rwa [show 24 + (j - 24) = j by omega] at h
  by_cases h36 : j < 48
  · have h := List.all_eq_true.mp okc_39_36 (j - 36) (List.mem_range.mpr (by omega)); rwa [show 36 + (j - 36) = j by omega] at h
  by_cases h48 : j < 60
  · have h := List.all_eq_true.mp okc_39_48 (j - 48) (List.mem_range.mpr (by omega)); rwa [show 48 + (j - 48) = j by omega] at h
  by_cases h60 : j < 64
  · have h := List.all_eq_true.mp okc_39_60 (j - 60) (List.mem_range.mpr (by omega)); rwa [show 60 + (j - 60) = j by omega] at h
  omega
theorem okc_40_0 : (List.range 12).all (fun j => okOp 40 (0 + j)) = true := by decide +kernel
theorem okc_40_12 : (List.range 12).all (fun j => okOp 40 (12 + j)) = true := by decide +kernel
theorem okc_40_24 : (List.range 12).all (fun j => okOp 40 (24 + j)) = true := by decide +kernel
theorem okc_40_36 : (List.range 12).all (fun j => okOp 40 (36 + j)) = true := by decide +kernel
theorem okc_40_48 : (List.range 2).all (fun j => okOp 40 (48 + j)) = true := by decide +kernel
theorem okj_40 : ∀ j, j < 50 → okOp 40 j = true := by
  intro j hj
  by_cases h0 : j < 12
  · have h := List.all_eq_true.mp okc_40_0 (j - 0) (List.mem_range.mpr (by omega)); rwa [show 0 + (j - 0) = j by omega] at h
  by_cases h12 : j < 24
  · have h := List.all_eq_true.mp okc_40_12 (j - 12) (List.mem_range.mpr (by omega)); rwa [show 12 + (j - 12) = j by omega] at h
  by_cases h24 : j < 36
  · have h := List.all_eq_true.mp okc_40_24 (j - 24) (List.mem_range.mpr (by omega)); rwa [show 24 + (j - 24) = j by omega] at h
  by_cases h36 : j < 48
  · have h := List.all_eq_true.mp okc_40_36 (j - 36) (List.mem_range.mpr (by omega)); rwa [show 36 + (j - 36) = j by omega] at h
  by_cases h48 : j < 50
  · have h := List.all_eq_true.mp okc_40_48 (j - 48) (List.mem_range.mpr (by omega)); rwa [show 48 + (j - 48) = j by omega] at h
  omega
theorem okc_41_0 : (List.range 12).all (fun j => okOp 41 (0 + j)) = true := by decide +kernel
theorem okc_41_12 : (List.range 12).all (fun j => okOp 41 (12 + j)) = true := by decide +kernel
theorem okc_41_24 : (List.range 12).all (fun j => okOp 41 (24 + j)) = true := by decide +kernel
theorem okc_41_36 : (List.range 8).all (fun j => okOp 41 (36 + j)) = true := by decide +kernel
theorem okj_41 : ∀ j, j < 44 → okOp 41 j = true := by
  intro j hj
  by_cases h0 : j < 12
  · have h := List.all_eq_true.mp okc_41_0 (j - 0) (List.mem_range.mpr (by omega)); rwa [show 0 + (j - 0) = j by omega] at h
  by_cases h12 : j < 24
  · have h := List.all_eq_true.mp okc_41_12 (j - 12) (List.mem_range.mpr (by omega)); rwa [show 12 + (j - 12) = j by omega] at h
  by_cases h24 : j < 36
  · have h := List.all_eq_true.mp okc_41_24 (j - 24) (List.mem_range.mpr (by omega)); rwa [show 24 + (j - 24) = j by omega] at h
  by_cases h36 : j < 44
  · have h := List.all_eq_true.mp okc_41_36 (j - 36) (List.mem_range.mpr (by omega)); rwa [show 36 + (j - 36) = j by omega] at h
  omega
theorem okc_42_0 : (List.range 12).all (fun j => okOp 42 (0 + j)) = true := by decide +kernel
theorem okc_42_12 : (List.range 12).all (fun j => okOp 42 (12 + j)) = true := by decide +kernel
theorem okc_42_24 : (List.range 12).all (fun j => okOp 42 (24 + j)) = true := by decide +kernel
theorem okc_42_36 : (List.range 12).all (fun j => okOp 42 (36 + j)) = true := by decide +kernel
theorem okc_42_48 : (List.range 12).all (fun j => okOp 42 (48 + j)) = true := by decide +kernel
theorem okc_42_60 : (List.range 12).all (fun j => okOp 42 (60 + j)) = true := by decide +kernel
theorem okc_42_72 : (List.range 12).all (fun j => okOp 42 (72 + j)) = true := by decide +kernel
theorem okc_42_84 : (List.range 12).all (fun j => okOp 42 (84 + j)) = true := by decide +kernel
theorem okc_42_96 : (List.range 12).all (fun j => okOp 42 (96 + j)) = true := by decide +kernel
theorem okc_42_108 : (List.range 12).all (fun j => okOp 42 (108 + j)) = true := by decide +kernel
theorem okc_42_120 : (List.range 12).all (fun j => okOp 42 (120 + j)) = true := by decide +kernel
theorem okc_42_132 : (List.range 12).all (fun j => okOp 42 (132 + j)) = true := by decide +kernel
theorem okc_42_144 : (List.range 12).all (fun j => okOp 42 (144 + j)) = true := by decide +kernel
theorem okc_42_156 : (List.range 12).all (fun j => okOp 42 (156 + j)) = true := by decide +kernel
theorem okc_42_168 : (List.range 12).all (fun j => okOp 42 (168 + j)) = true := by decide +kernel
theorem okc_42_180 : (List.range 3).all (fun j => okOp 42 (180 + j)) = true := by decide +kernel
theorem okj_42 : ∀ j, j < 183 → okOp 42 j = true := by
  intro j hj
  by_cases h0 : j < 12
  · have h := List.all_eq_true.mp okc_42_0 (j - 0) (List.mem_range.mpr (by omega)); rwa [show 0 + (j - 0) = j by omega] at h
  by_cases h12 : j < 24
  · have h := List.all_eq_true.mp okc_42_12 (j - 12) (List.mem_range.mpr (by omega)); rwa [show 12 + (j - 12) = j by omega] at h
  by_cases h24 : j < 36
  · have h := List.all_eq_true.mp okc_42_24 (j - 24) (List.mem_range.mpr (by omega)); rwa [show 24 + (j - 24) = j by omega] at h
  by_cases h36 : j < 48
  · have h := List.all_eq_true.mp okc_42_36 (j - 36) (List.mem_range.mpr (by omega)); rwa [show 36 + (j - 36) = j by omega] at h
  by_cases h48 : j < 60
  · have h := List.all_eq_true.mp okc_42_48 (j - 48) (List.mem_range.mpr (by omega)); rwa [show 48 + (j - 48) = j by omega] at h
  by_cases h60 : j < 72
  · have h := List.all_eq_true.mp okc_42_60 (j - 60) (List.mem_range.mpr (by omega)); rwa [show 60 + (j - 60) = j by omega] at h
  by_cases h72 : j < 84
  · have h := List.all_eq_true.mp okc_42_72 (j - 72) (List.mem_range.mpr (by omega)); rwa [show 72 + (j - 72) = j by omega] at h
  by_cases h84 : j < 96
  · have h := List.all_eq_true.mp okc_42_84 (j - 84) (List.mem_range.mpr (by omega)); rwa [show 84 + (j - 84) = j by omega] at h
  by_cases h96 : j < 108
  · have h := List.all_eq_true.mp okc_42_96 (j - 96) (List.mem_range.mpr (by omega)); rwa [show 96 + (j - 96) = j by omega] at h
  by_cases h108 : j < 120
  · have h := List.all_eq_true.mp okc_42_108 (j - 108) (List.mem_range.mpr (by omega)); rwa [show 108 + (j - 108) = j by omega] at h
  by_cases h120 : j < 132
  · have h := List.all_eq_true.mp okc_42_120 (j - 120) (List.mem_range.mpr (by omega)); rwa [show 120 + (j - 120) = j by omega] at h
  by_cases h132 : j < 144
  · have h := List.all_eq_true.mp okc_42_132 (j - 132) (List.mem_range.mpr (by omega)); rwa [show 132 + (j - 132) = j by omega] at h
  by_cases h144 : j < 156
  · have h := List.all_eq_true.mp okc_42_144 (j - 144) (List.mem_range.mpr (by omega)); rwa [show 144 + (j - 144) = j by omega] at h
  by_cases h156 : j < 168
  · have h := List.all_eq_true.mp okc_42_156 (j - 156) (List.mem_range.mpr (by omega)); rwa [show 156 + (j - 156) = j by omega] at h
  by_cases h168 : j < 180
  · have h := List.all_eq_true.mp okc_42_168 (j - 168) (List.mem_range.mpr (by omega)); rwa [show 168 + (j - 168) = j by omega] at h
  by_cases h180 : j < 183
  · have h := List.all_eq_true.mp okc_42_180 (j - 180) (List.mem_range.mpr (by omega)); rwa [show 180 + (j - 180) = j by omega] at h
  omega
theorem okc_43_0 : (List.range 12).all (fun j => okOp 43 (0 + j)) = true := by decide +kernel
theorem okc_43_12 : (List.range 2).all (fun j => okOp 43 (12 + j)) = true := by decide +kernel
theorem okj_43 : ∀ j, j < 14 → okOp 43 j = true := by
  intro j hj
  by_cases h0 : j < 12
  · have h := List.all_eq_true.mp okc_43_0 (j - 0) (List.mem_range.mpr (by omega)); rwa [show 0 + (j - 0) = j by omega] at h
  by_cases h12 : j < 14
  · have h := List.all_eq_true.mp okc_43_12 (j - 12) (List.mem_range.mpr (by omega)); rwa [show 12 + (j - 12) = j by omega] at h
  omega
theorem okc_44_0 : (List.range 12).all (fun j => okOp 44 (0 + j)) = true := by decide +kernel
theorem okc_44_12 : (List.range 2).all (fun j => okOp 44 (12 + j)) = true := by decide +kernel
theorem okj_44 : ∀ j, j < 14 → okOp 44 j = true := by
  intro j hj
  by_cases h0 : j < 12
  · have h := List.all_eq_true.mp okc_44_0 (j - 0) (List.mem_range.mpr (by omega)); rwa [show 0 + (j - 0) = j by omega] at h
  by_cases h12 : j < 14
  · have h := List.all_eq_true.mp okc_44_12 (j - 12) (List.mem_range.mpr (by omega)); rwa [show 12 + (j - 12) = j by omega] at h
  omega
theorem okc_45_0 : (List.range 12).all (fun j => okOp 45 (0 + j)) = true := by decide +kernel
theorem okc_45_12 : (List.range 10).all (fun j => okOp 45 (12 + j)) = true := by decide +kernel
theorem okj_45 : ∀ j, j < 22 → okOp 45 j = true := by
  intro j hj
  by_cases h0 : j < 12
  · have h := List.all_eq_true.mp okc_45_0 (j - 0) (List.mem_range.mpr (by omega)); rwa [show 0 + (j - 0) = j by omega] at h
  by_cases h12 : j < 22
  · have h := List.all_eq_true.mp okc_45_12 (j - 12) (List.mem_range.mpr (by omega)); rwa [show 12 + (j - 12) = j by omega] at h
  omega
