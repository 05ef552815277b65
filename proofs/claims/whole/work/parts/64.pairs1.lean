-- ===== every pair of heads, the rows from 0 =====
theorem tr_1 : trF 22 (hdT.drop 0) = true := by decide +kernel
theorem tr_2 : trF 23 (hdT.drop 22) = true := by decide +kernel
theorem tr_3 : trF 25 (hdT.drop 45) = true := by decide +kernel
