-- ===== every pair of heads, the rows from 172 =====
theorem tr_10 : trF 18 (hdT.drop 172) = true := by decide +kernel
theorem tr_11 : trF 20 (hdT.drop 190) = true := by decide +kernel
theorem tr_12 : trF 30 (hdT.drop 210) = true := by decide +kernel
theorem tr_13 : trF 68 (hdT.drop 240) = true := by decide +kernel
