-- ===== every pair of heads, the rows from 70 =====
theorem tr_4 : trF 25 (hdT.drop 70) = true := by decide +kernel
theorem tr_5 : trF 15 (hdT.drop 95) = true := by decide +kernel
theorem tr_6 : trF 15 (hdT.drop 110) = true := by decide +kernel
