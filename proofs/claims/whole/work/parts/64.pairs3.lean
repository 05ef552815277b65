-- ===== every pair of heads, the rows from 125 =====
theorem tr_7 : trF 15 (hdT.drop 125) = true := by decide +kernel
theorem tr_8 : trF 15 (hdT.drop 140) = true := by decide +kernel
theorem tr_9 : trF 17 (hdT.drop 155) = true := by decide +kernel
