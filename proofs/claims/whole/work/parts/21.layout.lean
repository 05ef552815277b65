-- ===== the cells behind both constructors: every address is a number; printed by tool/gen_layout.py =====
def S0t : MS := [(19, 4, []),
  (19, 6, []),
  (8, 14, [some 4, none, none, none, none, some 105, some 106, some 114, some 135, none, some 156, some 238, some 239, none]),
  (20, 84, []),
  (0, 10, [none, some 6, some 7, some 8, none, some 9, none, some 10, some 11, some 12]),
  (20, 4, []),
  (20, 4, []),
  (20, 4, []),
  (23, 6, [some 13, some 20, some 27, some 34, some 41, some 48]),
  (20, 6, []),
  (20, 6, []),
  (20, 2, []),
  (6, 7, [none, none, some 14, none, some 18, some 19, none]),
  (7, 4, [some 15, some 16, some 17, none]),
  (20, 9, []),
  (20, 9, []),
  (20, 9, []),
  (20, 2, []),
  (20, 2, []),
  (6, 7, [none, none, some 21, none, some 25, some 26, none]),
  (7, 4, [some 22, some 23, some 24, none]),
  (20, 9, []),
  (20, 9, []),
  (20, 9, []),
  (20, 2, []),
  (20, 2, []),
  (6, 7, [none, none, some 28, none, some 32, some 33, none]),
  (7, 4, [some 29, some 30, some 31, none]),
  (20, 9, []),
  (20, 9, []),
  (20, 9, []),
  (20, 2, []),
  (20, 2, []),
  (6, 7, [none, none, some 35, none, some 39, some 40, none]),
  (7, 4, [some 36, some 37, some 38, none]),
  (20, 9, []),
  (20, 9, []),
  (20, 9, []),
  (20, 2, []),
  (20, 2, []),
  (6, 7, [none, none, some 42, none, some 46, some 47, none]),
  (7, 4, [some 43, some 44, some 45, none]),
  (20, 9, []),
  (20, 9, []),
  (20, 9, []),
  (20, 2, []),
  (20, 2, []),
  (6, 7, [none, none, some 49, none, some 53, some 54, none]),
  (7, 4, [some 50, some 51, some 52, none]),
  (20, 9, []),
  (20, 9, []),
  (20, 9, []),
  (20, 2, []),
  (20, 2, []),
  (0, 10, [none, some 56, some 57, some 58, none, some 59, none, some 60, some 61, some 62]),
  (20, 4, []),
  (20, 4, []),
  (20, 4, []),
  (23, 6, [some 63, some 70, some 77, some 84, some 91, some 98]),
  (20, 6, []),
  (20, 6, []),
  (20, 2, []),
  (6, 7, [none, none, some 64, none, some 68, some 69, none]),
  (7, 4, [some 65, some 66, some 67, none]),
  (20, 9, []),
  (20, 9, []),
  (20, 9, []),
  (20, 2, []),
  (20, 2, []),
  (6, 7, [none, none, some 71, none, some 75, some 76, none]),
  (7, 4, [some 72, some 73, some 74, none]),
  (20, 9, []),
  (20, 9, []),
  (20, 9, []),
  (20, 2, []),
  (20, 2, []),
  (6, 7, [none, none, some 78, none, some 82, some 83, none]),
  (7, 4, [some 79, some 80, some 81, none]),
  (20, 9, []),
  (20, 9, []),
  (20, 9, []),
  (20, 2, []),
  (20, 2, []),
  (6, 7, [none, none, some 85, none, some 89, some 90, none]),
  (7, 4, [some 86, some 87, some 88, none]),
  (20, 9, []),
  (20, 9, []),
  (20, 9, []),
  (20, 2, []),
  (20, 2, []),
  (6, 7, [none, none, some 92, none, some 96, some 97, none]),
  (7, 4, [some 93, some 94, some 95, none]),
  (20, 9, []),
  (20, 9, []),
  (20, 9, []),
  (20, 2, []),
  (20, 2, []),
  (6, 7, [none, none, some 99, none, some 103, some 104, none]),
  (7, 4, [some 100, some 101, some 102, none]),
  (20, 9, []),
  (20, 9, []),
  (20, 9, []),
  (20, 2, []),
  (20, 2, []),
  (5, 5, [none, none, none, none, none]),
  (4, 8, [some 107, some 108, some 109, some 110, some 111, some 112, some 113, none]),
  (20, 10, []),
  (20, 10, []),
  (20, 10, []),
  (20, 10, []),
  (22, 10, []),
  (20, 40, []),
  (20, 40, []),
  (1, 5, [some 115, some 116, none, some 117, some 118]),
  (20, 6, []),
  (24, 4, [some 119, some 123, some 127, some 131]),
  (20, 6, []),
  (20, 6, []),
  (7, 4, [some 120, some 121, some 122, none]),
  (20, 9, []),
  (20, 9, []),
  (20, 9, []),
  (7, 4, [some 124, some 125, some 126, none]),
  (20, 9, []),
  (20, 9, []),
  (20, 9, []),
  (7, 4, [some 128, some 129, some 130, none]),
  (20, 9, []),
  (20, 9, []),
  (20, 9, []),
  (7, 4, [some 132, some 133, some 134, none]),
  (20, 9, []),
  (20, 9, []),
  (20, 9, []),
  (1, 5, [some 136, some 137, none, some 138, some 139]),
  (20, 6, []),
  (24, 4, [some 140, some 144, some 148, some 152]),
  (20, 6, []),
  (20, 6, []),
  (7, 4, [some 141, some 142, some 143, none]),
  (20, 9, []),
  (20, 9, []),
  (20, 9, []),
  (7, 4, [some 145, some 146, some 147, none]),
  (20, 9, []),
  (20, 9, []),
  (20, 9, []),
  (7, 4, [some 149, some 150, some 151, none]),
  (20, 9, []),
  (20, 9, []),
  (20, 9, []),
  (7, 4, [some 153, some 154, some 155, none]),
  (20, 9, []),
  (20, 9, []),
  (20, 9, []),
  (2, 5, [some 157, some 158, some 159, none, none]),
  (25, 36, [some 166, some 168, some 170, some 172, some 174, some 176, some 178, some 180, some 182, some 184, some 186, some 188, some 190, some 192, some 194, some 196, some 198, some 200, some 202, some 204, some 206, some 208, some 210, some 212, some 214, some 216, some 218, some 220, some 222, some 224, some 226, some 228, some 230, some 232, some 234, some 236]),
  (20, 5, []),
  (27, 6, [some 160, some 161, some 162, some 163, some 164, some 165]),
  (20, 2, []),
  (20, 2, []),
  (20, 2, []),
  (20, 2, []),
  (20, 2, []),
  (20, 2, []),
  (3, 9, [none, none, none, none, none, none, none, none, some 167]),
  (26, 2, []),
  (3, 9, [none, none, none, none, none, none, none, none, some 169]),
  (26, 2, []),
  (3, 9, [none, none, none, none, none, none, none, none, some 171]),
  (26, 2, []),
  (3, 9, [none, none, none, none, none, none, none, none, some 173]),
  (26, 2, []),
  (3, 9, [none, none, none, none, none, none, none, none, some 175]),
  (26, 2, []),
  (3, 9, [none, none, none, none, none, none, none, none, some 177]),
  (26, 2, []),
  (3, 9, [none, none, none, none, none, none, none, none, some 179]),
  (26, 2, []),
  (3, 9, [none, none, none, none, none, none, none, none, some 181]),
  (26, 2, []),
  (3, 9, [none, none, none, none, none, none, none, none, some 183]),
  (26, 2, []),
  (3, 9, [none, none, none, none, none, none, none, none, some 185]),
  (26, 2, []),
  (3, 9, [none, none, none, none, none, none, none, none, some 187]),
  (26, 2, []),
  (3, 9, [none, none, none, none, none, none, none, none, some 189]),
  (26, 2, []),
  (3, 9, [none, none, none, none, none, none, none, none, some 191]),
  (26, 2, []),
  (3, 9, [none, none, none, none, none, none, none, none, some 193]),
  (26, 2, []),
  (3, 9, [none, none, none, none, none, none, none, none, some 195]),
  (26, 2, []),
  (3, 9, [none, none, none, none, none, none, none, none, some 197]),
  (26, 2, []),
  (3, 9, [none, none, none, none, none, none, none, none, some 199]),
  (26, 2, []),
  (3, 9, [none, none, none, none, none, none, none, none, some 201]),
  (26, 2, []),
  (3, 9, [none, none, none, none, none, none, none, none, some 203]),
  (26, 2, []),
  (3, 9, [none, none, none, none, none, none, none, none, some 205]),
  (26, 2, []),
  (3, 9, [none, none, none, none, none, none, none, none, some 207]),
  (26, 2, []),
  (3, 9, [none, none, none, none, none, none, none, none, some 209]),
  (26, 2, []),
  (3, 9, [none, none, none, none, none, none, none, none, some 211]),
  (26, 2, []),
  (3, 9, [none, none, none, none, none, none, none, none, some 213]),
  (26, 2, []),
  (3, 9, [none, none, none, none, none, none, none, none, some 215]),
  (26, 2, []),
  (3, 9, [none, none, none, none, none, none, none, none, some 217]),
  (26, 2, []),
  (3, 9, [none, none, none, none, none, none, none, none, some 219]),
  (26, 2, []),
  (3, 9, [none, none, none, none, none, none, none, none, some 221]),
  (26, 2, []),
  (3, 9, [none, none, none, none, none, none, none, none, some 223]),
  (26, 2, []),
  (3, 9, [none, none, none, none, none, none, none, none, some 225]),
  (26, 2, []),
  (3, 9, [none, none, none, none, none, none, none, none, some 227]),
  (26, 2, []),
  (3, 9, [none, none, none, none, none, none, none, none, some 229]),
  (26, 2, []),
  (3, 9, [none, none, none, none, none, none, none, none, some 231]),
  (26, 2, []),
  (3, 9, [none, none, none, none, none, none, none, none, some 233]),
  (26, 2, []),
  (3, 9, [none, none, none, none, none, none, none, none, some 235]),
  (26, 2, []),
  (3, 9, [none, none, none, none, none, none, none, none, some 237]),
  (26, 2, []),
  (20, 2, []),
  (7, 4, [some 240, some 241, some 242, none]),
  (20, 9, []),
  (20, 9, []),
  (20, 9, []),
  (9, 63, [none, none, some 244, some 245, none, some 246, some 247, some 248, some 249, some 250, some 251, some 252, some 253, some 254, some 255, none, some 256, some 257, some 258, none, some 259, none, none, none, none, some 260, some 261, some 262, some 263, some 264, some 265, some 266, some 267, some 268, none, some 269, some 270, some 271, some 272, some 273, some 274, some 275, some 276, some 277, some 278, none, none, some 279, some 280, some 281, none, some 282, none, none, none, none, some 283, some 284, some 285, some 286, some 287, some 288, none]),
  (20, 4, []),
  (20, 4, []),
  (20, 6, []),
  (20, 6, []),
  (20, 30, []),
  (20, 6, []),
  (20, 6, []),
  (20, 12, []),
  (20, 12, []),
  (20, 36, []),
  (20, 36, []),
  (20, 4, []),
  (20, 6, []),
  (20, 6, []),
  (20, 6, []),
  (21, 84, []),
  (20, 4, []),
  (20, 6, []),
  (20, 6, []),
  (20, 6, []),
  (20, 6, []),
  (20, 6, []),
  (20, 12, []),
  (20, 9, []),
  (20, 9, []),
  (20, 2, []),
  (20, 36, []),
  (20, 36, []),
  (20, 36, []),
  (20, 36, []),
  (20, 36, []),
  (20, 36, []),
  (20, 36, []),
  (20, 36, []),
  (20, 36, []),
  (20, 4, []),
  (20, 64, []),
  (20, 64, []),
  (20, 64, []),
  (20, 6, []),
  (20, 36, []),
  (20, 4, []),
  (20, 6, []),
  (20, 6, []),
  (20, 6, [])]
def S0 (L : Nat) : MS := (19, L, []) :: S0t
theorem kz_1 {L : Nat} : kd (S0 L) 1 = 19 := rfl
theorem lz_1 {L : Nat} : (ln (S0 L) 1 : Int) = 4 := rfl
theorem kz_2 {L : Nat} : kd (S0 L) 2 = 19 := rfl
theorem lz_2 {L : Nat} : (ln (S0 L) 2 : Int) = 6 := rfl
theorem kz_3 {L : Nat} : kd (S0 L) 3 = 8 := rfl
theorem fz_3_0 {L : Nat} : fz (S0 L) 3 0 = some 4 := rfl
theorem fz_3_5 {L : Nat} : fz (S0 L) 3 5 = some 105 := rfl
theorem fz_3_6 {L : Nat} : fz (S0 L) 3 6 = some 106 := rfl
theorem fz_3_7 {L : Nat} : fz (S0 L) 3 7 = some 114 := rfl
theorem fz_3_8 {L : Nat} : fz (S0 L) 3 8 = some 135 := rfl
theorem fz_3_10 {L : Nat} : fz (S0 L) 3 10 = some 156 := rfl
theorem fz_3_11 {L : Nat} : fz (S0 L) 3 11 = some 238 := rfl
theorem fz_3_12 {L : Nat} : fz (S0 L) 3 12 = some 239 := rfl
theorem kz_4 {L : Nat} : kd (S0 L) 4 = 20 := rfl
theorem lz_4 {L : Nat} : (ln (S0 L) 4 : Int) = 84 := rfl
theorem kz_5 {L : Nat} : kd (S0 L) 5 = 0 := rfl
theorem fz_5_1 {L : Nat} : fz (S0 L) 5 1 = some 6 := rfl
theorem fz_5_2 {L : Nat} : fz (S0 L) 5 2 = some 7 := rfl
theorem fz_5_3 {L : Nat} : fz (S0 L) 5 3 = some 8 := rfl
theorem fz_5_5 {L : Nat} : fz (S0 L) 5 5 = some 9 := rfl
theorem fz_5_7 {L : Nat} : fz (S0 L) 5 7 = some 10 := rfl
theorem fz_5_8 {L : Nat} : fz (S0 L) 5 8 = some 11 := rfl
theorem fz_5_9 {L : Nat} : fz (S0 L) 5 9 = some 12 := rfl
theorem kz_6 {L : Nat} : kd (S0 L) 6 = 20 := rfl
theorem lz_6 {L : Nat} : (ln (S0 L) 6 : Int) = 4 := rfl
theorem kz_7 {L : Nat} : kd (S0 L) 7 = 20 := rfl
theorem lz_7 {L : Nat} : (ln (S0 L) 7 : Int) = 4 := rfl
theorem kz_8 {L : Nat} : kd (S0 L) 8 = 20 := rfl
theorem lz_8 {L : Nat} : (ln (S0 L) 8 : Int) = 4 := rfl
theorem kz_9 {L : Nat} : kd (S0 L) 9 = 23 := rfl
theorem lz_9 {L : Nat} : (ln (S0 L) 9 : Int) = 6 := rfl
theorem kz_10 {L : Nat} : kd (S0 L) 10 = 20 := rfl
theorem lz_10 {L : Nat} : (ln (S0 L) 10 : Int) = 6 := rfl
theorem kz_11 {L : Nat} : kd (S0 L) 11 = 20 := rfl
theorem lz_11 {L : Nat} : (ln (S0 L) 11 : Int) = 6 := rfl
theorem kz_12 {L : Nat} : kd (S0 L) 12 = 20 := rfl
theorem lz_12 {L : Nat} : (ln (S0 L) 12 : Int) = 2 := rfl
theorem kz_13 {L : Nat} : kd (S0 L) 13 = 6 := rfl
theorem fz_13_2 {L : Nat} : fz (S0 L) 13 2 = some 14 := rfl
theorem fz_13_4 {L : Nat} : fz (S0 L) 13 4 = some 18 := rfl
theorem fz_13_5 {L : Nat} : fz (S0 L) 13 5 = some 19 := rfl
theorem kz_14 {L : Nat} : kd (S0 L) 14 = 7 := rfl
theorem fz_14_0 {L : Nat} : fz (S0 L) 14 0 = some 15 := rfl
theorem fz_14_1 {L : Nat} : fz (S0 L) 14 1 = some 16 := rfl
theorem fz_14_2 {L : Nat} : fz (S0 L) 14 2 = some 17 := rfl
theorem kz_15 {L : Nat} : kd (S0 L) 15 = 20 := rfl
theorem lz_15 {L : Nat} : (ln (S0 L) 15 : Int) = 9 := rfl
theorem kz_16 {L : Nat} : kd (S0 L) 16 = 20 := rfl
theorem lz_16 {L : Nat} : (ln (S0 L) 16 : Int) = 9 := rfl
theorem kz_17 {L : Nat} : kd (S0 L) 17 = 20 := rfl
theorem lz_17 {L : Nat} : (ln (S0 L) 17 : Int) = 9 := rfl
theorem kz_18 {L : Nat} : kd (S0 L) 18 = 20 := rfl
theorem lz_18 {L : Nat} : (ln (S0 L) 18 : Int) = 2 := rfl
theorem kz_19 {L : Nat} : kd (S0 L) 19 = 20 := rfl
theorem lz_19 {L : Nat} : (ln (S0 L) 19 : Int) = 2 := rfl
theorem kz_20 {L : Nat} : kd (S0 L) 20 = 6 := rfl
theorem fz_20_2 {L : Nat} : fz (S0 L) 20 2 = some 21 := rfl
theorem fz_20_4 {L : Nat} : fz (S0 L) 20 4 = some 25 := rfl
theorem fz_20_5 {L : Nat} : fz (S0 L) 20 5 = some 26 := rfl
theorem kz_21 {L : Nat} : kd (S0 L) 21 = 7 := rfl
theorem fz_21_0 {L : Nat} : fz (S0 L) 21 0 = some 22 := rfl
theorem fz_21_1 {L : Nat} : fz (S0 L) 21 1 = some 23 := rfl
theorem fz_21_2 {L : Nat} : fz (S0 L) 21 2 = some 24 := rfl
theorem kz_22 {L : Nat} : kd (S0 L) 22 = 20 := rfl
theorem lz_22 {L : Nat} : (ln (S0 L) 22 : Int) = 9 := rfl
theorem kz_23 {L : Nat} : kd (S0 L) 23 = 20 := rfl
theorem lz_23 {L : Nat} : (ln (S0 L) 23 : Int) = 9 := rfl
theorem kz_24 {L : Nat} : kd (S0 L) 24 = 20 := rfl
theorem lz_24 {L : Nat} : (ln (S0 L) 24 : Int) = 9 := rfl
theorem kz_25 {L : Nat} : kd (S0 L) 25 = 20 := rfl
theorem lz_25 {L : Nat} : (ln (S0 L) 25 : Int) = 2 := rfl
theorem kz_26 {L : Nat} : kd (S0 L) 26 = 20 := rfl
theorem lz_26 {L : Nat} : (ln (S0 L) 26 : Int) = 2 := rfl
theorem kz_27 {L : Nat} : kd (S0 L) 27 = 6 := rfl
theorem fz_27_2 {L : Nat} : fz (S0 L) 27 2 = some 28 := rfl
theorem fz_27_4 {L : Nat} : fz (S0 L) 27 4 = some 32 := rfl
theorem fz_27_5 {L : Nat} : fz (S0 L) 27 5 = some 33 := rfl
theorem kz_28 {L : Nat} : kd (S0 L) 28 = 7 := rfl
theorem fz_28_0 {L : Nat} : fz (S0 L) 28 0 = some 29 := rfl
theorem fz_28_1 {L : Nat} : fz (S0 L) 28 1 = some 30 := rfl
theorem fz_28_2 {L : Nat} : fz (S0 L) 28 2 = some 31 := rfl
theorem kz_29 {L : Nat} : kd (S0 L) 29 = 20 := rfl
theorem lz_29 {L : Nat} : (ln (S0 L) 29 : Int) = 9 := rfl
theorem kz_30 {L : Nat} : kd (S0 L) 30 = 20 := rfl
theorem lz_30 {L : Nat} : (ln (S0 L) 30 : Int) = 9 := rfl
theorem kz_31 {L : Nat} : kd (S0 L) 31 = 20 := rfl
theorem lz_31 {L : Nat} : (ln (S0 L) 31 : Int) = 9 := rfl
theorem kz_32 {L : Nat} : kd (S0 L) 32 = 20 := rfl
theorem lz_32 {L : Nat} : (ln (S0 L) 32 : Int) = 2 := rfl
theorem kz_33 {L : Nat} : kd (S0 L) 33 = 20 := rfl
theorem lz_33 {L : Nat} : (ln (S0 L) 33 : Int) = 2 := rfl
theorem kz_34 {L : Nat} : kd (S0 L) 34 = 6 := rfl
theorem fz_34_2 {L : Nat} : fz (S0 L) 34 2 = some 35 := rfl
theorem fz_34_4 {L : Nat} : fz (S0 L) 34 4 = some 39 := rfl
theorem fz_34_5 {L : Nat} : fz (S0 L) 34 5 = some 40 := rfl
theorem kz_35 {L : Nat} : kd (S0 L) 35 = 7 := rfl
theorem fz_35_0 {L : Nat} : fz (S0 L) 35 0 = some 36 := rfl
theorem fz_35_1 {L : Nat} : fz (S0 L) 35 1 = some 37 := rfl
theorem fz_35_2 {L : Nat} : fz (S0 L) 35 2 = some 38 := rfl
theorem kz_36 {L : Nat} : kd (S0 L) 36 = 20 := rfl
theorem lz_36 {L : Nat} : (ln (S0 L) 36 : Int) = 9 := rfl
theorem kz_37 {L : Nat} : kd (S0 L) 37 = 20 := rfl
theorem lz_37 {L : Nat} : (ln (S0 L) 37 : Int) = 9 := rfl
theorem kz_38 {L : Nat} : kd (S0 L) 38 = 20 := rfl
theorem lz_38 {L : Nat} : (ln (S0 L) 38 : Int) = 9 := rfl
theorem kz_39 {L : Nat} : kd (S0 L) 39 = 20 := rfl
theorem lz_39 {L : Nat} : (ln (S0 L) 39 : Int) = 2 := rfl
theorem kz_40 {L : Nat} : kd (S0 L) 40 = 20 := rfl
theorem lz_40 {L : Nat} : (ln (S0 L) 40 : Int) = 2 := rfl
theorem kz_41 {L : Nat} : kd (S0 L) 41 = 6 := rfl
theorem fz_41_2 {L : Nat} : fz (S0 L) 41 2 = some 42 := rfl
theorem fz_41_4 {L : Nat} : fz (S0 L) 41 4 = some 46 := rfl
theorem fz_41_5 {L : Nat} : fz (S0 L) 41 5 = some 47 := rfl
theorem kz_42 {L : Nat} : kd (S0 L) 42 = 7 := rfl
theorem fz_42_0 {L : Nat} : fz (S0 L) 42 0 = some 43 := rfl
theorem fz_42_1 {L : Nat} : fz (S0 L) 42 1 = some 44 := rfl
theorem fz_42_2 {L : Nat} : fz (S0 L) 42 2 = some 45 := rfl
theorem kz_43 {L : Nat} : kd (S0 L) 43 = 20 := rfl
theorem lz_43 {L : Nat} : (ln (S0 L) 43 : Int) = 9 := rfl
theorem kz_44 {L : Nat} : kd (S0 L) 44 = 20 := rfl
theorem lz_44 {L : Nat} : (ln (S0 L) 44 : Int) = 9 := rfl
theorem kz_45 {L : Nat} : kd (S0 L) 45 = 20 := rfl
theorem lz_45 {L : Nat} : (ln (S0 L) 45 : Int) = 9 := rfl
theorem kz_46 {L : Nat} : kd (S0 L) 46 = 20 := rfl
theorem lz_46 {L : Nat} : (ln (S0 L) 46 : Int) = 2 := rfl
theorem kz_47 {L : Nat} : kd (S0 L) 47 = 20 := rfl
theorem lz_47 {L : Nat} : (ln (S0 L) 47 : Int) = 2 := rfl
theorem kz_48 {L : Nat} : kd (S0 L) 48 = 6 := rfl
theorem fz_48_2 {L : Nat} : fz (S0 L) 48 2 = some 49 := rfl
theorem fz_48_4 {L : Nat} : fz (S0 L) 48 4 = some 53 := rfl
theorem fz_48_5 {L : Nat} : fz (S0 L) 48 5 = some 54 := rfl
theorem kz_49 {L : Nat} : kd (S0 L) 49 = 7 := rfl
theorem fz_49_0 {L : Nat} : fz (S0 L) 49 0 = some 50 := rfl
theorem fz_49_1 {L : Nat} : fz (S0 L) 49 1 = some 51 := rfl
theorem fz_49_2 {L : Nat} : fz (S0 L) 49 2 = some 52 := rfl
theorem kz_50 {L : Nat} : kd (S0 L) 50 = 20 := rfl
theorem lz_50 {L : Nat} : (ln (S0 L) 50 : Int) = 9 := rfl
theorem kz_51 {L : Nat} : kd (S0 L) 51 = 20 := rfl
theorem lz_51 {L : Nat} : (ln (S0 L) 51 : Int) = 9 := rfl
theorem kz_52 {L : Nat} : kd (S0 L) 52 = 20 := rfl
theorem lz_52 {L : Nat} : (ln (S0 L) 52 : Int) = 9 := rfl
theorem kz_53 {L : Nat} : kd (S0 L) 53 = 20 := rfl
theorem lz_53 {L : Nat} : (ln (S0 L) 53 : Int) = 2 := rfl
theorem kz_54 {L : Nat} : kd (S0 L) 54 = 20 := rfl
theorem lz_54 {L : Nat} : (ln (S0 L) 54 : Int) = 2 := rfl
theorem kz_55 {L : Nat} : kd (S0 L) 55 = 0 := rfl
theorem fz_55_1 {L : Nat} : fz (S0 L) 55 1 = some 56 := rfl
theorem fz_55_2 {L : Nat} : fz (S0 L) 55 2 = some 57 := rfl
theorem fz_55_3 {L : Nat} : fz (S0 L) 55 3 = some 58 := rfl
theorem fz_55_5 {L : Nat} : fz (S0 L) 55 5 = some 59 := rfl
theorem fz_55_7 {L : Nat} : fz (S0 L) 55 7 = some 60 := rfl
theorem fz_55_8 {L : Nat} : fz (S0 L) 55 8 = some 61 := rfl
theorem fz_55_9 {L : Nat} : fz (S0 L) 55 9 = some 62 := rfl
theorem kz_56 {L : Nat} : kd (S0 L) 56 = 20 := rfl
theorem lz_56 {L : Nat} : (ln (S0 L) 56 : Int) = 4 := rfl
theorem kz_57 {L : Nat} : kd (S0 L) 57 = 20 := rfl
theorem lz_57 {L : Nat} : (ln (S0 L) 57 : Int) = 4 := rfl
theorem kz_58 {L : Nat} : kd (S0 L) 58 = 20 := rfl
theorem lz_58 {L : Nat} : (ln (S0 L) 58 : Int) = 4 := rfl
theorem kz_59 {L : Nat} : kd (S0 L) 59 = 23 := rfl
theorem lz_59 {L : Nat} : (ln (S0 L) 59 : Int) = 6 := rfl
theorem kz_60 {L : Nat} : kd (S0 L) 60 = 20 := rfl
theorem lz_60 {L : Nat} : (ln (S0 L) 60 : Int) = 6 := rfl
theorem kz_61 {L : Nat} : kd (S0 L) 61 = 20 := rfl
theorem lz_61 {L : Nat} : (ln (S0 L) 61 : Int) = 6 := rfl
theorem kz_62 {L : Nat} : kd (S0 L) 62 = 20 := rfl
theorem lz_62 {L : Nat} : (ln (S0 L) 62 : Int) = 2 := rfl
theorem kz_63 {L : Nat} : kd (S0 L) 63 = 6 := rfl
theorem fz_63_2 {L : Nat} : fz (S0 L) 63 2 = some 64 := rfl
theorem fz_63_4 {L : Nat} : fz (S0 L) 63 4 = some 68 := rfl
theorem fz_63_5 {L : Nat} : fz (S0 L) 63 5 = some 69 := rfl
theorem kz_64 {L : Nat} : kd (S0 L) 64 = 7 := rfl
theorem fz_64_0 {L : Nat} : fz (S0 L) 64 0 = some 65 := rfl
theorem fz_64_1 {L : Nat} : fz (S0 L) 64 1 = some 66 := rfl
theorem fz_64_2 {L : Nat} : fz (S0 L) 64 2 = some 67 := rfl
theorem kz_65 {L : Nat} : kd (S0 L) 65 = 20 := rfl
theorem lz_65 {L : Nat} : (ln (S0 L) 65 : Int) = 9 := rfl
theorem kz_66 {L : Nat} : kd (S0 L) 66 = 20 := rfl
theorem lz_66 {L : Nat} : (ln (S0 L) 66 : Int) = 9 := rfl
theorem kz_67 {L : Nat} : kd (S0 L) 67 = 20 := rfl
theorem lz_67 {L : Nat} : (ln (S0 L) 67 : Int) = 9 := rfl
theorem kz_68 {L : Nat} : kd (S0 L) 68 = 20 := rfl
theorem lz_68 {L : Nat} : (ln (S0 L) 68 : Int) = 2 := rfl
theorem kz_69 {L : Nat} : kd (S0 L) 69 = 20 := rfl
theorem lz_69 {L : Nat} : (ln (S0 L) 69 : Int) = 2 := rfl
theorem kz_70 {L : Nat} : kd (S0 L) 70 = 6 := rfl
theorem fz_70_2 {L : Nat} : fz (S0 L) 70 2 = some 71 := rfl
theorem fz_70_4 {L : Nat} : fz (S0 L) 70 4 = some 75 := rfl
theorem fz_70_5 {L : Nat} : fz (S0 L) 70 5 = some 76 := rfl
theorem kz_71 {L : Nat} : kd (S0 L) 71 = 7 := rfl
theorem fz_71_0 {L : Nat} : fz (S0 L) 71 0 = some 72 := rfl
theorem fz_71_1 {L : Nat} : fz (S0 L) 71 1 = some 73 := rfl
theorem fz_71_2 {L : Nat} : fz (S0 L) 71 2 = some 74 := rfl
theorem kz_72 {L : Nat} : kd (S0 L) 72 = 20 := rfl
theorem lz_72 {L : Nat} : (ln (S0 L) 72 : Int) = 9 := rfl
theorem kz_73 {L : Nat} : kd (S0 L) 73 = 20 := rfl
theorem lz_73 {L : Nat} : (ln (S0 L) 73 : Int) = 9 := rfl
theorem kz_74 {L : Nat} : kd (S0 L) 74 = 20 := rfl
theorem lz_74 {L : Nat} : (ln (S0 L) 74 : Int) = 9 := rfl
theorem kz_75 {L : Nat} : kd (S0 L) 75 = 20 := rfl
theorem lz_75 {L : Nat} : (ln (S0 L) 75 : Int) = 2 := rfl
theorem kz_76 {L : Nat} : kd (S0 L) 76 = 20 := rfl
theorem lz_76 {L : Nat} : (ln (S0 L) 76 : Int) = 2 := rfl
theorem kz_77 {L : Nat} : kd (S0 L) 77 = 6 := rfl
theorem fz_77_2 {L : Nat} : fz (S0 L) 77 2 = some 78 := rfl
theorem fz_77_4 {L : Nat} : fz (S0 L) 77 4 = some 82 := rfl
theorem fz_77_5 {L : Nat} : fz (S0 L) 77 5 = some 83 := rfl
theorem kz_78 {L : Nat} : kd (S0 L) 78 = 7 := rfl
theorem fz_78_0 {L : Nat} : fz (S0 L) 78 0 = some 79 := rfl
theorem fz_78_1 {L : Nat} : fz (S0 L) 78 1 = some 80 := rfl
theorem fz_78_2 {L : Nat} : fz (S0 L) 78 2 = some 81 := rfl
theorem kz_79 {L : Nat} : kd (S0 L) 79 = 20 := rfl
theorem lz_79 {L : Nat} : (ln (S0 L) 79 : Int) = 9 := rfl
theorem kz_80 {L : Nat} : kd (S0 L) 80 = 20 := rfl
theorem lz_80 {L : Nat} : (ln (S0 L) 80 : Int) = 9 := rfl
theorem kz_81 {L : Nat} : kd (S0 L) 81 = 20 := rfl
theorem lz_81 {L : Nat} : (ln (S0 L) 81 : Int) = 9 := rfl
theorem kz_82 {L : Nat} : kd (S0 L) 82 = 20 := rfl
theorem lz_82 {L : Nat} : (ln (S0 L) 82 : Int) = 2 := rfl
theorem kz_83 {L : Nat} : kd (S0 L) 83 = 20 := rfl
theorem lz_83 {L : Nat} : (ln (S0 L) 83 : Int) = 2 := rfl
theorem kz_84 {L : Nat} : kd (S0 L) 84 = 6 := rfl
theorem fz_84_2 {L : Nat} : fz (S0 L) 84 2 = some 85 := rfl
theorem fz_84_4 {L : Nat} : fz (S0 L) 84 4 = some 89 := rfl
theorem fz_84_5 {L : Nat} : fz (S0 L) 84 5 = some 90 := rfl
theorem kz_85 {L : Nat} : kd (S0 L) 85 = 7 := rfl
theorem fz_85_0 {L : Nat} : fz (S0 L) 85 0 = some 86 := rfl
theorem fz_85_1 {L : Nat} : fz (S0 L) 85 1 = some 87 := rfl
theorem fz_85_2 {L : Nat} : fz (S0 L) 85 2 = some 88 := rfl
theorem kz_86 {L : Nat} : kd (S0 L) 86 = 20 := rfl
theorem lz_86 {L : Nat} : (ln (S0 L) 86 : Int) = 9 := rfl
theorem kz_87 {L : Nat} : kd (S0 L) 87 = 20 := rfl
theorem lz_87 {L : Nat} : (ln (S0 L) 87 : Int) = 9 := rfl
theorem kz_88 {L : Nat} : kd (S0 L) 88 = 20 := rfl
theorem lz_88 {L : Nat} : (ln (S0 L) 88 : Int) = 9 := rfl
theorem kz_89 {L : Nat} : kd (S0 L) 89 = 20 := rfl
theorem lz_89 {L : Nat} : (ln (S0 L) 89 : Int) = 2 := rfl
theorem kz_90 {L : Nat} : kd (S0 L) 90 = 20 := rfl
theorem lz_90 {L : Nat} : (ln (S0 L) 90 : Int) = 2 := rfl
theorem kz_91 {L : Nat} : kd (S0 L) 91 = 6 := rfl
theorem fz_91_2 {L : Nat} : fz (S0 L) 91 2 = some 92 := rfl
theorem fz_91_4 {L : Nat} : fz (S0 L) 91 4 = some 96 := rfl
theorem fz_91_5 {L : Nat} : fz (S0 L) 91 5 = some 97 := rfl
theorem kz_92 {L : Nat} : kd (S0 L) 92 = 7 := rfl
theorem fz_92_0 {L : Nat} : fz (S0 L) 92 0 = some 93 := rfl
theorem fz_92_1 {L : Nat} : fz (S0 L) 92 1 = some 94 := rfl
theorem fz_92_2 {L : Nat} : fz (S0 L) 92 2 = some 95 := rfl
theorem kz_93 {L : Nat} : kd (S0 L) 93 = 20 := rfl
theorem lz_93 {L : Nat} : (ln (S0 L) 93 : Int) = 9 := rfl
theorem kz_94 {L : Nat} : kd (S0 L) 94 = 20 := rfl
theorem lz_94 {L : Nat} : (ln (S0 L) 94 : Int) = 9 := rfl
theorem kz_95 {L : Nat} : kd (S0 L) 95 = 20 := rfl
theorem lz_95 {L : Nat} : (ln (S0 L) 95 : Int) = 9 := rfl
theorem kz_96 {L : Nat} : kd (S0 L) 96 = 20 := rfl
theorem lz_96 {L : Nat} : (ln (S0 L) 96 : Int) = 2 := rfl
theorem kz_97 {L : Nat} : kd (S0 L) 97 = 20 := rfl
theorem lz_97 {L : Nat} : (ln (S0 L) 97 : Int) = 2 := rfl
theorem kz_98 {L : Nat} : kd (S0 L) 98 = 6 := rfl
theorem fz_98_2 {L : Nat} : fz (S0 L) 98 2 = some 99 := rfl
theorem fz_98_4 {L : Nat} : fz (S0 L) 98 4 = some 103 := rfl
theorem fz_98_5 {L : Nat} : fz (S0 L) 98 5 = some 104 := rfl
theorem kz_99 {L : Nat} : kd (S0 L) 99 = 7 := rfl
theorem fz_99_0 {L : Nat} : fz (S0 L) 99 0 = some 100 := rfl
theorem fz_99_1 {L : Nat} : fz (S0 L) 99 1 = some 101 := rfl
theorem fz_99_2 {L : Nat} : fz (S0 L) 99 2 = some 102 := rfl
theorem kz_100 {L : Nat} : kd (S0 L) 100 = 20 := rfl
theorem lz_100 {L : Nat} : (ln (S0 L) 100 : Int) = 9 := rfl
theorem kz_101 {L : Nat} : kd (S0 L) 101 = 20 := rfl
theorem lz_101 {L : Nat} : (ln (S0 L) 101 : Int) = 9 := rfl
theorem kz_102 {L : Nat} : kd (S0 L) 102 = 20 := rfl
theorem lz_102 {L : Nat} : (ln (S0 L) 102 : Int) = 9 := rfl
theorem kz_103 {L : Nat} : kd (S0 L) 103 = 20 := rfl
theorem lz_103 {L : Nat} : (ln (S0 L) 103 : Int) = 2 := rfl
theorem kz_104 {L : Nat} : kd (S0 L) 104 = 20 := rfl
theorem lz_104 {L : Nat} : (ln (S0 L) 104 : Int) = 2 := rfl
theorem kz_105 {L : Nat} : kd (S0 L) 105 = 5 := rfl
theorem kz_106 {L : Nat} : kd (S0 L) 106 = 4 := rfl
theorem fz_106_0 {L : Nat} : fz (S0 L) 106 0 = some 107 := rfl
theorem fz_106_1 {L : Nat} : fz (S0 L) 106 1 = some 108 := rfl
theorem fz_106_2 {L : Nat} : fz (S0 L) 106 2 = some 109 := rfl
theorem fz_106_3 {L : Nat} : fz (S0 L) 106 3 = some 110 := rfl
theorem fz_106_4 {L : Nat} : fz (S0 L) 106 4 = some 111 := rfl
theorem fz_106_5 {L : Nat} : fz (S0 L) 106 5 = some 112 := rfl
theorem fz_106_6 {L : Nat} : fz (S0 L) 106 6 = some 113 := rfl
theorem kz_107 {L : Nat} : kd (S0 L) 107 = 20 := rfl
theorem lz_107 {L : Nat} : (ln (S0 L) 107 : Int) = 10 := rfl
theorem kz_108 {L : Nat} : kd (S0 L) 108 = 20 := rfl
theorem lz_108 {L : Nat} : (ln (S0 L) 108 : Int) = 10 := rfl
theorem kz_109 {L : Nat} : kd (S0 L) 109 = 20 := rfl
theorem lz_109 {L : Nat} : (ln (S0 L) 109 : Int) = 10 := rfl
theorem kz_110 {L : Nat} : kd (S0 L) 110 = 20 := rfl
theorem lz_110 {L : Nat} : (ln (S0 L) 110 : Int) = 10 := rfl
theorem kz_111 {L : Nat} : kd (S0 L) 111 = 22 := rfl
theorem lz_111 {L : Nat} : (ln (S0 L) 111 : Int) = 10 := rfl
theorem kz_112 {L : Nat} : kd (S0 L) 112 = 20 := rfl
theorem lz_112 {L : Nat} : (ln (S0 L) 112 : Int) = 40 := rfl
theorem kz_113 {L : Nat} : kd (S0 L) 113 = 20 := rfl
theorem lz_113 {L : Nat} : (ln (S0 L) 113 : Int) = 40 := rfl
theorem kz_114 {L : Nat} : kd (S0 L) 114 = 1 := rfl
theorem fz_114_0 {L : Nat} : fz (S0 L) 114 0 = some 115 := rfl
theorem fz_114_1 {L : Nat} : fz (S0 L) 114 1 = some 116 := rfl
theorem fz_114_3 {L : Nat} : fz (S0 L) 114 3 = some 117 := rfl
theorem fz_114_4 {L : Nat} : fz (S0 L) 114 4 = some 118 := rfl
theorem kz_115 {L : Nat} : kd (S0 L) 115 = 20 := rfl
theorem lz_115 {L : Nat} : (ln (S0 L) 115 : Int) = 6 := rfl
theorem kz_116 {L : Nat} : kd (S0 L) 116 = 24 := rfl
theorem lz_116 {L : Nat} : (ln (S0 L) 116 : Int) = 4 := rfl
theorem kz_117 {L : Nat} : kd (S0 L) 117 = 20 := rfl
theorem lz_117 {L : Nat} : (ln (S0 L) 117 : Int) = 6 := rfl
theorem kz_118 {L : Nat} : kd (S0 L) 118 = 20 := rfl
theorem lz_118 {L : Nat} : (ln (S0 L) 118 : Int) = 6 := rfl
theorem kz_119 {L : Nat} : kd (S0 L) 119 = 7 := rfl
theorem fz_119_0 {L : Nat} : fz (S0 L) 119 0 = some 120 := rfl
theorem fz_119_1 {L : Nat} : fz (S0 L) 119 1 = some 121 := rfl
theorem fz_119_2 {L : Nat} : fz (S0 L) 119 2 = some 122 := rfl
theorem kz_120 {L : Nat} : kd (S0 L) 120 = 20 := rfl
theorem lz_120 {L : Nat} : (ln (S0 L) 120 : Int) = 9 := rfl
theorem kz_121 {L : Nat} : kd (S0 L) 121 = 20 := rfl
theorem lz_121 {L : Nat} : (ln (S0 L) 121 : Int) = 9 := rfl
theorem kz_122 {L : Nat} : kd (S0 L) 122 = 20 := rfl
theorem lz_122 {L : Nat} : (ln (S0 L) 122 : Int) = 9 := rfl
theorem kz_123 {L : Nat} : kd (S0 L) 123 = 7 := rfl
theorem fz_123_0 {L : Nat} : fz (S0 L) 123 0 = some 124 := rfl
theorem fz_123_1 {L : Nat} : fz (S0 L) 123 1 = some 125 := rfl
theorem fz_123_2 {L : Nat} : fz (S0 L) 123 2 = some 126 := rfl
theorem kz_124 {L : Nat} : kd (S0 L) 124 = 20 := rfl
theorem lz_124 {L : Nat} : (ln (S0 L) 124 : Int) = 9 := rfl
theorem kz_125 {L : Nat} : kd (S0 L) 125 = 20 := rfl
theorem lz_125 {L : Nat} : (ln (S0 L) 125 : Int) = 9 := rfl
theorem kz_126 {L : Nat} : kd (S0 L) 126 = 20 := rfl
theorem lz_126 {L : Nat} : (ln (S0 L) 126 : Int) = 9 := rfl
theorem kz_127 {L : Nat} : kd (S0 L) 127 = 7 := rfl
theorem fz_127_0 {L : Nat} : fz (S0 L) 127 0 = some 128 := rfl
theorem fz_127_1 {L : Nat} : fz (S0 L) 127 1 = some 129 := rfl
theorem fz_127_2 {L : Nat} : fz (S0 L) 127 2 = some 130 := rfl
theorem kz_128 {L : Nat} : kd (S0 L) 128 = 20 := rfl
theorem lz_128 {L : Nat} : (ln (S0 L) 128 : Int) = 9 := rfl
theorem kz_129 {L : Nat} : kd (S0 L) 129 = 20 := rfl
theorem lz_129 {L : Nat} : (ln (S0 L) 129 : Int) = 9 := rfl
theorem kz_130 {L : Nat} : kd (S0 L) 130 = 20 := rfl
theorem lz_130 {L : Nat} : (ln (S0 L) 130 : Int) = 9 := rfl
theorem kz_131 {L : Nat} : kd (S0 L) 131 = 7 := rfl
theorem fz_131_0 {L : Nat} : fz (S0 L) 131 0 = some 132 := rfl
theorem fz_131_1 {L : Nat} : fz (S0 L) 131 1 = some 133 := rfl
theorem fz_131_2 {L : Nat} : fz (S0 L) 131 2 = some 134 := rfl
theorem kz_132 {L : Nat} : kd (S0 L) 132 = 20 := rfl
theorem lz_132 {L : Nat} : (ln (S0 L) 132 : Int) = 9 := rfl
theorem kz_133 {L : Nat} : kd (S0 L) 133 = 20 := rfl
theorem lz_133 {L : Nat} : (ln (S0 L) 133 : Int) = 9 := rfl
theorem kz_134 {L : Nat} : kd (S0 L) 134 = 20 := rfl
theorem lz_134 {L : Nat} : (ln (S0 L) 134 : Int) = 9 := rfl
theorem kz_135 {L : Nat} : kd (S0 L) 135 = 1 := rfl
theorem fz_135_0 {L : Nat} : fz (S0 L) 135 0 = some 136 := rfl
theorem fz_135_1 {L : Nat} : fz (S0 L) 135 1 = some 137 := rfl
theorem fz_135_3 {L : Nat} : fz (S0 L) 135 3 = some 138 := rfl
theorem fz_135_4 {L : Nat} : fz (S0 L) 135 4 = some 139 := rfl
theorem kz_136 {L : Nat} : kd (S0 L) 136 = 20 := rfl
theorem lz_136 {L : Nat} : (ln (S0 L) 136 : Int) = 6 := rfl
theorem kz_137 {L : Nat} : kd (S0 L) 137 = 24 := rfl
theorem lz_137 {L : Nat} : (ln (S0 L) 137 : Int) = 4 := rfl
theorem kz_138 {L : Nat} : kd (S0 L) 138 = 20 := rfl
theorem lz_138 {L : Nat} : (ln (S0 L) 138 : Int) = 6 := rfl
theorem kz_139 {L : Nat} : kd (S0 L) 139 = 20 := rfl
theorem lz_139 {L : Nat} : (ln (S0 L) 139 : Int) = 6 := rfl
theorem kz_140 {L : Nat} : kd (S0 L) 140 = 7 := rfl
theorem fz_140_0 {L : Nat} : fz (S0 L) 140 0 = some 141 := rfl
theorem fz_140_1 {L : Nat} : fz (S0 L) 140 1 = some 142 := rfl
theorem fz_140_2 {L : Nat} : fz (S0 L) 140 2 = some 143 := rfl
theorem kz_141 {L : Nat} : kd (S0 L) 141 = 20 := rfl
theorem lz_141 {L : Nat} : (ln (S0 L) 141 : Int) = 9 := rfl
theorem kz_142 {L : Nat} : kd (S0 L) 142 = 20 := rfl
theorem lz_142 {L : Nat} : (ln (S0 L) 142 : Int) = 9 := rfl
theorem kz_143 {L : Nat} : kd (S0 L) 143 = 20 := rfl
theorem lz_143 {L : Nat} : (ln (S0 L) 143 : Int) = 9 := rfl
theorem kz_144 {L : Nat} : kd (S0 L) 144 = 7 := rfl
theorem fz_144_0 {L : Nat} : fz (S0 L) 144 0 = some 145 := rfl
theorem fz_144_1 {L : Nat} : fz (S0 L) 144 1 = some 146 := rfl
theorem fz_144_2 {L : Nat} : fz (S0 L) 144 2 = some 147 := rfl
theorem kz_145 {L : Nat} : kd (S0 L) 145 = 20 := rfl
theorem lz_145 {L : Nat} : (ln (S0 L) 145 : Int) = 9 := rfl
theorem kz_146 {L : Nat} : kd (S0 L) 146 = 20 := rfl
theorem lz_146 {L : Nat} : (ln (S0 L) 146 : Int) = 9 := rfl
theorem kz_147 {L : Nat} : kd (S0 L) 147 = 20 := rfl
theorem lz_147 {L : Nat} : (ln (S0 L) 147 : Int) = 9 := rfl
theorem kz_148 {L : Nat} : kd (S0 L) 148 = 7 := rfl
theorem fz_148_0 {L : Nat} : fz (S0 L) 148 0 = some 149 := rfl
theorem fz_148_1 {L : Nat} : fz (S0 L) 148 1 = some 150 := rfl
theorem fz_148_2 {L : Nat} : fz (S0 L) 148 2 = some 151 := rfl
theorem kz_149 {L : Nat} : kd (S0 L) 149 = 20 := rfl
theorem lz_149 {L : Nat} : (ln (S0 L) 149 : Int) = 9 := rfl
theorem kz_150 {L : Nat} : kd (S0 L) 150 = 20 := rfl
theorem lz_150 {L : Nat} : (ln (S0 L) 150 : Int) = 9 := rfl
theorem kz_151 {L : Nat} : kd (S0 L) 151 = 20 := rfl
theorem lz_151 {L : Nat} : (ln (S0 L) 151 : Int) = 9 := rfl
theorem kz_152 {L : Nat} : kd (S0 L) 152 = 7 := rfl
theorem fz_152_0 {L : Nat} : fz (S0 L) 152 0 = some 153 := rfl
theorem fz_152_1 {L : Nat} : fz (S0 L) 152 1 = some 154 := rfl
theorem fz_152_2 {L : Nat} : fz (S0 L) 152 2 = some 155 := rfl
theorem kz_153 {L : Nat} : kd (S0 L) 153 = 20 := rfl
theorem lz_153 {L : Nat} : (ln (S0 L) 153 : Int) = 9 := rfl
theorem kz_154 {L : Nat} : kd (S0 L) 154 = 20 := rfl
theorem lz_154 {L : Nat} : (ln (S0 L) 154 : Int) = 9 := rfl
theorem kz_155 {L : Nat} : kd (S0 L) 155 = 20 := rfl
theorem lz_155 {L : Nat} : (ln (S0 L) 155 : Int) = 9 := rfl
theorem kz_156 {L : Nat} : kd (S0 L) 156 = 2 := rfl
theorem fz_156_0 {L : Nat} : fz (S0 L) 156 0 = some 157 := rfl
theorem fz_156_1 {L : Nat} : fz (S0 L) 156 1 = some 158 := rfl
theorem fz_156_2 {L : Nat} : fz (S0 L) 156 2 = some 159 := rfl
theorem kz_157 {L : Nat} : kd (S0 L) 157 = 25 := rfl
theorem lz_157 {L : Nat} : (ln (S0 L) 157 : Int) = 36 := rfl
theorem kz_158 {L : Nat} : kd (S0 L) 158 = 20 := rfl
theorem lz_158 {L : Nat} : (ln (S0 L) 158 : Int) = 5 := rfl
theorem kz_159 {L : Nat} : kd (S0 L) 159 = 27 := rfl
theorem lz_159 {L : Nat} : (ln (S0 L) 159 : Int) = 6 := rfl
theorem kz_160 {L : Nat} : kd (S0 L) 160 = 20 := rfl
theorem lz_160 {L : Nat} : (ln (S0 L) 160 : Int) = 2 := rfl
theorem kz_161 {L : Nat} : kd (S0 L) 161 = 20 := rfl
theorem lz_161 {L : Nat} : (ln (S0 L) 161 : Int) = 2 := rfl
theorem kz_162 {L : Nat} : kd (S0 L) 162 = 20 := rfl
theorem lz_162 {L : Nat} : (ln (S0 L) 162 : Int) = 2 := rfl
theorem kz_163 {L : Nat} : kd (S0 L) 163 = 20 := rfl
theorem lz_163 {L : Nat} : (ln (S0 L) 163 : Int) = 2 := rfl
theorem kz_164 {L : Nat} : kd (S0 L) 164 = 20 := rfl
theorem lz_164 {L : Nat} : (ln (S0 L) 164 : Int) = 2 := rfl
theorem kz_165 {L : Nat} : kd (S0 L) 165 = 20 := rfl
theorem lz_165 {L : Nat} : (ln (S0 L) 165 : Int) = 2 := rfl
theorem kz_166 {L : Nat} : kd (S0 L) 166 = 3 := rfl
theorem fz_166_8 {L : Nat} : fz (S0 L) 166 8 = some 167 := rfl
theorem kz_167 {L : Nat} : kd (S0 L) 167 = 26 := rfl
theorem lz_167 {L : Nat} : (ln (S0 L) 167 : Int) = 2 := rfl
theorem kz_168 {L : Nat} : kd (S0 L) 168 = 3 := rfl
theorem fz_168_8 {L : Nat} : fz (S0 L) 168 8 = some 169 := rfl
theorem kz_169 {L : Nat} : kd (S0 L) 169 = 26 := rfl
theorem lz_169 {L : Nat} : (ln (S0 L) 169 : Int) = 2 := rfl
theorem kz_170 {L : Nat} : kd (S0 L) 170 = 3 := rfl
theorem fz_170_8 {L : Nat} : fz (S0 L) 170 8 = some 171 := rfl
theorem kz_171 {L : Nat} : kd (S0 L) 171 = 26 := rfl
theorem lz_171 {L : Nat} : (ln (S0 L) 171 : Int) = 2 := rfl
theorem kz_172 {L : Nat} : kd (S0 L) 172 = 3 := rfl
theorem fz_172_8 {L : Nat} : fz (S0 L) 172 8 = some 173 := rfl
theorem kz_173 {L : Nat} : kd (S0 L) 173 = 26 := rfl
theorem lz_173 {L : Nat} : (ln (S0 L) 173 : Int) = 2 := rfl
theorem kz_174 {L : Nat} : kd (S0 L) 174 = 3 := rfl
theorem fz_174_8 {L : Nat} : fz (S0 L) 174 8 = some 175 := rfl
theorem kz_175 {L : Nat} : kd (S0 L) 175 = 26 := rfl
theorem lz_175 {L : Nat} : (ln (S0 L) 175 : Int) = 2 := rfl
theorem kz_176 {L : Nat} : kd (S0 L) 176 = 3 := rfl
theorem fz_176_8 {L : Nat} : fz (S0 L) 176 8 = some 177 := rfl
theorem kz_177 {L : Nat} : kd (S0 L) 177 = 26 := rfl
theorem lz_177 {L : Nat} : (ln (S0 L) 177 : Int) = 2 := rfl
theorem kz_178 {L : Nat} : kd (S0 L) 178 = 3 := rfl
theorem fz_178_8 {L : Nat} : fz (S0 L) 178 8 = some 179 := rfl
theorem kz_179 {L : Nat} : kd (S0 L) 179 = 26 := rfl
theorem lz_179 {L : Nat} : (ln (S0 L) 179 : Int) = 2 := rfl
theorem kz_180 {L : Nat} : kd (S0 L) 180 = 3 := rfl
theorem fz_180_8 {L : Nat} : fz (S0 L) 180 8 = some 181 := rfl
theorem kz_181 {L : Nat} : kd (S0 L) 181 = 26 := rfl
theorem lz_181 {L : Nat} : (ln (S0 L) 181 : Int) = 2 := rfl
theorem kz_182 {L : Nat} : kd (S0 L) 182 = 3 := rfl
theorem fz_182_8 {L : Nat} : fz (S0 L) 182 8 = some 183 := rfl
theorem kz_183 {L : Nat} : kd (S0 L) 183 = 26 := rfl
theorem lz_183 {L : Nat} : (ln (S0 L) 183 : Int) = 2 := rfl
theorem kz_184 {L : Nat} : kd (S0 L) 184 = 3 := rfl
theorem fz_184_8 {L : Nat} : fz (S0 L) 184 8 = some 185 := rfl
theorem kz_185 {L : Nat} : kd (S0 L) 185 = 26 := rfl
theorem lz_185 {L : Nat} : (ln (S0 L) 185 : Int) = 2 := rfl
theorem kz_186 {L : Nat} : kd (S0 L) 186 = 3 := rfl
theorem fz_186_8 {L : Nat} : fz (S0 L) 186 8 = some 187 := rfl
theorem kz_187 {L : Nat} : kd (S0 L) 187 = 26 := rfl
theorem lz_187 {L : Nat} : (ln (S0 L) 187 : Int) = 2 := rfl
theorem kz_188 {L : Nat} : kd (S0 L) 188 = 3 := rfl
theorem fz_188_8 {L : Nat} : fz (S0 L) 188 8 = some 189 := rfl
theorem kz_189 {L : Nat} : kd (S0 L) 189 = 26 := rfl
theorem lz_189 {L : Nat} : (ln (S0 L) 189 : Int) = 2 := rfl
theorem kz_190 {L : Nat} : kd (S0 L) 190 = 3 := rfl
theorem fz_190_8 {L : Nat} : fz (S0 L) 190 8 = some 191 := rfl
theorem kz_191 {L : Nat} : kd (S0 L) 191 = 26 := rfl
theorem lz_191 {L : Nat} : (ln (S0 L) 191 : Int) = 2 := rfl
theorem kz_192 {L : Nat} : kd (S0 L) 192 = 3 := rfl
theorem fz_192_8 {L : Nat} : fz (S0 L) 192 8 = some 193 := rfl
theorem kz_193 {L : Nat} : kd (S0 L) 193 = 26 := rfl
theorem lz_193 {L : Nat} : (ln (S0 L) 193 : Int) = 2 := rfl
theorem kz_194 {L : Nat} : kd (S0 L) 194 = 3 := rfl
theorem fz_194_8 {L : Nat} : fz (S0 L) 194 8 = some 195 := rfl
theorem kz_195 {L : Nat} : kd (S0 L) 195 = 26 := rfl
theorem lz_195 {L : Nat} : (ln (S0 L) 195 : Int) = 2 := rfl
theorem kz_196 {L : Nat} : kd (S0 L) 196 = 3 := rfl
theorem fz_196_8 {L : Nat} : fz (S0 L) 196 8 = some 197 := rfl
theorem kz_197 {L : Nat} : kd (S0 L) 197 = 26 := rfl
theorem lz_197 {L : Nat} : (ln (S0 L) 197 : Int) = 2 := rfl
theorem kz_198 {L : Nat} : kd (S0 L) 198 = 3 := rfl
theorem fz_198_8 {L : Nat} : fz (S0 L) 198 8 = some 199 := rfl
theorem kz_199 {L : Nat} : kd (S0 L) 199 = 26 := rfl
theorem lz_199 {L : Nat} : (ln (S0 L) 199 : Int) = 2 := rfl
theorem kz_200 {L : Nat} : kd (S0 L) 200 = 3 := rfl
theorem fz_200_8 {L : Nat} : fz (S0 L) 200 8 = some 201 := rfl
theorem kz_201 {L : Nat} : kd (S0 L) 201 = 26 := rfl
theorem lz_201 {L : Nat} : (ln (S0 L) 201 : Int) = 2 := rfl
theorem kz_202 {L : Nat} : kd (S0 L) 202 = 3 := rfl
theorem fz_202_8 {L : Nat} : fz (S0 L) 202 8 = some 203 := rfl
theorem kz_203 {L : Nat} : kd (S0 L) 203 = 26 := rfl
theorem lz_203 {L : Nat} : (ln (S0 L) 203 : Int) = 2 := rfl
theorem kz_204 {L : Nat} : kd (S0 L) 204 = 3 := rfl
theorem fz_204_8 {L : Nat} : fz (S0 L) 204 8 = some 205 := rfl
theorem kz_205 {L : Nat} : kd (S0 L) 205 = 26 := rfl
theorem lz_205 {L : Nat} : (ln (S0 L) 205 : Int) = 2 := rfl
theorem kz_206 {L : Nat} : kd (S0 L) 206 = 3 := rfl
theorem fz_206_8 {L : Nat} : fz (S0 L) 206 8 = some 207 := rfl
theorem kz_207 {L : Nat} : kd (S0 L) 207 = 26 := rfl
theorem lz_207 {L : Nat} : (ln (S0 L) 207 : Int) = 2 := rfl
theorem kz_208 {L : Nat} : kd (S0 L) 208 = 3 := rfl
theorem fz_208_8 {L : Nat} : fz (S0 L) 208 8 = some 209 := rfl
theorem kz_209 {L : Nat} : kd (S0 L) 209 = 26 := rfl
theorem lz_209 {L : Nat} : (ln (S0 L) 209 : Int) = 2 := rfl
theorem kz_210 {L : Nat} : kd (S0 L) 210 = 3 := rfl
theorem fz_210_8 {L : Nat} : fz (S0 L) 210 8 = some 211 := rfl
theorem kz_211 {L : Nat} : kd (S0 L) 211 = 26 := rfl
theorem lz_211 {L : Nat} : (ln (S0 L) 211 : Int) = 2 := rfl
theorem kz_212 {L : Nat} : kd (S0 L) 212 = 3 := rfl
theorem fz_212_8 {L : Nat} : fz (S0 L) 212 8 = some 213 := rfl
theorem kz_213 {L : Nat} : kd (S0 L) 213 = 26 := rfl
theorem lz_213 {L : Nat} : (ln (S0 L) 213 : Int) = 2 := rfl
theorem kz_214 {L : Nat} : kd (S0 L) 214 = 3 := rfl
theorem fz_214_8 {L : Nat} : fz (S0 L) 214 8 = some 215 := rfl
theorem kz_215 {L : Nat} : kd (S0 L) 215 = 26 := rfl
theorem lz_215 {L : Nat} : (ln (S0 L) 215 : Int) = 2 := rfl
theorem kz_216 {L : Nat} : kd (S0 L) 216 = 3 := rfl
theorem fz_216_8 {L : Nat} : fz (S0 L) 216 8 = some 217 := rfl
theorem kz_217 {L : Nat} : kd (S0 L) 217 = 26 := rfl
theorem lz_217 {L : Nat} : (ln (S0 L) 217 : Int) = 2 := rfl
theorem kz_218 {L : Nat} : kd (S0 L) 218 = 3 := rfl
theorem fz_218_8 {L : Nat} : fz (S0 L) 218 8 = some 219 := rfl
theorem kz_219 {L : Nat} : kd (S0 L) 219 = 26 := rfl
theorem lz_219 {L : Nat} : (ln (S0 L) 219 : Int) = 2 := rfl
theorem kz_220 {L : Nat} : kd (S0 L) 220 = 3 := rfl
theorem fz_220_8 {L : Nat} : fz (S0 L) 220 8 = some 221 := rfl
theorem kz_221 {L : Nat} : kd (S0 L) 221 = 26 := rfl
theorem lz_221 {L : Nat} : (ln (S0 L) 221 : Int) = 2 := rfl
theorem kz_222 {L : Nat} : kd (S0 L) 222 = 3 := rfl
theorem fz_222_8 {L : Nat} : fz (S0 L) 222 8 = some 223 := rfl
theorem kz_223 {L : Nat} : kd (S0 L) 223 = 26 := rfl
theorem lz_223 {L : Nat} : (ln (S0 L) 223 : Int) = 2 := rfl
theorem kz_224 {L : Nat} : kd (S0 L) 224 = 3 := rfl
theorem fz_224_8 {L : Nat} : fz (S0 L) 224 8 = some 225 := rfl
theorem kz_225 {L : Nat} : kd (S0 L) 225 = 26 := rfl
theorem lz_225 {L : Nat} : (ln (S0 L) 225 : Int) = 2 := rfl
theorem kz_226 {L : Nat} : kd (S0 L) 226 = 3 := rfl
theorem fz_226_8 {L : Nat} : fz (S0 L) 226 8 = some 227 := rfl
theorem kz_227 {L : Nat} : kd (S0 L) 227 = 26 := rfl
theorem lz_227 {L : Nat} : (ln (S0 L) 227 : Int) = 2 := rfl
theorem kz_228 {L : Nat} : kd (S0 L) 228 = 3 := rfl
theorem fz_228_8 {L : Nat} : fz (S0 L) 228 8 = some 229 := rfl
theorem kz_229 {L : Nat} : kd (S0 L) 229 = 26 := rfl
theorem lz_229 {L : Nat} : (ln (S0 L) 229 : Int) = 2 := rfl
theorem kz_230 {L : Nat} : kd (S0 L) 230 = 3 := rfl
theorem fz_230_8 {L : Nat} : fz (S0 L) 230 8 = some 231 := rfl
theorem kz_231 {L : Nat} : kd (S0 L) 231 = 26 := rfl
theorem lz_231 {L : Nat} : (ln (S0 L) 231 : Int) = 2 := rfl
theorem kz_232 {L : Nat} : kd (S0 L) 232 = 3 := rfl
theorem fz_232_8 {L : Nat} : fz (S0 L) 232 8 = some 233 := rfl
theorem kz_233 {L : Nat} : kd (S0 L) 233 = 26 := rfl
theorem lz_233 {L : Nat} : (ln (S0 L) 233 : Int) = 2 := rfl
theorem kz_234 {L : Nat} : kd (S0 L) 234 = 3 := rfl
theorem fz_234_8 {L : Nat} : fz (S0 L) 234 8 = some 235 := rfl
theorem kz_235 {L : Nat} : kd (S0 L) 235 = 26 := rfl
theorem lz_235 {L : Nat} : (ln (S0 L) 235 : Int) = 2 := rfl
theorem kz_236 {L : Nat} : kd (S0 L) 236 = 3 := rfl
theorem fz_236_8 {L : Nat} : fz (S0 L) 236 8 = some 237 := rfl
theorem kz_237 {L : Nat} : kd (S0 L) 237 = 26 := rfl
theorem lz_237 {L : Nat} : (ln (S0 L) 237 : Int) = 2 := rfl
theorem kz_238 {L : Nat} : kd (S0 L) 238 = 20 := rfl
theorem lz_238 {L : Nat} : (ln (S0 L) 238 : Int) = 2 := rfl
theorem kz_239 {L : Nat} : kd (S0 L) 239 = 7 := rfl
theorem fz_239_0 {L : Nat} : fz (S0 L) 239 0 = some 240 := rfl
theorem fz_239_1 {L : Nat} : fz (S0 L) 239 1 = some 241 := rfl
theorem fz_239_2 {L : Nat} : fz (S0 L) 239 2 = some 242 := rfl
theorem kz_240 {L : Nat} : kd (S0 L) 240 = 20 := rfl
theorem lz_240 {L : Nat} : (ln (S0 L) 240 : Int) = 9 := rfl
theorem kz_241 {L : Nat} : kd (S0 L) 241 = 20 := rfl
theorem lz_241 {L : Nat} : (ln (S0 L) 241 : Int) = 9 := rfl
theorem kz_242 {L : Nat} : kd (S0 L) 242 = 20 := rfl
theorem lz_242 {L : Nat} : (ln (S0 L) 242 : Int) = 9 := rfl
theorem kz_243 {L : Nat} : kd (S0 L) 243 = 9 := rfl
theorem fz_243_2 {L : Nat} : fz (S0 L) 243 2 = some 244 := rfl
theorem fz_243_3 {L : Nat} : fz (S0 L) 243 3 = some 245 := rfl
theorem fz_243_5 {L : Nat} : fz (S0 L) 243 5 = some 246 := rfl
theorem fz_243_6 {L : Nat} : fz (S0 L) 243 6 = some 247 := rfl
theorem fz_243_7 {L : Nat} : fz (S0 L) 243 7 = some 248 := rfl
theorem fz_243_8 {L : Nat} : fz (S0 L) 243 8 = some 249 := rfl
theorem fz_243_9 {L : Nat} : fz (S0 L) 243 9 = some 250 := rfl
theorem fz_243_10 {L : Nat} : fz (S0 L) 243 10 = some 251 := rfl
theorem fz_243_11 {L : Nat} : fz (S0 L) 243 11 = some 252 := rfl
theorem fz_243_12 {L : Nat} : fz (S0 L) 243 12 = some 253 := rfl
theorem fz_243_13 {L : Nat} : fz (S0 L) 243 13 = some 254 := rfl
theorem fz_243_14 {L : Nat} : fz (S0 L) 243 14 = some 255 := rfl
theorem fz_243_16 {L : Nat} : fz (S0 L) 243 16 = some 256 := rfl
theorem fz_243_17 {L : Nat} : fz (S0 L) 243 17 = some 257 := rfl
theorem fz_243_18 {L : Nat} : fz (S0 L) 243 18 = some 258 := rfl
theorem fz_243_20 {L : Nat} : fz (S0 L) 243 20 = some 259 := rfl
theorem fz_243_25 {L : Nat} : fz (S0 L) 243 25 = some 260 := rfl
theorem fz_243_26 {L : Nat} : fz (S0 L) 243 26 = some 261 := rfl
theorem fz_243_27 {L : Nat} : fz (S0 L) 243 27 = some 262 := rfl
theorem fz_243_28 {L : Nat} : fz (S0 L) 243 28 = some 263 := rfl
theorem fz_243_29 {L : Nat} : fz (S0 L) 243 29 = some 264 := rfl
theorem fz_243_30 {L : Nat} : fz (S0 L) 243 30 = some 265 := rfl
theorem fz_243_31 {L : Nat} : fz (S0 L) 243 31 = some 266 := rfl
theorem fz_243_32 {L : Nat} : fz (S0 L) 243 32 = some 267 := rfl
theorem fz_243_33 {L : Nat} : fz (S0 L) 243 33 = some 268 := rfl
theorem fz_243_35 {L : Nat} : fz (S0 L) 243 35 = some 269 := rfl
theorem fz_243_36 {L : Nat} : fz (S0 L) 243 36 = some 270 := rfl
theorem fz_243_37 {L : Nat} : fz (S0 L) 243 37 = some 271 := rfl
theorem fz_243_38 {L : Nat} : fz (S0 L) 243 38 = some 272 := rfl
theorem fz_243_39 {L : Nat} : fz (S0 L) 243 39 = some 273 := rfl
theorem fz_243_40 {L : Nat} : fz (S0 L) 243 40 = some 274 := rfl
theorem fz_243_41 {L : Nat} : fz (S0 L) 243 41 = some 275 := rfl
theorem fz_243_42 {L : Nat} : fz (S0 L) 243 42 = some 276 := rfl
theorem fz_243_43 {L : Nat} : fz (S0 L) 243 43 = some 277 := rfl
theorem fz_243_44 {L : Nat} : fz (S0 L) 243 44 = some 278 := rfl
theorem fz_243_47 {L : Nat} : fz (S0 L) 243 47 = some 279 := rfl
theorem fz_243_48 {L : Nat} : fz (S0 L) 243 48 = some 280 := rfl
theorem fz_243_49 {L : Nat} : fz (S0 L) 243 49 = some 281 := rfl
theorem fz_243_51 {L : Nat} : fz (S0 L) 243 51 = some 282 := rfl
theorem fz_243_56 {L : Nat} : fz (S0 L) 243 56 = some 283 := rfl
theorem fz_243_57 {L : Nat} : fz (S0 L) 243 57 = some 284 := rfl
theorem fz_243_58 {L : Nat} : fz (S0 L) 243 58 = some 285 := rfl
theorem fz_243_59 {L : Nat} : fz (S0 L) 243 59 = some 286 := rfl
theorem fz_243_60 {L : Nat} : fz (S0 L) 243 60 = some 287 := rfl
theorem fz_243_61 {L : Nat} : fz (S0 L) 243 61 = some 288 := rfl
theorem kz_244 {L : Nat} : kd (S0 L) 244 = 20 := rfl
theorem lz_244 {L : Nat} : (ln (S0 L) 244 : Int) = 4 := rfl
theorem kz_245 {L : Nat} : kd (S0 L) 245 = 20 := rfl
theorem lz_245 {L : Nat} : (ln (S0 L) 245 : Int) = 4 := rfl
theorem kz_246 {L : Nat} : kd (S0 L) 246 = 20 := rfl
theorem lz_246 {L : Nat} : (ln (S0 L) 246 : Int) = 6 := rfl
theorem kz_247 {L : Nat} : kd (S0 L) 247 = 20 := rfl
theorem lz_247 {L : Nat} : (ln (S0 L) 247 : Int) = 6 := rfl
theorem kz_248 {L : Nat} : kd (S0 L) 248 = 20 := rfl
theorem lz_248 {L : Nat} : (ln (S0 L) 248 : Int) = 30 := rfl
theorem kz_249 {L : Nat} : kd (S0 L) 249 = 20 := rfl
theorem lz_249 {L : Nat} : (ln (S0 L) 249 : Int) = 6 := rfl
theorem kz_250 {L : Nat} : kd (S0 L) 250 = 20 := rfl
theorem lz_250 {L : Nat} : (ln (S0 L) 250 : Int) = 6 := rfl
theorem kz_251 {L : Nat} : kd (S0 L) 251 = 20 := rfl
theorem lz_251 {L : Nat} : (ln (S0 L) 251 : Int) = 12 := rfl
theorem kz_252 {L : Nat} : kd (S0 L) 252 = 20 := rfl
theorem lz_252 {L : Nat} : (ln (S0 L) 252 : Int) = 12 := rfl
theorem kz_253 {L : Nat} : kd (S0 L) 253 = 20 := rfl
theorem lz_253 {L : Nat} : (ln (S0 L) 253 : Int) = 36 := rfl
theorem kz_254 {L : Nat} : kd (S0 L) 254 = 20 := rfl
theorem lz_254 {L : Nat} : (ln (S0 L) 254 : Int) = 36 := rfl
theorem kz_255 {L : Nat} : kd (S0 L) 255 = 20 := rfl
theorem lz_255 {L : Nat} : (ln (S0 L) 255 : Int) = 4 := rfl
theorem kz_256 {L : Nat} : kd (S0 L) 256 = 20 := rfl
theorem lz_256 {L : Nat} : (ln (S0 L) 256 : Int) = 6 := rfl
theorem kz_257 {L : Nat} : kd (S0 L) 257 = 20 := rfl
theorem lz_257 {L : Nat} : (ln (S0 L) 257 : Int) = 6 := rfl
theorem kz_258 {L : Nat} : kd (S0 L) 258 = 20 := rfl
theorem lz_258 {L : Nat} : (ln (S0 L) 258 : Int) = 6 := rfl
theorem kz_259 {L : Nat} : kd (S0 L) 259 = 21 := rfl
theorem lz_259 {L : Nat} : (ln (S0 L) 259 : Int) = 84 := rfl
theorem kz_260 {L : Nat} : kd (S0 L) 260 = 20 := rfl
theorem lz_260 {L : Nat} : (ln (S0 L) 260 : Int) = 4 := rfl
theorem kz_261 {L : Nat} : kd (S0 L) 261 = 20 := rfl
theorem lz_261 {L : Nat} : (ln (S0 L) 261 : Int) = 6 := rfl
theorem kz_262 {L : Nat} : kd (S0 L) 262 = 20 := rfl
theorem lz_262 {L : Nat} : (ln (S0 L) 262 : Int) = 6 := rfl
theorem kz_263 {L : Nat} : kd (S0 L) 263 = 20 := rfl
theorem lz_263 {L : Nat} : (ln (S0 L) 263 : Int) = 6 := rfl
theorem kz_264 {L : Nat} : kd (S0 L) 264 = 20 := rfl
theorem lz_264 {L : Nat} : (ln (S0 L) 264 : Int) = 6 := rfl
theorem kz_265 {L : Nat} : kd (S0 L) 265 = 20 := rfl
theorem lz_265 {L : Nat} : (ln (S0 L) 265 : Int) = 6 := rfl
theorem kz_266 {L : Nat} : kd (S0 L) 266 = 20 := rfl
theorem lz_266 {L : Nat} : (ln (S0 L) 266 : Int) = 12 := rfl
theorem kz_267 {L : Nat} : kd (S0 L) 267 = 20 := rfl
theorem lz_267 {L : Nat} : (ln (S0 L) 267 : Int) = 9 := rfl
theorem kz_268 {L : Nat} : kd (S0 L) 268 = 20 := rfl
theorem lz_268 {L : Nat} : (ln (S0 L) 268 : Int) = 9 := rfl
theorem kz_269 {L : Nat} : kd (S0 L) 269 = 20 := rfl
theorem lz_269 {L : Nat} : (ln (S0 L) 269 : Int) = 2 := rfl
theorem kz_270 {L : Nat} : kd (S0 L) 270 = 20 := rfl
theorem lz_270 {L : Nat} : (ln (S0 L) 270 : Int) = 36 := rfl
theorem kz_271 {L : Nat} : kd (S0 L) 271 = 20 := rfl
theorem lz_271 {L : Nat} : (ln (S0 L) 271 : Int) = 36 := rfl
theorem kz_272 {L : Nat} : kd (S0 L) 272 = 20 := rfl
theorem lz_272 {L : Nat} : (ln (S0 L) 272 : Int) = 36 := rfl
theorem kz_273 {L : Nat} : kd (S0 L) 273 = 20 := rfl
theorem lz_273 {L : Nat} : (ln (S0 L) 273 : Int) = 36 := rfl
theorem kz_274 {L : Nat} : kd (S0 L) 274 = 20 := rfl
theorem lz_274 {L : Nat} : (ln (S0 L) 274 : Int) = 36 := rfl
theorem kz_275 {L : Nat} : kd (S0 L) 275 = 20 := rfl
theorem lz_275 {L : Nat} : (ln (S0 L) 275 : Int) = 36 := rfl
theorem kz_276 {L : Nat} : kd (S0 L) 276 = 20 := rfl
theorem lz_276 {L : Nat} : (ln (S0 L) 276 : Int) = 36 := rfl
theorem kz_277 {L : Nat} : kd (S0 L) 277 = 20 := rfl
theorem lz_277 {L : Nat} : (ln (S0 L) 277 : Int) = 36 := rfl
theorem kz_278 {L : Nat} : kd (S0 L) 278 = 20 := rfl
theorem lz_278 {L : Nat} : (ln (S0 L) 278 : Int) = 36 := rfl
theorem kz_279 {L : Nat} : kd (S0 L) 279 = 20 := rfl
theorem lz_279 {L : Nat} : (ln (S0 L) 279 : Int) = 4 := rfl
theorem kz_280 {L : Nat} : kd (S0 L) 280 = 20 := rfl
theorem lz_280 {L : Nat} : (ln (S0 L) 280 : Int) = 64 := rfl
theorem kz_281 {L : Nat} : kd (S0 L) 281 = 20 := rfl
theorem lz_281 {L : Nat} : (ln (S0 L) 281 : Int) = 64 := rfl
theorem kz_282 {L : Nat} : kd (S0 L) 282 = 20 := rfl
theorem lz_282 {L : Nat} : (ln (S0 L) 282 : Int) = 64 := rfl
theorem kz_283 {L : Nat} : kd (S0 L) 283 = 20 := rfl
theorem lz_283 {L : Nat} : (ln (S0 L) 283 : Int) = 6 := rfl
theorem kz_284 {L : Nat} : kd (S0 L) 284 = 20 := rfl
theorem lz_284 {L : Nat} : (ln (S0 L) 284 : Int) = 36 := rfl
theorem kz_285 {L : Nat} : kd (S0 L) 285 = 20 := rfl
theorem lz_285 {L : Nat} : (ln (S0 L) 285 : Int) = 4 := rfl
theorem kz_286 {L : Nat} : kd (S0 L) 286 = 20 := rfl
theorem lz_286 {L : Nat} : (ln (S0 L) 286 : Int) = 6 := rfl
theorem kz_287 {L : Nat} : kd (S0 L) 287 = 20 := rfl
theorem lz_287 {L : Nat} : (ln (S0 L) 287 : Int) = 6 := rfl
theorem kz_288 {L : Nat} : kd (S0 L) 288 = 20 := rfl
theorem lz_288 {L : Nat} : (ln (S0 L) 288 : Int) = 6 := rfl
theorem kd_tl {L a : Nat} (h : 1 ≤ a) : kd (S0 L) a = kd S0t (a - 1) := by cases a with
  | zero => omega
  | succ a => rfl
theorem ln_tl {L a : Nat} (h : 1 ≤ a) : ln (S0 L) a = ln S0t (a - 1) := by cases a with
  | zero => omega
  | succ a => rfl
theorem fz_tl {L a k : Nat} (h : 1 ≤ a) : fz (S0 L) a k = fz S0t (a - 1) k := by cases a with
  | zero => omega
  | succ a => rfl
def lSh : List Nat := [14, 21, 28, 35, 42, 49, 64, 71, 78, 85, 92, 99, 119, 123, 127, 131, 140, 144, 148, 152, 239]
def isSh (a : Nat) : Prop := a ∈ lSh
theorem is_14 : isSh 14 := by show 14 ∈ lSh; decide
theorem is_21 : isSh 21 := by show 21 ∈ lSh; decide
theorem is_28 : isSh 28 := by show 28 ∈ lSh; decide
theorem is_35 : isSh 35 := by show 35 ∈ lSh; decide
theorem is_42 : isSh 42 := by show 42 ∈ lSh; decide
theorem is_49 : isSh 49 := by show 49 ∈ lSh; decide
theorem is_64 : isSh 64 := by show 64 ∈ lSh; decide
theorem is_71 : isSh 71 := by show 71 ∈ lSh; decide
theorem is_78 : isSh 78 := by show 78 ∈ lSh; decide
theorem is_85 : isSh 85 := by show 85 ∈ lSh; decide
theorem is_92 : isSh 92 := by show 92 ∈ lSh; decide
theorem is_99 : isSh 99 := by show 99 ∈ lSh; decide
theorem is_119 : isSh 119 := by show 119 ∈ lSh; decide
theorem is_123 : isSh 123 := by show 123 ∈ lSh; decide
theorem is_127 : isSh 127 := by show 127 ∈ lSh; decide
theorem is_131 : isSh 131 := by show 131 ∈ lSh; decide
theorem is_140 : isSh 140 := by show 140 ∈ lSh; decide
theorem is_144 : isSh 144 := by show 144 ∈ lSh; decide
theorem is_148 : isSh 148 := by show 148 ∈ lSh; decide
theorem is_152 : isSh 152 := by show 152 ∈ lSh; decide
theorem is_239 : isSh 239 := by show 239 ∈ lSh; decide
def ckSh (a : Nat) : Bool := (decide (1 ≤ a)) && (decide (kd S0t (a - 1) = 7)) && (decide (fz S0t (a - 1) 0 = some (a + 1))) && (decide (kd S0t (a + 1 - 1) = 20) && decide (ln S0t (a + 1 - 1) = 9)) && (decide (fz S0t (a - 1) 1 = some (a + 2))) && (decide (kd S0t (a + 2 - 1) = 20) && decide (ln S0t (a + 2 - 1) = 9)) && (decide (fz S0t (a - 1) 2 = some (a + 3))) && (decide (kd S0t (a + 3 - 1) = 20) && decide (ln S0t (a + 3 - 1) = 9))
theorem ckSh_all : lSh.all ckSh = true := by decide +kernel
theorem ckSh_of {a : Nat} (h : isSh a) : ckSh a = true := List.all_eq_true.mp ckSh_all a h
theorem kd_Sh {L a : Nat} (h : isSh a) : kd (S0 L) a = 7 := by have q := ckSh_of h; simp only [ckSh, Bool.and_eq_true, decide_eq_true_eq] at q; rw [kd_tl (by omega)]; omega
theorem fz_Sh0 {L a : Nat} (h : isSh a) : fz (S0 L) a 0 = some (a + 1) := by have q := ckSh_of h; simp only [ckSh, Bool.and_eq_true, decide_eq_true_eq] at q; rw [fz_tl (by omega)]; simp only [q]
theorem kd_Sh0 {L a : Nat} (h : isSh a) : kd (S0 L) (a + 1) = 20 := by have q := ckSh_of h; simp only [ckSh, Bool.and_eq_true, decide_eq_true_eq] at q; rw [kd_tl (by omega)]; simp only [q]
theorem ln_Sh0 {L a : Nat} (h : isSh a) : (ln (S0 L) (a + 1) : Int) = 9 := by have q := ckSh_of h; simp only [ckSh, Bool.and_eq_true, decide_eq_true_eq] at q; rw [ln_tl (by omega)]; simp only [q]; rfl
theorem fz_Sh1 {L a : Nat} (h : isSh a) : fz (S0 L) a 1 = some (a + 2) := by have q := ckSh_of h; simp only [ckSh, Bool.and_eq_true, decide_eq_true_eq] at q; rw [fz_tl (by omega)]; simp only [q]
theorem kd_Sh1 {L a : Nat} (h : isSh a) : kd (S0 L) (a + 2) = 20 := by have q := ckSh_of h; simp only [ckSh, Bool.and_eq_true, decide_eq_true_eq] at q; rw [kd_tl (by omega)]; simp only [q]
theorem ln_Sh1 {L a : Nat} (h : isSh a) : (ln (S0 L) (a + 2) : Int) = 9 := by have q := ckSh_of h; simp only [ckSh, Bool.and_eq_true, decide_eq_true_eq] at q; rw [ln_tl (by omega)]; simp only [q]; rfl
theorem fz_Sh2 {L a : Nat} (h : isSh a) : fz (S0 L) a 2 = some (a + 3) := by have q := ckSh_of h; simp only [ckSh, Bool.and_eq_true, decide_eq_true_eq] at q; rw [fz_tl (by omega)]; simp only [q]
theorem kd_Sh2 {L a : Nat} (h : isSh a) : kd (S0 L) (a + 3) = 20 := by have q := ckSh_of h; simp only [ckSh, Bool.and_eq_true, decide_eq_true_eq] at q; rw [kd_tl (by omega)]; simp only [q]
theorem ln_Sh2 {L a : Nat} (h : isSh a) : (ln (S0 L) (a + 3) : Int) = 9 := by have q := ckSh_of h; simp only [ckSh, Bool.and_eq_true, decide_eq_true_eq] at q; rw [ln_tl (by omega)]; simp only [q]; rfl
def lRu : List Nat := [13, 20, 27, 34, 41, 48, 63, 70, 77, 84, 91, 98]
def isRu (a : Nat) : Prop := a ∈ lRu
theorem is_13 : isRu 13 := by show 13 ∈ lRu; decide
theorem is_20 : isRu 20 := by show 20 ∈ lRu; decide
theorem is_27 : isRu 27 := by show 27 ∈ lRu; decide
theorem is_34 : isRu 34 := by show 34 ∈ lRu; decide
theorem is_41 : isRu 41 := by show 41 ∈ lRu; decide
theorem is_48 : isRu 48 := by show 48 ∈ lRu; decide
theorem is_63 : isRu 63 := by show 63 ∈ lRu; decide
theorem is_70 : isRu 70 := by show 70 ∈ lRu; decide
theorem is_77 : isRu 77 := by show 77 ∈ lRu; decide
theorem is_84 : isRu 84 := by show 84 ∈ lRu; decide
theorem is_91 : isRu 91 := by show 91 ∈ lRu; decide
theorem is_98 : isRu 98 := by show 98 ∈ lRu; decide
def ckRu (a : Nat) : Bool := (decide (1 ≤ a)) && (decide (kd S0t (a - 1) = 6)) && (decide (fz S0t (a - 1) 2 = some (a + 1))) && (decide (a + 1 ∈ lSh)) && (decide (fz S0t (a - 1) 4 = some (a + 5))) && (decide (kd S0t (a + 5 - 1) = 20) && decide (ln S0t (a + 5 - 1) = 2)) && (decide (fz S0t (a - 1) 5 = some (a + 6))) && (decide (kd S0t (a + 6 - 1) = 20) && decide (ln S0t (a + 6 - 1) = 2))
theorem ckRu_all : lRu.all ckRu = true := by decide +kernel
theorem ckRu_of {a : Nat} (h : isRu a) : ckRu a = true := List.all_eq_true.mp ckRu_all a h
theorem kd_Ru {L a : Nat} (h : isRu a) : kd (S0 L) a = 6 := by have q := ckRu_of h; simp only [ckRu, Bool.and_eq_true, decide_eq_true_eq] at q; rw [kd_tl (by omega)]; omega
theorem fz_Ru2 {L a : Nat} (h : isRu a) : fz (S0 L) a 2 = some (a + 1) := by have q := ckRu_of h; simp only [ckRu, Bool.and_eq_true, decide_eq_true_eq] at q; rw [fz_tl (by omega)]; simp only [q]
theorem is_Ru2 {a : Nat} (h : isRu a) : isSh (a + 1) := by have q := ckRu_of h; simp only [ckRu, Bool.and_eq_true, decide_eq_true_eq] at q; simp only [isSh, q]
theorem fz_Ru4 {L a : Nat} (h : isRu a) : fz (S0 L) a 4 = some (a + 5) := by have q := ckRu_of h; simp only [ckRu, Bool.and_eq_true, decide_eq_true_eq] at q; rw [fz_tl (by omega)]; simp only [q]
theorem kd_Ru4 {L a : Nat} (h : isRu a) : kd (S0 L) (a + 5) = 20 := by have q := ckRu_of h; simp only [ckRu, Bool.and_eq_true, decide_eq_true_eq] at q; rw [kd_tl (by omega)]; simp only [q]
theorem ln_Ru4 {L a : Nat} (h : isRu a) : (ln (S0 L) (a + 5) : Int) = 2 := by have q := ckRu_of h; simp only [ckRu, Bool.and_eq_true, decide_eq_true_eq] at q; rw [ln_tl (by omega)]; simp only [q]; rfl
theorem fz_Ru5 {L a : Nat} (h : isRu a) : fz (S0 L) a 5 = some (a + 6) := by have q := ckRu_of h; simp only [ckRu, Bool.and_eq_true, decide_eq_true_eq] at q; rw [fz_tl (by omega)]; simp only [q]
theorem kd_Ru5 {L a : Nat} (h : isRu a) : kd (S0 L) (a + 6) = 20 := by have q := ckRu_of h; simp only [ckRu, Bool.and_eq_true, decide_eq_true_eq] at q; rw [kd_tl (by omega)]; simp only [q]
theorem ln_Ru5 {L a : Nat} (h : isRu a) : (ln (S0 L) (a + 6) : Int) = 2 := by have q := ckRu_of h; simp only [ckRu, Bool.and_eq_true, decide_eq_true_eq] at q; rw [ln_tl (by omega)]; simp only [q]; rfl
def lBk : List Nat := [5, 55]
def isBk (a : Nat) : Prop := a ∈ lBk
theorem is_5 : isBk 5 := by show 5 ∈ lBk; decide
theorem is_55 : isBk 55 := by show 55 ∈ lBk; decide
def ckBk (a : Nat) : Bool := (decide (1 ≤ a)) && (decide (kd S0t (a - 1) = 0)) && (decide (fz S0t (a - 1) 1 = some (a + 1))) && (decide (kd S0t (a + 1 - 1) = 20) && decide (ln S0t (a + 1 - 1) = 4)) && (decide (fz S0t (a - 1) 2 = some (a + 2))) && (decide (kd S0t (a + 2 - 1) = 20) && decide (ln S0t (a + 2 - 1) = 4)) && (decide (fz S0t (a - 1) 3 = some (a + 3))) && (decide (kd S0t (a + 3 - 1) = 20) && decide (ln S0t (a + 3 - 1) = 4)) && (decide (fz S0t (a - 1) 5 = some (a + 4))) && (decide (kd S0t (a + 4 - 1) = 23) && decide (ln S0t (a + 4 - 1) = 6) && (List.range 6).all (fun i => decide (fz S0t (a + 4 - 1) i = some (a + 8 + 7 * i)) && decide (a + 8 + 7 * i ∈ lRu))) && (decide (fz S0t (a - 1) 7 = some (a + 5))) && (decide (kd S0t (a + 5 - 1) = 20) && decide (ln S0t (a + 5 - 1) = 6)) && (decide (fz S0t (a - 1) 8 = some (a + 6))) && (decide (kd S0t (a + 6 - 1) = 20) && decide (ln S0t (a + 6 - 1) = 6)) && (decide (fz S0t (a - 1) 9 = some (a + 7))) && (decide (kd S0t (a + 7 - 1) = 20) && decide (ln S0t (a + 7 - 1) = 2))
theorem ckBk_all : lBk.all ckBk = true := by decide +kernel
theorem ckBk_of {a : Nat} (h : isBk a) : ckBk a = true := List.all_eq_true.mp ckBk_all a h
theorem kd_Bk {L a : Nat} (h : isBk a) : kd (S0 L) a = 0 := by have q := ckBk_of h; simp only [ckBk, Bool.and_eq_true, decide_eq_true_eq] at q; rw [kd_tl (by omega)]; omega
theorem fz_Bk1 {L a : Nat} (h : isBk a) : fz (S0 L) a 1 = some (a + 1) := by have q := ckBk_of h; simp only [ckBk, Bool.and_eq_true, decide_eq_true_eq] at q; rw [fz_tl (by omega)]; simp only [q]
theorem kd_Bk1 {L a : Nat} (h : isBk a) : kd (S0 L) (a + 1) = 20 := by have q := ckBk_of h; simp only [ckBk, Bool.and_eq_true, decide_eq_true_eq] at q; rw [kd_tl (by omega)]; simp only [q]
theorem ln_Bk1 {L a : Nat} (h : isBk a) : (ln (S0 L) (a + 1) : Int) = 4 := by have q := ckBk_of h; simp only [ckBk, Bool.and_eq_true, decide_eq_true_eq] at q; rw [ln_tl (by omega)]; simp only [q]; rfl
theorem fz_Bk2 {L a : Nat} (h : isBk a) : fz (S0 L) a 2 = some (a + 2) := by have q := ckBk_of h; simp only [ckBk, Bool.and_eq_true, decide_eq_true_eq] at q; rw [fz_tl (by omega)]; simp only [q]
theorem kd_Bk2 {L a : Nat} (h : isBk a) : kd (S0 L) (a + 2) = 20 := by have q := ckBk_of h; simp only [ckBk, Bool.and_eq_true, decide_eq_true_eq] at q; rw [kd_tl (by omega)]; simp only [q]
theorem ln_Bk2 {L a : Nat} (h : isBk a) : (ln (S0 L) (a + 2) : Int) = 4 := by have q := ckBk_of h; simp only [ckBk, Bool.and_eq_true, decide_eq_true_eq] at q; rw [ln_tl (by omega)]; simp only [q]; rfl
theorem fz_Bk3 {L a : Nat} (h : isBk a) : fz (S0 L) a 3 = some (a + 3) := by have q := ckBk_of h; simp only [ckBk, Bool.and_eq_true, decide_eq_true_eq] at q; rw [fz_tl (by omega)]; simp only [q]
theorem kd_Bk3 {L a : Nat} (h : isBk a) : kd (S0 L) (a + 3) = 20 := by have q := ckBk_of h; simp only [ckBk, Bool.and_eq_true, decide_eq_true_eq] at q; rw [kd_tl (by omega)]; simp only [q]
theorem ln_Bk3 {L a : Nat} (h : isBk a) : (ln (S0 L) (a + 3) : Int) = 4 := by have q := ckBk_of h; simp only [ckBk, Bool.and_eq_true, decide_eq_true_eq] at q; rw [ln_tl (by omega)]; simp only [q]; rfl
theorem fz_Bk5 {L a : Nat} (h : isBk a) : fz (S0 L) a 5 = some (a + 4) := by have q := ckBk_of h; simp only [ckBk, Bool.and_eq_true, decide_eq_true_eq] at q; rw [fz_tl (by omega)]; simp only [q]
theorem kd_Bk5 {L a : Nat} (h : isBk a) : kd (S0 L) (a + 4) = 23 := by have q := ckBk_of h; simp only [ckBk, Bool.and_eq_true, decide_eq_true_eq] at q; rw [kd_tl (by omega)]; simp only [q]
theorem ln_Bk5 {L a : Nat} (h : isBk a) : (ln (S0 L) (a + 4) : Int) = 6 := by have q := ckBk_of h; simp only [ckBk, Bool.and_eq_true, decide_eq_true_eq] at q; rw [ln_tl (by omega)]; simp only [q]; rfl
theorem el_Bk5 {L a : Nat} (h : isBk a) : ∀ i : Int, 0 ≤ i → i < 6 → fz (S0 L) (a + 4) i.toNat = some (a + 8 + 7 * i.toNat) := by
  intro i h0 h1
  have q := ckBk_of h; simp only [ckBk, Bool.and_eq_true, decide_eq_true_eq, List.all_eq_true, List.mem_range] at q
  rw [fz_tl (by omega)]
  have q2 : ∀ x, x < 6 → fz S0t (a + 4 - 1) x = some (a + 8 + 7 * x) := by intro x hx; simp only [q, hx]
  exact q2 i.toNat (by omega)
theorem ie_Bk5 {a : Nat} (h : isBk a) {i : Int} (hi : 0 ≤ i ∧ i < 6) : isRu (a + 8 + 7 * i.toNat) := by
  have q := ckBk_of h; simp only [ckBk, Bool.and_eq_true, decide_eq_true_eq, List.all_eq_true, List.mem_range] at q
  have hx : i.toNat < 6 := by omega
  simp only [isRu, q, hx]
theorem fz_Bk7 {L a : Nat} (h : isBk a) : fz (S0 L) a 7 = some (a + 5) := by have q := ckBk_of h; simp only [ckBk, Bool.and_eq_true, decide_eq_true_eq] at q; rw [fz_tl (by omega)]; simp only [q]
theorem kd_Bk7 {L a : Nat} (h : isBk a) : kd (S0 L) (a + 5) = 20 := by have q := ckBk_of h; simp only [ckBk, Bool.and_eq_true, decide_eq_true_eq] at q; rw [kd_tl (by omega)]; simp only [q]
theorem ln_Bk7 {L a : Nat} (h : isBk a) : (ln (S0 L) (a + 5) : Int) = 6 := by have q := ckBk_of h; simp only [ckBk, Bool.and_eq_true, decide_eq_true_eq] at q; rw [ln_tl (by omega)]; simp only [q]; rfl
theorem fz_Bk8 {L a : Nat} (h : isBk a) : fz (S0 L) a 8 = some (a + 6) := by have q := ckBk_of h; simp only [ckBk, Bool.and_eq_true, decide_eq_true_eq] at q; rw [fz_tl (by omega)]; simp only [q]
theorem kd_Bk8 {L a : Nat} (h : isBk a) : kd (S0 L) (a + 6) = 20 := by have q := ckBk_of h; simp only [ckBk, Bool.and_eq_true, decide_eq_true_eq] at q; rw [kd_tl (by omega)]; simp only [q]
theorem ln_Bk8 {L a : Nat} (h : isBk a) : (ln (S0 L) (a + 6) : Int) = 6 := by have q := ckBk_of h; simp only [ckBk, Bool.and_eq_true, decide_eq_true_eq] at q; rw [ln_tl (by omega)]; simp only [q]; rfl
theorem fz_Bk9 {L a : Nat} (h : isBk a) : fz (S0 L) a 9 = some (a + 7) := by have q := ckBk_of h; simp only [ckBk, Bool.and_eq_true, decide_eq_true_eq] at q; rw [fz_tl (by omega)]; simp only [q]
theorem kd_Bk9 {L a : Nat} (h : isBk a) : kd (S0 L) (a + 7) = 20 := by have q := ckBk_of h; simp only [ckBk, Bool.and_eq_true, decide_eq_true_eq] at q; rw [kd_tl (by omega)]; simp only [q]
theorem ln_Bk9 {L a : Nat} (h : isBk a) : (ln (S0 L) (a + 7) : Int) = 2 := by have q := ckBk_of h; simp only [ckBk, Bool.and_eq_true, decide_eq_true_eq] at q; rw [ln_tl (by omega)]; simp only [q]; rfl
def lDk : List Nat := [114, 135]
def isDk (a : Nat) : Prop := a ∈ lDk
theorem is_114 : isDk 114 := by show 114 ∈ lDk; decide
theorem is_135 : isDk 135 := by show 135 ∈ lDk; decide
def ckDk (a : Nat) : Bool := (decide (1 ≤ a)) && (decide (kd S0t (a - 1) = 1)) && (decide (fz S0t (a - 1) 0 = some (a + 1))) && (decide (kd S0t (a + 1 - 1) = 20) && decide (ln S0t (a + 1 - 1) = 6)) && (decide (fz S0t (a - 1) 1 = some (a + 2))) && (decide (kd S0t (a + 2 - 1) = 24) && decide (ln S0t (a + 2 - 1) = 4) && (List.range 4).all (fun i => decide (fz S0t (a + 2 - 1) i = some (a + 5 + 4 * i)) && decide (a + 5 + 4 * i ∈ lSh))) && (decide (fz S0t (a - 1) 3 = some (a + 3))) && (decide (kd S0t (a + 3 - 1) = 20) && decide (ln S0t (a + 3 - 1) = 6)) && (decide (fz S0t (a - 1) 4 = some (a + 4))) && (decide (kd S0t (a + 4 - 1) = 20) && decide (ln S0t (a + 4 - 1) = 6))
theorem ckDk_all : lDk.all ckDk = true := by decide +kernel
theorem ckDk_of {a : Nat} (h : isDk a) : ckDk a = true := List.all_eq_true.mp ckDk_all a h
theorem kd_Dk {L a : Nat} (h : isDk a) : kd (S0 L) a = 1 := by have q := ckDk_of h; simp only [ckDk, Bool.and_eq_true, decide_eq_true_eq] at q; rw [kd_tl (by omega)]; omega
theorem fz_Dk0 {L a : Nat} (h : isDk a) : fz (S0 L) a 0 = some (a + 1) := by have q := ckDk_of h; simp only [ckDk, Bool.and_eq_true, decide_eq_true_eq] at q; rw [fz_tl (by omega)]; simp only [q]
theorem kd_Dk0 {L a : Nat} (h : isDk a) : kd (S0 L) (a + 1) = 20 := by have q := ckDk_of h; simp only [ckDk, Bool.and_eq_true, decide_eq_true_eq] at q; rw [kd_tl (by omega)]; simp only [q]
theorem ln_Dk0 {L a : Nat} (h : isDk a) : (ln (S0 L) (a + 1) : Int) = 6 := by have q := ckDk_of h; simp only [ckDk, Bool.and_eq_true, decide_eq_true_eq] at q; rw [ln_tl (by omega)]; simp only [q]; rfl
theorem fz_Dk1 {L a : Nat} (h : isDk a) : fz (S0 L) a 1 = some (a + 2) := by have q := ckDk_of h; simp only [ckDk, Bool.and_eq_true, decide_eq_true_eq] at q; rw [fz_tl (by omega)]; simp only [q]
theorem kd_Dk1 {L a : Nat} (h : isDk a) : kd (S0 L) (a + 2) = 24 := by have q := ckDk_of h; simp only [ckDk, Bool.and_eq_true, decide_eq_true_eq] at q; rw [kd_tl (by omega)]; simp only [q]
theorem ln_Dk1 {L a : Nat} (h : isDk a) : (ln (S0 L) (a + 2) : Int) = 4 := by have q := ckDk_of h; simp only [ckDk, Bool.and_eq_true, decide_eq_true_eq] at q; rw [ln_tl (by omega)]; simp only [q]; rfl
theorem el_Dk1 {L a : Nat} (h : isDk a) : ∀ i : Int, 0 ≤ i → i < 4 → fz (S0 L) (a + 2) i.toNat = some (a + 5 + 4 * i.toNat) := by
  intro i h0 h1
  have q := ckDk_of h; simp only [ckDk, Bool.and_eq_true, decide_eq_true_eq, List.all_eq_true, List.mem_range] at q
  rw [fz_tl (by omega)]
  have q2 : ∀ x, x < 4 → fz S0t (a + 2 - 1) x = some (a + 5 + 4 * x) := by intro x hx; simp only [q, hx]
  exact q2 i.toNat (by omega)
theorem ie_Dk1 {a : Nat} (h : isDk a) {i : Int} (hi : 0 ≤ i ∧ i < 4) : isSh (a + 5 + 4 * i.toNat) := by
  have q := ckDk_of h; simp only [ckDk, Bool.and_eq_true, decide_eq_true_eq, List.all_eq_true, List.mem_range] at q
  have hx : i.toNat < 4 := by omega
  simp only [isSh, q, hx]
theorem fz_Dk3 {L a : Nat} (h : isDk a) : fz (S0 L) a 3 = some (a + 3) := by have q := ckDk_of h; simp only [ckDk, Bool.and_eq_true, decide_eq_true_eq] at q; rw [fz_tl (by omega)]; simp only [q]
theorem kd_Dk3 {L a : Nat} (h : isDk a) : kd (S0 L) (a + 3) = 20 := by have q := ckDk_of h; simp only [ckDk, Bool.and_eq_true, decide_eq_true_eq] at q; rw [kd_tl (by omega)]; simp only [q]
theorem ln_Dk3 {L a : Nat} (h : isDk a) : (ln (S0 L) (a + 3) : Int) = 6 := by have q := ckDk_of h; simp only [ckDk, Bool.and_eq_true, decide_eq_true_eq] at q; rw [ln_tl (by omega)]; simp only [q]; rfl
theorem fz_Dk4 {L a : Nat} (h : isDk a) : fz (S0 L) a 4 = some (a + 4) := by have q := ckDk_of h; simp only [ckDk, Bool.and_eq_true, decide_eq_true_eq] at q; rw [fz_tl (by omega)]; simp only [q]
theorem kd_Dk4 {L a : Nat} (h : isDk a) : kd (S0 L) (a + 4) = 20 := by have q := ckDk_of h; simp only [ckDk, Bool.and_eq_true, decide_eq_true_eq] at q; rw [kd_tl (by omega)]; simp only [q]
theorem ln_Dk4 {L a : Nat} (h : isDk a) : (ln (S0 L) (a + 4) : Int) = 6 := by have q := ckDk_of h; simp only [ckDk, Bool.and_eq_true, decide_eq_true_eq] at q; rw [ln_tl (by omega)]; simp only [q]; rfl
def lGo : List Nat := [166, 168, 170, 172, 174, 176, 178, 180, 182, 184, 186, 188, 190, 192, 194, 196, 198, 200, 202, 204, 206, 208, 210, 212, 214, 216, 218, 220, 222, 224, 226, 228, 230, 232, 234, 236]
def isGo (a : Nat) : Prop := a ∈ lGo
theorem is_166 : isGo 166 := by show 166 ∈ lGo; decide
theorem is_168 : isGo 168 := by show 168 ∈ lGo; decide
theorem is_170 : isGo 170 := by show 170 ∈ lGo; decide
theorem is_172 : isGo 172 := by show 172 ∈ lGo; decide
theorem is_174 : isGo 174 := by show 174 ∈ lGo; decide
theorem is_176 : isGo 176 := by show 176 ∈ lGo; decide
theorem is_178 : isGo 178 := by show 178 ∈ lGo; decide
theorem is_180 : isGo 180 := by show 180 ∈ lGo; decide
theorem is_182 : isGo 182 := by show 182 ∈ lGo; decide
theorem is_184 : isGo 184 := by show 184 ∈ lGo; decide
theorem is_186 : isGo 186 := by show 186 ∈ lGo; decide
theorem is_188 : isGo 188 := by show 188 ∈ lGo; decide
theorem is_190 : isGo 190 := by show 190 ∈ lGo; decide
theorem is_192 : isGo 192 := by show 192 ∈ lGo; decide
theorem is_194 : isGo 194 := by show 194 ∈ lGo; decide
theorem is_196 : isGo 196 := by show 196 ∈ lGo; decide
theorem is_198 : isGo 198 := by show 198 ∈ lGo; decide
theorem is_200 : isGo 200 := by show 200 ∈ lGo; decide
theorem is_202 : isGo 202 := by show 202 ∈ lGo; decide
theorem is_204 : isGo 204 := by show 204 ∈ lGo; decide
theorem is_206 : isGo 206 := by show 206 ∈ lGo; decide
theorem is_208 : isGo 208 := by show 208 ∈ lGo; decide
theorem is_210 : isGo 210 := by show 210 ∈ lGo; decide
theorem is_212 : isGo 212 := by show 212 ∈ lGo; decide
theorem is_214 : isGo 214 := by show 214 ∈ lGo; decide
theorem is_216 : isGo 216 := by show 216 ∈ lGo; decide
theorem is_218 : isGo 218 := by show 218 ∈ lGo; decide
theorem is_220 : isGo 220 := by show 220 ∈ lGo; decide
theorem is_222 : isGo 222 := by show 222 ∈ lGo; decide
theorem is_224 : isGo 224 := by show 224 ∈ lGo; decide
theorem is_226 : isGo 226 := by show 226 ∈ lGo; decide
theorem is_228 : isGo 228 := by show 228 ∈ lGo; decide
theorem is_230 : isGo 230 := by show 230 ∈ lGo; decide
theorem is_232 : isGo 232 := by show 232 ∈ lGo; decide
theorem is_234 : isGo 234 := by show 234 ∈ lGo; decide
theorem is_236 : isGo 236 := by show 236 ∈ lGo; decide
def ckGo (a : Nat) : Bool := (decide (1 ≤ a)) && (decide (kd S0t (a - 1) = 3)) && (decide (fz S0t (a - 1) 8 = some (a + 1))) && (decide (kd S0t (a + 1 - 1) = 26) && decide (ln S0t (a + 1 - 1) = 2))
theorem ckGo_all : lGo.all ckGo = true := by decide +kernel
theorem ckGo_of {a : Nat} (h : isGo a) : ckGo a = true := List.all_eq_true.mp ckGo_all a h
theorem kd_Go {L a : Nat} (h : isGo a) : kd (S0 L) a = 3 := by have q := ckGo_of h; simp only [ckGo, Bool.and_eq_true, decide_eq_true_eq] at q; rw [kd_tl (by omega)]; omega
theorem fz_Go8 {L a : Nat} (h : isGo a) : fz (S0 L) a 8 = some (a + 1) := by have q := ckGo_of h; simp only [ckGo, Bool.and_eq_true, decide_eq_true_eq] at q; rw [fz_tl (by omega)]; simp only [q]
theorem kd_Go8 {L a : Nat} (h : isGo a) : kd (S0 L) (a + 1) = 26 := by have q := ckGo_of h; simp only [ckGo, Bool.and_eq_true, decide_eq_true_eq] at q; rw [kd_tl (by omega)]; simp only [q]
theorem ln_Go8 {L a : Nat} (h : isGo a) : (ln (S0 L) (a + 1) : Int) = 2 := by have q := ckGo_of h; simp only [ckGo, Bool.and_eq_true, decide_eq_true_eq] at q; rw [ln_tl (by omega)]; simp only [q]; rfl
theorem gl_all : (List.range 36).all (fun i => decide (fz S0t 156 i = some (166 + 2 * i)) && decide (166 + 2 * i ∈ lGo)) = true := by decide +kernel
theorem el_goals {L : Nat} : ∀ i : Int, 0 ≤ i → i < 36 → fz (S0 L) 157 i.toNat = some (166 + 2 * i.toNat) := by
  intro i h0 h1
  have q := List.all_eq_true.mp gl_all i.toNat (List.mem_range.mpr (by omega))
  simp only [Bool.and_eq_true, decide_eq_true_eq] at q
  rw [fz_tl (by omega)]
  exact q.1
theorem ie_goals {i : Int} (hi : 0 ≤ i ∧ i < 36) : isGo (166 + 2 * i.toNat) := by
  have q := List.all_eq_true.mp gl_all i.toNat (List.mem_range.mpr (by omega))
  simp only [Bool.and_eq_true, decide_eq_true_eq] at q
  exact q.2
theorem pu_all : (List.range 6).all (fun i => decide (fz S0t 158 i = some (160 + i)) && decide (kd S0t (160 + i - 1) = 20) && decide (ln S0t (160 + i - 1) = 2)) = true := by decide +kernel
theorem el_puts {L : Nat} : ∀ i : Int, 0 ≤ i → i < 6 → fz (S0 L) 159 i.toNat = some (160 + i.toNat) := by
  intro i h0 h1
  have q := List.all_eq_true.mp pu_all i.toNat (List.mem_range.mpr (by omega))
  simp only [Bool.and_eq_true, decide_eq_true_eq] at q
  rw [fz_tl (by omega)]
  exact q.1.1
/-- an array of ints, of a length -/
def isA (L a : Nat) (n : Int) : Prop := kd (S0 L) a = 20 ∧ (ln (S0 L) a : Int) = n
/-- an array of two ints -/
def isP2 (L a : Nat) : Prop := kd (S0 L) a = 20 ∧ (ln (S0 L) a : Int) = 2
def isP6 (L a : Nat) : Prop := kd (S0 L) a = 20 ∧ (ln (S0 L) a : Int) = 6
theorem ie_puts {L : Nat} {i : Int} (hi : 0 ≤ i ∧ i < 6) : isP2 L (160 + i.toNat) := by
  have q := List.all_eq_true.mp pu_all i.toNat (List.mem_range.mpr (by omega))
  simp only [Bool.and_eq_true, decide_eq_true_eq] at q
  exact ⟨by rw [kd_tl (by omega)]; exact q.1.2, by rw [ln_tl (by omega), q.2]; rfl⟩
