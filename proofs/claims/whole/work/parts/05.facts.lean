/-! ===== the cells of both systems, and what the pools say: by program ===== -/
def zds : List zD := [
  .inl (11, 0, 0, [(2, 1), (0, 0), (2, 2), (2, 7), (2, 9), (0, 0), (2, 15), (0, 0), (2, 38), (0, 0), (2, 62), (2, 63), (0, 0), (2, 64)]),
  .inr (1, 0, 1, 0, 4000),
  .inl (10, 1, 0, [(2, 3), (2, 4), (2, 5), (2, 6), (0, 0), (0, 0), (0, 0)]),
  .inr (2, 1, 1, 0, 27),
  .inr (1, 1, 2, 0, 1002),
  .inr (0, 1, 3, 0, 1002),
  .inr (2, 1, 4, 0, 1002),
  .inl (2, 2, 0, [(2, 2), (0, 0), (2, 8)]),
  .inr (0, 2, 1, 0, 27),
  .inl (5, 3, 0, [(2, 2), (2, 10), (2, 11), (2, 12), (0, 0), (2, 13), (2, 14)]),
  .inr (2, 3, 1, 0, 76),
  .inr (0, 3, 2, 0, 76),
  .inr (0, 3, 3, 0, 76),
  .inr (0, 3, 4, 0, 27),
  .inr (2, 3, 5, 0, 12),
  .inl (9, 4, 0, [(2, 16), (2, 17), (2, 18), (2, 19), (2, 20), (2, 21), (2, 22), (2, 23), (2, 24), (2, 25), (2, 26), (2, 27), (2, 28)]),
  .inr (0, 4, 1, 0, 27),
  .inr (0, 4, 2, 0, 16),
  .inr (0, 4, 3, 0, 8),
  .inr (0, 4, 4, 0, 8),
  .inr (0, 4, 5, 0, 16),
  .inr (0, 4, 6, 0, 24),
  .inr (0, 4, 7, 0, 24),
  .inr (0, 4, 8, 0, 24),
  .inr (0, 4, 9, 0, 16),
  .inr (0, 4, 10, 0, 12),
  .inr (0, 4, 11, 0, 12),
  .inr (0, 4, 12, 0, 12),
  .inl (6, 4, 13, [(2, 29), (2, 30), (0, 0), (0, 0), (2, 31), (2, 32), (2, 33), (2, 34), (2, 35), (2, 36), (2, 37), (0, 0)]),
  .inr (1, 4, 14, 0, 1000),
  .inr (0, 4, 15, 0, 1000),
  .inr (0, 4, 16, 0, 13),
  .inr (0, 4, 17, 0, 80),
  .inr (0, 4, 18, 0, 80),
  .inr (0, 4, 19, 0, 80),
  .inr (3, 4, 20, 0, 80),
  .inr (3, 4, 21, 0, 80),
  .inr (0, 4, 22, 0, 24),
  .inl (1, 5, 0, [(2, 15), (2, 28), (2, 40), (2, 43), (2, 48), (2, 52), (2, 56), (2, 39), (1, 0), (0, 0), (0, 0), (0, 0), (0, 0), (0, 0), (0, 0)]),
  .inr (0, 5, 1, 0, 16),
  .inl (7, 5, 2, [(2, 28), (2, 41), (2, 42), (0, 0)]),
  .inr (0, 5, 3, 0, 6),
  .inr (0, 5, 4, 0, 6),
  .inl (8, 5, 5, [(2, 15), (2, 44), (2, 45), (2, 46), (2, 47)]),
  .inr (0, 5, 6, 0, 16),
  .inr (0, 5, 7, 0, 16),
  .inr (0, 5, 8, 0, 16),
  .inr (0, 5, 9, 0, 16),
  .inl (0, 5, 10, [(2, 15), (2, 49), (2, 50), (2, 51), (0, 0)]),
  .inr (0, 5, 11, 0, 8),
  .inr (0, 5, 12, 0, 8),
  .inr (0, 5, 13, 0, 8),
  .inl (3, 5, 14, [(2, 15), (3, 38), (3, 38), (2, 55), (0, 0), (0, 0), (0, 0), (0, 0), (0, 0)]),
  .inr (0, 5, 15, 1, 0),
  .inr (0, 5, 16, 1, 0),
  .inr (0, 5, 17, 1, 0),
  .inl (4, 5, 18, [(2, 15), (2, 57), (2, 58), (2, 59), (2, 60), (2, 61), (0, 0)]),
  .inr (3, 5, 19, 0, 12),
  .inr (0, 5, 20, 0, 12),
  .inr (0, 5, 21, 0, 12),
  .inr (0, 5, 22, 0, 12),
  .inr (0, 5, 23, 0, 12),
  .inr (0, 0, 62, 0, 600),
  .inr (0, 0, 63, 0, 600),
  .inl (1, 6, 0, [(2, 15), (2, 28), (2, 66), (2, 69), (2, 74), (2, 78), (2, 82), (2, 65), (1, 0), (0, 0), (0, 0), (0, 0), (0, 0), (0, 0), (0, 0)]),
  .inr (0, 6, 1, 0, 16),
  .inl (7, 6, 2, [(2, 28), (2, 67), (2, 68), (0, 0)]),
  .inr (0, 6, 3, 0, 6),
  .inr (0, 6, 4, 0, 6),
  .inl (8, 6, 5, [(2, 15), (2, 70), (2, 71), (2, 72), (2, 73)]),
  .inr (0, 6, 6, 0, 16),
  .inr (0, 6, 7, 0, 16),
  .inr (0, 6, 8, 0, 16),
  .inr (0, 6, 9, 0, 16),
  .inl (0, 6, 10, [(2, 15), (2, 75), (2, 76), (2, 77), (0, 0)]),
  .inr (0, 6, 11, 0, 8),
  .inr (0, 6, 12, 0, 8),
  .inr (0, 6, 13, 0, 8),
  .inl (3, 6, 14, [(2, 15), (3, 64), (3, 64), (2, 81), (0, 0), (0, 0), (0, 0), (0, 0), (0, 0)]),
  .inr (0, 6, 15, 1, 0),
  .inr (0, 6, 16, 1, 0),
  .inr (0, 6, 17, 1, 0),
  .inl (4, 6, 18, [(2, 15), (2, 83), (2, 84), (2, 85), (2, 86), (2, 87), (0, 0)]),
  .inr (3, 6, 19, 0, 12),
  .inr (0, 6, 20, 0, 12),
  .inr (0, 6, 21, 0, 12),
  .inr (0, 6, 22, 0, 12),
  .inr (0, 6, 23, 0, 12),
  .inl (12, 7, 0, [(0, 0), (2, 89), (0, 0), (2, 90), (0, 0), (2, 91), (2, 92), (2, 93), (2, 94), (2, 95), (0, 0), (0, 0), (0, 0), (0, 0), (0, 0), (0, 0), (0, 0), (0, 0), (0, 0), (0, 0), (0, 0), (2, 96), (0, 0), (2, 97), (2, 98), (2, 99), (2, 100), (2, 101), (2, 102), (2, 103), (2, 104), (2, 105), (2, 106), (2, 107), (2, 108), (2, 109), (2, 110), (2, 111), (2, 112), (2, 113), (2, 114), (0, 0), (2, 115), (2, 116), (2, 117), (2, 118), (0, 0), (2, 119), (2, 120), (2, 121), (2, 122), (0, 0), (2, 123), (2, 124), (0, 0), (2, 125), (2, 126), (2, 127), (0, 0), (0, 0), (2, 128), (0, 0), (2, 129), (2, 130), (0, 0), (1, 0), (0, 0), (0, 0), (0, 0), (0, 0), (0, 0), (0, 0), (0, 0), (2, 131), (2, 132), (2, 133), (2, 134), (2, 135), (2, 136), (2, 137), (2, 138), (2, 139), (2, 140), (2, 141), (2, 142), (0, 0), (2, 143), (2, 144), (0, 0), (0, 0), (0, 0), (2, 145), (2, 146), (2, 147), (2, 148), (2, 149), (2, 150), (0, 0), (2, 151), (0, 0), (2, 152), (2, 153), (2, 154)]),
  .inr (1, 7, 1, 0, 4000),
  .inr (1, 7, 2, 0, 4000),
  .inr (0, 7, 3, 0, 1003),
  .inr (0, 7, 4, 0, 1003),
  .inr (0, 7, 5, 0, 1003),
  .inr (2, 7, 6, 0, 1003),
  .inr (2, 7, 7, 0, 27),
  .inr (0, 7, 8, 0, 18),
  .inr (2, 7, 9, 0, 120),
  .inr (0, 7, 10, 0, 120),
  .inr (0, 7, 11, 0, 120),
  .inr (0, 7, 12, 0, 32),
  .inr (0, 7, 13, 0, 16),
  .inr (0, 7, 14, 0, 16),
  .inr (0, 7, 15, 0, 16),
  .inr (0, 7, 16, 0, 32),
  .inr (0, 7, 17, 0, 48),
  .inr (0, 7, 18, 0, 48),
  .inr (0, 7, 19, 0, 48),
  .inr (0, 7, 20, 0, 32),
  .inr (0, 7, 21, 0, 24),
  .inr (0, 7, 22, 0, 24),
  .inr (0, 7, 23, 0, 26),
  .inr (0, 7, 24, 0, 160),
  .inr (0, 7, 25, 0, 162),
  .inr (0, 7, 26, 0, 162),
  .inr (0, 7, 27, 0, 800),
  .inr (0, 7, 28, 0, 800),
  .inr (0, 7, 29, 0, 800),
  .inr (0, 7, 30, 0, 800),
  .inr (0, 7, 31, 0, 2000),
  .inr (0, 7, 32, 0, 2000),
  .inr (0, 7, 33, 0, 2000),
  .inr (0, 7, 34, 0, 2000),
  .inr (0, 7, 35, 0, 1000),
  .inr (0, 7, 36, 0, 1000),
  .inr (0, 7, 37, 0, 2400),
  .inr (0, 7, 38, 0, 2400),
  .inr (0, 7, 39, 0, 48),
  .inr (0, 7, 40, 0, 200),
  .inr (0, 7, 41, 0, 2000),
  .inr (3, 7, 42, 0, 65536),
  .inr (0, 7, 43, 0, 16),
  .inr (0, 7, 44, 0, 16),
  .inr (0, 7, 45, 0, 16),
  .inr (0, 7, 46, 0, 16),
  .inr (3, 7, 47, 0, 16),
  .inr (0, 7, 48, 0, 16),
  .inr (3, 7, 49, 0, 12),
  .inr (0, 7, 50, 0, 12),
  .inr (0, 7, 51, 0, 12),
  .inr (0, 7, 52, 0, 12),
  .inr (0, 7, 53, 0, 8),
  .inr (0, 7, 54, 0, 8),
  .inr (0, 7, 55, 0, 8),
  .inr (0, 7, 56, 0, 12),
  .inr (0, 7, 57, 0, 12),
  .inr (0, 7, 58, 0, 12),
  .inr (0, 7, 59, 0, 12),
  .inr (0, 7, 60, 0, 12),
  .inr (0, 7, 61, 0, 12),
  .inr (0, 7, 62, 0, 12),
  .inr (0, 7, 63, 0, 1000),
  .inr (3, 7, 64, 0, 12),
  .inr (0, 7, 65, 0, 12),
  .inr (3, 7, 66, 0, 24)]
theorem zds_ok : zok zds := zok_of (by decide +kernel)
theorem zd_0 : zds[0]? = some (.inl (11, 0, 0, [(2, 1), (0, 0), (2, 2), (2, 7), (2, 9), (0, 0), (2, 15), (0, 0), (2, 38), (0, 0), (2, 62), (2, 63), (0, 0), (2, 64)])) := rfl
theorem zd_1 : zds[1]? = some (.inr (1, 0, 1, 0, 4000)) := rfl
theorem zd_2 : zds[2]? = some (.inl (10, 1, 0, [(2, 3), (2, 4), (2, 5), (2, 6), (0, 0), (0, 0), (0, 0)])) := rfl
theorem zd_3 : zds[3]? = some (.inr (2, 1, 1, 0, 27)) := rfl
theorem zd_4 : zds[4]? = some (.inr (1, 1, 2, 0, 1002)) := rfl
theorem zd_5 : zds[5]? = some (.inr (0, 1, 3, 0, 1002)) := rfl
theorem zd_6 : zds[6]? = some (.inr (2, 1, 4, 0, 1002)) := rfl
theorem zd_7 : zds[7]? = some (.inl (2, 2, 0, [(2, 2), (0, 0), (2, 8)])) := rfl
theorem zd_8 : zds[8]? = some (.inr (0, 2, 1, 0, 27)) := rfl
theorem zd_9 : zds[9]? = some (.inl (5, 3, 0, [(2, 2), (2, 10), (2, 11), (2, 12), (0, 0), (2, 13), (2, 14)])) := rfl
theorem zd_10 : zds[10]? = some (.inr (2, 3, 1, 0, 76)) := rfl
theorem zd_11 : zds[11]? = some (.inr (0, 3, 2, 0, 76)) := rfl
theorem zd_12 : zds[12]? = some (.inr (0, 3, 3, 0, 76)) := rfl
theorem zd_13 : zds[13]? = some (.inr (0, 3, 4, 0, 27)) := rfl
theorem zd_14 : zds[14]? = some (.inr (2, 3, 5, 0, 12)) := rfl
theorem zd_15 : zds[15]? = some (.inl (9, 4, 0, [(2, 16), (2, 17), (2, 18), (2, 19), (2, 20), (2, 21), (2, 22), (2, 23), (2, 24), (2, 25), (2, 26), (2, 27), (2, 28)])) := rfl
theorem zd_16 : zds[16]? = some (.inr (0, 4, 1, 0, 27)) := rfl
theorem zd_17 : zds[17]? = some (.inr (0, 4, 2, 0, 16)) := rfl
theorem zd_18 : zds[18]? = some (.inr (0, 4, 3, 0, 8)) := rfl
theorem zd_19 : zds[19]? = some (.inr (0, 4, 4, 0, 8)) := rfl
theorem zd_20 : zds[20]? = some (.inr (0, 4, 5, 0, 16)) := rfl
theorem zd_21 : zds[21]? = some (.inr (0, 4, 6, 0, 24)) := rfl
theorem zd_22 : zds[22]? = some (.inr (0, 4, 7, 0, 24)) := rfl
theorem zd_23 : zds[23]? = some (.inr (0, 4, 8, 0, 24)) := rfl
theorem zd_24 : zds[24]? = some (.inr (0, 4, 9, 0, 16)) := rfl
theorem zd_25 : zds[25]? = some (.inr (0, 4, 10, 0, 12)) := rfl
theorem zd_26 : zds[26]? = some (.inr (0, 4, 11, 0, 12)) := rfl
theorem zd_27 : zds[27]? = some (.inr (0, 4, 12, 0, 12)) := rfl
theorem zd_28 : zds[28]? = some (.inl (6, 4, 13, [(2, 29), (2, 30), (0, 0), (0, 0), (2, 31), (2, 32), (2, 33), (2, 34), (2, 35), (2, 36), (2, 37), (0, 0)])) := rfl
theorem zd_29 : zds[29]? = some (.inr (1, 4, 14, 0, 1000)) := rfl
theorem zd_30 : zds[30]? = some (.inr (0, 4, 15, 0, 1000)) := rfl
theorem zd_31 : zds[31]? = some (.inr (0, 4, 16, 0, 13)) := rfl
theorem zd_32 : zds[32]? = some (.inr (0, 4, 17, 0, 80)) := rfl
theorem zd_33 : zds[33]? = some (.inr (0, 4, 18, 0, 80)) := rfl
theorem zd_34 : zds[34]? = some (.inr (0, 4, 19, 0, 80)) := rfl
theorem zd_35 : zds[35]? = some (.inr (3, 4, 20, 0, 80)) := rfl
theorem zd_36 : zds[36]? = some (.inr (3, 4, 21, 0, 80)) := rfl
theorem zd_37 : zds[37]? = some (.inr (0, 4, 22, 0, 24)) := rfl
theorem zd_38 : zds[38]? = some (.inl (1, 5, 0, [(2, 15), (2, 28), (2, 40), (2, 43), (2, 48), (2, 52), (2, 56), (2, 39), (1, 0), (0, 0), (0, 0), (0, 0), (0, 0), (0, 0), (0, 0)])) := rfl
theorem zd_39 : zds[39]? = some (.inr (0, 5, 1, 0, 16)) := rfl
theorem zd_40 : zds[40]? = some (.inl (7, 5, 2, [(2, 28), (2, 41), (2, 42), (0, 0)])) := rfl
theorem zd_41 : zds[41]? = some (.inr (0, 5, 3, 0, 6)) := rfl
theorem zd_42 : zds[42]? = some (.inr (0, 5, 4, 0, 6)) := rfl
theorem zd_43 : zds[43]? = some (.inl (8, 5, 5, [(2, 15), (2, 44), (2, 45), (2, 46), (2, 47)])) := rfl
theorem zd_44 : zds[44]? = some (.inr (0, 5, 6, 0, 16)) := rfl
theorem zd_45 : zds[45]? = some (.inr (0, 5, 7, 0, 16)) := rfl
theorem zd_46 : zds[46]? = some (.inr (0, 5, 8, 0, 16)) := rfl
theorem zd_47 : zds[47]? = some (.inr (0, 5, 9, 0, 16)) := rfl
theorem zd_48 : zds[48]? = some (.inl (0, 5, 10, [(2, 15), (2, 49), (2, 50), (2, 51), (0, 0)])) := rfl
theorem zd_49 : zds[49]? = some (.inr (0, 5, 11, 0, 8)) := rfl
theorem zd_50 : zds[50]? = some (.inr (0, 5, 12, 0, 8)) := rfl
theorem zd_51 : zds[51]? = some (.inr (0, 5, 13, 0, 8)) := rfl
theorem zd_52 : zds[52]? = some (.inl (3, 5, 14, [(2, 15), (3, 38), (3, 38), (2, 55), (0, 0), (0, 0), (0, 0), (0, 0), (0, 0)])) := rfl
theorem zd_53 : zds[53]? = some (.inr (0, 5, 15, 1, 0)) := rfl
theorem zd_54 : zds[54]? = some (.inr (0, 5, 16, 1, 0)) := rfl
theorem zd_55 : zds[55]? = some (.inr (0, 5, 17, 1, 0)) := rfl
theorem zd_56 : zds[56]? = some (.inl (4, 5, 18, [(2, 15), (2, 57), (2, 58), (2, 59), (2, 60), (2, 61), (0, 0)])) := rfl
theorem zd_57 : zds[57]? = some (.inr (3, 5, 19, 0, 12)) := rfl
theorem zd_58 : zds[58]? = some (.inr (0, 5, 20, 0, 12)) := rfl
theorem zd_59 : zds[59]? = some (.inr (0, 5, 21, 0, 12)) := rfl
theorem zd_60 : zds[60]? = some (.inr (0, 5, 22, 0, 12)) := rfl
theorem zd_61 : zds[61]? = some (.inr (0, 5, 23, 0, 12)) := rfl
theorem zd_62 : zds[62]? = some (.inr (0, 0, 62, 0, 600)) := rfl
theorem zd_63 : zds[63]? = some (.inr (0, 0, 63, 0, 600)) := rfl
theorem zd_64 : zds[64]? = some (.inl (1, 6, 0, [(2, 15), (2, 28), (2, 66), (2, 69), (2, 74), (2, 78), (2, 82), (2, 65), (1, 0), (0, 0), (0, 0), (0, 0), (0, 0), (0, 0), (0, 0)])) := rfl
theorem zd_65 : zds[65]? = some (.inr (0, 6, 1, 0, 16)) := rfl
theorem zd_66 : zds[66]? = some (.inl (7, 6, 2, [(2, 28), (2, 67), (2, 68), (0, 0)])) := rfl
theorem zd_67 : zds[67]? = some (.inr (0, 6, 3, 0, 6)) := rfl
theorem zd_68 : zds[68]? = some (.inr (0, 6, 4, 0, 6)) := rfl
theorem zd_69 : zds[69]? = some (.inl (8, 6, 5, [(2, 15), (2, 70), (2, 71), (2, 72), (2, 73)])) := rfl
theorem zd_70 : zds[70]? = some (.inr (0, 6, 6, 0, 16)) := rfl
theorem zd_71 : zds[71]? = some (.inr (0, 6, 7, 0, 16)) := rfl
theorem zd_72 : zds[72]? = some (.inr (0, 6, 8, 0, 16)) := rfl
theorem zd_73 : zds[73]? = some (.inr (0, 6, 9, 0, 16)) := rfl
theorem zd_74 : zds[74]? = some (.inl (0, 6, 10, [(2, 15), (2, 75), (2, 76), (2, 77), (0, 0)])) := rfl
theorem zd_75 : zds[75]? = some (.inr (0, 6, 11, 0, 8)) := rfl
theorem zd_76 : zds[76]? = some (.inr (0, 6, 12, 0, 8)) := rfl
theorem zd_77 : zds[77]? = some (.inr (0, 6, 13, 0, 8)) := rfl
theorem zd_78 : zds[78]? = some (.inl (3, 6, 14, [(2, 15), (3, 64), (3, 64), (2, 81), (0, 0), (0, 0), (0, 0), (0, 0), (0, 0)])) := rfl
theorem zd_79 : zds[79]? = some (.inr (0, 6, 15, 1, 0)) := rfl
theorem zd_80 : zds[80]? = some (.inr (0, 6, 16, 1, 0)) := rfl
theorem zd_81 : zds[81]? = some (.inr (0, 6, 17, 1, 0)) := rfl
theorem zd_82 : zds[82]? = some (.inl (4, 6, 18, [(2, 15), (2, 83), (2, 84), (2, 85), (2, 86), (2, 87), (0, 0)])) := rfl
theorem zd_83 : zds[83]? = some (.inr (3, 6, 19, 0, 12)) := rfl
theorem zd_84 : zds[84]? = some (.inr (0, 6, 20, 0, 12)) := rfl
theorem zd_85 : zds[85]? = some (.inr (0, 6, 21, 0, 12)) := rfl
theorem zd_86 : zds[86]? = some (.inr (0, 6, 22, 0, 12)) := rfl
theorem zd_87 : zds[87]? = some (.inr (0, 6, 23, 0, 12)) := rfl
theorem zd_88 : zds[88]? = some (.inl (12, 7, 0, [(0, 0), (2, 89), (0, 0), (2, 90), (0, 0), (2, 91), (2, 92), (2, 93), (2, 94), (2, 95), (0, 0), (0, 0), (0, 0), (0, 0), (0, 0), (0, 0), (0, 0), (0, 0), (0, 0), (0, 0), (0, 0), (2, 96), (0, 0), (2, 97), (2, 98), (2, 99), (2, 100), (2, 101), (2, 102), (2, 103), (2, 104), (2, 105), (2, 106), (2, 107), (2, 108), (2, 109), (2, 110), (2, 111), (2, 112), (2, 113), (2, 114), (0, 0), (2, 115), (2, 116), (2, 117), (2, 118), (0, 0), (2, 119), (2, 120), (2, 121), (2, 122), (0, 0), (2, 123), (2, 124), (0, 0), (2, 125), (2, 126), (2, 127), (0, 0), (0, 0), (2, 128), (0, 0), (2, 129), (2, 130), (0, 0), (1, 0), (0, 0), (0, 0), (0, 0), (0, 0), (0, 0), (0, 0), (0, 0), (2, 131), (2, 132), (2, 133), (2, 134), (2, 135), (2, 136), (2, 137), (2, 138), (2, 139), (2, 140), (2, 141), (2, 142), (0, 0), (2, 143), (2, 144), (0, 0), (0, 0), (0, 0), (2, 145), (2, 146), (2, 147), (2, 148), (2, 149), (2, 150), (0, 0), (2, 151), (0, 0), (2, 152), (2, 153), (2, 154)])) := rfl
theorem zd_89 : zds[89]? = some (.inr (1, 7, 1, 0, 4000)) := rfl
theorem zd_90 : zds[90]? = some (.inr (1, 7, 2, 0, 4000)) := rfl
theorem zd_91 : zds[91]? = some (.inr (0, 7, 3, 0, 1003)) := rfl
theorem zd_92 : zds[92]? = some (.inr (0, 7, 4, 0, 1003)) := rfl
theorem zd_93 : zds[93]? = some (.inr (0, 7, 5, 0, 1003)) := rfl
theorem zd_94 : zds[94]? = some (.inr (2, 7, 6, 0, 1003)) := rfl
theorem zd_95 : zds[95]? = some (.inr (2, 7, 7, 0, 27)) := rfl
theorem zd_96 : zds[96]? = some (.inr (0, 7, 8, 0, 18)) := rfl
theorem zd_97 : zds[97]? = some (.inr (2, 7, 9, 0, 120)) := rfl
theorem zd_98 : zds[98]? = some (.inr (0, 7, 10, 0, 120)) := rfl
theorem zd_99 : zds[99]? = some (.inr (0, 7, 11, 0, 120)) := rfl
theorem zd_100 : zds[100]? = some (.inr (0, 7, 12, 0, 32)) := rfl
theorem zd_101 : zds[101]? = some (.inr (0, 7, 13, 0, 16)) := rfl
theorem zd_102 : zds[102]? = some (.inr (0, 7, 14, 0, 16)) := rfl
theorem zd_103 : zds[103]? = some (.inr (0, 7, 15, 0, 16)) := rfl
theorem zd_104 : zds[104]? = some (.inr (0, 7, 16, 0, 32)) := rfl
theorem zd_105 : zds[105]? = some (.inr (0, 7, 17, 0, 48)) := rfl
theorem zd_106 : zds[106]? = some (.inr (0, 7, 18, 0, 48)) := rfl
theorem zd_107 : zds[107]? = some (.inr (0, 7, 19, 0, 48)) := rfl
theorem zd_108 : zds[108]? = some (.inr (0, 7, 20, 0, 32)) := rfl
theorem zd_109 : zds[109]? = some (.inr (0, 7, 21, 0, 24)) := rfl
theorem zd_110 : zds[110]? = some (.inr (0, 7, 22, 0, 24)) := rfl
theorem zd_111 : zds[111]? = some (.inr (0, 7, 23, 0, 26)) := rfl
theorem zd_112 : zds[112]? = some (.inr (0, 7, 24, 0, 160)) := rfl
theorem zd_113 : zds[113]? = some (.inr (0, 7, 25, 0, 162)) := rfl
theorem zd_114 : zds[114]? = some (.inr (0, 7, 26, 0, 162)) := rfl
theorem zd_115 : zds[115]? = some (.inr (0, 7, 27, 0, 800)) := rfl
theorem zd_116 : zds[116]? = some (.inr (0, 7, 28, 0, 800)) := rfl
theorem zd_117 : zds[117]? = some (.inr (0, 7, 29, 0, 800)) := rfl
theorem zd_118 : zds[118]? = some (.inr (0, 7, 30, 0, 800)) := rfl
theorem zd_119 : zds[119]? = some (.inr (0, 7, 31, 0, 2000)) := rfl
theorem zd_120 : zds[120]? = some (.inr (0, 7, 32, 0, 2000)) := rfl
theorem zd_121 : zds[121]? = some (.inr (0, 7, 33, 0, 2000)) := rfl
theorem zd_122 : zds[122]? = some (.inr (0, 7, 34, 0, 2000)) := rfl
theorem zd_123 : zds[123]? = some (.inr (0, 7, 35, 0, 1000)) := rfl
theorem zd_124 : zds[124]? = some (.inr (0, 7, 36, 0, 1000)) := rfl
theorem zd_125 : zds[125]? = some (.inr (0, 7, 37, 0, 2400)) := rfl
theorem zd_126 : zds[126]? = some (.inr (0, 7, 38, 0, 2400)) := rfl
theorem zd_127 : zds[127]? = some (.inr (0, 7, 39, 0, 48)) := rfl
theorem zd_128 : zds[128]? = some (.inr (0, 7, 40, 0, 200)) := rfl
theorem zd_129 : zds[129]? = some (.inr (0, 7, 41, 0, 2000)) := rfl
theorem zd_130 : zds[130]? = some (.inr (3, 7, 42, 0, 65536)) := rfl
theorem zd_131 : zds[131]? = some (.inr (0, 7, 43, 0, 16)) := rfl
theorem zd_132 : zds[132]? = some (.inr (0, 7, 44, 0, 16)) := rfl
theorem zd_133 : zds[133]? = some (.inr (0, 7, 45, 0, 16)) := rfl
theorem zd_134 : zds[134]? = some (.inr (0, 7, 46, 0, 16)) := rfl
theorem zd_135 : zds[135]? = some (.inr (3, 7, 47, 0, 16)) := rfl
theorem zd_136 : zds[136]? = some (.inr (0, 7, 48, 0, 16)) := rfl
theorem zd_137 : zds[137]? = some (.inr (3, 7, 49, 0, 12)) := rfl
theorem zd_138 : zds[138]? = some (.inr (0, 7, 50, 0, 12)) := rfl
theorem zd_139 : zds[139]? = some (.inr (0, 7, 51, 0, 12)) := rfl
theorem zd_140 : zds[140]? = some (.inr (0, 7, 52, 0, 12)) := rfl
theorem zd_141 : zds[141]? = some (.inr (0, 7, 53, 0, 8)) := rfl
theorem zd_142 : zds[142]? = some (.inr (0, 7, 54, 0, 8)) := rfl
theorem zd_143 : zds[143]? = some (.inr (0, 7, 55, 0, 8)) := rfl
theorem zd_144 : zds[144]? = some (.inr (0, 7, 56, 0, 12)) := rfl
theorem zd_145 : zds[145]? = some (.inr (0, 7, 57, 0, 12)) := rfl
theorem zd_146 : zds[146]? = some (.inr (0, 7, 58, 0, 12)) := rfl
theorem zd_147 : zds[147]? = some (.inr (0, 7, 59, 0, 12)) := rfl
theorem zd_148 : zds[148]? = some (.inr (0, 7, 60, 0, 12)) := rfl
theorem zd_149 : zds[149]? = some (.inr (0, 7, 61, 0, 12)) := rfl
theorem zd_150 : zds[150]? = some (.inr (0, 7, 62, 0, 12)) := rfl
theorem zd_151 : zds[151]? = some (.inr (0, 7, 63, 0, 1000)) := rfl
theorem zd_152 : zds[152]? = some (.inr (3, 7, 64, 0, 12)) := rfl
theorem zd_153 : zds[153]? = some (.inr (0, 7, 65, 0, 12)) := rfl
theorem zd_154 : zds[154]? = some (.inr (3, 7, 66, 0, 24)) := rfl
abbrev kJ6_bitCount_0f7a4 : zM := (yJ6_bitCount_0f7a4, cJ6_bitCount_0f7a4, 1, (some .int))
abbrev kJ9_max_7cf53 : zM := (yJ9_max_7cf53, cJ9_max_7cf53, 2, (some .int))
abbrev kJ9_max_f86c9 : zM := (yJ9_max_f86c9, cJ9_max_f86c9, 4, (some .long))
abbrev kJ9_min_7cf53 : zM := (yJ9_min_7cf53, cJ9_min_7cf53, 2, (some .int))
abbrev kX0_await : zM := (yX0_await, cX0_await, 2, none)
abbrev kX0_clear : zM := (yX0_clear, cX0_clear, 2, none)
abbrev kX0_fireAt : zM := (yX0_fireAt, cX0_fireAt, 7, (some .int))
abbrev kX0_placeInRow : zM := (yX0_placeInRow, cX0_placeInRow, 3, (some .int))
abbrev kX10_behindBlanks : zM := (yX10_behindBlanks, cX10_behindBlanks, 4, (some .int))
abbrev kX10_blame : zM := (yX10_blame, cX10_blame, 3, none)
abbrev kX10_cut : zM := (yX10_cut, cX10_cut, 7, none)
abbrev kX10_isBlank : zM := (yX10_isBlank, cX10_isBlank, 1, (some .boolean))
abbrev kX10_isDigit : zM := (yX10_isDigit, cX10_isDigit, 1, (some .boolean))
abbrev kX10_isLetter : zM := (yX10_isLetter, cX10_isLetter, 1, (some .boolean))
abbrev kX10_kindAt : zM := (yX10_kindAt, cX10_kindAt, 2, (some .int))
abbrev kX10_kindOf : zM := (yX10_kindOf, cX10_kindOf, 5, (some .int))
abbrev kX10_longSign : zM := (yX10_longSign, cX10_longSign, 1, (some .int))
abbrev kX10_numberAt : zM := (yX10_numberAt, cX10_numberAt, 2, (some .int))
abbrev kX10_setNumber : zM := (yX10_setNumber, cX10_setNumber, 3, none)
abbrev kX10_shortSign : zM := (yX10_shortSign, cX10_shortSign, 1, (some .int))
abbrev kX10_size : zM := (yX10_size, cX10_size, 1, (some .int))
abbrev kX10_tokenEnd : zM := (yX10_tokenEnd, cX10_tokenEnd, 5, (some .int))
abbrev kX10_valueAt : zM := (yX10_valueAt, cX10_valueAt, 2, (some .long))
abbrev kX10_valueOf : zM := (yX10_valueOf, cX10_valueOf, 7, (some .long))
abbrev kX10_wordOrName : zM := (yX10_wordOrName, cX10_wordOrName, 4, (some .int))
abbrev kX11_again : zM := (yX11_again, cX11_again, 5, (some .long))
abbrev kX11_back : zM := (yX11_back, cX11_back, 2, (some .int))
abbrev kX11_balls : zM := (yX11_balls, cX11_balls, 3, (some .int))
abbrev kX11_begin : zM := (yX11_begin, cX11_begin, 1, (some .boolean))
abbrev kX11_coil : zM := (yX11_coil, cX11_coil, 3, (some .int))
abbrev kX11_count : zM := (yX11_count, cX11_count, 2, (some .int))
abbrev kX11_countInGame : zM := (yX11_countInGame, cX11_countInGame, 2, (some .int))
abbrev kX11_feed : zM := (yX11_feed, cX11_feed, 6, (some .int))
abbrev kX11_lamp : zM := (yX11_lamp, cX11_lamp, 2, (some .int))
abbrev kX11_mode : zM := (yX11_mode, cX11_mode, 3, (some .int))
abbrev kX11_place : zM := (yX11_place, cX11_place, 1, (some .int))
abbrev kX11_press : zM := (yX11_press, cX11_press, 2, (some .int))
abbrev kX11_putBytes : zM := (yX11_putBytes, cX11_putBytes, 3, none)
abbrev kX11_read : zM := (yX11_read, cX11_read, 1, (some .int))
abbrev kX11_ring : zM := (yX11_ring, cX11_ring, 1, (some .int))
abbrev kX11_score : zM := (yX11_score, cX11_score, 1, (some .long))
abbrev kX11_ticks : zM := (yX11_ticks, cX11_ticks, 4, (some .int))
abbrev kX11_told : zM := (yX11_told, cX11_told, 3, (some .int))
abbrev kX11_value : zM := (yX11_value, cX11_value, 2, (some .int))
abbrev kX12_again : zM := (yX12_again, cX12_again, 1, (some .long))
abbrev kX12_asksBall : zM := (yX12_asksBall, cX12_asksBall, 2, none)
abbrev kX12_at : zM := (yX12_at, cX12_at, 2, (some .int))
abbrev kX12_back : zM := (yX12_back, cX12_back, 2, (some .int))
abbrev kX12_balls : zM := (yX12_balls, cX12_balls, 6, (some .int))
abbrev kX12_begin : zM := (yX12_begin, cX12_begin, 2, (some .boolean))
abbrev kX12_coil : zM := (yX12_coil, cX12_coil, 4, (some .int))
abbrev kX12_comes : zM := (yX12_comes, cX12_comes, 2, none)
abbrev kX12_comesBack : zM := (yX12_comesBack, cX12_comesBack, 6, (some .boolean))
abbrev kX12_comesOut : zM := (yX12_comesOut, cX12_comesOut, 3, none)
abbrev kX12_count : zM := (yX12_count, cX12_count, 3, (some .int))
abbrev kX12_cut : zM := (yX12_cut, cX12_cut, 8, none)
abbrev kX12_deep : zM := (yX12_deep, cX12_deep, 3, (some .int))
abbrev kX12_does : zM := (yX12_does, cX12_does, 5, none)
abbrev kX12_drains : zM := (yX12_drains, cX12_drains, 3, none)
abbrev kX12_emit : zM := (yX12_emit, cX12_emit, 3, none)
abbrev kX12_expression : zM := (yX12_expression, cX12_expression, 6, none)
abbrev kX12_fail : zM := (yX12_fail, cX12_fail, 2, none)
abbrev kX12_feed : zM := (yX12_feed, cX12_feed, 6, (some .int))
abbrev kX12_fires : zM := (yX12_fires, cX12_fires, 7, (some .int))
abbrev kX12_frame : zM := (yX12_frame, cX12_frame, 3, none)
abbrev kX12_holds : zM := (yX12_holds, cX12_holds, 7, (some .boolean))
abbrev kX12_is : zM := (yX12_is, cX12_is, 2, (some .boolean))
abbrev kX12_isDigit : zM := (yX12_isDigit, cX12_isDigit, 1, (some .boolean))
abbrev kX12_isFull : zM := (yX12_isFull, cX12_isFull, 4, (some .boolean))
abbrev kX12_isLetter : zM := (yX12_isLetter, cX12_isLetter, 1, (some .boolean))
abbrev kX12_knows : zM := (yX12_knows, cX12_knows, 4, none)
abbrev kX12_lamp : zM := (yX12_lamp, cX12_lamp, 8, (some .int))
abbrev kX12_leadsOn : zM := (yX12_leadsOn, cX12_leadsOn, 5, none)
abbrev kX12_leaves : zM := (yX12_leaves, cX12_leaves, 2, none)
abbrev kX12_mode : zM := (yX12_mode, cX12_mode, 3, (some .int))
abbrev kX12_more : zM := (yX12_more, cX12_more, 3, (some .long))
abbrev kX12_must : zM := (yX12_must, cX12_must, 2, none)
abbrev kX12_named : zM := (yX12_named, cX12_named, 4, (some .int))
abbrev kX12_namedNext : zM := (yX12_namedNext, cX12_namedNext, 3, (some .int))
abbrev kX12_next : zM := (yX12_next, cX12_next, 1, none)
abbrev kX12_nextRule : zM := (yX12_nextRule, cX12_nextRule, 4, (some .boolean))
abbrev kX12_noBalls : zM := (yX12_noBalls, cX12_noBalls, 1, none)
abbrev kX12_offs : zM := (yX12_offs, cX12_offs, 2, none)
abbrev kX12_oneTick : zM := (yX12_oneTick, cX12_oneTick, 3, none)
abbrev kX12_orders : zM := (yX12_orders, cX12_orders, 4, none)
abbrev kX12_passes : zM := (yX12_passes, cX12_passes, 6, none)
abbrev kX12_place : zM := (yX12_place, cX12_place, 1, (some .int))
abbrev kX12_press : zM := (yX12_press, cX12_press, 4, (some .int))
abbrev kX12_put : zM := (yX12_put, cX12_put, 3, none)
abbrev kX12_read : zM := (yX12_read, cX12_read, 2, (some .int))
abbrev kX12_relation : zM := (yX12_relation, cX12_relation, 4, none)
abbrev kX12_remembers : zM := (yX12_remembers, cX12_remembers, 2, none)
abbrev kX12_ring : zM := (yX12_ring, cX12_ring, 2, (some .int))
abbrev kX12_score : zM := (yX12_score, cX12_score, 1, (some .long))
abbrev kX12_serves : zM := (yX12_serves, cX12_serves, 2, none)
abbrev kX12_sign : zM := (yX12_sign, cX12_sign, 6, (some .int))
abbrev kX12_sort : zM := (yX12_sort, cX12_sort, 2, (some .int))
abbrev kX12_starts : zM := (yX12_starts, cX12_starts, 3, none)
abbrev kX12_tellAct : zM := (yX12_tellAct, cX12_tellAct, 4, none)
abbrev kX12_tellMode : zM := (yX12_tellMode, cX12_tellMode, 5, none)
abbrev kX12_tellPart : zM := (yX12_tellPart, cX12_tellPart, 8, none)
abbrev kX12_tellRule : zM := (yX12_tellRule, cX12_tellRule, 5, none)
abbrev kX12_tells : zM := (yX12_tells, cX12_tells, 5, none)
abbrev kX12_term : zM := (yX12_term, cX12_term, 9, (some .int))
abbrev kX12_ticks : zM := (yX12_ticks, cX12_ticks, 4, (some .int))
abbrev kX12_token : zM := (yX12_token, cX12_token, 6, none)
abbrev kX12_told : zM := (yX12_told, cX12_told, 3, (some .int))
abbrev kX12_value : zM := (yX12_value, cX12_value, 2, (some .int))
abbrev kX12_works : zM := (yX12_works, cX12_works, 2, none)
abbrev kX12_wrong : zM := (yX12_wrong, cX12_wrong, 4, none)
abbrev kX1_assign : zM := (yX1_assign, cX1_assign, 3, none)
abbrev kX1_ballsOver : zM := (yX1_ballsOver, cX1_ballsOver, 1, (some .int))
abbrev kX1_beginActs : zM := (yX1_beginActs, cX1_beginActs, 1, none)
abbrev kX1_compares : zM := (yX1_compares, cX1_compares, 3, (some .boolean))
abbrev kX1_doActs : zM := (yX1_doActs, cX1_doActs, 7, none)
abbrev kX1_doRules : zM := (yX1_doRules, cX1_doRules, 7, none)
abbrev kX1_endBallIfNoneInPlay : zM := (yX1_endBallIfNoneInPlay, cX1_endBallIfNoneInPlay, 1, none)
abbrev kX1_gain : zM := (yX1_gain, cX1_gain, 2, none)
abbrev kX1_hit : zM := (yX1_hit, cX1_hit, 4, (some .boolean))
abbrev kX1_holds : zM := (yX1_holds, cX1_holds, 8, (some .boolean))
abbrev kX1_open : zM := (yX1_open, cX1_open, 2, none)
abbrev kX1_passTick : zM := (yX1_passTick, cX1_passTick, 3, (some .int))
abbrev kX1_work : zM := (yX1_work, cX1_work, 3, (some .int))
abbrev kX1_wouldPay : zM := (yX1_wouldPay, cX1_wouldPay, 7, (some .boolean))
abbrev kX2_check : zM := (yX2_check, cX2_check, 3, none)
abbrev kX2_checkAct : zM := (yX2_checkAct, cX2_checkAct, 2, none)
abbrev kX2_checkCond : zM := (yX2_checkCond, cX2_checkCond, 3, none)
abbrev kX2_checkModeHead : zM := (yX2_checkModeHead, cX2_checkModeHead, 1, none)
abbrev kX2_checkPart : zM := (yX2_checkPart, cX2_checkPart, 2, none)
abbrev kX2_checkRule : zM := (yX2_checkRule, cX2_checkRule, 2, none)
abbrev kX2_checkSum : zM := (yX2_checkSum, cX2_checkSum, 6, none)
abbrev kX2_goesOnWithPart : zM := (yX2_goesOnWithPart, cX2_goesOnWithPart, 1, (some .boolean))
abbrev kX2_isAct : zM := (yX2_isAct, cX2_isAct, 1, (some .boolean))
abbrev kX2_isRelation : zM := (yX2_isRelation, cX2_isRelation, 1, (some .boolean))
abbrev kX2_need : zM := (yX2_need, cX2_need, 2, none)
abbrev kX2_pass : zM := (yX2_pass, cX2_pass, 1, none)
abbrev kX2_passNewOne : zM := (yX2_passNewOne, cX2_passNewOne, 3, none)
abbrev kX2_sees : zM := (yX2_sees, cX2_sees, 2, (some .boolean))
abbrev kX3_ballsAt : zM := (yX3_ballsAt, cX3_ballsAt, 3, (some .int))
abbrev kX3_clear : zM := (yX3_clear, cX3_clear, 1, none)
abbrev kX3_dropBall : zM := (yX3_dropBall, cX3_dropBall, 2, none)
abbrev kX3_leastAt : zM := (yX3_leastAt, cX3_leastAt, 4, (some .int))
abbrev kX3_mostAt : zM := (yX3_mostAt, cX3_mostAt, 4, (some .int))
abbrev kX3_moveAll : zM := (yX3_moveAll, cX3_moveAll, 4, none)
abbrev kX3_moveBallBy : zM := (yX3_moveBallBy, cX3_moveBallBy, 4, none)
abbrev kX3_moved : zM := (yX3_moved, cX3_moved, 8, (some .int))
abbrev kX3_put : zM := (yX3_put, cX3_put, 2, none)
abbrev kX3_putAll : zM := (yX3_putAll, cX3_putAll, 6, none)
abbrev kX3_spread : zM := (yX3_spread, cX3_spread, 3, none)
abbrev kX3_takeBall : zM := (yX3_takeBall, cX3_takeBall, 1, none)
abbrev kX3_turnOver : zM := (yX3_turnOver, cX3_turnOver, 2, none)
abbrev kX4_clear : zM := (yX4_clear, cX4_clear, 2, none)
abbrev kX4_isOn : zM := (yX4_isOn, cX4_isOn, 2, (some .boolean))
abbrev kX4_isOnSinceThen : zM := (yX4_isOnSinceThen, cX4_isOnSinceThen, 2, (some .boolean))
abbrev kX4_offsOf : zM := (yX4_offsOf, cX4_offsOf, 2, (some .int))
abbrev kX4_passTimeOf : zM := (yX4_passTimeOf, cX4_passTimeOf, 2, (some .boolean))
abbrev kX4_remember : zM := (yX4_remember, cX4_remember, 2, none)
abbrev kX4_timeLeftOf : zM := (yX4_timeLeftOf, cX4_timeLeftOf, 2, (some .int))
abbrev kX4_turnOff : zM := (yX4_turnOff, cX4_turnOff, 2, (some .boolean))
abbrev kX4_turnOffAllButFirst : zM := (yX4_turnOffAllButFirst, cX4_turnOffAllButFirst, 2, none)
abbrev kX4_turnOn : zM := (yX4_turnOn, cX4_turnOn, 2, (some .boolean))
abbrev kX5_check : zM := (yX5_check, cX5_check, 2, none)
abbrev kX5_checkName : zM := (yX5_checkName, cX5_checkName, 4, none)
abbrev kX5_checkSecondName : zM := (yX5_checkSecondName, cX5_checkSecondName, 3, none)
abbrev kX5_gatherModes : zM := (yX5_gatherModes, cX5_gatherModes, 3, none)
abbrev kX5_modeNamed : zM := (yX5_modeNamed, cX5_modeNamed, 4, (some .int))
abbrev kX5_tell : zM := (yX5_tell, cX5_tell, 3, none)
abbrev kX5_telling : zM := (yX5_telling, cX5_telling, 4, (some .int))
abbrev kX5_use : zM := (yX5_use, cX5_use, 7, none)
abbrev kX6_actsOf : zM := (yX6_actsOf, cX6_actsOf, 2, (some .int))
abbrev kX6_addLead : zM := (yX6_addLead, cX6_addLead, 3, none)
abbrev kX6_condOf : zM := (yX6_condOf, cX6_condOf, 2, (some .int))
abbrev kX6_findRing : zM := (yX6_findRing, cX6_findRing, 4, none)
abbrev kX6_hasHold : zM := (yX6_hasHold, cX6_hasHold, 2, (some .boolean))
abbrev kX6_headOf : zM := (yX6_headOf, cX6_headOf, 2, (some .int))
abbrev kX6_isOn : zM := (yX6_isOn, cX6_isOn, 3, (some .boolean))
abbrev kX6_kindAt : zM := (yX6_kindAt, cX6_kindAt, 2, (some .int))
abbrev kX6_nodeOf : zM := (yX6_nodeOf, cX6_nodeOf, 2, (some .int))
abbrev kX6_numberAt : zM := (yX6_numberAt, cX6_numberAt, 2, (some .int))
abbrev kX6_openRule : zM := (yX6_openRule, cX6_openRule, 4, none)
abbrev kX6_pays : zM := (yX6_pays, cX6_pays, 2, (some .boolean))
abbrev kX6_size : zM := (yX6_size, cX6_size, 1, (some .int))
abbrev kX6_takeFrom : zM := (yX6_takeFrom, cX6_takeFrom, 4, none)
abbrev kX6_takeIntoRule : zM := (yX6_takeIntoRule, cX6_takeIntoRule, 6, none)
abbrev kX7_unit : zM := (yX7_unit, cX7_unit, 5, (some .int))
abbrev kX7_work : zM := (yX7_work, cX7_work, 11, (some .int))
abbrev kX8_clear : zM := (yX8_clear, cX8_clear, 2, none)
abbrev kX8_isStuck : zM := (yX8_isStuck, cX8_isStuck, 3, (some .boolean))
abbrev kX8_take : zM := (yX8_take, cX8_take, 4, (some .boolean))
abbrev kX9_has : zM := (yX9_has, cX9_has, 3, (some .boolean))
abbrev kX9_inOrder : zM := (yX9_inOrder, cX9_inOrder, 2, (some .int))
abbrev kX9_putInOrder : zM := (yX9_putInOrder, cX9_putInOrder, 3, none)
abbrev kX9_roomFor : zM := (yX9_roomFor, cX9_roomFor, 1, (some .int))
abbrev kX9_setApart : zM := (yX9_setApart, cX9_setApart, 3, none)
abbrev kX9_takeFrom : zM := (yX9_takeFrom, cX9_takeFrom, 4, none)
abbrev kX9_takeOne : zM := (yX9_takeOne, cX9_takeOne, 7, none)
theorem zin_X0 : ∀ x ∈ u_ws RX0 TX0 5, x ∈ zT := zT_list [328, 330, 332, 334, 336] (by decide +kernel) (by decide +kernel)
theorem zin_X1 : ∀ x ∈ u_ws RX1 TX1 15, x ∈ zT := zT_list [434, 436, 438, 440, 442, 444, 446, 448, 450, 452, 454, 456, 458, 460, 462] (by decide +kernel) (by decide +kernel)
theorem zin_X10 : ∀ x ∈ u_ws RX10 TX10 7, x ∈ zT := zT_list [94, 96, 98, 100, 102, 104, 106] (by decide +kernel) (by decide +kernel)
theorem zin_X11 : ∀ x ∈ u_ws RX11 TX11 14, x ∈ zT := zT_list [479, 481, 483, 485, 487, 489, 491, 493, 495, 497, 499, 501, 503, 505] (by decide +kernel) (by decide +kernel)
theorem zin_X12 : ∀ x ∈ u_ws RX12 TX12 103, x ∈ zT := zT_list [1155, 1157, 1159, 1161, 1163, 1165, 1167, 1169, 1171, 1173, 1175, 1177, 1179, 1181, 1183, 1185, 1187, 1189, 1191, 1193, 1195, 1197, 1199, 1201, 1203, 1205, 1207, 1209, 1211, 1213, 1215, 1217, 1219, 1221, 1223, 1225, 1227, 1229, 1231, 1233, 1235, 1237, 1239, 1241, 1243, 1245, 1247, 1249, 1251, 1253, 1255, 1257, 1259, 1261, 1263, 1265, 1267, 1269, 1271, 1273, 1275, 1277, 1279, 1281, 1283, 1285, 1287, 1289, 1291, 1293, 1295, 1297, 1299, 1301, 1303, 1305, 1307, 1309, 1311, 1313, 1315, 1317, 1319, 1321, 1323, 1325, 1327, 1329, 1331, 1333, 1335, 1337, 1339, 1341, 1343, 1345, 1347, 1349, 1351, 1353, 1355, 1357, 1359] (by decide +kernel) (by decide +kernel)
theorem zin_X2 : ∀ x ∈ u_ws RX2 TX2 3, x ∈ zT := zT_list [121, 123, 125] (by decide +kernel) (by decide +kernel)
theorem zin_X3 : ∀ x ∈ u_ws RX3 TX3 9, x ∈ zT := zT_list [358, 360, 362, 364, 366, 368, 370, 372, 374] (by decide +kernel) (by decide +kernel)
theorem zin_X4 : ∀ x ∈ u_ws RX4 TX4 7, x ∈ zT := zT_list [394, 396, 398, 400, 402, 404, 406] (by decide +kernel) (by decide +kernel)
theorem zin_X5 : ∀ x ∈ u_ws RX5 TX5 7, x ∈ zT := zT_list [141, 143, 145, 147, 149, 151, 153] (by decide +kernel) (by decide +kernel)
theorem zin_X6 : ∀ x ∈ u_ws RX6 TX6 12, x ∈ zT := zT_list [182, 184, 186, 188, 190, 192, 194, 196, 198, 200, 202, 204] (by decide +kernel) (by decide +kernel)
theorem zin_X7 : ∀ x ∈ u_ws RX7 TX7 4, x ∈ zT := zT_list [282, 284, 286, 288] (by decide +kernel) (by decide +kernel)
theorem zin_X8 : ∀ x ∈ u_ws RX8 TX8 5, x ∈ zT := zT_list [304, 306, 308, 310, 312] (by decide +kernel) (by decide +kernel)
theorem zin_X9 : ∀ x ∈ u_ws RX9 TX9 13, x ∈ zT := zT_list [238, 240, 242, 244, 246, 248, 250, 252, 254, 256, 258, 260, 262] (by decide +kernel) (by decide +kernel)
theorem zf_X0_9 : zFld RX0 9 0 1 := ⟨RX0, TX0, 5, rfl, by decide, zin_X0, by decide +kernel, zT_of 322 (by decide +kernel) (by decide +kernel)⟩
theorem zf_X0_15 : zFld RX0 15 0 2 := ⟨RX0, TX0, 5, rfl, by decide, zin_X0, by decide +kernel, zT_of 324 (by decide +kernel) (by decide +kernel)⟩
theorem zf_X0_18 : zFld RX0 18 0 3 := ⟨RX0, TX0, 5, rfl, by decide, zin_X0, by decide +kernel, zT_of 326 (by decide +kernel) (by decide +kernel)⟩
theorem zf_X0_21 : zFld RX0 21 0 4 := ⟨RX0, TX0, 5, rfl, by decide, zin_X0, by decide +kernel, zT_of 327 (by decide +kernel) (by decide +kernel)⟩
theorem zf_X0_25 : zFld RX0 25 0 0 := ⟨RX0, TX0, 5, rfl, by decide, zin_X0, by decide +kernel, zT_of 321 (by decide +kernel) (by decide +kernel)⟩
theorem zf_X0_39 : zFld RX0 39 9 2 := ⟨RX9, TX9, 13, rfl, by decide, zin_X9, by decide +kernel, zT_of 217 (by decide +kernel) (by decide +kernel)⟩
theorem zf_X0_42 : zFld RX0 42 9 3 := ⟨RX9, TX9, 13, rfl, by decide, zin_X9, by decide +kernel, zT_of 219 (by decide +kernel) (by decide +kernel)⟩
theorem zf_X1_9 : zFld RX1 9 1 7 := ⟨RX1, TX1, 15, rfl, by decide, zin_X1, by decide +kernel, zT_of 420 (by decide +kernel) (by decide +kernel)⟩
theorem zf_X1_15 : zFld RX1 15 1 8 := ⟨RX1, TX1, 15, rfl, by decide, zin_X1, by decide +kernel, zT_of 422 (by decide +kernel) (by decide +kernel)⟩
theorem zf_X1_19 : zFld RX1 19 1 9 := ⟨RX1, TX1, 15, rfl, by decide, zin_X1, by decide +kernel, zT_of 424 (by decide +kernel) (by decide +kernel)⟩
theorem zf_X1_23 : zFld RX1 23 1 10 := ⟨RX1, TX1, 15, rfl, by decide, zin_X1, by decide +kernel, zT_of 426 (by decide +kernel) (by decide +kernel)⟩
theorem zf_X1_26 : zFld RX1 26 1 11 := ⟨RX1, TX1, 15, rfl, by decide, zin_X1, by decide +kernel, zT_of 428 (by decide +kernel) (by decide +kernel)⟩
theorem zf_X1_30 : zFld RX1 30 1 12 := ⟨RX1, TX1, 15, rfl, by decide, zin_X1, by decide +kernel, zT_of 430 (by decide +kernel) (by decide +kernel)⟩
theorem zf_X1_33 : zFld RX1 33 1 13 := ⟨RX1, TX1, 15, rfl, by decide, zin_X1, by decide +kernel, zT_of 432 (by decide +kernel) (by decide +kernel)⟩
theorem zf_X1_36 : zFld RX1 36 1 14 := ⟨RX1, TX1, 15, rfl, by decide, zin_X1, by decide +kernel, zT_of 433 (by decide +kernel) (by decide +kernel)⟩
theorem zf_X1_39 : zFld RX1 39 1 0 := ⟨RX1, TX1, 15, rfl, by decide, zin_X1, by decide +kernel, zT_of 409 (by decide +kernel) (by decide +kernel)⟩
theorem zf_X1_49 : zFld RX1 49 1 1 := ⟨RX1, TX1, 15, rfl, by decide, zin_X1, by decide +kernel, zT_of 410 (by decide +kernel) (by decide +kernel)⟩
theorem zf_X1_55 : zFld RX1 55 1 2 := ⟨RX1, TX1, 15, rfl, by decide, zin_X1, by decide +kernel, zT_of 411 (by decide +kernel) (by decide +kernel)⟩
theorem zf_X1_64 : zFld RX1 64 1 3 := ⟨RX1, TX1, 15, rfl, by decide, zin_X1, by decide +kernel, zT_of 412 (by decide +kernel) (by decide +kernel)⟩
theorem zf_X1_71 : zFld RX1 71 1 4 := ⟨RX1, TX1, 15, rfl, by decide, zin_X1, by decide +kernel, zT_of 414 (by decide +kernel) (by decide +kernel)⟩
theorem zf_X1_80 : zFld RX1 80 1 5 := ⟨RX1, TX1, 15, rfl, by decide, zin_X1, by decide +kernel, zT_of 416 (by decide +kernel) (by decide +kernel)⟩
theorem zf_X1_87 : zFld RX1 87 1 6 := ⟨RX1, TX1, 15, rfl, by decide, zin_X1, by decide +kernel, zT_of 418 (by decide +kernel) (by decide +kernel)⟩
theorem zf_X1_96 : zFld RX1 96 9 8 := ⟨RX9, TX9, 13, rfl, by decide, zin_X9, by decide +kernel, zT_of 229 (by decide +kernel) (by decide +kernel)⟩
theorem zf_X1_125 : zFld RX1 125 9 0 := ⟨RX9, TX9, 13, rfl, by decide, zin_X9, by decide +kernel, zT_of 211 (by decide +kernel) (by decide +kernel)⟩
theorem zf_X1_135 : zFld RX1 135 4 6 := ⟨RX4, TX4, 7, rfl, by decide, zin_X4, by decide +kernel, zT_of 393 (by decide +kernel) (by decide +kernel)⟩
theorem zf_X1_150 : zFld RX1 150 3 7 := ⟨RX3, TX3, 9, rfl, by decide, zin_X3, by decide +kernel, zT_of 354 (by decide +kernel) (by decide +kernel)⟩
theorem zf_X1_219 : zFld RX1 219 7 3 := ⟨RX7, TX7, 4, rfl, by decide, zin_X7, by decide +kernel, zT_of 281 (by decide +kernel) (by decide +kernel)⟩
theorem zf_X10_9 : zFld RX10 9 10 0 := ⟨RX10, TX10, 7, rfl, by decide, zin_X10, by decide +kernel, zT_of 83 (by decide +kernel) (by decide +kernel)⟩
theorem zf_X10_15 : zFld RX10 15 10 1 := ⟨RX10, TX10, 7, rfl, by decide, zin_X10, by decide +kernel, zT_of 84 (by decide +kernel) (by decide +kernel)⟩
theorem zf_X10_19 : zFld RX10 19 10 2 := ⟨RX10, TX10, 7, rfl, by decide, zin_X10, by decide +kernel, zT_of 85 (by decide +kernel) (by decide +kernel)⟩
theorem zf_X10_23 : zFld RX10 23 10 3 := ⟨RX10, TX10, 7, rfl, by decide, zin_X10, by decide +kernel, zT_of 86 (by decide +kernel) (by decide +kernel)⟩
theorem zf_X10_26 : zFld RX10 26 10 4 := ⟨RX10, TX10, 7, rfl, by decide, zin_X10, by decide +kernel, zT_of 87 (by decide +kernel) (by decide +kernel)⟩
theorem zf_X10_30 : zFld RX10 30 10 5 := ⟨RX10, TX10, 7, rfl, by decide, zin_X10, by decide +kernel, zT_of 88 (by decide +kernel) (by decide +kernel)⟩
theorem zf_X10_33 : zFld RX10 33 10 6 := ⟨RX10, TX10, 7, rfl, by decide, zin_X10, by decide +kernel, zT_of 92 (by decide +kernel) (by decide +kernel)⟩
theorem zf_X11_9 : zFld RX11 9 11 0 := ⟨RX11, TX11, 14, rfl, by decide, zin_X11, by decide +kernel, zT_of 465 (by decide +kernel) (by decide +kernel)⟩
theorem zf_X11_13 : zFld RX11 13 11 1 := ⟨RX11, TX11, 14, rfl, by decide, zin_X11, by decide +kernel, zT_of 466 (by decide +kernel) (by decide +kernel)⟩
theorem zf_X11_20 : zFld RX11 20 11 2 := ⟨RX11, TX11, 14, rfl, by decide, zin_X11, by decide +kernel, zT_of 467 (by decide +kernel) (by decide +kernel)⟩
theorem zf_X11_29 : zFld RX11 29 11 3 := ⟨RX11, TX11, 14, rfl, by decide, zin_X11, by decide +kernel, zT_of 468 (by decide +kernel) (by decide +kernel)⟩
theorem zf_X11_36 : zFld RX11 36 11 4 := ⟨RX11, TX11, 14, rfl, by decide, zin_X11, by decide +kernel, zT_of 469 (by decide +kernel) (by decide +kernel)⟩
theorem zf_X11_40 : zFld RX11 40 11 5 := ⟨RX11, TX11, 14, rfl, by decide, zin_X11, by decide +kernel, zT_of 470 (by decide +kernel) (by decide +kernel)⟩
theorem zf_X11_46 : zFld RX11 46 11 6 := ⟨RX11, TX11, 14, rfl, by decide, zin_X11, by decide +kernel, zT_of 471 (by decide +kernel) (by decide +kernel)⟩
theorem zf_X11_50 : zFld RX11 50 11 7 := ⟨RX11, TX11, 14, rfl, by decide, zin_X11, by decide +kernel, zT_of 472 (by decide +kernel) (by decide +kernel)⟩
theorem zf_X11_59 : zFld RX11 59 11 8 := ⟨RX11, TX11, 14, rfl, by decide, zin_X11, by decide +kernel, zT_of 473 (by decide +kernel) (by decide +kernel)⟩
theorem zf_X11_63 : zFld RX11 63 11 9 := ⟨RX11, TX11, 14, rfl, by decide, zin_X11, by decide +kernel, zT_of 474 (by decide +kernel) (by decide +kernel)⟩
theorem zf_X11_66 : zFld RX11 66 11 10 := ⟨RX11, TX11, 14, rfl, by decide, zin_X11, by decide +kernel, zT_of 475 (by decide +kernel) (by decide +kernel)⟩
theorem zf_X11_70 : zFld RX11 70 11 11 := ⟨RX11, TX11, 14, rfl, by decide, zin_X11, by decide +kernel, zT_of 476 (by decide +kernel) (by decide +kernel)⟩
theorem zf_X11_73 : zFld RX11 73 11 12 := ⟨RX11, TX11, 14, rfl, by decide, zin_X11, by decide +kernel, zT_of 477 (by decide +kernel) (by decide +kernel)⟩
theorem zf_X11_76 : zFld RX11 76 11 13 := ⟨RX11, TX11, 14, rfl, by decide, zin_X11, by decide +kernel, zT_of 478 (by decide +kernel) (by decide +kernel)⟩
theorem zf_X11_90 : zFld RX11 90 10 5 := ⟨RX10, TX10, 7, rfl, by decide, zin_X10, by decide +kernel, zT_of 91 (by decide +kernel) (by decide +kernel)⟩
theorem zf_X11_94 : zFld RX11 94 10 6 := ⟨RX10, TX10, 7, rfl, by decide, zin_X10, by decide +kernel, zT_of 93 (by decide +kernel) (by decide +kernel)⟩
theorem zf_X11_105 : zFld RX11 105 1 10 := ⟨RX1, TX1, 15, rfl, by decide, zin_X1, by decide +kernel, zT_of 427 (by decide +kernel) (by decide +kernel)⟩
theorem zf_X11_116 : zFld RX11 116 1 8 := ⟨RX1, TX1, 15, rfl, by decide, zin_X1, by decide +kernel, zT_of 423 (by decide +kernel) (by decide +kernel)⟩
theorem zf_X11_122 : zFld RX11 122 9 1 := ⟨RX9, TX9, 13, rfl, by decide, zin_X9, by decide +kernel, zT_of 215 (by decide +kernel) (by decide +kernel)⟩
theorem zf_X11_125 : zFld RX11 125 1 3 := ⟨RX1, TX1, 15, rfl, by decide, zin_X1, by decide +kernel, zT_of 413 (by decide +kernel) (by decide +kernel)⟩
theorem zf_X11_129 : zFld RX11 129 8 1 := ⟨RX8, TX8, 5, rfl, by decide, zin_X8, by decide +kernel, zT_of 299 (by decide +kernel) (by decide +kernel)⟩
theorem zf_X11_134 : zFld RX11 134 8 2 := ⟨RX8, TX8, 5, rfl, by decide, zin_X8, by decide +kernel, zT_of 301 (by decide +kernel) (by decide +kernel)⟩
theorem zf_X11_143 : zFld RX11 143 1 4 := ⟨RX1, TX1, 15, rfl, by decide, zin_X1, by decide +kernel, zT_of 415 (by decide +kernel) (by decide +kernel)⟩
theorem zf_X11_147 : zFld RX11 147 0 1 := ⟨RX0, TX0, 5, rfl, by decide, zin_X0, by decide +kernel, zT_of 323 (by decide +kernel) (by decide +kernel)⟩
theorem zf_X11_152 : zFld RX11 152 0 2 := ⟨RX0, TX0, 5, rfl, by decide, zin_X0, by decide +kernel, zT_of 325 (by decide +kernel) (by decide +kernel)⟩
theorem zf_X11_159 : zFld RX11 159 9 4 := ⟨RX9, TX9, 13, rfl, by decide, zin_X9, by decide +kernel, zT_of 221 (by decide +kernel) (by decide +kernel)⟩
theorem zf_X11_165 : zFld RX11 165 1 7 := ⟨RX1, TX1, 15, rfl, by decide, zin_X1, by decide +kernel, zT_of 421 (by decide +kernel) (by decide +kernel)⟩
theorem zf_X11_168 : zFld RX11 168 9 9 := ⟨RX9, TX9, 13, rfl, by decide, zin_X9, by decide +kernel, zT_of 231 (by decide +kernel) (by decide +kernel)⟩
theorem zf_X11_171 : zFld RX11 171 1 6 := ⟨RX1, TX1, 15, rfl, by decide, zin_X1, by decide +kernel, zT_of 419 (by decide +kernel) (by decide +kernel)⟩
theorem zf_X11_175 : zFld RX11 175 4 1 := ⟨RX4, TX4, 7, rfl, by decide, zin_X4, by decide +kernel, zT_of 385 (by decide +kernel) (by decide +kernel)⟩
theorem zf_X11_181 : zFld RX11 181 4 2 := ⟨RX4, TX4, 7, rfl, by decide, zin_X4, by decide +kernel, zT_of 387 (by decide +kernel) (by decide +kernel)⟩
theorem zf_X11_184 : zFld RX11 184 4 3 := ⟨RX4, TX4, 7, rfl, by decide, zin_X4, by decide +kernel, zT_of 389 (by decide +kernel) (by decide +kernel)⟩
theorem zf_X11_187 : zFld RX11 187 1 5 := ⟨RX1, TX1, 15, rfl, by decide, zin_X1, by decide +kernel, zT_of 417 (by decide +kernel) (by decide +kernel)⟩
theorem zf_X11_199 : zFld RX11 199 9 12 := ⟨RX9, TX9, 13, rfl, by decide, zin_X9, by decide +kernel, zT_of 237 (by decide +kernel) (by decide +kernel)⟩
theorem zf_X11_203 : zFld RX11 203 6 11 := ⟨RX6, TX6, 12, rfl, by decide, zin_X6, by decide +kernel, zT_of 181 (by decide +kernel) (by decide +kernel)⟩
theorem zf_X11_208 : zFld RX11 208 9 0 := ⟨RX9, TX9, 13, rfl, by decide, zin_X9, by decide +kernel, zT_of 212 (by decide +kernel) (by decide +kernel)⟩
theorem zf_X11_211 : zFld RX11 211 6 3 := ⟨RX6, TX6, 12, rfl, by decide, zin_X6, by decide +kernel, zT_of 172 (by decide +kernel) (by decide +kernel)⟩
theorem zf_X11_216 : zFld RX11 216 1 9 := ⟨RX1, TX1, 15, rfl, by decide, zin_X1, by decide +kernel, zT_of 425 (by decide +kernel) (by decide +kernel)⟩
theorem zf_X11_219 : zFld RX11 219 3 7 := ⟨RX3, TX3, 9, rfl, by decide, zin_X3, by decide +kernel, zT_of 355 (by decide +kernel) (by decide +kernel)⟩
theorem zf_X11_222 : zFld RX11 222 3 5 := ⟨RX3, TX3, 9, rfl, by decide, zin_X3, by decide +kernel, zT_of 351 (by decide +kernel) (by decide +kernel)⟩
theorem zf_X11_225 : zFld RX11 225 3 8 := ⟨RX3, TX3, 9, rfl, by decide, zin_X3, by decide +kernel, zT_of 357 (by decide +kernel) (by decide +kernel)⟩
theorem zf_X11_228 : zFld RX11 228 1 11 := ⟨RX1, TX1, 15, rfl, by decide, zin_X1, by decide +kernel, zT_of 429 (by decide +kernel) (by decide +kernel)⟩
theorem zf_X11_231 : zFld RX11 231 1 12 := ⟨RX1, TX1, 15, rfl, by decide, zin_X1, by decide +kernel, zT_of 431 (by decide +kernel) (by decide +kernel)⟩
theorem zf_X12_13 : zFld RX12 13 12 1 := ⟨RX12, TX12, 103, rfl, by decide, zin_X12, by decide +kernel, zT_of 1053 (by decide +kernel) (by decide +kernel)⟩
theorem zf_X12_17 : zFld RX12 17 12 3 := ⟨RX12, TX12, 103, rfl, by decide, zin_X12, by decide +kernel, zT_of 1055 (by decide +kernel) (by decide +kernel)⟩
theorem zf_X12_20 : zFld RX12 20 12 5 := ⟨RX12, TX12, 103, rfl, by decide, zin_X12, by decide +kernel, zT_of 1057 (by decide +kernel) (by decide +kernel)⟩
theorem zf_X12_24 : zFld RX12 24 12 6 := ⟨RX12, TX12, 103, rfl, by decide, zin_X12, by decide +kernel, zT_of 1058 (by decide +kernel) (by decide +kernel)⟩
theorem zf_X12_27 : zFld RX12 27 12 7 := ⟨RX12, TX12, 103, rfl, by decide, zin_X12, by decide +kernel, zT_of 1059 (by decide +kernel) (by decide +kernel)⟩
theorem zf_X12_30 : zFld RX12 30 12 8 := ⟨RX12, TX12, 103, rfl, by decide, zin_X12, by decide +kernel, zT_of 1060 (by decide +kernel) (by decide +kernel)⟩
theorem zf_X12_34 : zFld RX12 34 12 9 := ⟨RX12, TX12, 103, rfl, by decide, zin_X12, by decide +kernel, zT_of 1061 (by decide +kernel) (by decide +kernel)⟩
theorem zf_X12_37 : zFld RX12 37 12 17 := ⟨RX12, TX12, 103, rfl, by decide, zin_X12, by decide +kernel, zT_of 1069 (by decide +kernel) (by decide +kernel)⟩
theorem zf_X12_40 : zFld RX12 40 12 21 := ⟨RX12, TX12, 103, rfl, by decide, zin_X12, by decide +kernel, zT_of 1073 (by decide +kernel) (by decide +kernel)⟩
theorem zf_X12_43 : zFld RX12 43 12 23 := ⟨RX12, TX12, 103, rfl, by decide, zin_X12, by decide +kernel, zT_of 1075 (by decide +kernel) (by decide +kernel)⟩
theorem zf_X12_46 : zFld RX12 46 12 24 := ⟨RX12, TX12, 103, rfl, by decide, zin_X12, by decide +kernel, zT_of 1076 (by decide +kernel) (by decide +kernel)⟩
theorem zf_X12_49 : zFld RX12 49 12 25 := ⟨RX12, TX12, 103, rfl, by decide, zin_X12, by decide +kernel, zT_of 1077 (by decide +kernel) (by decide +kernel)⟩
theorem zf_X12_52 : zFld RX12 52 12 26 := ⟨RX12, TX12, 103, rfl, by decide, zin_X12, by decide +kernel, zT_of 1078 (by decide +kernel) (by decide +kernel)⟩
theorem zf_X12_55 : zFld RX12 55 12 27 := ⟨RX12, TX12, 103, rfl, by decide, zin_X12, by decide +kernel, zT_of 1079 (by decide +kernel) (by decide +kernel)⟩
theorem zf_X12_58 : zFld RX12 58 12 28 := ⟨RX12, TX12, 103, rfl, by decide, zin_X12, by decide +kernel, zT_of 1080 (by decide +kernel) (by decide +kernel)⟩
theorem zf_X12_61 : zFld RX12 61 12 29 := ⟨RX12, TX12, 103, rfl, by decide, zin_X12, by decide +kernel, zT_of 1081 (by decide +kernel) (by decide +kernel)⟩
theorem zf_X12_64 : zFld RX12 64 12 30 := ⟨RX12, TX12, 103, rfl, by decide, zin_X12, by decide +kernel, zT_of 1082 (by decide +kernel) (by decide +kernel)⟩
theorem zf_X12_67 : zFld RX12 67 12 31 := ⟨RX12, TX12, 103, rfl, by decide, zin_X12, by decide +kernel, zT_of 1083 (by decide +kernel) (by decide +kernel)⟩
theorem zf_X12_70 : zFld RX12 70 12 32 := ⟨RX12, TX12, 103, rfl, by decide, zin_X12, by decide +kernel, zT_of 1084 (by decide +kernel) (by decide +kernel)⟩
theorem zf_X12_73 : zFld RX12 73 12 33 := ⟨RX12, TX12, 103, rfl, by decide, zin_X12, by decide +kernel, zT_of 1085 (by decide +kernel) (by decide +kernel)⟩
theorem zf_X12_76 : zFld RX12 76 12 34 := ⟨RX12, TX12, 103, rfl, by decide, zin_X12, by decide +kernel, zT_of 1086 (by decide +kernel) (by decide +kernel)⟩
theorem zf_X12_79 : zFld RX12 79 12 35 := ⟨RX12, TX12, 103, rfl, by decide, zin_X12, by decide +kernel, zT_of 1087 (by decide +kernel) (by decide +kernel)⟩
theorem zf_X12_82 : zFld RX12 82 12 36 := ⟨RX12, TX12, 103, rfl, by decide, zin_X12, by decide +kernel, zT_of 1088 (by decide +kernel) (by decide +kernel)⟩
theorem zf_X12_85 : zFld RX12 85 12 37 := ⟨RX12, TX12, 103, rfl, by decide, zin_X12, by decide +kernel, zT_of 1089 (by decide +kernel) (by decide +kernel)⟩
theorem zf_X12_88 : zFld RX12 88 12 38 := ⟨RX12, TX12, 103, rfl, by decide, zin_X12, by decide +kernel, zT_of 1090 (by decide +kernel) (by decide +kernel)⟩
theorem zf_X12_91 : zFld RX12 91 12 39 := ⟨RX12, TX12, 103, rfl, by decide, zin_X12, by decide +kernel, zT_of 1091 (by decide +kernel) (by decide +kernel)⟩
theorem zf_X12_94 : zFld RX12 94 12 40 := ⟨RX12, TX12, 103, rfl, by decide, zin_X12, by decide +kernel, zT_of 1092 (by decide +kernel) (by decide +kernel)⟩
theorem zf_X12_97 : zFld RX12 97 12 42 := ⟨RX12, TX12, 103, rfl, by decide, zin_X12, by decide +kernel, zT_of 1094 (by decide +kernel) (by decide +kernel)⟩
theorem zf_X12_100 : zFld RX12 100 12 43 := ⟨RX12, TX12, 103, rfl, by decide, zin_X12, by decide +kernel, zT_of 1095 (by decide +kernel) (by decide +kernel)⟩
theorem zf_X12_103 : zFld RX12 103 12 44 := ⟨RX12, TX12, 103, rfl, by decide, zin_X12, by decide +kernel, zT_of 1096 (by decide +kernel) (by decide +kernel)⟩
theorem zf_X12_106 : zFld RX12 106 12 45 := ⟨RX12, TX12, 103, rfl, by decide, zin_X12, by decide +kernel, zT_of 1097 (by decide +kernel) (by decide +kernel)⟩
theorem zf_X12_109 : zFld RX12 109 12 47 := ⟨RX12, TX12, 103, rfl, by decide, zin_X12, by decide +kernel, zT_of 1099 (by decide +kernel) (by decide +kernel)⟩
theorem zf_X12_112 : zFld RX12 112 12 48 := ⟨RX12, TX12, 103, rfl, by decide, zin_X12, by decide +kernel, zT_of 1100 (by decide +kernel) (by decide +kernel)⟩
theorem zf_X12_115 : zFld RX12 115 12 49 := ⟨RX12, TX12, 103, rfl, by decide, zin_X12, by decide +kernel, zT_of 1101 (by decide +kernel) (by decide +kernel)⟩
theorem zf_X12_118 : zFld RX12 118 12 50 := ⟨RX12, TX12, 103, rfl, by decide, zin_X12, by decide +kernel, zT_of 1102 (by decide +kernel) (by decide +kernel)⟩
theorem zf_X12_121 : zFld RX12 121 12 52 := ⟨RX12, TX12, 103, rfl, by decide, zin_X12, by decide +kernel, zT_of 1104 (by decide +kernel) (by decide +kernel)⟩
theorem zf_X12_124 : zFld RX12 124 12 53 := ⟨RX12, TX12, 103, rfl, by decide, zin_X12, by decide +kernel, zT_of 1105 (by decide +kernel) (by decide +kernel)⟩
theorem zf_X12_127 : zFld RX12 127 12 55 := ⟨RX12, TX12, 103, rfl, by decide, zin_X12, by decide +kernel, zT_of 1107 (by decide +kernel) (by decide +kernel)⟩
theorem zf_X12_130 : zFld RX12 130 12 56 := ⟨RX12, TX12, 103, rfl, by decide, zin_X12, by decide +kernel, zT_of 1108 (by decide +kernel) (by decide +kernel)⟩
theorem zf_X12_133 : zFld RX12 133 12 57 := ⟨RX12, TX12, 103, rfl, by decide, zin_X12, by decide +kernel, zT_of 1109 (by decide +kernel) (by decide +kernel)⟩
theorem zf_X12_136 : zFld RX12 136 12 60 := ⟨RX12, TX12, 103, rfl, by decide, zin_X12, by decide +kernel, zT_of 1112 (by decide +kernel) (by decide +kernel)⟩
theorem zf_X12_139 : zFld RX12 139 12 62 := ⟨RX12, TX12, 103, rfl, by decide, zin_X12, by decide +kernel, zT_of 1114 (by decide +kernel) (by decide +kernel)⟩
theorem zf_X12_143 : zFld RX12 143 12 63 := ⟨RX12, TX12, 103, rfl, by decide, zin_X12, by decide +kernel, zT_of 1115 (by decide +kernel) (by decide +kernel)⟩
theorem zf_X12_147 : zFld RX12 147 12 73 := ⟨RX12, TX12, 103, rfl, by decide, zin_X12, by decide +kernel, zT_of 1125 (by decide +kernel) (by decide +kernel)⟩
theorem zf_X12_150 : zFld RX12 150 12 74 := ⟨RX12, TX12, 103, rfl, by decide, zin_X12, by decide +kernel, zT_of 1126 (by decide +kernel) (by decide +kernel)⟩
theorem zf_X12_153 : zFld RX12 153 12 75 := ⟨RX12, TX12, 103, rfl, by decide, zin_X12, by decide +kernel, zT_of 1127 (by decide +kernel) (by decide +kernel)⟩
theorem zf_X12_156 : zFld RX12 156 12 76 := ⟨RX12, TX12, 103, rfl, by decide, zin_X12, by decide +kernel, zT_of 1128 (by decide +kernel) (by decide +kernel)⟩
theorem zf_X12_159 : zFld RX12 159 12 77 := ⟨RX12, TX12, 103, rfl, by decide, zin_X12, by decide +kernel, zT_of 1129 (by decide +kernel) (by decide +kernel)⟩
theorem zf_X12_162 : zFld RX12 162 12 78 := ⟨RX12, TX12, 103, rfl, by decide, zin_X12, by decide +kernel, zT_of 1130 (by decide +kernel) (by decide +kernel)⟩
theorem zf_X12_165 : zFld RX12 165 12 79 := ⟨RX12, TX12, 103, rfl, by decide, zin_X12, by decide +kernel, zT_of 1131 (by decide +kernel) (by decide +kernel)⟩
theorem zf_X12_168 : zFld RX12 168 12 80 := ⟨RX12, TX12, 103, rfl, by decide, zin_X12, by decide +kernel, zT_of 1132 (by decide +kernel) (by decide +kernel)⟩
theorem zf_X12_171 : zFld RX12 171 12 81 := ⟨RX12, TX12, 103, rfl, by decide, zin_X12, by decide +kernel, zT_of 1133 (by decide +kernel) (by decide +kernel)⟩
theorem zf_X12_174 : zFld RX12 174 12 82 := ⟨RX12, TX12, 103, rfl, by decide, zin_X12, by decide +kernel, zT_of 1134 (by decide +kernel) (by decide +kernel)⟩
theorem zf_X12_177 : zFld RX12 177 12 83 := ⟨RX12, TX12, 103, rfl, by decide, zin_X12, by decide +kernel, zT_of 1135 (by decide +kernel) (by decide +kernel)⟩
theorem zf_X12_180 : zFld RX12 180 12 84 := ⟨RX12, TX12, 103, rfl, by decide, zin_X12, by decide +kernel, zT_of 1136 (by decide +kernel) (by decide +kernel)⟩
theorem zf_X12_183 : zFld RX12 183 12 86 := ⟨RX12, TX12, 103, rfl, by decide, zin_X12, by decide +kernel, zT_of 1138 (by decide +kernel) (by decide +kernel)⟩
theorem zf_X12_186 : zFld RX12 186 12 87 := ⟨RX12, TX12, 103, rfl, by decide, zin_X12, by decide +kernel, zT_of 1139 (by decide +kernel) (by decide +kernel)⟩
theorem zf_X12_189 : zFld RX12 189 12 91 := ⟨RX12, TX12, 103, rfl, by decide, zin_X12, by decide +kernel, zT_of 1143 (by decide +kernel) (by decide +kernel)⟩
theorem zf_X12_192 : zFld RX12 192 12 92 := ⟨RX12, TX12, 103, rfl, by decide, zin_X12, by decide +kernel, zT_of 1144 (by decide +kernel) (by decide +kernel)⟩
theorem zf_X12_195 : zFld RX12 195 12 93 := ⟨RX12, TX12, 103, rfl, by decide, zin_X12, by decide +kernel, zT_of 1145 (by decide +kernel) (by decide +kernel)⟩
theorem zf_X12_198 : zFld RX12 198 12 94 := ⟨RX12, TX12, 103, rfl, by decide, zin_X12, by decide +kernel, zT_of 1146 (by decide +kernel) (by decide +kernel)⟩
theorem zf_X12_201 : zFld RX12 201 12 95 := ⟨RX12, TX12, 103, rfl, by decide, zin_X12, by decide +kernel, zT_of 1147 (by decide +kernel) (by decide +kernel)⟩
theorem zf_X12_204 : zFld RX12 204 12 96 := ⟨RX12, TX12, 103, rfl, by decide, zin_X12, by decide +kernel, zT_of 1148 (by decide +kernel) (by decide +kernel)⟩
theorem zf_X12_207 : zFld RX12 207 12 98 := ⟨RX12, TX12, 103, rfl, by decide, zin_X12, by decide +kernel, zT_of 1150 (by decide +kernel) (by decide +kernel)⟩
theorem zf_X12_210 : zFld RX12 210 12 100 := ⟨RX12, TX12, 103, rfl, by decide, zin_X12, by decide +kernel, zT_of 1152 (by decide +kernel) (by decide +kernel)⟩
theorem zf_X12_213 : zFld RX12 213 12 101 := ⟨RX12, TX12, 103, rfl, by decide, zin_X12, by decide +kernel, zT_of 1153 (by decide +kernel) (by decide +kernel)⟩
theorem zf_X12_216 : zFld RX12 216 12 102 := ⟨RX12, TX12, 103, rfl, by decide, zin_X12, by decide +kernel, zT_of 1154 (by decide +kernel) (by decide +kernel)⟩
theorem zf_X12_223 : zFld RX12 223 12 2 := ⟨RX12, TX12, 103, rfl, by decide, zin_X12, by decide +kernel, zT_of 1054 (by decide +kernel) (by decide +kernel)⟩
theorem zf_X12_230 : zFld RX12 230 12 4 := ⟨RX12, TX12, 103, rfl, by decide, zin_X12, by decide +kernel, zT_of 1056 (by decide +kernel) (by decide +kernel)⟩
theorem zf_X12_243 : zFld RX12 243 12 10 := ⟨RX12, TX12, 103, rfl, by decide, zin_X12, by decide +kernel, zT_of 1062 (by decide +kernel) (by decide +kernel)⟩
theorem zf_X12_261 : zFld RX12 261 12 13 := ⟨RX12, TX12, 103, rfl, by decide, zin_X12, by decide +kernel, zT_of 1065 (by decide +kernel) (by decide +kernel)⟩
theorem zf_X12_264 : zFld RX12 264 12 11 := ⟨RX12, TX12, 103, rfl, by decide, zin_X12, by decide +kernel, zT_of 1063 (by decide +kernel) (by decide +kernel)⟩
theorem zf_X12_267 : zFld RX12 267 12 14 := ⟨RX12, TX12, 103, rfl, by decide, zin_X12, by decide +kernel, zT_of 1066 (by decide +kernel) (by decide +kernel)⟩
theorem zf_X12_270 : zFld RX12 270 12 15 := ⟨RX12, TX12, 103, rfl, by decide, zin_X12, by decide +kernel, zT_of 1067 (by decide +kernel) (by decide +kernel)⟩
theorem zf_X12_273 : zFld RX12 273 12 16 := ⟨RX12, TX12, 103, rfl, by decide, zin_X12, by decide +kernel, zT_of 1068 (by decide +kernel) (by decide +kernel)⟩
theorem zf_X12_285 : zFld RX12 285 12 22 := ⟨RX12, TX12, 103, rfl, by decide, zin_X12, by decide +kernel, zT_of 1074 (by decide +kernel) (by decide +kernel)⟩
theorem zf_X12_299 : zFld RX12 299 12 19 := ⟨RX12, TX12, 103, rfl, by decide, zin_X12, by decide +kernel, zT_of 1071 (by decide +kernel) (by decide +kernel)⟩
theorem zf_X12_305 : zFld RX12 305 12 12 := ⟨RX12, TX12, 103, rfl, by decide, zin_X12, by decide +kernel, zT_of 1064 (by decide +kernel) (by decide +kernel)⟩
theorem zf_X12_308 : zFld RX12 308 12 18 := ⟨RX12, TX12, 103, rfl, by decide, zin_X12, by decide +kernel, zT_of 1070 (by decide +kernel) (by decide +kernel)⟩
theorem zf_X12_311 : zFld RX12 311 12 41 := ⟨RX12, TX12, 103, rfl, by decide, zin_X12, by decide +kernel, zT_of 1093 (by decide +kernel) (by decide +kernel)⟩
theorem zf_X12_314 : zFld RX12 314 12 46 := ⟨RX12, TX12, 103, rfl, by decide, zin_X12, by decide +kernel, zT_of 1098 (by decide +kernel) (by decide +kernel)⟩
theorem zf_X12_317 : zFld RX12 317 12 54 := ⟨RX12, TX12, 103, rfl, by decide, zin_X12, by decide +kernel, zT_of 1106 (by decide +kernel) (by decide +kernel)⟩
theorem zf_X12_320 : zFld RX12 320 12 51 := ⟨RX12, TX12, 103, rfl, by decide, zin_X12, by decide +kernel, zT_of 1103 (by decide +kernel) (by decide +kernel)⟩
theorem zf_X12_329 : zFld RX12 329 12 20 := ⟨RX12, TX12, 103, rfl, by decide, zin_X12, by decide +kernel, zT_of 1072 (by decide +kernel) (by decide +kernel)⟩
theorem zf_X12_333 : zFld RX12 333 12 64 := ⟨RX12, TX12, 103, rfl, by decide, zin_X12, by decide +kernel, zT_of 1116 (by decide +kernel) (by decide +kernel)⟩
theorem zf_X12_357 : zFld RX12 357 12 58 := ⟨RX12, TX12, 103, rfl, by decide, zin_X12, by decide +kernel, zT_of 1110 (by decide +kernel) (by decide +kernel)⟩
theorem zf_X12_367 : zFld RX12 367 12 61 := ⟨RX12, TX12, 103, rfl, by decide, zin_X12, by decide +kernel, zT_of 1113 (by decide +kernel) (by decide +kernel)⟩
theorem zf_X12_376 : zFld RX12 376 12 59 := ⟨RX12, TX12, 103, rfl, by decide, zin_X12, by decide +kernel, zT_of 1111 (by decide +kernel) (by decide +kernel)⟩
theorem zf_X12_382 : zFld RX12 382 12 67 := ⟨RX12, TX12, 103, rfl, by decide, zin_X12, by decide +kernel, zT_of 1119 (by decide +kernel) (by decide +kernel)⟩
theorem zf_X12_385 : zFld RX12 385 12 69 := ⟨RX12, TX12, 103, rfl, by decide, zin_X12, by decide +kernel, zT_of 1121 (by decide +kernel) (by decide +kernel)⟩
theorem zf_X12_388 : zFld RX12 388 12 65 := ⟨RX12, TX12, 103, rfl, by decide, zin_X12, by decide +kernel, zT_of 1117 (by decide +kernel) (by decide +kernel)⟩
theorem zf_X12_392 : zFld RX12 392 12 66 := ⟨RX12, TX12, 103, rfl, by decide, zin_X12, by decide +kernel, zT_of 1118 (by decide +kernel) (by decide +kernel)⟩
theorem zf_X12_395 : zFld RX12 395 12 68 := ⟨RX12, TX12, 103, rfl, by decide, zin_X12, by decide +kernel, zT_of 1120 (by decide +kernel) (by decide +kernel)⟩
theorem zf_X12_398 : zFld RX12 398 12 70 := ⟨RX12, TX12, 103, rfl, by decide, zin_X12, by decide +kernel, zT_of 1122 (by decide +kernel) (by decide +kernel)⟩
theorem zf_X12_401 : zFld RX12 401 12 71 := ⟨RX12, TX12, 103, rfl, by decide, zin_X12, by decide +kernel, zT_of 1123 (by decide +kernel) (by decide +kernel)⟩
theorem zf_X12_404 : zFld RX12 404 12 72 := ⟨RX12, TX12, 103, rfl, by decide, zin_X12, by decide +kernel, zT_of 1124 (by decide +kernel) (by decide +kernel)⟩
theorem zf_X12_407 : zFld RX12 407 12 85 := ⟨RX12, TX12, 103, rfl, by decide, zin_X12, by decide +kernel, zT_of 1137 (by decide +kernel) (by decide +kernel)⟩
theorem zf_X12_419 : zFld RX12 419 12 88 := ⟨RX12, TX12, 103, rfl, by decide, zin_X12, by decide +kernel, zT_of 1140 (by decide +kernel) (by decide +kernel)⟩
theorem zf_X12_422 : zFld RX12 422 12 89 := ⟨RX12, TX12, 103, rfl, by decide, zin_X12, by decide +kernel, zT_of 1141 (by decide +kernel) (by decide +kernel)⟩
theorem zf_X12_425 : zFld RX12 425 12 90 := ⟨RX12, TX12, 103, rfl, by decide, zin_X12, by decide +kernel, zT_of 1142 (by decide +kernel) (by decide +kernel)⟩
theorem zf_X12_456 : zFld RX12 456 12 99 := ⟨RX12, TX12, 103, rfl, by decide, zin_X12, by decide +kernel, zT_of 1151 (by decide +kernel) (by decide +kernel)⟩
theorem zf_X12_459 : zFld RX12 459 12 97 := ⟨RX12, TX12, 103, rfl, by decide, zin_X12, by decide +kernel, zT_of 1149 (by decide +kernel) (by decide +kernel)⟩
theorem zf_X2_9 : zFld RX2 9 2 1 := ⟨RX2, TX2, 3, rfl, by decide, zin_X2, by decide +kernel, zT_of 119 (by decide +kernel) (by decide +kernel)⟩
theorem zf_X2_15 : zFld RX2 15 2 2 := ⟨RX2, TX2, 3, rfl, by decide, zin_X2, by decide +kernel, zT_of 120 (by decide +kernel) (by decide +kernel)⟩
theorem zf_X2_19 : zFld RX2 19 2 0 := ⟨RX2, TX2, 3, rfl, by decide, zin_X2, by decide +kernel, zT_of 118 (by decide +kernel) (by decide +kernel)⟩
theorem zf_X2_50 : zFld RX2 50 10 5 := ⟨RX10, TX10, 7, rfl, by decide, zin_X10, by decide +kernel, zT_of 90 (by decide +kernel) (by decide +kernel)⟩
theorem zf_X3_11 : zFld RX3 11 3 4 := ⟨RX3, TX3, 9, rfl, by decide, zin_X3, by decide +kernel, zT_of 349 (by decide +kernel) (by decide +kernel)⟩
theorem zf_X3_15 : zFld RX3 15 3 5 := ⟨RX3, TX3, 9, rfl, by decide, zin_X3, by decide +kernel, zT_of 350 (by decide +kernel) (by decide +kernel)⟩
theorem zf_X3_18 : zFld RX3 18 3 6 := ⟨RX3, TX3, 9, rfl, by decide, zin_X3, by decide +kernel, zT_of 352 (by decide +kernel) (by decide +kernel)⟩
theorem zf_X3_21 : zFld RX3 21 3 7 := ⟨RX3, TX3, 9, rfl, by decide, zin_X3, by decide +kernel, zT_of 353 (by decide +kernel) (by decide +kernel)⟩
theorem zf_X3_24 : zFld RX3 24 3 8 := ⟨RX3, TX3, 9, rfl, by decide, zin_X3, by decide +kernel, zT_of 356 (by decide +kernel) (by decide +kernel)⟩
theorem zf_X3_27 : zFld RX3 27 3 0 := ⟨RX3, TX3, 9, rfl, by decide, zin_X3, by decide +kernel, zT_of 345 (by decide +kernel) (by decide +kernel)⟩
theorem zf_X3_31 : zFld RX3 31 3 1 := ⟨RX3, TX3, 9, rfl, by decide, zin_X3, by decide +kernel, zT_of 346 (by decide +kernel) (by decide +kernel)⟩
theorem zf_X3_35 : zFld RX3 35 3 2 := ⟨RX3, TX3, 9, rfl, by decide, zin_X3, by decide +kernel, zT_of 347 (by decide +kernel) (by decide +kernel)⟩
theorem zf_X3_38 : zFld RX3 38 3 3 := ⟨RX3, TX3, 9, rfl, by decide, zin_X3, by decide +kernel, zT_of 348 (by decide +kernel) (by decide +kernel)⟩
theorem zf_X3_44 : zFld RX3 44 9 0 := ⟨RX9, TX9, 13, rfl, by decide, zin_X9, by decide +kernel, zT_of 209 (by decide +kernel) (by decide +kernel)⟩
theorem zf_X3_60 : zFld RX3 60 9 7 := ⟨RX9, TX9, 13, rfl, by decide, zin_X9, by decide +kernel, zT_of 227 (by decide +kernel) (by decide +kernel)⟩
theorem zf_X3_63 : zFld RX3 63 9 5 := ⟨RX9, TX9, 13, rfl, by decide, zin_X9, by decide +kernel, zT_of 223 (by decide +kernel) (by decide +kernel)⟩
theorem zf_X3_66 : zFld RX3 66 9 6 := ⟨RX9, TX9, 13, rfl, by decide, zin_X9, by decide +kernel, zT_of 225 (by decide +kernel) (by decide +kernel)⟩
theorem zf_X4_9 : zFld RX4 9 4 1 := ⟨RX4, TX4, 7, rfl, by decide, zin_X4, by decide +kernel, zT_of 384 (by decide +kernel) (by decide +kernel)⟩
theorem zf_X4_15 : zFld RX4 15 4 2 := ⟨RX4, TX4, 7, rfl, by decide, zin_X4, by decide +kernel, zT_of 386 (by decide +kernel) (by decide +kernel)⟩
theorem zf_X4_19 : zFld RX4 19 4 3 := ⟨RX4, TX4, 7, rfl, by decide, zin_X4, by decide +kernel, zT_of 388 (by decide +kernel) (by decide +kernel)⟩
theorem zf_X4_22 : zFld RX4 22 4 4 := ⟨RX4, TX4, 7, rfl, by decide, zin_X4, by decide +kernel, zT_of 390 (by decide +kernel) (by decide +kernel)⟩
theorem zf_X4_25 : zFld RX4 25 4 5 := ⟨RX4, TX4, 7, rfl, by decide, zin_X4, by decide +kernel, zT_of 391 (by decide +kernel) (by decide +kernel)⟩
theorem zf_X4_28 : zFld RX4 28 4 6 := ⟨RX4, TX4, 7, rfl, by decide, zin_X4, by decide +kernel, zT_of 392 (by decide +kernel) (by decide +kernel)⟩
theorem zf_X4_32 : zFld RX4 32 4 0 := ⟨RX4, TX4, 7, rfl, by decide, zin_X4, by decide +kernel, zT_of 383 (by decide +kernel) (by decide +kernel)⟩
theorem zf_X4_36 : zFld RX4 36 9 0 := ⟨RX9, TX9, 13, rfl, by decide, zin_X9, by decide +kernel, zT_of 210 (by decide +kernel) (by decide +kernel)⟩
theorem zf_X4_45 : zFld RX4 45 9 10 := ⟨RX9, TX9, 13, rfl, by decide, zin_X9, by decide +kernel, zT_of 233 (by decide +kernel) (by decide +kernel)⟩
theorem zf_X5_9 : zFld RX5 9 5 1 := ⟨RX5, TX5, 7, rfl, by decide, zin_X5, by decide +kernel, zT_of 135 (by decide +kernel) (by decide +kernel)⟩
theorem zf_X5_15 : zFld RX5 15 5 2 := ⟨RX5, TX5, 7, rfl, by decide, zin_X5, by decide +kernel, zT_of 136 (by decide +kernel) (by decide +kernel)⟩
theorem zf_X5_19 : zFld RX5 19 5 3 := ⟨RX5, TX5, 7, rfl, by decide, zin_X5, by decide +kernel, zT_of 137 (by decide +kernel) (by decide +kernel)⟩
theorem zf_X5_22 : zFld RX5 22 5 4 := ⟨RX5, TX5, 7, rfl, by decide, zin_X5, by decide +kernel, zT_of 138 (by decide +kernel) (by decide +kernel)⟩
theorem zf_X5_26 : zFld RX5 26 5 5 := ⟨RX5, TX5, 7, rfl, by decide, zin_X5, by decide +kernel, zT_of 139 (by decide +kernel) (by decide +kernel)⟩
theorem zf_X5_29 : zFld RX5 29 5 6 := ⟨RX5, TX5, 7, rfl, by decide, zin_X5, by decide +kernel, zT_of 140 (by decide +kernel) (by decide +kernel)⟩
theorem zf_X5_32 : zFld RX5 32 5 0 := ⟨RX5, TX5, 7, rfl, by decide, zin_X5, by decide +kernel, zT_of 134 (by decide +kernel) (by decide +kernel)⟩
theorem zf_X5_45 : zFld RX5 45 10 5 := ⟨RX10, TX10, 7, rfl, by decide, zin_X10, by decide +kernel, zT_of 89 (by decide +kernel) (by decide +kernel)⟩
theorem zf_X6_9 : zFld RX6 9 6 0 := ⟨RX6, TX6, 12, rfl, by decide, zin_X6, by decide +kernel, zT_of 168 (by decide +kernel) (by decide +kernel)⟩
theorem zf_X6_15 : zFld RX6 15 6 1 := ⟨RX6, TX6, 12, rfl, by decide, zin_X6, by decide +kernel, zT_of 169 (by decide +kernel) (by decide +kernel)⟩
theorem zf_X6_19 : zFld RX6 19 6 2 := ⟨RX6, TX6, 12, rfl, by decide, zin_X6, by decide +kernel, zT_of 170 (by decide +kernel) (by decide +kernel)⟩
theorem zf_X6_23 : zFld RX6 23 6 3 := ⟨RX6, TX6, 12, rfl, by decide, zin_X6, by decide +kernel, zT_of 171 (by decide +kernel) (by decide +kernel)⟩
theorem zf_X6_26 : zFld RX6 26 6 4 := ⟨RX6, TX6, 12, rfl, by decide, zin_X6, by decide +kernel, zT_of 173 (by decide +kernel) (by decide +kernel)⟩
theorem zf_X6_29 : zFld RX6 29 6 5 := ⟨RX6, TX6, 12, rfl, by decide, zin_X6, by decide +kernel, zT_of 174 (by decide +kernel) (by decide +kernel)⟩
theorem zf_X6_32 : zFld RX6 32 6 6 := ⟨RX6, TX6, 12, rfl, by decide, zin_X6, by decide +kernel, zT_of 175 (by decide +kernel) (by decide +kernel)⟩
theorem zf_X6_35 : zFld RX6 35 6 7 := ⟨RX6, TX6, 12, rfl, by decide, zin_X6, by decide +kernel, zT_of 176 (by decide +kernel) (by decide +kernel)⟩
theorem zf_X6_38 : zFld RX6 38 6 8 := ⟨RX6, TX6, 12, rfl, by decide, zin_X6, by decide +kernel, zT_of 177 (by decide +kernel) (by decide +kernel)⟩
theorem zf_X6_42 : zFld RX6 42 6 9 := ⟨RX6, TX6, 12, rfl, by decide, zin_X6, by decide +kernel, zT_of 178 (by decide +kernel) (by decide +kernel)⟩
theorem zf_X6_45 : zFld RX6 45 6 10 := ⟨RX6, TX6, 12, rfl, by decide, zin_X6, by decide +kernel, zT_of 179 (by decide +kernel) (by decide +kernel)⟩
theorem zf_X6_48 : zFld RX6 48 6 11 := ⟨RX6, TX6, 12, rfl, by decide, zin_X6, by decide +kernel, zT_of 180 (by decide +kernel) (by decide +kernel)⟩
theorem zf_X7_9 : zFld RX7 9 7 1 := ⟨RX7, TX7, 4, rfl, by decide, zin_X7, by decide +kernel, zT_of 278 (by decide +kernel) (by decide +kernel)⟩
theorem zf_X7_15 : zFld RX7 15 7 2 := ⟨RX7, TX7, 4, rfl, by decide, zin_X7, by decide +kernel, zT_of 279 (by decide +kernel) (by decide +kernel)⟩
theorem zf_X7_18 : zFld RX7 18 7 3 := ⟨RX7, TX7, 4, rfl, by decide, zin_X7, by decide +kernel, zT_of 280 (by decide +kernel) (by decide +kernel)⟩
theorem zf_X7_22 : zFld RX7 22 7 0 := ⟨RX7, TX7, 4, rfl, by decide, zin_X7, by decide +kernel, zT_of 277 (by decide +kernel) (by decide +kernel)⟩
theorem zf_X8_9 : zFld RX8 9 8 1 := ⟨RX8, TX8, 5, rfl, by decide, zin_X8, by decide +kernel, zT_of 298 (by decide +kernel) (by decide +kernel)⟩
theorem zf_X8_15 : zFld RX8 15 8 2 := ⟨RX8, TX8, 5, rfl, by decide, zin_X8, by decide +kernel, zT_of 300 (by decide +kernel) (by decide +kernel)⟩
theorem zf_X8_18 : zFld RX8 18 8 3 := ⟨RX8, TX8, 5, rfl, by decide, zin_X8, by decide +kernel, zT_of 302 (by decide +kernel) (by decide +kernel)⟩
theorem zf_X8_21 : zFld RX8 21 8 4 := ⟨RX8, TX8, 5, rfl, by decide, zin_X8, by decide +kernel, zT_of 303 (by decide +kernel) (by decide +kernel)⟩
theorem zf_X8_24 : zFld RX8 24 8 0 := ⟨RX8, TX8, 5, rfl, by decide, zin_X8, by decide +kernel, zT_of 297 (by decide +kernel) (by decide +kernel)⟩
theorem zf_X8_34 : zFld RX8 34 9 1 := ⟨RX9, TX9, 13, rfl, by decide, zin_X9, by decide +kernel, zT_of 214 (by decide +kernel) (by decide +kernel)⟩
theorem zf_X9_9 : zFld RX9 9 9 0 := ⟨RX9, TX9, 13, rfl, by decide, zin_X9, by decide +kernel, zT_of 208 (by decide +kernel) (by decide +kernel)⟩
theorem zf_X9_15 : zFld RX9 15 9 1 := ⟨RX9, TX9, 13, rfl, by decide, zin_X9, by decide +kernel, zT_of 213 (by decide +kernel) (by decide +kernel)⟩
theorem zf_X9_18 : zFld RX9 18 9 2 := ⟨RX9, TX9, 13, rfl, by decide, zin_X9, by decide +kernel, zT_of 216 (by decide +kernel) (by decide +kernel)⟩
theorem zf_X9_21 : zFld RX9 21 9 3 := ⟨RX9, TX9, 13, rfl, by decide, zin_X9, by decide +kernel, zT_of 218 (by decide +kernel) (by decide +kernel)⟩
theorem zf_X9_24 : zFld RX9 24 9 4 := ⟨RX9, TX9, 13, rfl, by decide, zin_X9, by decide +kernel, zT_of 220 (by decide +kernel) (by decide +kernel)⟩
theorem zf_X9_27 : zFld RX9 27 9 5 := ⟨RX9, TX9, 13, rfl, by decide, zin_X9, by decide +kernel, zT_of 222 (by decide +kernel) (by decide +kernel)⟩
theorem zf_X9_30 : zFld RX9 30 9 6 := ⟨RX9, TX9, 13, rfl, by decide, zin_X9, by decide +kernel, zT_of 224 (by decide +kernel) (by decide +kernel)⟩
theorem zf_X9_33 : zFld RX9 33 9 7 := ⟨RX9, TX9, 13, rfl, by decide, zin_X9, by decide +kernel, zT_of 226 (by decide +kernel) (by decide +kernel)⟩
theorem zf_X9_36 : zFld RX9 36 9 8 := ⟨RX9, TX9, 13, rfl, by decide, zin_X9, by decide +kernel, zT_of 228 (by decide +kernel) (by decide +kernel)⟩
theorem zf_X9_39 : zFld RX9 39 9 9 := ⟨RX9, TX9, 13, rfl, by decide, zin_X9, by decide +kernel, zT_of 230 (by decide +kernel) (by decide +kernel)⟩
theorem zf_X9_42 : zFld RX9 42 9 10 := ⟨RX9, TX9, 13, rfl, by decide, zin_X9, by decide +kernel, zT_of 232 (by decide +kernel) (by decide +kernel)⟩
theorem zf_X9_45 : zFld RX9 45 9 11 := ⟨RX9, TX9, 13, rfl, by decide, zin_X9, by decide +kernel, zT_of 234 (by decide +kernel) (by decide +kernel)⟩
theorem zf_X9_51 : zFld RX9 51 9 12 := ⟨RX9, TX9, 13, rfl, by decide, zin_X9, by decide +kernel, zT_of 236 (by decide +kernel) (by decide +kernel)⟩
theorem zt_X0_4 : zFty 0 4 .int false := by
  intro C T N h
  have h2 : (C, T, N) = (RX0, TX0, 5) := (Option.some.inj h).symm
  cases h2
  exact ⟨rfl, by decide +kernel, ⟨tyX0, tyX0_ok⟩, nmX0⟩
theorem zt_X1_8 : zFty 1 8 .long false := by
  intro C T N h
  have h2 : (C, T, N) = (RX1, TX1, 15) := (Option.some.inj h).symm
  cases h2
  exact ⟨rfl, by decide +kernel, ⟨tyX1, tyX1_ok⟩, nmX1⟩
theorem zt_X1_9 : zFty 1 9 .int false := by
  intro C T N h
  have h2 : (C, T, N) = (RX1, TX1, 15) := (Option.some.inj h).symm
  cases h2
  exact ⟨rfl, by decide +kernel, ⟨tyX1, tyX1_ok⟩, nmX1⟩
theorem zt_X1_10 : zFty 1 10 .int false := by
  intro C T N h
  have h2 : (C, T, N) = (RX1, TX1, 15) := (Option.some.inj h).symm
  cases h2
  exact ⟨rfl, by decide +kernel, ⟨tyX1, tyX1_ok⟩, nmX1⟩
theorem zt_X1_11 : zFty 1 11 .boolean false := by
  intro C T N h
  have h2 : (C, T, N) = (RX1, TX1, 15) := (Option.some.inj h).symm
  cases h2
  exact ⟨rfl, by decide +kernel, ⟨tyX1, tyX1_ok⟩, nmX1⟩
theorem zt_X1_12 : zFty 1 12 .boolean false := by
  intro C T N h
  have h2 : (C, T, N) = (RX1, TX1, 15) := (Option.some.inj h).symm
  cases h2
  exact ⟨rfl, by decide +kernel, ⟨tyX1, tyX1_ok⟩, nmX1⟩
theorem zt_X1_13 : zFty 1 13 .int false := by
  intro C T N h
  have h2 : (C, T, N) = (RX1, TX1, 15) := (Option.some.inj h).symm
  cases h2
  exact ⟨rfl, by decide +kernel, ⟨tyX1, tyX1_ok⟩, nmX1⟩
theorem zt_X1_14 : zFty 1 14 .boolean false := by
  intro C T N h
  have h2 : (C, T, N) = (RX1, TX1, 15) := (Option.some.inj h).symm
  cases h2
  exact ⟨rfl, by decide +kernel, ⟨tyX1, tyX1_ok⟩, nmX1⟩
theorem zt_X10_4 : zFty 10 4 .int false := by
  intro C T N h
  have h2 : (C, T, N) = (RX10, TX10, 7) := (Option.some.inj h).symm
  cases h2
  exact ⟨rfl, by decide +kernel, ⟨tyX10, tyX10_ok⟩, nmX10⟩
theorem zt_X10_5 : zFty 10 5 .int false := by
  intro C T N h
  have h2 : (C, T, N) = (RX10, TX10, 7) := (Option.some.inj h).symm
  cases h2
  exact ⟨rfl, by decide +kernel, ⟨tyX10, tyX10_ok⟩, nmX10⟩
theorem zt_X10_6 : zFty 10 6 .int false := by
  intro C T N h
  have h2 : (C, T, N) = (RX10, TX10, 7) := (Option.some.inj h).symm
  cases h2
  exact ⟨rfl, by decide +kernel, ⟨tyX10, tyX10_ok⟩, nmX10⟩
theorem zt_X11_1 : zFty 11 1 .int false := by
  intro C T N h
  have h2 : (C, T, N) = (RX11, TX11, 14) := (Option.some.inj h).symm
  cases h2
  exact ⟨rfl, by decide +kernel, ⟨tyX11, tyX11_ok⟩, nmX11⟩
theorem zt_X11_5 : zFty 11 5 .int false := by
  intro C T N h
  have h2 : (C, T, N) = (RX11, TX11, 14) := (Option.some.inj h).symm
  cases h2
  exact ⟨rfl, by decide +kernel, ⟨tyX11, tyX11_ok⟩, nmX11⟩
theorem zt_X11_7 : zFty 11 7 .boolean false := by
  intro C T N h
  have h2 : (C, T, N) = (RX11, TX11, 14) := (Option.some.inj h).symm
  cases h2
  exact ⟨rfl, by decide +kernel, ⟨tyX11, tyX11_ok⟩, nmX11⟩
theorem zt_X11_9 : zFty 11 9 .boolean false := by
  intro C T N h
  have h2 : (C, T, N) = (RX11, TX11, 14) := (Option.some.inj h).symm
  cases h2
  exact ⟨rfl, by decide +kernel, ⟨tyX11, tyX11_ok⟩, nmX11⟩
theorem zt_X11_12 : zFty 11 12 .int false := by
  intro C T N h
  have h2 : (C, T, N) = (RX11, TX11, 14) := (Option.some.inj h).symm
  cases h2
  exact ⟨rfl, by decide +kernel, ⟨tyX11, tyX11_ok⟩, nmX11⟩
theorem zt_X12_2 : zFty 12 2 .int false := by
  intro C T N h
  have h2 : (C, T, N) = (RX12, TX12, 103) := (Option.some.inj h).symm
  cases h2
  exact ⟨rfl, by decide +kernel, ⟨tyX12, tyX12_ok⟩, nmX12⟩
theorem zt_X12_4 : zFty 12 4 .int false := by
  intro C T N h
  have h2 : (C, T, N) = (RX12, TX12, 103) := (Option.some.inj h).symm
  cases h2
  exact ⟨rfl, by decide +kernel, ⟨tyX12, tyX12_ok⟩, nmX12⟩
theorem zt_X12_10 : zFty 12 10 .int false := by
  intro C T N h
  have h2 : (C, T, N) = (RX12, TX12, 103) := (Option.some.inj h).symm
  cases h2
  exact ⟨rfl, by decide +kernel, ⟨tyX12, tyX12_ok⟩, nmX12⟩
theorem zt_X12_11 : zFty 12 11 .int false := by
  intro C T N h
  have h2 : (C, T, N) = (RX12, TX12, 103) := (Option.some.inj h).symm
  cases h2
  exact ⟨rfl, by decide +kernel, ⟨tyX12, tyX12_ok⟩, nmX12⟩
theorem zt_X12_12 : zFty 12 12 .int false := by
  intro C T N h
  have h2 : (C, T, N) = (RX12, TX12, 103) := (Option.some.inj h).symm
  cases h2
  exact ⟨rfl, by decide +kernel, ⟨tyX12, tyX12_ok⟩, nmX12⟩
theorem zt_X12_13 : zFty 12 13 .int false := by
  intro C T N h
  have h2 : (C, T, N) = (RX12, TX12, 103) := (Option.some.inj h).symm
  cases h2
  exact ⟨rfl, by decide +kernel, ⟨tyX12, tyX12_ok⟩, nmX12⟩
theorem zt_X12_14 : zFty 12 14 .int false := by
  intro C T N h
  have h2 : (C, T, N) = (RX12, TX12, 103) := (Option.some.inj h).symm
  cases h2
  exact ⟨rfl, by decide +kernel, ⟨tyX12, tyX12_ok⟩, nmX12⟩
theorem zt_X12_15 : zFty 12 15 .int false := by
  intro C T N h
  have h2 : (C, T, N) = (RX12, TX12, 103) := (Option.some.inj h).symm
  cases h2
  exact ⟨rfl, by decide +kernel, ⟨tyX12, tyX12_ok⟩, nmX12⟩
theorem zt_X12_16 : zFty 12 16 .int false := by
  intro C T N h
  have h2 : (C, T, N) = (RX12, TX12, 103) := (Option.some.inj h).symm
  cases h2
  exact ⟨rfl, by decide +kernel, ⟨tyX12, tyX12_ok⟩, nmX12⟩
theorem zt_X12_17 : zFty 12 17 .int false := by
  intro C T N h
  have h2 : (C, T, N) = (RX12, TX12, 103) := (Option.some.inj h).symm
  cases h2
  exact ⟨rfl, by decide +kernel, ⟨tyX12, tyX12_ok⟩, nmX12⟩
theorem zt_X12_18 : zFty 12 18 .int false := by
  intro C T N h
  have h2 : (C, T, N) = (RX12, TX12, 103) := (Option.some.inj h).symm
  cases h2
  exact ⟨rfl, by decide +kernel, ⟨tyX12, tyX12_ok⟩, nmX12⟩
theorem zt_X12_19 : zFty 12 19 .int false := by
  intro C T N h
  have h2 : (C, T, N) = (RX12, TX12, 103) := (Option.some.inj h).symm
  cases h2
  exact ⟨rfl, by decide +kernel, ⟨tyX12, tyX12_ok⟩, nmX12⟩
theorem zt_X12_20 : zFty 12 20 .boolean false := by
  intro C T N h
  have h2 : (C, T, N) = (RX12, TX12, 103) := (Option.some.inj h).symm
  cases h2
  exact ⟨rfl, by decide +kernel, ⟨tyX12, tyX12_ok⟩, nmX12⟩
theorem zt_X12_22 : zFty 12 22 .int false := by
  intro C T N h
  have h2 : (C, T, N) = (RX12, TX12, 103) := (Option.some.inj h).symm
  cases h2
  exact ⟨rfl, by decide +kernel, ⟨tyX12, tyX12_ok⟩, nmX12⟩
theorem zt_X12_41 : zFty 12 41 .int false := by
  intro C T N h
  have h2 : (C, T, N) = (RX12, TX12, 103) := (Option.some.inj h).symm
  cases h2
  exact ⟨rfl, by decide +kernel, ⟨tyX12, tyX12_ok⟩, nmX12⟩
theorem zt_X12_46 : zFty 12 46 .int false := by
  intro C T N h
  have h2 : (C, T, N) = (RX12, TX12, 103) := (Option.some.inj h).symm
  cases h2
  exact ⟨rfl, by decide +kernel, ⟨tyX12, tyX12_ok⟩, nmX12⟩
theorem zt_X12_51 : zFty 12 51 .int false := by
  intro C T N h
  have h2 : (C, T, N) = (RX12, TX12, 103) := (Option.some.inj h).symm
  cases h2
  exact ⟨rfl, by decide +kernel, ⟨tyX12, tyX12_ok⟩, nmX12⟩
theorem zt_X12_54 : zFty 12 54 .int false := by
  intro C T N h
  have h2 : (C, T, N) = (RX12, TX12, 103) := (Option.some.inj h).symm
  cases h2
  exact ⟨rfl, by decide +kernel, ⟨tyX12, tyX12_ok⟩, nmX12⟩
theorem zt_X12_58 : zFty 12 58 .int false := by
  intro C T N h
  have h2 : (C, T, N) = (RX12, TX12, 103) := (Option.some.inj h).symm
  cases h2
  exact ⟨rfl, by decide +kernel, ⟨tyX12, tyX12_ok⟩, nmX12⟩
theorem zt_X12_59 : zFty 12 59 .int false := by
  intro C T N h
  have h2 : (C, T, N) = (RX12, TX12, 103) := (Option.some.inj h).symm
  cases h2
  exact ⟨rfl, by decide +kernel, ⟨tyX12, tyX12_ok⟩, nmX12⟩
theorem zt_X12_61 : zFty 12 61 .int false := by
  intro C T N h
  have h2 : (C, T, N) = (RX12, TX12, 103) := (Option.some.inj h).symm
  cases h2
  exact ⟨rfl, by decide +kernel, ⟨tyX12, tyX12_ok⟩, nmX12⟩
theorem zt_X12_64 : zFty 12 64 .boolean false := by
  intro C T N h
  have h2 : (C, T, N) = (RX12, TX12, 103) := (Option.some.inj h).symm
  cases h2
  exact ⟨rfl, by decide +kernel, ⟨tyX12, tyX12_ok⟩, nmX12⟩
theorem zt_X12_65 : zFty 12 65 .long false := by
  intro C T N h
  have h2 : (C, T, N) = (RX12, TX12, 103) := (Option.some.inj h).symm
  cases h2
  exact ⟨rfl, by decide +kernel, ⟨tyX12, tyX12_ok⟩, nmX12⟩
theorem zt_X12_66 : zFty 12 66 .int false := by
  intro C T N h
  have h2 : (C, T, N) = (RX12, TX12, 103) := (Option.some.inj h).symm
  cases h2
  exact ⟨rfl, by decide +kernel, ⟨tyX12, tyX12_ok⟩, nmX12⟩
theorem zt_X12_67 : zFty 12 67 .int false := by
  intro C T N h
  have h2 : (C, T, N) = (RX12, TX12, 103) := (Option.some.inj h).symm
  cases h2
  exact ⟨rfl, by decide +kernel, ⟨tyX12, tyX12_ok⟩, nmX12⟩
theorem zt_X12_68 : zFty 12 68 .int false := by
  intro C T N h
  have h2 : (C, T, N) = (RX12, TX12, 103) := (Option.some.inj h).symm
  cases h2
  exact ⟨rfl, by decide +kernel, ⟨tyX12, tyX12_ok⟩, nmX12⟩
theorem zt_X12_69 : zFty 12 69 .int false := by
  intro C T N h
  have h2 : (C, T, N) = (RX12, TX12, 103) := (Option.some.inj h).symm
  cases h2
  exact ⟨rfl, by decide +kernel, ⟨tyX12, tyX12_ok⟩, nmX12⟩
theorem zt_X12_70 : zFty 12 70 .boolean false := by
  intro C T N h
  have h2 : (C, T, N) = (RX12, TX12, 103) := (Option.some.inj h).symm
  cases h2
  exact ⟨rfl, by decide +kernel, ⟨tyX12, tyX12_ok⟩, nmX12⟩
theorem zt_X12_71 : zFty 12 71 .boolean false := by
  intro C T N h
  have h2 : (C, T, N) = (RX12, TX12, 103) := (Option.some.inj h).symm
  cases h2
  exact ⟨rfl, by decide +kernel, ⟨tyX12, tyX12_ok⟩, nmX12⟩
theorem zt_X12_72 : zFty 12 72 .int false := by
  intro C T N h
  have h2 : (C, T, N) = (RX12, TX12, 103) := (Option.some.inj h).symm
  cases h2
  exact ⟨rfl, by decide +kernel, ⟨tyX12, tyX12_ok⟩, nmX12⟩
theorem zt_X12_85 : zFty 12 85 .int false := by
  intro C T N h
  have h2 : (C, T, N) = (RX12, TX12, 103) := (Option.some.inj h).symm
  cases h2
  exact ⟨rfl, by decide +kernel, ⟨tyX12, tyX12_ok⟩, nmX12⟩
theorem zt_X12_88 : zFty 12 88 .int false := by
  intro C T N h
  have h2 : (C, T, N) = (RX12, TX12, 103) := (Option.some.inj h).symm
  cases h2
  exact ⟨rfl, by decide +kernel, ⟨tyX12, tyX12_ok⟩, nmX12⟩
theorem zt_X12_89 : zFty 12 89 .boolean false := by
  intro C T N h
  have h2 : (C, T, N) = (RX12, TX12, 103) := (Option.some.inj h).symm
  cases h2
  exact ⟨rfl, by decide +kernel, ⟨tyX12, tyX12_ok⟩, nmX12⟩
theorem zt_X12_90 : zFty 12 90 .int false := by
  intro C T N h
  have h2 : (C, T, N) = (RX12, TX12, 103) := (Option.some.inj h).symm
  cases h2
  exact ⟨rfl, by decide +kernel, ⟨tyX12, tyX12_ok⟩, nmX12⟩
theorem zt_X12_97 : zFty 12 97 .boolean false := by
  intro C T N h
  have h2 : (C, T, N) = (RX12, TX12, 103) := (Option.some.inj h).symm
  cases h2
  exact ⟨rfl, by decide +kernel, ⟨tyX12, tyX12_ok⟩, nmX12⟩
theorem zt_X12_99 : zFty 12 99 .boolean false := by
  intro C T N h
  have h2 : (C, T, N) = (RX12, TX12, 103) := (Option.some.inj h).symm
  cases h2
  exact ⟨rfl, by decide +kernel, ⟨tyX12, tyX12_ok⟩, nmX12⟩
theorem zt_X2_1 : zFty 2 1 .int false := by
  intro C T N h
  have h2 : (C, T, N) = (RX2, TX2, 3) := (Option.some.inj h).symm
  cases h2
  exact ⟨rfl, by decide +kernel, ⟨tyX2, tyX2_ok⟩, nmX2⟩
theorem zt_X3_1 : zFty 3 1 (.array .int) false := by
  intro C T N h
  have h2 : (C, T, N) = (RX3, TX3, 9) := (Option.some.inj h).symm
  cases h2
  exact ⟨rfl, by decide +kernel, ⟨tyX3, tyX3_ok⟩, nmX3⟩
theorem zt_X3_2 : zFty 3 2 (.array .int) false := by
  intro C T N h
  have h2 : (C, T, N) = (RX3, TX3, 9) := (Option.some.inj h).symm
  cases h2
  exact ⟨rfl, by decide +kernel, ⟨tyX3, tyX3_ok⟩, nmX3⟩
theorem zt_X3_4 : zFty 3 4 .int false := by
  intro C T N h
  have h2 : (C, T, N) = (RX3, TX3, 9) := (Option.some.inj h).symm
  cases h2
  exact ⟨rfl, by decide +kernel, ⟨tyX3, tyX3_ok⟩, nmX3⟩
theorem zt_X3_5 : zFty 3 5 .int false := by
  intro C T N h
  have h2 : (C, T, N) = (RX3, TX3, 9) := (Option.some.inj h).symm
  cases h2
  exact ⟨rfl, by decide +kernel, ⟨tyX3, tyX3_ok⟩, nmX3⟩
theorem zt_X3_6 : zFty 3 6 .int false := by
  intro C T N h
  have h2 : (C, T, N) = (RX3, TX3, 9) := (Option.some.inj h).symm
  cases h2
  exact ⟨rfl, by decide +kernel, ⟨tyX3, tyX3_ok⟩, nmX3⟩
theorem zt_X3_7 : zFty 3 7 .int false := by
  intro C T N h
  have h2 : (C, T, N) = (RX3, TX3, 9) := (Option.some.inj h).symm
  cases h2
  exact ⟨rfl, by decide +kernel, ⟨tyX3, tyX3_ok⟩, nmX3⟩
theorem zt_X3_8 : zFty 3 8 .int false := by
  intro C T N h
  have h2 : (C, T, N) = (RX3, TX3, 9) := (Option.some.inj h).symm
  cases h2
  exact ⟨rfl, by decide +kernel, ⟨tyX3, tyX3_ok⟩, nmX3⟩
theorem zt_X4_6 : zFty 4 6 .int false := by
  intro C T N h
  have h2 : (C, T, N) = (RX4, TX4, 7) := (Option.some.inj h).symm
  cases h2
  exact ⟨rfl, by decide +kernel, ⟨tyX4, tyX4_ok⟩, nmX4⟩
theorem zt_X5_4 : zFty 5 4 .int false := by
  intro C T N h
  have h2 : (C, T, N) = (RX5, TX5, 7) := (Option.some.inj h).symm
  cases h2
  exact ⟨rfl, by decide +kernel, ⟨tyX5, tyX5_ok⟩, nmX5⟩
theorem zt_X6_2 : zFty 6 2 .int false := by
  intro C T N h
  have h2 : (C, T, N) = (RX6, TX6, 12) := (Option.some.inj h).symm
  cases h2
  exact ⟨rfl, by decide +kernel, ⟨tyX6, tyX6_ok⟩, nmX6⟩
theorem zt_X6_3 : zFty 6 3 .int false := by
  intro C T N h
  have h2 : (C, T, N) = (RX6, TX6, 12) := (Option.some.inj h).symm
  cases h2
  exact ⟨rfl, by decide +kernel, ⟨tyX6, tyX6_ok⟩, nmX6⟩
theorem zt_X6_11 : zFty 6 11 .int false := by
  intro C T N h
  have h2 : (C, T, N) = (RX6, TX6, 12) := (Option.some.inj h).symm
  cases h2
  exact ⟨rfl, by decide +kernel, ⟨tyX6, tyX6_ok⟩, nmX6⟩
theorem zt_X7_3 : zFty 7 3 .int false := by
  intro C T N h
  have h2 : (C, T, N) = (RX7, TX7, 4) := (Option.some.inj h).symm
  cases h2
  exact ⟨rfl, by decide +kernel, ⟨tyX7, tyX7_ok⟩, nmX7⟩
theorem zq_J6_bitCount_0f7a4 : Cond.initialized kJ6_bitCount_0f7a4.1.cls ∈ zT ∧ Cond.code kJ6_bitCount_0f7a4.1 kJ6_bitCount_0f7a4.2.1 kJ6_bitCount_0f7a4.2.2.1 kJ6_bitCount_0f7a4.2.2.2 ∈ zT := ⟨zT_of 19 (by decide +kernel) (by decide +kernel), zT_of 954 (by decide +kernel) (by decide +kernel)⟩
theorem zq_J9_max_7cf53 : Cond.initialized kJ9_max_7cf53.1.cls ∈ zT ∧ Cond.code kJ9_max_7cf53.1 kJ9_max_7cf53.2.1 kJ9_max_7cf53.2.2.1 kJ9_max_7cf53.2.2.2 ∈ zT := ⟨zT_of 18 (by decide +kernel) (by decide +kernel), zT_of 555 (by decide +kernel) (by decide +kernel)⟩
theorem zq_J9_max_f86c9 : Cond.initialized kJ9_max_f86c9.1.cls ∈ zT ∧ Cond.code kJ9_max_f86c9.1 kJ9_max_f86c9.2.1 kJ9_max_f86c9.2.2.1 kJ9_max_f86c9.2.2.2 ∈ zT := ⟨zT_of 18 (by decide +kernel) (by decide +kernel), zT_of 870 (by decide +kernel) (by decide +kernel)⟩
theorem zq_J9_min_7cf53 : Cond.initialized kJ9_min_7cf53.1.cls ∈ zT ∧ Cond.code kJ9_min_7cf53.1 kJ9_min_7cf53.2.1 kJ9_min_7cf53.2.2.1 kJ9_min_7cf53.2.2.2 ∈ zT := ⟨zT_of 18 (by decide +kernel) (by decide +kernel), zT_of 530 (by decide +kernel) (by decide +kernel)⟩
theorem zq_X0_await : Cond.initialized kX0_await.1.cls ∈ zT ∧ Cond.code kX0_await.1 kX0_await.2.1 kX0_await.2.2.1 kX0_await.2.2.2 ∈ zT := ⟨zT_of 14 (by decide +kernel) (by decide +kernel), zT_of 886 (by decide +kernel) (by decide +kernel)⟩
theorem zq_X0_clear : Cond.initialized kX0_clear.1.cls ∈ zT ∧ Cond.code kX0_clear.1 kX0_clear.2.1 kX0_clear.2.2.1 kX0_clear.2.2.2 ∈ zT := ⟨zT_of 14 (by decide +kernel) (by decide +kernel), zT_of 748 (by decide +kernel) (by decide +kernel)⟩
theorem zq_X0_fireAt : Cond.initialized kX0_fireAt.1.cls ∈ zT ∧ Cond.code kX0_fireAt.1 kX0_fireAt.2.1 kX0_fireAt.2.2.1 kX0_fireAt.2.2.2 ∈ zT := ⟨zT_of 14 (by decide +kernel) (by decide +kernel), zT_of 951 (by decide +kernel) (by decide +kernel)⟩
theorem zq_X0_placeInRow : Cond.initialized kX0_placeInRow.1.cls ∈ zT ∧ Cond.code kX0_placeInRow.1 kX0_placeInRow.2.1 kX0_placeInRow.2.2.1 kX0_placeInRow.2.2.2 ∈ zT := ⟨zT_of 14 (by decide +kernel) (by decide +kernel), zT_of 891 (by decide +kernel) (by decide +kernel)⟩
theorem zq_X10_behindBlanks : Cond.initialized kX10_behindBlanks.1.cls ∈ zT ∧ Cond.code kX10_behindBlanks.1 kX10_behindBlanks.2.1 kX10_behindBlanks.2.2.1 kX10_behindBlanks.2.2.2 ∈ zT := ⟨zT_of 2 (by decide +kernel) (by decide +kernel), zT_of 533 (by decide +kernel) (by decide +kernel)⟩
theorem zq_X10_blame : Cond.initialized kX10_blame.1.cls ∈ zT ∧ Cond.code kX10_blame.1 kX10_blame.2.1 kX10_blame.2.2.1 kX10_blame.2.2.2 ∈ zT := ⟨zT_of 2 (by decide +kernel) (by decide +kernel), zT_of 593 (by decide +kernel) (by decide +kernel)⟩
theorem zq_X10_cut : Cond.initialized kX10_cut.1.cls ∈ zT ∧ Cond.code kX10_cut.1 kX10_cut.2.1 kX10_cut.2.2.1 kX10_cut.2.2.2 ∈ zT := ⟨zT_of 2 (by decide +kernel) (by decide +kernel), zT_of 527 (by decide +kernel) (by decide +kernel)⟩
theorem zq_X10_isBlank : Cond.initialized kX10_isBlank.1.cls ∈ zT ∧ Cond.code kX10_isBlank.1 kX10_isBlank.2.1 kX10_isBlank.2.2.1 kX10_isBlank.2.2.2 ∈ zT := ⟨zT_of 2 (by decide +kernel) (by decide +kernel), zT_of 536 (by decide +kernel) (by decide +kernel)⟩
theorem zq_X10_isDigit : Cond.initialized kX10_isDigit.1.cls ∈ zT ∧ Cond.code kX10_isDigit.1 kX10_isDigit.2.1 kX10_isDigit.2.2.1 kX10_isDigit.2.2.2 ∈ zT := ⟨zT_of 2 (by decide +kernel) (by decide +kernel), zT_of 545 (by decide +kernel) (by decide +kernel)⟩
theorem zq_X10_isLetter : Cond.initialized kX10_isLetter.1.cls ∈ zT ∧ Cond.code kX10_isLetter.1 kX10_isLetter.2.1 kX10_isLetter.2.2.1 kX10_isLetter.2.2.2 ∈ zT := ⟨zT_of 2 (by decide +kernel) (by decide +kernel), zT_of 542 (by decide +kernel) (by decide +kernel)⟩
theorem zq_X10_kindAt : Cond.initialized kX10_kindAt.1.cls ∈ zT ∧ Cond.code kX10_kindAt.1 kX10_kindAt.2.1 kX10_kindAt.2.2.1 kX10_kindAt.2.2.2 ∈ zT := ⟨zT_of 2 (by decide +kernel) (by decide +kernel), zT_of 578 (by decide +kernel) (by decide +kernel)⟩
theorem zq_X10_kindOf : Cond.initialized kX10_kindOf.1.cls ∈ zT ∧ Cond.code kX10_kindOf.1 kX10_kindOf.2.1 kX10_kindOf.2.2.1 kX10_kindOf.2.2.2 ∈ zT := ⟨zT_of 2 (by decide +kernel) (by decide +kernel), zT_of 549 (by decide +kernel) (by decide +kernel)⟩
theorem zq_X10_longSign : Cond.initialized kX10_longSign.1.cls ∈ zT ∧ Cond.code kX10_longSign.1 kX10_longSign.2.1 kX10_longSign.2.2.1 kX10_longSign.2.2.2 ∈ zT := ⟨zT_of 2 (by decide +kernel) (by decide +kernel), zT_of 563 (by decide +kernel) (by decide +kernel)⟩
theorem zq_X10_numberAt : Cond.initialized kX10_numberAt.1.cls ∈ zT ∧ Cond.code kX10_numberAt.1 kX10_numberAt.2.1 kX10_numberAt.2.2.1 kX10_numberAt.2.2.2 ∈ zT := ⟨zT_of 2 (by decide +kernel) (by decide +kernel), zT_of 692 (by decide +kernel) (by decide +kernel)⟩
theorem zq_X10_setNumber : Cond.initialized kX10_setNumber.1.cls ∈ zT ∧ Cond.code kX10_setNumber.1 kX10_setNumber.2.1 kX10_setNumber.2.2.1 kX10_setNumber.2.2.2 ∈ zT := ⟨zT_of 2 (by decide +kernel) (by decide +kernel), zT_of 665 (by decide +kernel) (by decide +kernel)⟩
theorem zq_X10_shortSign : Cond.initialized kX10_shortSign.1.cls ∈ zT ∧ Cond.code kX10_shortSign.1 kX10_shortSign.2.1 kX10_shortSign.2.2.1 kX10_shortSign.2.2.2 ∈ zT := ⟨zT_of 2 (by decide +kernel) (by decide +kernel), zT_of 566 (by decide +kernel) (by decide +kernel)⟩
theorem zq_X10_size : Cond.initialized kX10_size.1.cls ∈ zT ∧ Cond.code kX10_size.1 kX10_size.2.1 kX10_size.2.2.1 kX10_size.2.2.2 ∈ zT := ⟨zT_of 2 (by decide +kernel) (by decide +kernel), zT_of 643 (by decide +kernel) (by decide +kernel)⟩
theorem zq_X10_tokenEnd : Cond.initialized kX10_tokenEnd.1.cls ∈ zT ∧ Cond.code kX10_tokenEnd.1 kX10_tokenEnd.2.1 kX10_tokenEnd.2.2.1 kX10_tokenEnd.2.2.2 ∈ zT := ⟨zT_of 2 (by decide +kernel) (by decide +kernel), zT_of 539 (by decide +kernel) (by decide +kernel)⟩
theorem zq_X10_valueAt : Cond.initialized kX10_valueAt.1.cls ∈ zT ∧ Cond.code kX10_valueAt.1 kX10_valueAt.2.1 kX10_valueAt.2.2.1 kX10_valueAt.2.2.2 ∈ zT := ⟨zT_of 2 (by decide +kernel) (by decide +kernel), zT_of 648 (by decide +kernel) (by decide +kernel)⟩
theorem zq_X10_valueOf : Cond.initialized kX10_valueOf.1.cls ∈ zT ∧ Cond.code kX10_valueOf.1 kX10_valueOf.2.1 kX10_valueOf.2.2.1 kX10_valueOf.2.2.2 ∈ zT := ⟨zT_of 2 (by decide +kernel) (by decide +kernel), zT_of 552 (by decide +kernel) (by decide +kernel)⟩
theorem zq_X10_wordOrName : Cond.initialized kX10_wordOrName.1.cls ∈ zT ∧ Cond.code kX10_wordOrName.1 kX10_wordOrName.2.1 kX10_wordOrName.2.2.1 kX10_wordOrName.2.2.2 ∈ zT := ⟨zT_of 2 (by decide +kernel) (by decide +kernel), zT_of 560 (by decide +kernel) (by decide +kernel)⟩
theorem zq_X11_again : Cond.initialized kX11_again.1.cls ∈ zT ∧ Cond.code kX11_again.1 kX11_again.2.1 kX11_again.2.2.1 kX11_again.2.2.2 ∈ zT := ⟨zT_of 1 (by decide +kernel) (by decide +kernel), zT_of 1023 (by decide +kernel) (by decide +kernel)⟩
theorem zq_X11_back : Cond.initialized kX11_back.1.cls ∈ zT ∧ Cond.code kX11_back.1 kX11_back.2.1 kX11_back.2.2.1 kX11_back.2.2.2 ∈ zT := ⟨zT_of 1 (by decide +kernel) (by decide +kernel), zT_of 519 (by decide +kernel) (by decide +kernel)⟩
theorem zq_X11_balls : Cond.initialized kX11_balls.1.cls ∈ zT ∧ Cond.code kX11_balls.1 kX11_balls.2.1 kX11_balls.2.2.1 kX11_balls.2.2.2 ∈ zT := ⟨zT_of 1 (by decide +kernel) (by decide +kernel), zT_of 1008 (by decide +kernel) (by decide +kernel)⟩
theorem zq_X11_begin : Cond.initialized kX11_begin.1.cls ∈ zT ∧ Cond.code kX11_begin.1 kX11_begin.2.1 kX11_begin.2.2.1 kX11_begin.2.2.2 ∈ zT := ⟨zT_of 1 (by decide +kernel) (by decide +kernel), zT_of 736 (by decide +kernel) (by decide +kernel)⟩
theorem zq_X11_coil : Cond.initialized kX11_coil.1.cls ∈ zT ∧ Cond.code kX11_coil.1 kX11_coil.2.1 kX11_coil.2.2.1 kX11_coil.2.2.2 ∈ zT := ⟨zT_of 1 (by decide +kernel) (by decide +kernel), zT_of 978 (by decide +kernel) (by decide +kernel)⟩
theorem zq_X11_count : Cond.initialized kX11_count.1.cls ∈ zT ∧ Cond.code kX11_count.1 kX11_count.2.1 kX11_count.2.2.1 kX11_count.2.2.2 ∈ zT := ⟨zT_of 1 (by decide +kernel) (by decide +kernel), zT_of 1031 (by decide +kernel) (by decide +kernel)⟩
theorem zq_X11_countInGame : Cond.initialized kX11_countInGame.1.cls ∈ zT ∧ Cond.code kX11_countInGame.1 kX11_countInGame.2.1 kX11_countInGame.2.2.1 kX11_countInGame.2.2.2 ∈ zT := ⟨zT_of 1 (by decide +kernel) (by decide +kernel), zT_of 1035 (by decide +kernel) (by decide +kernel)⟩
theorem zq_X11_feed : Cond.initialized kX11_feed.1.cls ∈ zT ∧ Cond.code kX11_feed.1 kX11_feed.2.1 kX11_feed.2.2.1 kX11_feed.2.2.2 ∈ zT := ⟨zT_of 1 (by decide +kernel) (by decide +kernel), zT_of 511 (by decide +kernel) (by decide +kernel)⟩
theorem zq_X11_lamp : Cond.initialized kX11_lamp.1.cls ∈ zT ∧ Cond.code kX11_lamp.1 kX11_lamp.2.1 kX11_lamp.2.2.1 kX11_lamp.2.2.2 ∈ zT := ⟨zT_of 1 (by decide +kernel) (by decide +kernel), zT_of 983 (by decide +kernel) (by decide +kernel)⟩
theorem zq_X11_mode : Cond.initialized kX11_mode.1.cls ∈ zT ∧ Cond.code kX11_mode.1 kX11_mode.2.1 kX11_mode.2.2.1 kX11_mode.2.2.2 ∈ zT := ⟨zT_of 1 (by decide +kernel) (by decide +kernel), zT_of 1004 (by decide +kernel) (by decide +kernel)⟩
theorem zq_X11_place : Cond.initialized kX11_place.1.cls ∈ zT ∧ Cond.code kX11_place.1 kX11_place.2.1 kX11_place.2.2.1 kX11_place.2.2.2 ∈ zT := ⟨zT_of 1 (by decide +kernel) (by decide +kernel), zT_of 732 (by decide +kernel) (by decide +kernel)⟩
theorem zq_X11_press : Cond.initialized kX11_press.1.cls ∈ zT ∧ Cond.code kX11_press.1 kX11_press.2.1 kX11_press.2.2.1 kX11_press.2.2.2 ∈ zT := ⟨zT_of 1 (by decide +kernel) (by decide +kernel), zT_of 908 (by decide +kernel) (by decide +kernel)⟩
theorem zq_X11_putBytes : Cond.initialized kX11_putBytes.1.cls ∈ zT ∧ Cond.code kX11_putBytes.1 kX11_putBytes.2.1 kX11_putBytes.2.2.1 kX11_putBytes.2.2.2 ∈ zT := ⟨zT_of 1 (by decide +kernel) (by decide +kernel), zT_of 515 (by decide +kernel) (by decide +kernel)⟩
theorem zq_X11_read : Cond.initialized kX11_read.1.cls ∈ zT ∧ Cond.code kX11_read.1 kX11_read.2.1 kX11_read.2.2.1 kX11_read.2.2.2 ∈ zT := ⟨zT_of 1 (by decide +kernel) (by decide +kernel), zT_of 523 (by decide +kernel) (by decide +kernel)⟩
theorem zq_X11_ring : Cond.initialized kX11_ring.1.cls ∈ zT ∧ Cond.code kX11_ring.1 kX11_ring.2.1 kX11_ring.2.2.1 kX11_ring.2.2.2 ∈ zT := ⟨zT_of 1 (by decide +kernel) (by decide +kernel), zT_of 1027 (by decide +kernel) (by decide +kernel)⟩
theorem zq_X11_score : Cond.initialized kX11_score.1.cls ∈ zT ∧ Cond.code kX11_score.1 kX11_score.2.1 kX11_score.2.2.1 kX11_score.2.2.2 ∈ zT := ⟨zT_of 1 (by decide +kernel) (by decide +kernel), zT_of 961 (by decide +kernel) (by decide +kernel)⟩
theorem zq_X11_ticks : Cond.initialized kX11_ticks.1.cls ∈ zT ∧ Cond.code kX11_ticks.1 kX11_ticks.2.1 kX11_ticks.2.2.1 kX11_ticks.2.2.2 ∈ zT := ⟨zT_of 1 (by decide +kernel) (by decide +kernel), zT_of 938 (by decide +kernel) (by decide +kernel)⟩
theorem zq_X11_told : Cond.initialized kX11_told.1.cls ∈ zT ∧ Cond.code kX11_told.1 kX11_told.2.1 kX11_told.2.2.1 kX11_told.2.2.2 ∈ zT := ⟨zT_of 1 (by decide +kernel) (by decide +kernel), zT_of 966 (by decide +kernel) (by decide +kernel)⟩
theorem zq_X11_value : Cond.initialized kX11_value.1.cls ∈ zT ∧ Cond.code kX11_value.1 kX11_value.2.1 kX11_value.2.2.1 kX11_value.2.2.2 ∈ zT := ⟨zT_of 1 (by decide +kernel) (by decide +kernel), zT_of 1000 (by decide +kernel) (by decide +kernel)⟩
theorem zq_X12_again : Cond.initialized kX12_again.1.cls ∈ zT ∧ Cond.code kX12_again.1 kX12_again.2.1 kX12_again.2.2.1 kX12_again.2.2.2 ∈ zT := ⟨zT_of 17 (by decide +kernel) (by decide +kernel), zT_of 1601 (by decide +kernel) (by decide +kernel)⟩
theorem zq_X12_asksBall : Cond.initialized kX12_asksBall.1.cls ∈ zT ∧ Cond.code kX12_asksBall.1 kX12_asksBall.2.1 kX12_asksBall.2.2.1 kX12_asksBall.2.2.2 ∈ zT := ⟨zT_of 17 (by decide +kernel) (by decide +kernel), zT_of 1544 (by decide +kernel) (by decide +kernel)⟩
theorem zq_X12_at : Cond.initialized kX12_at.1.cls ∈ zT ∧ Cond.code kX12_at.1 kX12_at.2.1 kX12_at.2.2.1 kX12_at.2.2.2 ∈ zT := ⟨zT_of 17 (by decide +kernel) (by decide +kernel), zT_of 1385 (by decide +kernel) (by decide +kernel)⟩
theorem zq_X12_back : Cond.initialized kX12_back.1.cls ∈ zT ∧ Cond.code kX12_back.1 kX12_back.2.1 kX12_back.2.2.1 kX12_back.2.2.2 ∈ zT := ⟨zT_of 17 (by decide +kernel) (by decide +kernel), zT_of 1373 (by decide +kernel) (by decide +kernel)⟩
theorem zq_X12_balls : Cond.initialized kX12_balls.1.cls ∈ zT ∧ Cond.code kX12_balls.1 kX12_balls.2.1 kX12_balls.2.2.1 kX12_balls.2.2.2 ∈ zT := ⟨zT_of 17 (by decide +kernel) (by decide +kernel), zT_of 1597 (by decide +kernel) (by decide +kernel)⟩
theorem zq_X12_begin : Cond.initialized kX12_begin.1.cls ∈ zT ∧ Cond.code kX12_begin.1 kX12_begin.2.1 kX12_begin.2.2.1 kX12_begin.2.2.2 ∈ zT := ⟨zT_of 17 (by decide +kernel) (by decide +kernel), zT_of 1472 (by decide +kernel) (by decide +kernel)⟩
theorem zq_X12_coil : Cond.initialized kX12_coil.1.cls ∈ zT ∧ Cond.code kX12_coil.1 kX12_coil.2.1 kX12_coil.2.2.1 kX12_coil.2.2.2 ∈ zT := ⟨zT_of 17 (by decide +kernel) (by decide +kernel), zT_of 1581 (by decide +kernel) (by decide +kernel)⟩
theorem zq_X12_comes : Cond.initialized kX12_comes.1.cls ∈ zT ∧ Cond.code kX12_comes.1 kX12_comes.2.1 kX12_comes.2.2.1 kX12_comes.2.2.2 ∈ zT := ⟨zT_of 17 (by decide +kernel) (by decide +kernel), zT_of 1488 (by decide +kernel) (by decide +kernel)⟩
theorem zq_X12_comesBack : Cond.initialized kX12_comesBack.1.cls ∈ zT ∧ Cond.code kX12_comesBack.1 kX12_comesBack.2.1 kX12_comesBack.2.2.1 kX12_comesBack.2.2.2 ∈ zT := ⟨zT_of 17 (by decide +kernel) (by decide +kernel), zT_of 1609 (by decide +kernel) (by decide +kernel)⟩
theorem zq_X12_comesOut : Cond.initialized kX12_comesOut.1.cls ∈ zT ∧ Cond.code kX12_comesOut.1 kX12_comesOut.2.1 kX12_comesOut.2.2.1 kX12_comesOut.2.2.2 ∈ zT := ⟨zT_of 17 (by decide +kernel) (by decide +kernel), zT_of 1460 (by decide +kernel) (by decide +kernel)⟩
theorem zq_X12_count : Cond.initialized kX12_count.1.cls ∈ zT ∧ Cond.code kX12_count.1 kX12_count.2.1 kX12_count.2.2.1 kX12_count.2.2.2 ∈ zT := ⟨zT_of 17 (by decide +kernel) (by decide +kernel), zT_of 1617 (by decide +kernel) (by decide +kernel)⟩
theorem zq_X12_cut : Cond.initialized kX12_cut.1.cls ∈ zT ∧ Cond.code kX12_cut.1 kX12_cut.2.1 kX12_cut.2.2.1 kX12_cut.2.2.2 ∈ zT := ⟨zT_of 17 (by decide +kernel) (by decide +kernel), zT_of 1381 (by decide +kernel) (by decide +kernel)⟩
theorem zq_X12_deep : Cond.initialized kX12_deep.1.cls ∈ zT ∧ Cond.code kX12_deep.1 kX12_deep.2.1 kX12_deep.2.2.1 kX12_deep.2.2.2 ∈ zT := ⟨zT_of 17 (by decide +kernel) (by decide +kernel), zT_of 1504 (by decide +kernel) (by decide +kernel)⟩
theorem zq_X12_does : Cond.initialized kX12_does.1.cls ∈ zT ∧ Cond.code kX12_does.1 kX12_does.2.1 kX12_does.2.2.1 kX12_does.2.2.2 ∈ zT := ⟨zT_of 17 (by decide +kernel) (by decide +kernel), zT_of 1516 (by decide +kernel) (by decide +kernel)⟩
theorem zq_X12_drains : Cond.initialized kX12_drains.1.cls ∈ zT ∧ Cond.code kX12_drains.1 kX12_drains.2.1 kX12_drains.2.2.1 kX12_drains.2.2.2 ∈ zT := ⟨zT_of 17 (by decide +kernel) (by decide +kernel), zT_of 1528 (by decide +kernel) (by decide +kernel)⟩
theorem zq_X12_emit : Cond.initialized kX12_emit.1.cls ∈ zT ∧ Cond.code kX12_emit.1 kX12_emit.2.1 kX12_emit.2.2.1 kX12_emit.2.2.2 ∈ zT := ⟨zT_of 17 (by decide +kernel) (by decide +kernel), zT_of 1456 (by decide +kernel) (by decide +kernel)⟩
theorem zq_X12_expression : Cond.initialized kX12_expression.1.cls ∈ zT ∧ Cond.code kX12_expression.1 kX12_expression.2.1 kX12_expression.2.2.1 kX12_expression.2.2.2 ∈ zT := ⟨zT_of 17 (by decide +kernel) (by decide +kernel), zT_of 1452 (by decide +kernel) (by decide +kernel)⟩
theorem zq_X12_fail : Cond.initialized kX12_fail.1.cls ∈ zT ∧ Cond.code kX12_fail.1 kX12_fail.2.1 kX12_fail.2.2.1 kX12_fail.2.2.2 ∈ zT := ⟨zT_of 17 (by decide +kernel) (by decide +kernel), zT_of 1408 (by decide +kernel) (by decide +kernel)⟩
theorem zq_X12_feed : Cond.initialized kX12_feed.1.cls ∈ zT ∧ Cond.code kX12_feed.1 kX12_feed.2.1 kX12_feed.2.2.1 kX12_feed.2.2.2 ∈ zT := ⟨zT_of 17 (by decide +kernel) (by decide +kernel), zT_of 1365 (by decide +kernel) (by decide +kernel)⟩
theorem zq_X12_fires : Cond.initialized kX12_fires.1.cls ∈ zT ∧ Cond.code kX12_fires.1 kX12_fires.2.1 kX12_fires.2.2.1 kX12_fires.2.2.2 ∈ zT := ⟨zT_of 17 (by decide +kernel) (by decide +kernel), zT_of 1568 (by decide +kernel) (by decide +kernel)⟩
theorem zq_X12_frame : Cond.initialized kX12_frame.1.cls ∈ zT ∧ Cond.code kX12_frame.1 kX12_frame.2.1 kX12_frame.2.2.1 kX12_frame.2.2.2 ∈ zT := ⟨zT_of 17 (by decide +kernel) (by decide +kernel), zT_of 1508 (by decide +kernel) (by decide +kernel)⟩
theorem zq_X12_holds : Cond.initialized kX12_holds.1.cls ∈ zT ∧ Cond.code kX12_holds.1 kX12_holds.2.1 kX12_holds.2.2.1 kX12_holds.2.2.2 ∈ zT := ⟨zT_of 17 (by decide +kernel) (by decide +kernel), zT_of 1540 (by decide +kernel) (by decide +kernel)⟩
theorem zq_X12_is : Cond.initialized kX12_is.1.cls ∈ zT ∧ Cond.code kX12_is.1 kX12_is.2.1 kX12_is.2.2.1 kX12_is.2.2.2 ∈ zT := ⟨zT_of 17 (by decide +kernel) (by decide +kernel), zT_of 1420 (by decide +kernel) (by decide +kernel)⟩
theorem zq_X12_isDigit : Cond.initialized kX12_isDigit.1.cls ∈ zT ∧ Cond.code kX12_isDigit.1 kX12_isDigit.2.1 kX12_isDigit.2.2.1 kX12_isDigit.2.2.2 ∈ zT := ⟨zT_of 17 (by decide +kernel) (by decide +kernel), zT_of 1052 (by decide +kernel) (by decide +kernel)⟩
theorem zq_X12_isFull : Cond.initialized kX12_isFull.1.cls ∈ zT ∧ Cond.code kX12_isFull.1 kX12_isFull.2.1 kX12_isFull.2.2.1 kX12_isFull.2.2.2 ∈ zT := ⟨zT_of 17 (by decide +kernel) (by decide +kernel), zT_of 1404 (by decide +kernel) (by decide +kernel)⟩
theorem zq_X12_isLetter : Cond.initialized kX12_isLetter.1.cls ∈ zT ∧ Cond.code kX12_isLetter.1 kX12_isLetter.2.1 kX12_isLetter.2.2.1 kX12_isLetter.2.2.2 ∈ zT := ⟨zT_of 17 (by decide +kernel) (by decide +kernel), zT_of 1392 (by decide +kernel) (by decide +kernel)⟩
theorem zq_X12_knows : Cond.initialized kX12_knows.1.cls ∈ zT ∧ Cond.code kX12_knows.1 kX12_knows.2.1 kX12_knows.2.2.1 kX12_knows.2.2.2 ∈ zT := ⟨zT_of 17 (by decide +kernel) (by decide +kernel), zT_of 1492 (by decide +kernel) (by decide +kernel)⟩
theorem zq_X12_lamp : Cond.initialized kX12_lamp.1.cls ∈ zT ∧ Cond.code kX12_lamp.1 kX12_lamp.2.1 kX12_lamp.2.2.1 kX12_lamp.2.2.2 ∈ zT := ⟨zT_of 17 (by decide +kernel) (by decide +kernel), zT_of 1585 (by decide +kernel) (by decide +kernel)⟩
theorem zq_X12_leadsOn : Cond.initialized kX12_leadsOn.1.cls ∈ zT ∧ Cond.code kX12_leadsOn.1 kX12_leadsOn.2.1 kX12_leadsOn.2.2.1 kX12_leadsOn.2.2.2 ∈ zT := ⟨zT_of 17 (by decide +kernel) (by decide +kernel), zT_of 1613 (by decide +kernel) (by decide +kernel)⟩
theorem zq_X12_leaves : Cond.initialized kX12_leaves.1.cls ∈ zT ∧ Cond.code kX12_leaves.1 kX12_leaves.2.1 kX12_leaves.2.2.1 kX12_leaves.2.2.2 ∈ zT := ⟨zT_of 17 (by decide +kernel) (by decide +kernel), zT_of 1524 (by decide +kernel) (by decide +kernel)⟩
theorem zq_X12_mode : Cond.initialized kX12_mode.1.cls ∈ zT ∧ Cond.code kX12_mode.1 kX12_mode.2.1 kX12_mode.2.2.1 kX12_mode.2.2.2 ∈ zT := ⟨zT_of 17 (by decide +kernel) (by decide +kernel), zT_of 1593 (by decide +kernel) (by decide +kernel)⟩
theorem zq_X12_more : Cond.initialized kX12_more.1.cls ∈ zT ∧ Cond.code kX12_more.1 kX12_more.2.1 kX12_more.2.2.1 kX12_more.2.2.2 ∈ zT := ⟨zT_of 17 (by decide +kernel) (by decide +kernel), zT_of 1048 (by decide +kernel) (by decide +kernel)⟩
theorem zq_X12_must : Cond.initialized kX12_must.1.cls ∈ zT ∧ Cond.code kX12_must.1 kX12_must.2.1 kX12_must.2.2.1 kX12_must.2.2.2 ∈ zT := ⟨zT_of 17 (by decide +kernel) (by decide +kernel), zT_of 1416 (by decide +kernel) (by decide +kernel)⟩
theorem zq_X12_named : Cond.initialized kX12_named.1.cls ∈ zT ∧ Cond.code kX12_named.1 kX12_named.2.1 kX12_named.2.2.1 kX12_named.2.2.2 ∈ zT := ⟨zT_of 17 (by decide +kernel) (by decide +kernel), zT_of 1436 (by decide +kernel) (by decide +kernel)⟩
theorem zq_X12_namedNext : Cond.initialized kX12_namedNext.1.cls ∈ zT ∧ Cond.code kX12_namedNext.1 kX12_namedNext.2.1 kX12_namedNext.2.2.1 kX12_namedNext.2.2.2 ∈ zT := ⟨zT_of 17 (by decide +kernel) (by decide +kernel), zT_of 1432 (by decide +kernel) (by decide +kernel)⟩
theorem zq_X12_next : Cond.initialized kX12_next.1.cls ∈ zT ∧ Cond.code kX12_next.1 kX12_next.2.1 kX12_next.2.2.1 kX12_next.2.2.2 ∈ zT := ⟨zT_of 17 (by decide +kernel) (by decide +kernel), zT_of 1412 (by decide +kernel) (by decide +kernel)⟩
theorem zq_X12_nextRule : Cond.initialized kX12_nextRule.1.cls ∈ zT ∧ Cond.code kX12_nextRule.1 kX12_nextRule.2.1 kX12_nextRule.2.2.1 kX12_nextRule.2.2.2 ∈ zT := ⟨zT_of 17 (by decide +kernel) (by decide +kernel), zT_of 1536 (by decide +kernel) (by decide +kernel)⟩
theorem zq_X12_noBalls : Cond.initialized kX12_noBalls.1.cls ∈ zT ∧ Cond.code kX12_noBalls.1 kX12_noBalls.2.1 kX12_noBalls.2.2.1 kX12_noBalls.2.2.2 ∈ zT := ⟨zT_of 17 (by decide +kernel) (by decide +kernel), zT_of 1484 (by decide +kernel) (by decide +kernel)⟩
theorem zq_X12_offs : Cond.initialized kX12_offs.1.cls ∈ zT ∧ Cond.code kX12_offs.1 kX12_offs.2.1 kX12_offs.2.2.1 kX12_offs.2.2.2 ∈ zT := ⟨zT_of 17 (by decide +kernel) (by decide +kernel), zT_of 1532 (by decide +kernel) (by decide +kernel)⟩
theorem zq_X12_oneTick : Cond.initialized kX12_oneTick.1.cls ∈ zT ∧ Cond.code kX12_oneTick.1 kX12_oneTick.2.1 kX12_oneTick.2.2.1 kX12_oneTick.2.2.2 ∈ zT := ⟨zT_of 17 (by decide +kernel) (by decide +kernel), zT_of 1564 (by decide +kernel) (by decide +kernel)⟩
theorem zq_X12_orders : Cond.initialized kX12_orders.1.cls ∈ zT ∧ Cond.code kX12_orders.1 kX12_orders.2.1 kX12_orders.2.2.1 kX12_orders.2.2.2 ∈ zT := ⟨zT_of 17 (by decide +kernel) (by decide +kernel), zT_of 1476 (by decide +kernel) (by decide +kernel)⟩
theorem zq_X12_passes : Cond.initialized kX12_passes.1.cls ∈ zT ∧ Cond.code kX12_passes.1 kX12_passes.2.1 kX12_passes.2.2.1 kX12_passes.2.2.2 ∈ zT := ⟨zT_of 17 (by decide +kernel) (by decide +kernel), zT_of 1552 (by decide +kernel) (by decide +kernel)⟩
theorem zq_X12_place : Cond.initialized kX12_place.1.cls ∈ zT ∧ Cond.code kX12_place.1 kX12_place.2.1 kX12_place.2.2.1 kX12_place.2.2.2 ∈ zT := ⟨zT_of 17 (by decide +kernel) (by decide +kernel), zT_of 1468 (by decide +kernel) (by decide +kernel)⟩
theorem zq_X12_press : Cond.initialized kX12_press.1.cls ∈ zT ∧ Cond.code kX12_press.1 kX12_press.2.1 kX12_press.2.2.1 kX12_press.2.2.2 ∈ zT := ⟨zT_of 17 (by decide +kernel) (by decide +kernel), zT_of 1548 (by decide +kernel) (by decide +kernel)⟩
theorem zq_X12_put : Cond.initialized kX12_put.1.cls ∈ zT ∧ Cond.code kX12_put.1 kX12_put.2.1 kX12_put.2.2.1 kX12_put.2.2.2 ∈ zT := ⟨zT_of 17 (by decide +kernel) (by decide +kernel), zT_of 1369 (by decide +kernel) (by decide +kernel)⟩
theorem zq_X12_read : Cond.initialized kX12_read.1.cls ∈ zT ∧ Cond.code kX12_read.1 kX12_read.2.1 kX12_read.2.2.1 kX12_read.2.2.2 ∈ zT := ⟨zT_of 17 (by decide +kernel) (by decide +kernel), zT_of 1377 (by decide +kernel) (by decide +kernel)⟩
theorem zq_X12_relation : Cond.initialized kX12_relation.1.cls ∈ zT ∧ Cond.code kX12_relation.1 kX12_relation.2.1 kX12_relation.2.2.1 kX12_relation.2.2.2 ∈ zT := ⟨zT_of 17 (by decide +kernel) (by decide +kernel), zT_of 1448 (by decide +kernel) (by decide +kernel)⟩
theorem zq_X12_remembers : Cond.initialized kX12_remembers.1.cls ∈ zT ∧ Cond.code kX12_remembers.1 kX12_remembers.2.1 kX12_remembers.2.2.1 kX12_remembers.2.2.2 ∈ zT := ⟨zT_of 17 (by decide +kernel) (by decide +kernel), zT_of 1556 (by decide +kernel) (by decide +kernel)⟩
theorem zq_X12_ring : Cond.initialized kX12_ring.1.cls ∈ zT ∧ Cond.code kX12_ring.1 kX12_ring.2.1 kX12_ring.2.2.1 kX12_ring.2.2.2 ∈ zT := ⟨zT_of 17 (by decide +kernel) (by decide +kernel), zT_of 1605 (by decide +kernel) (by decide +kernel)⟩
theorem zq_X12_score : Cond.initialized kX12_score.1.cls ∈ zT ∧ Cond.code kX12_score.1 kX12_score.2.1 kX12_score.2.2.1 kX12_score.2.2.2 ∈ zT := ⟨zT_of 17 (by decide +kernel) (by decide +kernel), zT_of 1572 (by decide +kernel) (by decide +kernel)⟩
theorem zq_X12_serves : Cond.initialized kX12_serves.1.cls ∈ zT ∧ Cond.code kX12_serves.1 kX12_serves.2.1 kX12_serves.2.2.1 kX12_serves.2.2.2 ∈ zT := ⟨zT_of 17 (by decide +kernel) (by decide +kernel), zT_of 1496 (by decide +kernel) (by decide +kernel)⟩
theorem zq_X12_sign : Cond.initialized kX12_sign.1.cls ∈ zT ∧ Cond.code kX12_sign.1 kX12_sign.2.1 kX12_sign.2.2.1 kX12_sign.2.2.2 ∈ zT := ⟨zT_of 17 (by decide +kernel) (by decide +kernel), zT_of 1396 (by decide +kernel) (by decide +kernel)⟩
theorem zq_X12_sort : Cond.initialized kX12_sort.1.cls ∈ zT ∧ Cond.code kX12_sort.1 kX12_sort.2.1 kX12_sort.2.2.1 kX12_sort.2.2.2 ∈ zT := ⟨zT_of 17 (by decide +kernel) (by decide +kernel), zT_of 1480 (by decide +kernel) (by decide +kernel)⟩
theorem zq_X12_starts : Cond.initialized kX12_starts.1.cls ∈ zT ∧ Cond.code kX12_starts.1 kX12_starts.2.1 kX12_starts.2.2.1 kX12_starts.2.2.2 ∈ zT := ⟨zT_of 17 (by decide +kernel) (by decide +kernel), zT_of 1500 (by decide +kernel) (by decide +kernel)⟩
theorem zq_X12_tellAct : Cond.initialized kX12_tellAct.1.cls ∈ zT ∧ Cond.code kX12_tellAct.1 kX12_tellAct.2.1 kX12_tellAct.2.2.1 kX12_tellAct.2.2.2 ∈ zT := ⟨zT_of 17 (by decide +kernel) (by decide +kernel), zT_of 1464 (by decide +kernel) (by decide +kernel)⟩
theorem zq_X12_tellMode : Cond.initialized kX12_tellMode.1.cls ∈ zT ∧ Cond.code kX12_tellMode.1 kX12_tellMode.2.1 kX12_tellMode.2.2.1 kX12_tellMode.2.2.2 ∈ zT := ⟨zT_of 17 (by decide +kernel) (by decide +kernel), zT_of 1440 (by decide +kernel) (by decide +kernel)⟩
theorem zq_X12_tellPart : Cond.initialized kX12_tellPart.1.cls ∈ zT ∧ Cond.code kX12_tellPart.1 kX12_tellPart.2.1 kX12_tellPart.2.2.1 kX12_tellPart.2.2.2 ∈ zT := ⟨zT_of 17 (by decide +kernel) (by decide +kernel), zT_of 1400 (by decide +kernel) (by decide +kernel)⟩
theorem zq_X12_tellRule : Cond.initialized kX12_tellRule.1.cls ∈ zT ∧ Cond.code kX12_tellRule.1 kX12_tellRule.2.1 kX12_tellRule.2.2.1 kX12_tellRule.2.2.2 ∈ zT := ⟨zT_of 17 (by decide +kernel) (by decide +kernel), zT_of 1444 (by decide +kernel) (by decide +kernel)⟩
theorem zq_X12_tells : Cond.initialized kX12_tells.1.cls ∈ zT ∧ Cond.code kX12_tells.1 kX12_tells.2.1 kX12_tells.2.2.1 kX12_tells.2.2.2 ∈ zT := ⟨zT_of 17 (by decide +kernel) (by decide +kernel), zT_of 1424 (by decide +kernel) (by decide +kernel)⟩
theorem zq_X12_term : Cond.initialized kX12_term.1.cls ∈ zT ∧ Cond.code kX12_term.1 kX12_term.2.1 kX12_term.2.2.1 kX12_term.2.2.2 ∈ zT := ⟨zT_of 17 (by decide +kernel) (by decide +kernel), zT_of 1520 (by decide +kernel) (by decide +kernel)⟩
theorem zq_X12_ticks : Cond.initialized kX12_ticks.1.cls ∈ zT ∧ Cond.code kX12_ticks.1 kX12_ticks.2.1 kX12_ticks.2.2.1 kX12_ticks.2.2.2 ∈ zT := ⟨zT_of 17 (by decide +kernel) (by decide +kernel), zT_of 1560 (by decide +kernel) (by decide +kernel)⟩
theorem zq_X12_token : Cond.initialized kX12_token.1.cls ∈ zT ∧ Cond.code kX12_token.1 kX12_token.2.1 kX12_token.2.2.1 kX12_token.2.2.2 ∈ zT := ⟨zT_of 17 (by decide +kernel) (by decide +kernel), zT_of 1389 (by decide +kernel) (by decide +kernel)⟩
theorem zq_X12_told : Cond.initialized kX12_told.1.cls ∈ zT ∧ Cond.code kX12_told.1 kX12_told.2.1 kX12_told.2.2.1 kX12_told.2.2.2 ∈ zT := ⟨zT_of 17 (by decide +kernel) (by decide +kernel), zT_of 1577 (by decide +kernel) (by decide +kernel)⟩
theorem zq_X12_value : Cond.initialized kX12_value.1.cls ∈ zT ∧ Cond.code kX12_value.1 kX12_value.2.1 kX12_value.2.2.1 kX12_value.2.2.2 ∈ zT := ⟨zT_of 17 (by decide +kernel) (by decide +kernel), zT_of 1589 (by decide +kernel) (by decide +kernel)⟩
theorem zq_X12_works : Cond.initialized kX12_works.1.cls ∈ zT ∧ Cond.code kX12_works.1 kX12_works.2.1 kX12_works.2.2.1 kX12_works.2.2.2 ∈ zT := ⟨zT_of 17 (by decide +kernel) (by decide +kernel), zT_of 1512 (by decide +kernel) (by decide +kernel)⟩
theorem zq_X12_wrong : Cond.initialized kX12_wrong.1.cls ∈ zT ∧ Cond.code kX12_wrong.1 kX12_wrong.2.1 kX12_wrong.2.2.1 kX12_wrong.2.2.2 ∈ zT := ⟨zT_of 17 (by decide +kernel) (by decide +kernel), zT_of 1428 (by decide +kernel) (by decide +kernel)⟩
theorem zq_X1_assign : Cond.initialized kX1_assign.1.cls ∈ zT ∧ Cond.code kX1_assign.1 kX1_assign.2.1 kX1_assign.2.2.1 kX1_assign.2.2.2 ∈ zT := ⟨zT_of 11 (by decide +kernel) (by decide +kernel), zT_of 874 (by decide +kernel) (by decide +kernel)⟩
theorem zq_X1_ballsOver : Cond.initialized kX1_ballsOver.1.cls ∈ zT ∧ Cond.code kX1_ballsOver.1 kX1_ballsOver.2.1 kX1_ballsOver.2.2.1 kX1_ballsOver.2.2.2 ∈ zT := ⟨zT_of 11 (by decide +kernel) (by decide +kernel), zT_of 970 (by decide +kernel) (by decide +kernel)⟩
theorem zq_X1_beginActs : Cond.initialized kX1_beginActs.1.cls ∈ zT ∧ Cond.code kX1_beginActs.1 kX1_beginActs.2.1 kX1_beginActs.2.2.1 kX1_beginActs.2.2.2 ∈ zT := ⟨zT_of 11 (by decide +kernel) (by decide +kernel), zT_of 785 (by decide +kernel) (by decide +kernel)⟩
theorem zq_X1_compares : Cond.initialized kX1_compares.1.cls ∈ zT ∧ Cond.code kX1_compares.1 kX1_compares.2.1 kX1_compares.2.2.1 kX1_compares.2.2.2 ∈ zT := ⟨zT_of 11 (by decide +kernel) (by decide +kernel), zT_of 853 (by decide +kernel) (by decide +kernel)⟩
theorem zq_X1_doActs : Cond.initialized kX1_doActs.1.cls ∈ zT ∧ Cond.code kX1_doActs.1 kX1_doActs.2.1 kX1_doActs.2.2.1 kX1_doActs.2.2.2 ∈ zT := ⟨zT_of 11 (by decide +kernel) (by decide +kernel), zT_of 857 (by decide +kernel) (by decide +kernel)⟩
theorem zq_X1_doRules : Cond.initialized kX1_doRules.1.cls ∈ zT ∧ Cond.code kX1_doRules.1 kX1_doRules.2.1 kX1_doRules.2.2.1 kX1_doRules.2.2.2 ∈ zT := ⟨zT_of 11 (by decide +kernel) (by decide +kernel), zT_of 801 (by decide +kernel) (by decide +kernel)⟩
theorem zq_X1_endBallIfNoneInPlay : Cond.initialized kX1_endBallIfNoneInPlay.1.cls ∈ zT ∧ Cond.code kX1_endBallIfNoneInPlay.1 kX1_endBallIfNoneInPlay.2.1 kX1_endBallIfNoneInPlay.2.2.1 kX1_endBallIfNoneInPlay.2.2.2 ∈ zT := ⟨zT_of 11 (by decide +kernel) (by decide +kernel), zT_of 904 (by decide +kernel) (by decide +kernel)⟩
theorem zq_X1_gain : Cond.initialized kX1_gain.1.cls ∈ zT ∧ Cond.code kX1_gain.1 kX1_gain.2.1 kX1_gain.2.2.1 kX1_gain.2.2.2 ∈ zT := ⟨zT_of 11 (by decide +kernel) (by decide +kernel), zT_of 867 (by decide +kernel) (by decide +kernel)⟩
theorem zq_X1_hit : Cond.initialized kX1_hit.1.cls ∈ zT ∧ Cond.code kX1_hit.1 kX1_hit.2.1 kX1_hit.2.2.1 kX1_hit.2.2.2 ∈ zT := ⟨zT_of 11 (by decide +kernel) (by decide +kernel), zT_of 913 (by decide +kernel) (by decide +kernel)⟩
theorem zq_X1_holds : Cond.initialized kX1_holds.1.cls ∈ zT ∧ Cond.code kX1_holds.1 kX1_holds.2.1 kX1_holds.2.2.1 kX1_holds.2.2.2 ∈ zT := ⟨zT_of 11 (by decide +kernel) (by decide +kernel), zT_of 817 (by decide +kernel) (by decide +kernel)⟩
theorem zq_X1_open : Cond.initialized kX1_open.1.cls ∈ zT ∧ Cond.code kX1_open.1 kX1_open.2.1 kX1_open.2.2.1 kX1_open.2.2.2 ∈ zT := ⟨zT_of 11 (by decide +kernel) (by decide +kernel), zT_of 740 (by decide +kernel) (by decide +kernel)⟩
theorem zq_X1_passTick : Cond.initialized kX1_passTick.1.cls ∈ zT ∧ Cond.code kX1_passTick.1 kX1_passTick.2.1 kX1_passTick.2.2.1 kX1_passTick.2.2.2 ∈ zT := ⟨zT_of 11 (by decide +kernel) (by decide +kernel), zT_of 942 (by decide +kernel) (by decide +kernel)⟩
theorem zq_X1_work : Cond.initialized kX1_work.1.cls ∈ zT ∧ Cond.code kX1_work.1 kX1_work.2.1 kX1_work.2.2.1 kX1_work.2.2.2 ∈ zT := ⟨zT_of 11 (by decide +kernel) (by decide +kernel), zT_of 825 (by decide +kernel) (by decide +kernel)⟩
theorem zq_X1_wouldPay : Cond.initialized kX1_wouldPay.1.cls ∈ zT ∧ Cond.code kX1_wouldPay.1 kX1_wouldPay.2.1 kX1_wouldPay.2.2.1 kX1_wouldPay.2.2.2 ∈ zT := ⟨zT_of 11 (by decide +kernel) (by decide +kernel), zT_of 987 (by decide +kernel) (by decide +kernel)⟩
theorem zq_X2_check : Cond.initialized kX2_check.1.cls ∈ zT ∧ Cond.code kX2_check.1 kX2_check.2.1 kX2_check.2.2.1 kX2_check.2.2.2 ∈ zT := ⟨zT_of 7 (by decide +kernel) (by decide +kernel), zT_of 570 (by decide +kernel) (by decide +kernel)⟩
theorem zq_X2_checkAct : Cond.initialized kX2_checkAct.1.cls ∈ zT ∧ Cond.code kX2_checkAct.1 kX2_checkAct.2.1 kX2_checkAct.2.2.1 kX2_checkAct.2.2.2 ∈ zT := ⟨zT_of 7 (by decide +kernel) (by decide +kernel), zT_of 628 (by decide +kernel) (by decide +kernel)⟩
theorem zq_X2_checkCond : Cond.initialized kX2_checkCond.1.cls ∈ zT ∧ Cond.code kX2_checkCond.1 kX2_checkCond.2.1 kX2_checkCond.2.2.1 kX2_checkCond.2.2.2 ∈ zT := ⟨zT_of 7 (by decide +kernel) (by decide +kernel), zT_of 617 (by decide +kernel) (by decide +kernel)⟩
theorem zq_X2_checkModeHead : Cond.initialized kX2_checkModeHead.1.cls ∈ zT ∧ Cond.code kX2_checkModeHead.1 kX2_checkModeHead.2.1 kX2_checkModeHead.2.2.1 kX2_checkModeHead.2.2.2 ∈ zT := ⟨zT_of 7 (by decide +kernel) (by decide +kernel), zT_of 609 (by decide +kernel) (by decide +kernel)⟩
theorem zq_X2_checkPart : Cond.initialized kX2_checkPart.1.cls ∈ zT ∧ Cond.code kX2_checkPart.1 kX2_checkPart.2.1 kX2_checkPart.2.2.1 kX2_checkPart.2.2.2 ∈ zT := ⟨zT_of 7 (by decide +kernel) (by decide +kernel), zT_of 582 (by decide +kernel) (by decide +kernel)⟩
theorem zq_X2_checkRule : Cond.initialized kX2_checkRule.1.cls ∈ zT ∧ Cond.code kX2_checkRule.1 kX2_checkRule.2.1 kX2_checkRule.2.2.1 kX2_checkRule.2.2.2 ∈ zT := ⟨zT_of 7 (by decide +kernel) (by decide +kernel), zT_of 613 (by decide +kernel) (by decide +kernel)⟩
theorem zq_X2_checkSum : Cond.initialized kX2_checkSum.1.cls ∈ zT ∧ Cond.code kX2_checkSum.1 kX2_checkSum.2.1 kX2_checkSum.2.2.1 kX2_checkSum.2.2.2 ∈ zT := ⟨zT_of 7 (by decide +kernel) (by decide +kernel), zT_of 621 (by decide +kernel) (by decide +kernel)⟩
theorem zq_X2_goesOnWithPart : Cond.initialized kX2_goesOnWithPart.1.cls ∈ zT ∧ Cond.code kX2_goesOnWithPart.1 kX2_goesOnWithPart.2.1 kX2_goesOnWithPart.2.2.1 kX2_goesOnWithPart.2.2.2 ∈ zT := ⟨zT_of 7 (by decide +kernel) (by decide +kernel), zT_of 574 (by decide +kernel) (by decide +kernel)⟩
theorem zq_X2_isAct : Cond.initialized kX2_isAct.1.cls ∈ zT ∧ Cond.code kX2_isAct.1 kX2_isAct.2.1 kX2_isAct.2.2.1 kX2_isAct.2.2.2 ∈ zT := ⟨zT_of 7 (by decide +kernel) (by decide +kernel), zT_of 631 (by decide +kernel) (by decide +kernel)⟩
theorem zq_X2_isRelation : Cond.initialized kX2_isRelation.1.cls ∈ zT ∧ Cond.code kX2_isRelation.1 kX2_isRelation.2.1 kX2_isRelation.2.2.1 kX2_isRelation.2.2.2 ∈ zT := ⟨zT_of 7 (by decide +kernel) (by decide +kernel), zT_of 624 (by decide +kernel) (by decide +kernel)⟩
theorem zq_X2_need : Cond.initialized kX2_need.1.cls ∈ zT ∧ Cond.code kX2_need.1 kX2_need.2.1 kX2_need.2.2.1 kX2_need.2.2.2 ∈ zT := ⟨zT_of 7 (by decide +kernel) (by decide +kernel), zT_of 601 (by decide +kernel) (by decide +kernel)⟩
theorem zq_X2_pass : Cond.initialized kX2_pass.1.cls ∈ zT ∧ Cond.code kX2_pass.1 kX2_pass.2.1 kX2_pass.2.2.1 kX2_pass.2.2.2 ∈ zT := ⟨zT_of 7 (by decide +kernel) (by decide +kernel), zT_of 597 (by decide +kernel) (by decide +kernel)⟩
theorem zq_X2_passNewOne : Cond.initialized kX2_passNewOne.1.cls ∈ zT ∧ Cond.code kX2_passNewOne.1 kX2_passNewOne.2.1 kX2_passNewOne.2.2.1 kX2_passNewOne.2.2.2 ∈ zT := ⟨zT_of 7 (by decide +kernel) (by decide +kernel), zT_of 589 (by decide +kernel) (by decide +kernel)⟩
theorem zq_X2_sees : Cond.initialized kX2_sees.1.cls ∈ zT ∧ Cond.code kX2_sees.1 kX2_sees.2.1 kX2_sees.2.2.1 kX2_sees.2.2.2 ∈ zT := ⟨zT_of 7 (by decide +kernel) (by decide +kernel), zT_of 605 (by decide +kernel) (by decide +kernel)⟩
theorem zq_X3_ballsAt : Cond.initialized kX3_ballsAt.1.cls ∈ zT ∧ Cond.code kX3_ballsAt.1 kX3_ballsAt.2.1 kX3_ballsAt.2.2.1 kX3_ballsAt.2.2.2 ∈ zT := ⟨zT_of 15 (by decide +kernel) (by decide +kernel), zT_of 1015 (by decide +kernel) (by decide +kernel)⟩
theorem zq_X3_clear : Cond.initialized kX3_clear.1.cls ∈ zT ∧ Cond.code kX3_clear.1 kX3_clear.2.1 kX3_clear.2.2.1 kX3_clear.2.2.2 ∈ zT := ⟨zT_of 15 (by decide +kernel) (by decide +kernel), zT_of 752 (by decide +kernel) (by decide +kernel)⟩
theorem zq_X3_dropBall : Cond.initialized kX3_dropBall.1.cls ∈ zT ∧ Cond.code kX3_dropBall.1 kX3_dropBall.2.1 kX3_dropBall.2.2.1 kX3_dropBall.2.2.2 ∈ zT := ⟨zT_of 15 (by decide +kernel) (by decide +kernel), zT_of 895 (by decide +kernel) (by decide +kernel)⟩
theorem zq_X3_leastAt : Cond.initialized kX3_leastAt.1.cls ∈ zT ∧ Cond.code kX3_leastAt.1 kX3_leastAt.2.1 kX3_leastAt.2.2.1 kX3_leastAt.2.2.2 ∈ zT := ⟨zT_of 15 (by decide +kernel) (by decide +kernel), zT_of 1019 (by decide +kernel) (by decide +kernel)⟩
theorem zq_X3_mostAt : Cond.initialized kX3_mostAt.1.cls ∈ zT ∧ Cond.code kX3_mostAt.1 kX3_mostAt.2.1 kX3_mostAt.2.2.1 kX3_mostAt.2.2.2 ∈ zT := ⟨zT_of 15 (by decide +kernel) (by decide +kernel), zT_of 1012 (by decide +kernel) (by decide +kernel)⟩
theorem zq_X3_moveAll : Cond.initialized kX3_moveAll.1.cls ∈ zT ∧ Cond.code kX3_moveAll.1 kX3_moveAll.2.1 kX3_moveAll.2.2.1 kX3_moveAll.2.2.2 ∈ zT := ⟨zT_of 15 (by decide +kernel) (by decide +kernel), zT_of 772 (by decide +kernel) (by decide +kernel)⟩
theorem zq_X3_moveBallBy : Cond.initialized kX3_moveBallBy.1.cls ∈ zT ∧ Cond.code kX3_moveBallBy.1 kX3_moveBallBy.2.1 kX3_moveBallBy.2.2.1 kX3_moveBallBy.2.2.2 ∈ zT := ⟨zT_of 15 (by decide +kernel) (by decide +kernel), zT_of 922 (by decide +kernel) (by decide +kernel)⟩
theorem zq_X3_moved : Cond.initialized kX3_moved.1.cls ∈ zT ∧ Cond.code kX3_moved.1 kX3_moved.2.1 kX3_moved.2.2.1 kX3_moved.2.2.2 ∈ zT := ⟨zT_of 15 (by decide +kernel) (by decide +kernel), zT_of 775 (by decide +kernel) (by decide +kernel)⟩
theorem zq_X3_put : Cond.initialized kX3_put.1.cls ∈ zT ∧ Cond.code kX3_put.1 kX3_put.2.1 kX3_put.2.2.1 kX3_put.2.2.2 ∈ zT := ⟨zT_of 15 (by decide +kernel) (by decide +kernel), zT_of 760 (by decide +kernel) (by decide +kernel)⟩
theorem zq_X3_putAll : Cond.initialized kX3_putAll.1.cls ∈ zT ∧ Cond.code kX3_putAll.1 kX3_putAll.2.1 kX3_putAll.2.2.1 kX3_putAll.2.2.2 ∈ zT := ⟨zT_of 15 (by decide +kernel) (by decide +kernel), zT_of 926 (by decide +kernel) (by decide +kernel)⟩
theorem zq_X3_spread : Cond.initialized kX3_spread.1.cls ∈ zT ∧ Cond.code kX3_spread.1 kX3_spread.2.1 kX3_spread.2.2.1 kX3_spread.2.2.2 ∈ zT := ⟨zT_of 15 (by decide +kernel) (by decide +kernel), zT_of 781 (by decide +kernel) (by decide +kernel)⟩
theorem zq_X3_takeBall : Cond.initialized kX3_takeBall.1.cls ∈ zT ∧ Cond.code kX3_takeBall.1 kX3_takeBall.2.1 kX3_takeBall.2.2.1 kX3_takeBall.2.2.2 ∈ zT := ⟨zT_of 15 (by decide +kernel) (by decide +kernel), zT_of 768 (by decide +kernel) (by decide +kernel)⟩
theorem zq_X3_turnOver : Cond.initialized kX3_turnOver.1.cls ∈ zT ∧ Cond.code kX3_turnOver.1 kX3_turnOver.2.1 kX3_turnOver.2.2.1 kX3_turnOver.2.2.2 ∈ zT := ⟨zT_of 15 (by decide +kernel) (by decide +kernel), zT_of 756 (by decide +kernel) (by decide +kernel)⟩
theorem zq_X4_clear : Cond.initialized kX4_clear.1.cls ∈ zT ∧ Cond.code kX4_clear.1 kX4_clear.2.1 kX4_clear.2.2.1 kX4_clear.2.2.2 ∈ zT := ⟨zT_of 16 (by decide +kernel) (by decide +kernel), zT_of 764 (by decide +kernel) (by decide +kernel)⟩
theorem zq_X4_isOn : Cond.initialized kX4_isOn.1.cls ∈ zT ∧ Cond.code kX4_isOn.1 kX4_isOn.2.1 kX4_isOn.2.2.1 kX4_isOn.2.2.2 ∈ zT := ⟨zT_of 16 (by decide +kernel) (by decide +kernel), zT_of 882 (by decide +kernel) (by decide +kernel)⟩
theorem zq_X4_isOnSinceThen : Cond.initialized kX4_isOnSinceThen.1.cls ∈ zT ∧ Cond.code kX4_isOnSinceThen.1 kX4_isOnSinceThen.2.1 kX4_isOnSinceThen.2.2.1 kX4_isOnSinceThen.2.2.2 ∈ zT := ⟨zT_of 16 (by decide +kernel) (by decide +kernel), zT_of 934 (by decide +kernel) (by decide +kernel)⟩
theorem zq_X4_offsOf : Cond.initialized kX4_offsOf.1.cls ∈ zT ∧ Cond.code kX4_offsOf.1 kX4_offsOf.2.1 kX4_offsOf.2.2.1 kX4_offsOf.2.2.2 ∈ zT := ⟨zT_of 16 (by decide +kernel) (by decide +kernel), zT_of 805 (by decide +kernel) (by decide +kernel)⟩
theorem zq_X4_passTimeOf : Cond.initialized kX4_passTimeOf.1.cls ∈ zT ∧ Cond.code kX4_passTimeOf.1 kX4_passTimeOf.2.1 kX4_passTimeOf.2.2.1 kX4_passTimeOf.2.2.2 ∈ zT := ⟨zT_of 16 (by decide +kernel) (by decide +kernel), zT_of 946 (by decide +kernel) (by decide +kernel)⟩
theorem zq_X4_remember : Cond.initialized kX4_remember.1.cls ∈ zT ∧ Cond.code kX4_remember.1 kX4_remember.2.1 kX4_remember.2.2.1 kX4_remember.2.2.2 ∈ zT := ⟨zT_of 16 (by decide +kernel) (by decide +kernel), zT_of 789 (by decide +kernel) (by decide +kernel)⟩
theorem zq_X4_timeLeftOf : Cond.initialized kX4_timeLeftOf.1.cls ∈ zT ∧ Cond.code kX4_timeLeftOf.1 kX4_timeLeftOf.2.1 kX4_timeLeftOf.2.2.1 kX4_timeLeftOf.2.2.2 ∈ zT := ⟨zT_of 16 (by decide +kernel) (by decide +kernel), zT_of 829 (by decide +kernel) (by decide +kernel)⟩
theorem zq_X4_turnOff : Cond.initialized kX4_turnOff.1.cls ∈ zT ∧ Cond.code kX4_turnOff.1 kX4_turnOff.2.1 kX4_turnOff.2.2.1 kX4_turnOff.2.2.2 ∈ zT := ⟨zT_of 16 (by decide +kernel) (by decide +kernel), zT_of 878 (by decide +kernel) (by decide +kernel)⟩
theorem zq_X4_turnOffAllButFirst : Cond.initialized kX4_turnOffAllButFirst.1.cls ∈ zT ∧ Cond.code kX4_turnOffAllButFirst.1 kX4_turnOffAllButFirst.2.1 kX4_turnOffAllButFirst.2.2.1 kX4_turnOffAllButFirst.2.2.2 ∈ zT := ⟨zT_of 16 (by decide +kernel) (by decide +kernel), zT_of 899 (by decide +kernel) (by decide +kernel)⟩
theorem zq_X4_turnOn : Cond.initialized kX4_turnOn.1.cls ∈ zT ∧ Cond.code kX4_turnOn.1 kX4_turnOn.2.1 kX4_turnOn.2.2.1 kX4_turnOn.2.2.2 ∈ zT := ⟨zT_of 16 (by decide +kernel) (by decide +kernel), zT_of 793 (by decide +kernel) (by decide +kernel)⟩
theorem zq_X5_check : Cond.initialized kX5_check.1.cls ∈ zT ∧ Cond.code kX5_check.1 kX5_check.2.1 kX5_check.2.2.1 kX5_check.2.2.2 ∈ zT := ⟨zT_of 8 (by decide +kernel) (by decide +kernel), zT_of 635 (by decide +kernel) (by decide +kernel)⟩
theorem zq_X5_checkName : Cond.initialized kX5_checkName.1.cls ∈ zT ∧ Cond.code kX5_checkName.1 kX5_checkName.2.1 kX5_checkName.2.2.1 kX5_checkName.2.2.2 ∈ zT := ⟨zT_of 8 (by decide +kernel) (by decide +kernel), zT_of 652 (by decide +kernel) (by decide +kernel)⟩
theorem zq_X5_checkSecondName : Cond.initialized kX5_checkSecondName.1.cls ∈ zT ∧ Cond.code kX5_checkSecondName.1 kX5_checkSecondName.2.1 kX5_checkSecondName.2.2.1 kX5_checkSecondName.2.2.2 ∈ zT := ⟨zT_of 8 (by decide +kernel) (by decide +kernel), zT_of 677 (by decide +kernel) (by decide +kernel)⟩
theorem zq_X5_gatherModes : Cond.initialized kX5_gatherModes.1.cls ∈ zT ∧ Cond.code kX5_gatherModes.1 kX5_gatherModes.2.1 kX5_gatherModes.2.2.1 kX5_gatherModes.2.2.2 ∈ zT := ⟨zT_of 8 (by decide +kernel) (by decide +kernel), zT_of 639 (by decide +kernel) (by decide +kernel)⟩
theorem zq_X5_modeNamed : Cond.initialized kX5_modeNamed.1.cls ∈ zT ∧ Cond.code kX5_modeNamed.1 kX5_modeNamed.2.1 kX5_modeNamed.2.2.1 kX5_modeNamed.2.2.2 ∈ zT := ⟨zT_of 8 (by decide +kernel) (by decide +kernel), zT_of 673 (by decide +kernel) (by decide +kernel)⟩
theorem zq_X5_tell : Cond.initialized kX5_tell.1.cls ∈ zT ∧ Cond.code kX5_tell.1 kX5_tell.2.1 kX5_tell.2.2.1 kX5_tell.2.2.2 ∈ zT := ⟨zT_of 8 (by decide +kernel) (by decide +kernel), zT_of 656 (by decide +kernel) (by decide +kernel)⟩
theorem zq_X5_telling : Cond.initialized kX5_telling.1.cls ∈ zT ∧ Cond.code kX5_telling.1 kX5_telling.2.1 kX5_telling.2.2.1 kX5_telling.2.2.2 ∈ zT := ⟨zT_of 8 (by decide +kernel) (by decide +kernel), zT_of 660 (by decide +kernel) (by decide +kernel)⟩
theorem zq_X5_use : Cond.initialized kX5_use.1.cls ∈ zT ∧ Cond.code kX5_use.1 kX5_use.2.1 kX5_use.2.2.1 kX5_use.2.2.2 ∈ zT := ⟨zT_of 8 (by decide +kernel) (by decide +kernel), zT_of 669 (by decide +kernel) (by decide +kernel)⟩
theorem zq_X6_actsOf : Cond.initialized kX6_actsOf.1.cls ∈ zT ∧ Cond.code kX6_actsOf.1 kX6_actsOf.2.1 kX6_actsOf.2.2.1 kX6_actsOf.2.2.2 ∈ zT := ⟨zT_of 10 (by decide +kernel) (by decide +kernel), zT_of 861 (by decide +kernel) (by decide +kernel)⟩
theorem zq_X6_addLead : Cond.initialized kX6_addLead.1.cls ∈ zT ∧ Cond.code kX6_addLead.1 kX6_addLead.2.1 kX6_addLead.2.2.1 kX6_addLead.2.2.2 ∈ zT := ⟨zT_of 10 (by decide +kernel) (by decide +kernel), zT_of 724 (by decide +kernel) (by decide +kernel)⟩
theorem zq_X6_condOf : Cond.initialized kX6_condOf.1.cls ∈ zT ∧ Cond.code kX6_condOf.1 kX6_condOf.2.1 kX6_condOf.2.2.1 kX6_condOf.2.2.2 ∈ zT := ⟨zT_of 10 (by decide +kernel) (by decide +kernel), zT_of 821 (by decide +kernel) (by decide +kernel)⟩
theorem zq_X6_findRing : Cond.initialized kX6_findRing.1.cls ∈ zT ∧ Cond.code kX6_findRing.1 kX6_findRing.2.1 kX6_findRing.2.2.1 kX6_findRing.2.2.2 ∈ zT := ⟨zT_of 10 (by decide +kernel) (by decide +kernel), zT_of 728 (by decide +kernel) (by decide +kernel)⟩
theorem zq_X6_hasHold : Cond.initialized kX6_hasHold.1.cls ∈ zT ∧ Cond.code kX6_hasHold.1 kX6_hasHold.2.1 kX6_hasHold.2.2.1 kX6_hasHold.2.2.2 ∈ zT := ⟨zT_of 10 (by decide +kernel) (by decide +kernel), zT_of 996 (by decide +kernel) (by decide +kernel)⟩
theorem zq_X6_headOf : Cond.initialized kX6_headOf.1.cls ∈ zT ∧ Cond.code kX6_headOf.1 kX6_headOf.2.1 kX6_headOf.2.2.1 kX6_headOf.2.2.2 ∈ zT := ⟨zT_of 10 (by decide +kernel) (by decide +kernel), zT_of 809 (by decide +kernel) (by decide +kernel)⟩
theorem zq_X6_isOn : Cond.initialized kX6_isOn.1.cls ∈ zT ∧ Cond.code kX6_isOn.1 kX6_isOn.2.1 kX6_isOn.2.2.1 kX6_isOn.2.2.2 ∈ zT := ⟨zT_of 10 (by decide +kernel) (by decide +kernel), zT_of 813 (by decide +kernel) (by decide +kernel)⟩
theorem zq_X6_kindAt : Cond.initialized kX6_kindAt.1.cls ∈ zT ∧ Cond.code kX6_kindAt.1 kX6_kindAt.2.1 kX6_kindAt.2.2.1 kX6_kindAt.2.2.2 ∈ zT := ⟨zT_of 10 (by decide +kernel) (by decide +kernel), zT_of 842 (by decide +kernel) (by decide +kernel)⟩
theorem zq_X6_nodeOf : Cond.initialized kX6_nodeOf.1.cls ∈ zT ∧ Cond.code kX6_nodeOf.1 kX6_nodeOf.2.1 kX6_nodeOf.2.2.1 kX6_nodeOf.2.2.2 ∈ zT := ⟨zT_of 10 (by decide +kernel) (by decide +kernel), zT_of 720 (by decide +kernel) (by decide +kernel)⟩
theorem zq_X6_numberAt : Cond.initialized kX6_numberAt.1.cls ∈ zT ∧ Cond.code kX6_numberAt.1 kX6_numberAt.2.1 kX6_numberAt.2.2.1 kX6_numberAt.2.2.2 ∈ zT := ⟨zT_of 10 (by decide +kernel) (by decide +kernel), zT_of 846 (by decide +kernel) (by decide +kernel)⟩
theorem zq_X6_openRule : Cond.initialized kX6_openRule.1.cls ∈ zT ∧ Cond.code kX6_openRule.1 kX6_openRule.2.1 kX6_openRule.2.2.1 kX6_openRule.2.2.2 ∈ zT := ⟨zT_of 10 (by decide +kernel) (by decide +kernel), zT_of 713 (by decide +kernel) (by decide +kernel)⟩
theorem zq_X6_pays : Cond.initialized kX6_pays.1.cls ∈ zT ∧ Cond.code kX6_pays.1 kX6_pays.2.1 kX6_pays.2.2.1 kX6_pays.2.2.2 ∈ zT := ⟨zT_of 10 (by decide +kernel) (by decide +kernel), zT_of 992 (by decide +kernel) (by decide +kernel)⟩
theorem zq_X6_size : Cond.initialized kX6_size.1.cls ∈ zT ∧ Cond.code kX6_size.1 kX6_size.2.1 kX6_size.2.2.1 kX6_size.2.2.2 ∈ zT := ⟨zT_of 10 (by decide +kernel) (by decide +kernel), zT_of 838 (by decide +kernel) (by decide +kernel)⟩
theorem zq_X6_takeFrom : Cond.initialized kX6_takeFrom.1.cls ∈ zT ∧ Cond.code kX6_takeFrom.1 kX6_takeFrom.2.1 kX6_takeFrom.2.2.1 kX6_takeFrom.2.2.2 ∈ zT := ⟨zT_of 10 (by decide +kernel) (by decide +kernel), zT_of 705 (by decide +kernel) (by decide +kernel)⟩
theorem zq_X6_takeIntoRule : Cond.initialized kX6_takeIntoRule.1.cls ∈ zT ∧ Cond.code kX6_takeIntoRule.1 kX6_takeIntoRule.2.1 kX6_takeIntoRule.2.2.1 kX6_takeIntoRule.2.2.2 ∈ zT := ⟨zT_of 10 (by decide +kernel) (by decide +kernel), zT_of 717 (by decide +kernel) (by decide +kernel)⟩
theorem zq_X7_unit : Cond.initialized kX7_unit.1.cls ∈ zT ∧ Cond.code kX7_unit.1 kX7_unit.2.1 kX7_unit.2.2.1 kX7_unit.2.2.2 ∈ zT := ⟨zT_of 12 (by decide +kernel) (by decide +kernel), zT_of 849 (by decide +kernel) (by decide +kernel)⟩
theorem zq_X7_work : Cond.initialized kX7_work.1.cls ∈ zT ∧ Cond.code kX7_work.1 kX7_work.2.1 kX7_work.2.2.1 kX7_work.2.2.2 ∈ zT := ⟨zT_of 12 (by decide +kernel) (by decide +kernel), zT_of 833 (by decide +kernel) (by decide +kernel)⟩
theorem zq_X8_clear : Cond.initialized kX8_clear.1.cls ∈ zT ∧ Cond.code kX8_clear.1 kX8_clear.2.1 kX8_clear.2.2.1 kX8_clear.2.2.2 ∈ zT := ⟨zT_of 13 (by decide +kernel) (by decide +kernel), zT_of 744 (by decide +kernel) (by decide +kernel)⟩
theorem zq_X8_isStuck : Cond.initialized kX8_isStuck.1.cls ∈ zT ∧ Cond.code kX8_isStuck.1 kX8_isStuck.2.1 kX8_isStuck.2.2.1 kX8_isStuck.2.2.2 ∈ zT := ⟨zT_of 13 (by decide +kernel) (by decide +kernel), zT_of 974 (by decide +kernel) (by decide +kernel)⟩
theorem zq_X8_take : Cond.initialized kX8_take.1.cls ∈ zT ∧ Cond.code kX8_take.1 kX8_take.2.1 kX8_take.2.2.1 kX8_take.2.2.2 ∈ zT := ⟨zT_of 13 (by decide +kernel) (by decide +kernel), zT_of 917 (by decide +kernel) (by decide +kernel)⟩
theorem zq_X9_has : Cond.initialized kX9_has.1.cls ∈ zT ∧ Cond.code kX9_has.1 kX9_has.2.1 kX9_has.2.2.1 kX9_has.2.2.2 ∈ zT := ⟨zT_of 9 (by decide +kernel) (by decide +kernel), zT_of 797 (by decide +kernel) (by decide +kernel)⟩
theorem zq_X9_inOrder : Cond.initialized kX9_inOrder.1.cls ∈ zT ∧ Cond.code kX9_inOrder.1 kX9_inOrder.2.1 kX9_inOrder.2.2.1 kX9_inOrder.2.2.2 ∈ zT := ⟨zT_of 9 (by decide +kernel) (by decide +kernel), zT_of 930 (by decide +kernel) (by decide +kernel)⟩
theorem zq_X9_putInOrder : Cond.initialized kX9_putInOrder.1.cls ∈ zT ∧ Cond.code kX9_putInOrder.1 kX9_putInOrder.2.1 kX9_putInOrder.2.2.1 kX9_putInOrder.2.2.2 ∈ zT := ⟨zT_of 9 (by decide +kernel) (by decide +kernel), zT_of 701 (by decide +kernel) (by decide +kernel)⟩
theorem zq_X9_roomFor : Cond.initialized kX9_roomFor.1.cls ∈ zT ∧ Cond.code kX9_roomFor.1 kX9_roomFor.2.1 kX9_roomFor.2.2.1 kX9_roomFor.2.2.2 ∈ zT := ⟨zT_of 9 (by decide +kernel) (by decide +kernel), zT_of 585 (by decide +kernel) (by decide +kernel)⟩
theorem zq_X9_setApart : Cond.initialized kX9_setApart.1.cls ∈ zT ∧ Cond.code kX9_setApart.1 kX9_setApart.2.1 kX9_setApart.2.2.1 kX9_setApart.2.2.2 ∈ zT := ⟨zT_of 9 (by decide +kernel) (by decide +kernel), zT_of 697 (by decide +kernel) (by decide +kernel)⟩
theorem zq_X9_takeFrom : Cond.initialized kX9_takeFrom.1.cls ∈ zT ∧ Cond.code kX9_takeFrom.1 kX9_takeFrom.2.1 kX9_takeFrom.2.2.1 kX9_takeFrom.2.2.2 ∈ zT := ⟨zT_of 9 (by decide +kernel) (by decide +kernel), zT_of 681 (by decide +kernel) (by decide +kernel)⟩
theorem zq_X9_takeOne : Cond.initialized kX9_takeOne.1.cls ∈ zT ∧ Cond.code kX9_takeOne.1 kX9_takeOne.2.1 kX9_takeOne.2.2.1 kX9_takeOne.2.2.2 ∈ zT := ⟨zT_of 9 (by decide +kernel) (by decide +kernel), zT_of 688 (by decide +kernel) (by decide +kernel)⟩
theorem zc_X0_29 : zCV RX0 29 kX9_has 2 := ⟨⟨zT_of 887 (by decide +kernel) (by decide +kernel), zq_X9_has.1, zq_X9_has.2, ⟨by decide +kernel, by decide +kernel, by decide +kernel⟩, by decide⟩, zT_of 795 (by decide +kernel) (by decide +kernel), zT_of 796 (by decide +kernel) (by decide +kernel)⟩
theorem zc_X0_35 : zCV RX0 35 kX0_placeInRow 1 := ⟨⟨zT_of 888 (by decide +kernel) (by decide +kernel), zq_X0_placeInRow.1, zq_X0_placeInRow.2, ⟨by decide +kernel, by decide +kernel, by decide +kernel⟩, by decide⟩, zT_of 889 (by decide +kernel) (by decide +kernel), zT_of 890 (by decide +kernel) (by decide +kernel)⟩
theorem zc_X0_45 : zCS RX0 45 kJ6_bitCount_0f7a4 1 := ⟨⟨zT_of 952 (by decide +kernel) (by decide +kernel), zq_J6_bitCount_0f7a4.1, zq_J6_bitCount_0f7a4.2, ⟨by decide +kernel, by decide +kernel, by decide +kernel⟩, by decide⟩, zT_of 953 (by decide +kernel) (by decide +kernel)⟩
theorem zc_X1_91 : zCV RX1 91 kX8_clear 0 := ⟨⟨zT_of 741 (by decide +kernel) (by decide +kernel), zq_X8_clear.1, zq_X8_clear.2, ⟨by decide +kernel, by decide +kernel, by decide +kernel⟩, by decide⟩, zT_of 742 (by decide +kernel) (by decide +kernel), zT_of 743 (by decide +kernel) (by decide +kernel)⟩
theorem zc_X1_94 : zCV RX1 94 kX0_clear 0 := ⟨⟨zT_of 745 (by decide +kernel) (by decide +kernel), zq_X0_clear.1, zq_X0_clear.2, ⟨by decide +kernel, by decide +kernel, by decide +kernel⟩, by decide⟩, zT_of 746 (by decide +kernel) (by decide +kernel), zT_of 747 (by decide +kernel) (by decide +kernel)⟩
theorem zc_X1_95 : zCV RX1 95 kX3_clear 0 := ⟨⟨zT_of 749 (by decide +kernel) (by decide +kernel), zq_X3_clear.1, zq_X3_clear.2, ⟨by decide +kernel, by decide +kernel, by decide +kernel⟩, by decide⟩, zT_of 750 (by decide +kernel) (by decide +kernel), zT_of 751 (by decide +kernel) (by decide +kernel)⟩
theorem zc_X1_99 : zCV RX1 99 kX4_clear 0 := ⟨⟨zT_of 761 (by decide +kernel) (by decide +kernel), zq_X4_clear.1, zq_X4_clear.2, ⟨by decide +kernel, by decide +kernel, by decide +kernel⟩, by decide⟩, zT_of 762 (by decide +kernel) (by decide +kernel), zT_of 763 (by decide +kernel) (by decide +kernel)⟩
theorem zc_X1_100 : zCV RX1 100 kX3_takeBall 0 := ⟨⟨zT_of 765 (by decide +kernel) (by decide +kernel), zq_X3_takeBall.1, zq_X3_takeBall.2, ⟨by decide +kernel, by decide +kernel, by decide +kernel⟩, by decide⟩, zT_of 766 (by decide +kernel) (by decide +kernel), zT_of 767 (by decide +kernel) (by decide +kernel)⟩
theorem zc_X1_103 : zCV RX1 103 kX1_beginActs 0 := ⟨⟨zT_of 782 (by decide +kernel) (by decide +kernel), zq_X1_beginActs.1, zq_X1_beginActs.2, ⟨by decide +kernel, by decide +kernel, by decide +kernel⟩, by decide⟩, zT_of 784 (by decide +kernel) (by decide +kernel), zT_sel 32 (q := (kX1_beginActs.1, 15)) (by decide +kernel) (by decide +kernel)⟩
theorem zc_X1_106 : zCV RX1 106 kX4_turnOn 1 := ⟨⟨zT_of 790 (by decide +kernel) (by decide +kernel), zq_X4_turnOn.1, zq_X4_turnOn.2, ⟨by decide +kernel, by decide +kernel, by decide +kernel⟩, by decide⟩, zT_of 791 (by decide +kernel) (by decide +kernel), zT_of 792 (by decide +kernel) (by decide +kernel)⟩
theorem zc_X1_110 : zCV RX1 110 kX1_doRules 3 := ⟨⟨zT_of 798 (by decide +kernel) (by decide +kernel), zq_X1_doRules.1, zq_X1_doRules.2, ⟨by decide +kernel, by decide +kernel, by decide +kernel⟩, by decide⟩, zT_of 800 (by decide +kernel) (by decide +kernel), zT_sel 33 (q := (kX1_doRules.1, 15)) (by decide +kernel) (by decide +kernel)⟩
theorem zc_X1_114 : zCV RX1 114 kX1_endBallIfNoneInPlay 0 := ⟨⟨zT_of 901 (by decide +kernel) (by decide +kernel), zq_X1_endBallIfNoneInPlay.1, zq_X1_endBallIfNoneInPlay.2, ⟨by decide +kernel, by decide +kernel, by decide +kernel⟩, by decide⟩, zT_of 903 (by decide +kernel) (by decide +kernel), zT_sel 39 (q := (kX1_endBallIfNoneInPlay.1, 15)) (by decide +kernel) (by decide +kernel)⟩
theorem zc_X1_117 : zCV RX1 117 kX8_take 3 := ⟨⟨zT_of 914 (by decide +kernel) (by decide +kernel), zq_X8_take.1, zq_X8_take.2, ⟨by decide +kernel, by decide +kernel, by decide +kernel⟩, by decide⟩, zT_of 915 (by decide +kernel) (by decide +kernel), zT_of 916 (by decide +kernel) (by decide +kernel)⟩
theorem zc_X1_121 : zCV RX1 121 kX3_moveBallBy 1 := ⟨⟨zT_of 919 (by decide +kernel) (by decide +kernel), zq_X3_moveBallBy.1, zq_X3_moveBallBy.2, ⟨by decide +kernel, by decide +kernel, by decide +kernel⟩, by decide⟩, zT_of 920 (by decide +kernel) (by decide +kernel), zT_of 921 (by decide +kernel) (by decide +kernel)⟩
theorem zc_X1_128 : zCV RX1 128 kX9_inOrder 1 := ⟨⟨zT_of 927 (by decide +kernel) (by decide +kernel), zq_X9_inOrder.1, zq_X9_inOrder.2, ⟨by decide +kernel, by decide +kernel, by decide +kernel⟩, by decide⟩, zT_of 928 (by decide +kernel) (by decide +kernel), zT_of 929 (by decide +kernel) (by decide +kernel)⟩
theorem zc_X1_132 : zCV RX1 132 kX4_isOnSinceThen 1 := ⟨⟨zT_of 931 (by decide +kernel) (by decide +kernel), zq_X4_isOnSinceThen.1, zq_X4_isOnSinceThen.2, ⟨by decide +kernel, by decide +kernel, by decide +kernel⟩, by decide⟩, zT_of 932 (by decide +kernel) (by decide +kernel), zT_of 933 (by decide +kernel) (by decide +kernel)⟩
theorem zc_X1_138 : zCV RX1 138 kX4_passTimeOf 1 := ⟨⟨zT_of 943 (by decide +kernel) (by decide +kernel), zq_X4_passTimeOf.1, zq_X4_passTimeOf.2, ⟨by decide +kernel, by decide +kernel, by decide +kernel⟩, by decide⟩, zT_of 944 (by decide +kernel) (by decide +kernel), zT_of 945 (by decide +kernel) (by decide +kernel)⟩
theorem zc_X1_141 : zCV RX1 141 kX4_turnOff 1 := ⟨⟨zT_of 875 (by decide +kernel) (by decide +kernel), zq_X4_turnOff.1, zq_X4_turnOff.2, ⟨by decide +kernel, by decide +kernel, by decide +kernel⟩, by decide⟩, zT_of 876 (by decide +kernel) (by decide +kernel), zT_of 877 (by decide +kernel) (by decide +kernel)⟩
theorem zc_X1_144 : zCV RX1 144 kX0_fireAt 1 := ⟨⟨zT_of 948 (by decide +kernel) (by decide +kernel), zq_X0_fireAt.1, zq_X0_fireAt.2, ⟨by decide +kernel, by decide +kernel, by decide +kernel⟩, by decide⟩, zT_of 949 (by decide +kernel) (by decide +kernel), zT_of 950 (by decide +kernel) (by decide +kernel)⟩
theorem zc_X1_147 : zCV RX1 147 kX4_remember 0 := ⟨⟨zT_of 786 (by decide +kernel) (by decide +kernel), zq_X4_remember.1, zq_X4_remember.2, ⟨by decide +kernel, by decide +kernel, by decide +kernel⟩, by decide⟩, zT_of 787 (by decide +kernel) (by decide +kernel), zT_of 788 (by decide +kernel) (by decide +kernel)⟩
theorem zc_X1_153 : zCV RX1 153 kX4_turnOffAllButFirst 0 := ⟨⟨zT_of 896 (by decide +kernel) (by decide +kernel), zq_X4_turnOffAllButFirst.1, zq_X4_turnOffAllButFirst.2, ⟨by decide +kernel, by decide +kernel, by decide +kernel⟩, by decide⟩, zT_of 897 (by decide +kernel) (by decide +kernel), zT_of 898 (by decide +kernel) (by decide +kernel)⟩
theorem zc_X1_156 : zCV RX1 156 kX4_offsOf 1 := ⟨⟨zT_of 802 (by decide +kernel) (by decide +kernel), zq_X4_offsOf.1, zq_X4_offsOf.2, ⟨by decide +kernel, by decide +kernel, by decide +kernel⟩, by decide⟩, zT_of 803 (by decide +kernel) (by decide +kernel), zT_of 804 (by decide +kernel) (by decide +kernel)⟩
theorem zc_X1_159 : zCV RX1 159 kX6_headOf 1 := ⟨⟨zT_of 806 (by decide +kernel) (by decide +kernel), zq_X6_headOf.1, zq_X6_headOf.2, ⟨by decide +kernel, by decide +kernel, by decide +kernel⟩, by decide⟩, zT_of 807 (by decide +kernel) (by decide +kernel), zT_of 808 (by decide +kernel) (by decide +kernel)⟩
theorem zc_X1_164 : zCV RX1 164 kX6_isOn 2 := ⟨⟨zT_of 810 (by decide +kernel) (by decide +kernel), zq_X6_isOn.1, zq_X6_isOn.2, ⟨by decide +kernel, by decide +kernel, by decide +kernel⟩, by decide⟩, zT_of 811 (by decide +kernel) (by decide +kernel), zT_of 812 (by decide +kernel) (by decide +kernel)⟩
theorem zc_X1_168 : zCV RX1 168 kX1_holds 2 := ⟨⟨zT_of 814 (by decide +kernel) (by decide +kernel), zq_X1_holds.1, zq_X1_holds.2, ⟨by decide +kernel, by decide +kernel, by decide +kernel⟩, by decide⟩, zT_of 816 (by decide +kernel) (by decide +kernel), zT_sel 34 (q := (kX1_holds.1, 15)) (by decide +kernel) (by decide +kernel)⟩
theorem zc_X1_171 : zCV RX1 171 kX1_doActs 3 := ⟨⟨zT_of 854 (by decide +kernel) (by decide +kernel), zq_X1_doActs.1, zq_X1_doActs.2, ⟨by decide +kernel, by decide +kernel, by decide +kernel⟩, by decide⟩, zT_of 856 (by decide +kernel) (by decide +kernel), zT_sel 36 (q := (kX1_doActs.1, 15)) (by decide +kernel) (by decide +kernel)⟩
theorem zc_X1_174 : zCV RX1 174 kX6_actsOf 1 := ⟨⟨zT_of 858 (by decide +kernel) (by decide +kernel), zq_X6_actsOf.1, zq_X6_actsOf.2, ⟨by decide +kernel, by decide +kernel, by decide +kernel⟩, by decide⟩, zT_of 859 (by decide +kernel) (by decide +kernel), zT_of 860 (by decide +kernel) (by decide +kernel)⟩
theorem zc_X1_177 : zCV RX1 177 kX6_size 0 := ⟨⟨zT_of 862 (by decide +kernel) (by decide +kernel), zq_X6_size.1, zq_X6_size.2, ⟨by decide +kernel, by decide +kernel, by decide +kernel⟩, by decide⟩, zT_of 836 (by decide +kernel) (by decide +kernel), zT_of 837 (by decide +kernel) (by decide +kernel)⟩
theorem zc_X1_181 : zCV RX1 181 kX6_kindAt 1 := ⟨⟨zT_of 850 (by decide +kernel) (by decide +kernel), zq_X6_kindAt.1, zq_X6_kindAt.2, ⟨by decide +kernel, by decide +kernel, by decide +kernel⟩, by decide⟩, zT_of 840 (by decide +kernel) (by decide +kernel), zT_of 841 (by decide +kernel) (by decide +kernel)⟩
theorem zc_X1_184 : zCV RX1 184 kX6_numberAt 1 := ⟨⟨zT_of 863 (by decide +kernel) (by decide +kernel), zq_X6_numberAt.1, zq_X6_numberAt.2, ⟨by decide +kernel, by decide +kernel, by decide +kernel⟩, by decide⟩, zT_of 844 (by decide +kernel) (by decide +kernel), zT_of 845 (by decide +kernel) (by decide +kernel)⟩
theorem zc_X1_187 : zCV RX1 187 kX1_work 2 := ⟨⟨zT_of 822 (by decide +kernel) (by decide +kernel), zq_X1_work.1, zq_X1_work.2, ⟨by decide +kernel, by decide +kernel, by decide +kernel⟩, by decide⟩, zT_of 824 (by decide +kernel) (by decide +kernel), zT_sel 35 (q := (kX1_work.1, 15)) (by decide +kernel) (by decide +kernel)⟩
theorem zc_X1_191 : zCV RX1 191 kX1_gain 1 := ⟨⟨zT_of 864 (by decide +kernel) (by decide +kernel), zq_X1_gain.1, zq_X1_gain.2, ⟨by decide +kernel, by decide +kernel, by decide +kernel⟩, by decide⟩, zT_of 866 (by decide +kernel) (by decide +kernel), zT_sel 37 (q := (kX1_gain.1, 15)) (by decide +kernel) (by decide +kernel)⟩
theorem zc_X1_194 : zCV RX1 194 kX1_assign 2 := ⟨⟨zT_of 871 (by decide +kernel) (by decide +kernel), zq_X1_assign.1, zq_X1_assign.2, ⟨by decide +kernel, by decide +kernel, by decide +kernel⟩, by decide⟩, zT_of 873 (by decide +kernel) (by decide +kernel), zT_sel 38 (q := (kX1_assign.1, 15)) (by decide +kernel) (by decide +kernel)⟩
theorem zc_X1_198 : zCV RX1 198 kX0_await 1 := ⟨⟨zT_of 883 (by decide +kernel) (by decide +kernel), zq_X0_await.1, zq_X0_await.2, ⟨by decide +kernel, by decide +kernel, by decide +kernel⟩, by decide⟩, zT_of 884 (by decide +kernel) (by decide +kernel), zT_of 885 (by decide +kernel) (by decide +kernel)⟩
theorem zc_X1_201 : zCV RX1 201 kX3_dropBall 0 := ⟨⟨zT_of 892 (by decide +kernel) (by decide +kernel), zq_X3_dropBall.1, zq_X3_dropBall.2, ⟨by decide +kernel, by decide +kernel, by decide +kernel⟩, by decide⟩, zT_of 893 (by decide +kernel) (by decide +kernel), zT_of 894 (by decide +kernel) (by decide +kernel)⟩
theorem zc_X1_204 : zCS RX1 204 kJ9_max_f86c9 2 := ⟨⟨zT_of 868 (by decide +kernel) (by decide +kernel), zq_J9_max_f86c9.1, zq_J9_max_f86c9.2, ⟨by decide +kernel, by decide +kernel, by decide +kernel⟩, by decide⟩, zT_of 869 (by decide +kernel) (by decide +kernel)⟩
theorem zc_X1_210 : zCV RX1 210 kX4_timeLeftOf 1 := ⟨⟨zT_of 826 (by decide +kernel) (by decide +kernel), zq_X4_timeLeftOf.1, zq_X4_timeLeftOf.2, ⟨by decide +kernel, by decide +kernel, by decide +kernel⟩, by decide⟩, zT_of 827 (by decide +kernel) (by decide +kernel), zT_of 828 (by decide +kernel) (by decide +kernel)⟩
theorem zc_X1_213 : zCV RX1 213 kX7_work 4 := ⟨⟨zT_of 830 (by decide +kernel) (by decide +kernel), zq_X7_work.1, zq_X7_work.2, ⟨by decide +kernel, by decide +kernel, by decide +kernel⟩, by decide⟩, zT_of 831 (by decide +kernel) (by decide +kernel), zT_of 832 (by decide +kernel) (by decide +kernel)⟩
theorem zc_X1_216 : zCV RX1 216 kX6_condOf 1 := ⟨⟨zT_of 818 (by decide +kernel) (by decide +kernel), zq_X6_condOf.1, zq_X6_condOf.2, ⟨by decide +kernel, by decide +kernel, by decide +kernel⟩, by decide⟩, zT_of 819 (by decide +kernel) (by decide +kernel), zT_of 820 (by decide +kernel) (by decide +kernel)⟩
theorem zc_X1_222 : zCS RX1 222 kX1_compares 3 := ⟨⟨zT_of 851 (by decide +kernel) (by decide +kernel), zq_X1_compares.1, zq_X1_compares.2, ⟨by decide +kernel, by decide +kernel, by decide +kernel⟩, by decide⟩, zT_of 852 (by decide +kernel) (by decide +kernel)⟩
theorem zc_X1_225 : zCV RX1 225 kX4_isOn 1 := ⟨⟨zT_of 988 (by decide +kernel) (by decide +kernel), zq_X4_isOn.1, zq_X4_isOn.2, ⟨by decide +kernel, by decide +kernel, by decide +kernel⟩, by decide⟩, zT_of 880 (by decide +kernel) (by decide +kernel), zT_of 881 (by decide +kernel) (by decide +kernel)⟩
theorem zc_X1_227 : zCV RX1 227 kX6_pays 1 := ⟨⟨zT_of 989 (by decide +kernel) (by decide +kernel), zq_X6_pays.1, zq_X6_pays.2, ⟨by decide +kernel, by decide +kernel, by decide +kernel⟩, by decide⟩, zT_of 990 (by decide +kernel) (by decide +kernel), zT_of 991 (by decide +kernel) (by decide +kernel)⟩
theorem zc_X1_230 : zCV RX1 230 kX6_hasHold 1 := ⟨⟨zT_of 993 (by decide +kernel) (by decide +kernel), zq_X6_hasHold.1, zq_X6_hasHold.2, ⟨by decide +kernel, by decide +kernel, by decide +kernel⟩, by decide⟩, zT_of 994 (by decide +kernel) (by decide +kernel), zT_of 995 (by decide +kernel) (by decide +kernel)⟩
theorem zc_X10_48 : zCS RX10 48 kJ9_min_7cf53 2 := ⟨⟨zT_of 528 (by decide +kernel) (by decide +kernel), zq_J9_min_7cf53.1, zq_J9_min_7cf53.2, ⟨by decide +kernel, by decide +kernel, by decide +kernel⟩, by decide⟩, zT_of 529 (by decide +kernel) (by decide +kernel)⟩
theorem zc_X10_54 : zCS RX10 54 kX10_behindBlanks 3 := ⟨⟨zT_of 531 (by decide +kernel) (by decide +kernel), zq_X10_behindBlanks.1, zq_X10_behindBlanks.2, ⟨by decide +kernel, by decide +kernel, by decide +kernel⟩, by decide⟩, zT_of 532 (by decide +kernel) (by decide +kernel)⟩
theorem zc_X10_58 : zCS RX10 58 kX10_tokenEnd 3 := ⟨⟨zT_of 537 (by decide +kernel) (by decide +kernel), zq_X10_tokenEnd.1, zq_X10_tokenEnd.2, ⟨by decide +kernel, by decide +kernel, by decide +kernel⟩, by decide⟩, zT_of 538 (by decide +kernel) (by decide +kernel)⟩
theorem zc_X10_61 : zCV RX10 61 kX10_kindOf 3 := ⟨⟨zT_of 546 (by decide +kernel) (by decide +kernel), zq_X10_kindOf.1, zq_X10_kindOf.2, ⟨by decide +kernel, by decide +kernel, by decide +kernel⟩, by decide⟩, zT_of 548 (by decide +kernel) (by decide +kernel), zT_sel 1 (q := (kX10_kindOf.1, 7)) (by decide +kernel) (by decide +kernel)⟩
theorem zc_X10_64 : zCS RX10 64 kX10_valueOf 4 := ⟨⟨zT_of 550 (by decide +kernel) (by decide +kernel), zq_X10_valueOf.1, zq_X10_valueOf.2, ⟨by decide +kernel, by decide +kernel, by decide +kernel⟩, by decide⟩, zT_of 551 (by decide +kernel) (by decide +kernel)⟩
theorem zc_X10_68 : zCS RX10 68 kX10_isBlank 1 := ⟨⟨zT_of 534 (by decide +kernel) (by decide +kernel), zq_X10_isBlank.1, zq_X10_isBlank.2, ⟨by decide +kernel, by decide +kernel, by decide +kernel⟩, by decide⟩, zT_of 535 (by decide +kernel) (by decide +kernel)⟩
theorem zc_X10_72 : zCS RX10 72 kX10_isLetter 1 := ⟨⟨zT_of 540 (by decide +kernel) (by decide +kernel), zq_X10_isLetter.1, zq_X10_isLetter.2, ⟨by decide +kernel, by decide +kernel, by decide +kernel⟩, by decide⟩, zT_of 541 (by decide +kernel) (by decide +kernel)⟩
theorem zc_X10_75 : zCS RX10 75 kX10_isDigit 1 := ⟨⟨zT_of 543 (by decide +kernel) (by decide +kernel), zq_X10_isDigit.1, zq_X10_isDigit.2, ⟨by decide +kernel, by decide +kernel, by decide +kernel⟩, by decide⟩, zT_of 544 (by decide +kernel) (by decide +kernel)⟩
theorem zc_X10_78 : zCV RX10 78 kX10_wordOrName 1 := ⟨⟨zT_of 557 (by decide +kernel) (by decide +kernel), zq_X10_wordOrName.1, zq_X10_wordOrName.2, ⟨by decide +kernel, by decide +kernel, by decide +kernel⟩, by decide⟩, zT_of 559 (by decide +kernel) (by decide +kernel), zT_sel 2 (q := (kX10_wordOrName.1, 7)) (by decide +kernel) (by decide +kernel)⟩
theorem zc_X10_82 : zCS RX10 82 kX10_longSign 1 := ⟨⟨zT_of 561 (by decide +kernel) (by decide +kernel), zq_X10_longSign.1, zq_X10_longSign.2, ⟨by decide +kernel, by decide +kernel, by decide +kernel⟩, by decide⟩, zT_of 562 (by decide +kernel) (by decide +kernel)⟩
theorem zc_X10_86 : zCS RX10 86 kX10_shortSign 1 := ⟨⟨zT_of 564 (by decide +kernel) (by decide +kernel), zq_X10_shortSign.1, zq_X10_shortSign.2, ⟨by decide +kernel, by decide +kernel, by decide +kernel⟩, by decide⟩, zT_of 565 (by decide +kernel) (by decide +kernel)⟩
theorem zc_X10_89 : zCS RX10 89 kJ9_max_7cf53 2 := ⟨⟨zT_of 553 (by decide +kernel) (by decide +kernel), zq_J9_max_7cf53.1, zq_J9_max_7cf53.2, ⟨by decide +kernel, by decide +kernel, by decide +kernel⟩, by decide⟩, zT_of 554 (by decide +kernel) (by decide +kernel)⟩
theorem zc_X10_94 : zCV RX10 94 kX10_valueAt 1 := ⟨⟨zT_of 693 (by decide +kernel) (by decide +kernel), zq_X10_valueAt.1, zq_X10_valueAt.2, ⟨by decide +kernel, by decide +kernel, by decide +kernel⟩, by decide⟩, zT_of 646 (by decide +kernel) (by decide +kernel), zT_of 647 (by decide +kernel) (by decide +kernel)⟩
theorem zc_X11_79 : zCV RX11 79 kX11_putBytes 1 := ⟨⟨zT_of 512 (by decide +kernel) (by decide +kernel), zq_X11_putBytes.1, zq_X11_putBytes.2, ⟨by decide +kernel, by decide +kernel, by decide +kernel⟩, by decide⟩, zT_of 514 (by decide +kernel) (by decide +kernel), zT_sel 0 (q := (kX11_putBytes.1, 14)) (by decide +kernel) (by decide +kernel)⟩
theorem zc_X11_83 : zCV RX11 83 kX10_cut 2 := ⟨⟨zT_of 524 (by decide +kernel) (by decide +kernel), zq_X10_cut.1, zq_X10_cut.2, ⟨by decide +kernel, by decide +kernel, by decide +kernel⟩, by decide⟩, zT_of 525 (by decide +kernel) (by decide +kernel), zT_of 526 (by decide +kernel) (by decide +kernel)⟩
theorem zc_X11_87 : zCV RX11 87 kX2_check 0 := ⟨⟨zT_of 567 (by decide +kernel) (by decide +kernel), zq_X2_check.1, zq_X2_check.2, ⟨by decide +kernel, by decide +kernel, by decide +kernel⟩, by decide⟩, zT_of 568 (by decide +kernel) (by decide +kernel), zT_of 569 (by decide +kernel) (by decide +kernel)⟩
theorem zc_X11_93 : zCV RX11 93 kX5_check 0 := ⟨⟨zT_of 632 (by decide +kernel) (by decide +kernel), zq_X5_check.1, zq_X5_check.2, ⟨by decide +kernel, by decide +kernel, by decide +kernel⟩, by decide⟩, zT_of 633 (by decide +kernel) (by decide +kernel), zT_of 634 (by decide +kernel) (by decide +kernel)⟩
theorem zc_X11_95 : zCV RX11 95 kX9_takeFrom 1 := ⟨⟨zT_of 678 (by decide +kernel) (by decide +kernel), zq_X9_takeFrom.1, zq_X9_takeFrom.2, ⟨by decide +kernel, by decide +kernel, by decide +kernel⟩, by decide⟩, zT_of 679 (by decide +kernel) (by decide +kernel), zT_of 680 (by decide +kernel) (by decide +kernel)⟩
theorem zc_X11_98 : zCV RX11 98 kX1_open 0 := ⟨⟨zT_of 737 (by decide +kernel) (by decide +kernel), zq_X1_open.1, zq_X1_open.2, ⟨by decide +kernel, by decide +kernel, by decide +kernel⟩, by decide⟩, zT_of 738 (by decide +kernel) (by decide +kernel), zT_of 739 (by decide +kernel) (by decide +kernel)⟩
theorem zc_X11_101 : zCV RX11 101 kX9_has 2 := ⟨⟨zT_of 909 (by decide +kernel) (by decide +kernel), zq_X9_has.1, zq_X9_has.2, ⟨by decide +kernel, by decide +kernel, by decide +kernel⟩, by decide⟩, zT_of 795 (by decide +kernel) (by decide +kernel), zT_of 796 (by decide +kernel) (by decide +kernel)⟩
theorem zc_X11_108 : zCV RX11 108 kX1_hit 1 := ⟨⟨zT_of 910 (by decide +kernel) (by decide +kernel), zq_X1_hit.1, zq_X1_hit.2, ⟨by decide +kernel, by decide +kernel, by decide +kernel⟩, by decide⟩, zT_of 911 (by decide +kernel) (by decide +kernel), zT_of 912 (by decide +kernel) (by decide +kernel)⟩
theorem zc_X11_112 : zCV RX11 112 kX1_passTick 0 := ⟨⟨zT_of 939 (by decide +kernel) (by decide +kernel), zq_X1_passTick.1, zq_X1_passTick.2, ⟨by decide +kernel, by decide +kernel, by decide +kernel⟩, by decide⟩, zT_of 940 (by decide +kernel) (by decide +kernel), zT_of 941 (by decide +kernel) (by decide +kernel)⟩
theorem zc_X11_137 : zCV RX11 137 kX1_ballsOver 0 := ⟨⟨zT_of 967 (by decide +kernel) (by decide +kernel), zq_X1_ballsOver.1, zq_X1_ballsOver.2, ⟨by decide +kernel, by decide +kernel, by decide +kernel⟩, by decide⟩, zT_of 968 (by decide +kernel) (by decide +kernel), zT_of 969 (by decide +kernel) (by decide +kernel)⟩
theorem zc_X11_140 : zCV RX11 140 kX8_isStuck 2 := ⟨⟨zT_of 971 (by decide +kernel) (by decide +kernel), zq_X8_isStuck.1, zq_X8_isStuck.2, ⟨by decide +kernel, by decide +kernel, by decide +kernel⟩, by decide⟩, zT_of 972 (by decide +kernel) (by decide +kernel), zT_of 973 (by decide +kernel) (by decide +kernel)⟩
theorem zc_X11_155 : zCV RX11 155 kX0_placeInRow 1 := ⟨⟨zT_of 979 (by decide +kernel) (by decide +kernel), zq_X0_placeInRow.1, zq_X0_placeInRow.2, ⟨by decide +kernel, by decide +kernel, by decide +kernel⟩, by decide⟩, zT_of 889 (by decide +kernel) (by decide +kernel), zT_of 890 (by decide +kernel) (by decide +kernel)⟩
theorem zc_X11_162 : zCV RX11 162 kX1_wouldPay 1 := ⟨⟨zT_of 984 (by decide +kernel) (by decide +kernel), zq_X1_wouldPay.1, zq_X1_wouldPay.2, ⟨by decide +kernel, by decide +kernel, by decide +kernel⟩, by decide⟩, zT_of 985 (by decide +kernel) (by decide +kernel), zT_of 986 (by decide +kernel) (by decide +kernel)⟩
theorem zc_X11_191 : zCV RX11 191 kX3_mostAt 1 := ⟨⟨zT_of 1009 (by decide +kernel) (by decide +kernel), zq_X3_mostAt.1, zq_X3_mostAt.2, ⟨by decide +kernel, by decide +kernel, by decide +kernel⟩, by decide⟩, zT_of 1010 (by decide +kernel) (by decide +kernel), zT_of 1011 (by decide +kernel) (by decide +kernel)⟩
theorem zc_X11_196 : zCV RX11 196 kX3_leastAt 1 := ⟨⟨zT_of 1016 (by decide +kernel) (by decide +kernel), zq_X3_leastAt.1, zq_X3_leastAt.2, ⟨by decide +kernel, by decide +kernel, by decide +kernel⟩, by decide⟩, zT_of 1017 (by decide +kernel) (by decide +kernel), zT_of 1018 (by decide +kernel) (by decide +kernel)⟩
theorem zc_X11_213 : zCV RX11 213 kX11_countInGame 1 := ⟨⟨zT_of 1032 (by decide +kernel) (by decide +kernel), zq_X11_countInGame.1, zq_X11_countInGame.2, ⟨by decide +kernel, by decide +kernel, by decide +kernel⟩, by decide⟩, zT_of 1034 (by decide +kernel) (by decide +kernel), zT_sel 41 (q := (kX11_countInGame.1, 14)) (by decide +kernel) (by decide +kernel)⟩
theorem zc_X12_226 : zCV RX12 226 kX12_put 1 := ⟨⟨zT_of 1366 (by decide +kernel) (by decide +kernel), zq_X12_put.1, zq_X12_put.2, ⟨by decide +kernel, by decide +kernel, by decide +kernel⟩, by decide⟩, zT_of 1368 (by decide +kernel) (by decide +kernel), zT_sel 42 (q := (kX12_put.1, 103)) (by decide +kernel) (by decide +kernel)⟩
theorem zc_X12_235 : zCS RX12 235 kX12_isDigit 1 := ⟨⟨zT_of 1050 (by decide +kernel) (by decide +kernel), zq_X12_isDigit.1, zq_X12_isDigit.2, ⟨by decide +kernel, by decide +kernel, by decide +kernel⟩, by decide⟩, zT_of 1051 (by decide +kernel) (by decide +kernel)⟩
theorem zc_X12_239 : zCS RX12 239 kX12_more 2 := ⟨⟨zT_of 1046 (by decide +kernel) (by decide +kernel), zq_X12_more.1, zq_X12_more.2, ⟨by decide +kernel, by decide +kernel, by decide +kernel⟩, by decide⟩, zT_of 1047 (by decide +kernel) (by decide +kernel)⟩
theorem zc_X12_246 : zCV RX12 246 kX12_at 1 := ⟨⟨zT_of 1382 (by decide +kernel) (by decide +kernel), zq_X12_at.1, zq_X12_at.2, ⟨by decide +kernel, by decide +kernel, by decide +kernel⟩, by decide⟩, zT_of 1384 (by decide +kernel) (by decide +kernel), zT_sel 44 (q := (kX12_at.1, 103)) (by decide +kernel) (by decide +kernel)⟩
theorem zc_X12_250 : zCV RX12 250 kX12_token 4 := ⟨⟨zT_of 1386 (by decide +kernel) (by decide +kernel), zq_X12_token.1, zq_X12_token.2, ⟨by decide +kernel, by decide +kernel, by decide +kernel⟩, by decide⟩, zT_of 1388 (by decide +kernel) (by decide +kernel), zT_sel 45 (q := (kX12_token.1, 103)) (by decide +kernel) (by decide +kernel)⟩
theorem zc_X12_254 : zCS RX12 254 kX12_isLetter 1 := ⟨⟨zT_of 1390 (by decide +kernel) (by decide +kernel), zq_X12_isLetter.1, zq_X12_isLetter.2, ⟨by decide +kernel, by decide +kernel, by decide +kernel⟩, by decide⟩, zT_of 1391 (by decide +kernel) (by decide +kernel)⟩
theorem zc_X12_257 : zCV RX12 257 kX12_sign 3 := ⟨⟨zT_of 1393 (by decide +kernel) (by decide +kernel), zq_X12_sign.1, zq_X12_sign.2, ⟨by decide +kernel, by decide +kernel, by decide +kernel⟩, by decide⟩, zT_of 1395 (by decide +kernel) (by decide +kernel), zT_sel 46 (q := (kX12_sign.1, 103)) (by decide +kernel) (by decide +kernel)⟩
theorem zc_X12_276 : zCV RX12 276 kX12_fail 1 := ⟨⟨zT_of 1405 (by decide +kernel) (by decide +kernel), zq_X12_fail.1, zq_X12_fail.2, ⟨by decide +kernel, by decide +kernel, by decide +kernel⟩, by decide⟩, zT_of 1407 (by decide +kernel) (by decide +kernel), zT_sel 49 (q := (kX12_fail.1, 103)) (by decide +kernel) (by decide +kernel)⟩
theorem zc_X12_279 : zCV RX12 279 kX12_is 1 := ⟨⟨zT_of 1417 (by decide +kernel) (by decide +kernel), zq_X12_is.1, zq_X12_is.2, ⟨by decide +kernel, by decide +kernel, by decide +kernel⟩, by decide⟩, zT_of 1419 (by decide +kernel) (by decide +kernel), zT_sel 52 (q := (kX12_is.1, 103)) (by decide +kernel) (by decide +kernel)⟩
theorem zc_X12_282 : zCV RX12 282 kX12_next 0 := ⟨⟨zT_of 1409 (by decide +kernel) (by decide +kernel), zq_X12_next.1, zq_X12_next.2, ⟨by decide +kernel, by decide +kernel, by decide +kernel⟩, by decide⟩, zT_of 1411 (by decide +kernel) (by decide +kernel), zT_sel 50 (q := (kX12_next.1, 103)) (by decide +kernel) (by decide +kernel)⟩
theorem zc_X12_288 : zCV RX12 288 kX12_wrong 2 := ⟨⟨zT_of 1425 (by decide +kernel) (by decide +kernel), zq_X12_wrong.1, zq_X12_wrong.2, ⟨by decide +kernel, by decide +kernel, by decide +kernel⟩, by decide⟩, zT_of 1427 (by decide +kernel) (by decide +kernel), zT_sel 54 (q := (kX12_wrong.1, 103)) (by decide +kernel) (by decide +kernel)⟩
theorem zc_X12_292 : zCV RX12 292 kX12_must 1 := ⟨⟨zT_of 1413 (by decide +kernel) (by decide +kernel), zq_X12_must.1, zq_X12_must.2, ⟨by decide +kernel, by decide +kernel, by decide +kernel⟩, by decide⟩, zT_of 1415 (by decide +kernel) (by decide +kernel), zT_sel 51 (q := (kX12_must.1, 103)) (by decide +kernel) (by decide +kernel)⟩
theorem zc_X12_295 : zCV RX12 295 kX12_named 2 := ⟨⟨zT_of 1433 (by decide +kernel) (by decide +kernel), zq_X12_named.1, zq_X12_named.2, ⟨by decide +kernel, by decide +kernel, by decide +kernel⟩, by decide⟩, zT_of 1435 (by decide +kernel) (by decide +kernel), zT_sel 56 (q := (kX12_named.1, 103)) (by decide +kernel) (by decide +kernel)⟩
theorem zc_X12_302 : zCV RX12 302 kX12_cut 0 := ⟨⟨zT_of 1378 (by decide +kernel) (by decide +kernel), zq_X12_cut.1, zq_X12_cut.2, ⟨by decide +kernel, by decide +kernel, by decide +kernel⟩, by decide⟩, zT_of 1380 (by decide +kernel) (by decide +kernel), zT_sel 43 (q := (kX12_cut.1, 103)) (by decide +kernel) (by decide +kernel)⟩
theorem zc_X12_323 : zCV RX12 323 kX12_tellPart 0 := ⟨⟨zT_of 1397 (by decide +kernel) (by decide +kernel), zq_X12_tellPart.1, zq_X12_tellPart.2, ⟨by decide +kernel, by decide +kernel, by decide +kernel⟩, by decide⟩, zT_of 1399 (by decide +kernel) (by decide +kernel), zT_sel 47 (q := (kX12_tellPart.1, 103)) (by decide +kernel) (by decide +kernel)⟩
theorem zc_X12_326 : zCV RX12 326 kX12_tellMode 0 := ⟨⟨zT_of 1437 (by decide +kernel) (by decide +kernel), zq_X12_tellMode.1, zq_X12_tellMode.2, ⟨by decide +kernel, by decide +kernel, by decide +kernel⟩, by decide⟩, zT_of 1439 (by decide +kernel) (by decide +kernel), zT_sel 57 (q := (kX12_tellMode.1, 103)) (by decide +kernel) (by decide +kernel)⟩
theorem zc_X12_336 : zCV RX12 336 kX12_isFull 1 := ⟨⟨zT_of 1401 (by decide +kernel) (by decide +kernel), zq_X12_isFull.1, zq_X12_isFull.2, ⟨by decide +kernel, by decide +kernel, by decide +kernel⟩, by decide⟩, zT_of 1403 (by decide +kernel) (by decide +kernel), zT_sel 48 (q := (kX12_isFull.1, 103)) (by decide +kernel) (by decide +kernel)⟩
theorem zc_X12_339 : zCV RX12 339 kX12_tells 2 := ⟨⟨zT_of 1421 (by decide +kernel) (by decide +kernel), zq_X12_tells.1, zq_X12_tells.2, ⟨by decide +kernel, by decide +kernel, by decide +kernel⟩, by decide⟩, zT_of 1423 (by decide +kernel) (by decide +kernel), zT_sel 53 (q := (kX12_tells.1, 103)) (by decide +kernel) (by decide +kernel)⟩
theorem zc_X12_342 : zCV RX12 342 kX12_namedNext 1 := ⟨⟨zT_of 1429 (by decide +kernel) (by decide +kernel), zq_X12_namedNext.1, zq_X12_namedNext.2, ⟨by decide +kernel, by decide +kernel, by decide +kernel⟩, by decide⟩, zT_of 1431 (by decide +kernel) (by decide +kernel), zT_sel 55 (q := (kX12_namedNext.1, 103)) (by decide +kernel) (by decide +kernel)⟩
theorem zc_X12_345 : zCV RX12 345 kX12_tellRule 0 := ⟨⟨zT_of 1441 (by decide +kernel) (by decide +kernel), zq_X12_tellRule.1, zq_X12_tellRule.2, ⟨by decide +kernel, by decide +kernel, by decide +kernel⟩, by decide⟩, zT_of 1443 (by decide +kernel) (by decide +kernel), zT_sel 58 (q := (kX12_tellRule.1, 103)) (by decide +kernel) (by decide +kernel)⟩
theorem zc_X12_348 : zCV RX12 348 kX12_relation 0 := ⟨⟨zT_of 1445 (by decide +kernel) (by decide +kernel), zq_X12_relation.1, zq_X12_relation.2, ⟨by decide +kernel, by decide +kernel, by decide +kernel⟩, by decide⟩, zT_of 1447 (by decide +kernel) (by decide +kernel), zT_sel 59 (q := (kX12_relation.1, 103)) (by decide +kernel) (by decide +kernel)⟩
theorem zc_X12_351 : zCV RX12 351 kX12_tellAct 0 := ⟨⟨zT_of 1461 (by decide +kernel) (by decide +kernel), zq_X12_tellAct.1, zq_X12_tellAct.2, ⟨by decide +kernel, by decide +kernel, by decide +kernel⟩, by decide⟩, zT_of 1463 (by decide +kernel) (by decide +kernel), zT_sel 63 (q := (kX12_tellAct.1, 103)) (by decide +kernel) (by decide +kernel)⟩
theorem zc_X12_354 : zCV RX12 354 kX12_expression 0 := ⟨⟨zT_of 1449 (by decide +kernel) (by decide +kernel), zq_X12_expression.1, zq_X12_expression.2, ⟨by decide +kernel, by decide +kernel, by decide +kernel⟩, by decide⟩, zT_of 1451 (by decide +kernel) (by decide +kernel), zT_sel 60 (q := (kX12_expression.1, 103)) (by decide +kernel) (by decide +kernel)⟩
theorem zc_X12_360 : zCV RX12 360 kX12_emit 2 := ⟨⟨zT_of 1453 (by decide +kernel) (by decide +kernel), zq_X12_emit.1, zq_X12_emit.2, ⟨by decide +kernel, by decide +kernel, by decide +kernel⟩, by decide⟩, zT_of 1455 (by decide +kernel) (by decide +kernel), zT_sel 61 (q := (kX12_emit.1, 103)) (by decide +kernel) (by decide +kernel)⟩
theorem zc_X12_363 : zCV RX12 363 kX12_comesOut 1 := ⟨⟨zT_of 1457 (by decide +kernel) (by decide +kernel), zq_X12_comesOut.1, zq_X12_comesOut.2, ⟨by decide +kernel, by decide +kernel, by decide +kernel⟩, by decide⟩, zT_of 1459 (by decide +kernel) (by decide +kernel), zT_sel 62 (q := (kX12_comesOut.1, 103)) (by decide +kernel) (by decide +kernel)⟩
theorem zc_X12_370 : zCV RX12 370 kX12_sort 1 := ⟨⟨zT_of 1477 (by decide +kernel) (by decide +kernel), zq_X12_sort.1, zq_X12_sort.2, ⟨by decide +kernel, by decide +kernel, by decide +kernel⟩, by decide⟩, zT_of 1479 (by decide +kernel) (by decide +kernel), zT_sel 65 (q := (kX12_sort.1, 103)) (by decide +kernel) (by decide +kernel)⟩
theorem zc_X12_373 : zCV RX12 373 kX12_comes 1 := ⟨⟨zT_of 1485 (by decide +kernel) (by decide +kernel), zq_X12_comes.1, zq_X12_comes.2, ⟨by decide +kernel, by decide +kernel, by decide +kernel⟩, by decide⟩, zT_of 1487 (by decide +kernel) (by decide +kernel), zT_sel 67 (q := (kX12_comes.1, 103)) (by decide +kernel) (by decide +kernel)⟩
theorem zc_X12_379 : zCV RX12 379 kX12_knows 0 := ⟨⟨zT_of 1489 (by decide +kernel) (by decide +kernel), zq_X12_knows.1, zq_X12_knows.2, ⟨by decide +kernel, by decide +kernel, by decide +kernel⟩, by decide⟩, zT_of 1491 (by decide +kernel) (by decide +kernel), zT_sel 68 (q := (kX12_knows.1, 103)) (by decide +kernel) (by decide +kernel)⟩
theorem zc_X12_410 : zCV RX12 410 kX12_orders 0 := ⟨⟨zT_of 1473 (by decide +kernel) (by decide +kernel), zq_X12_orders.1, zq_X12_orders.2, ⟨by decide +kernel, by decide +kernel, by decide +kernel⟩, by decide⟩, zT_of 1475 (by decide +kernel) (by decide +kernel), zT_sel 64 (q := (kX12_orders.1, 103)) (by decide +kernel) (by decide +kernel)⟩
theorem zc_X12_413 : zCV RX12 413 kX12_noBalls 0 := ⟨⟨zT_of 1481 (by decide +kernel) (by decide +kernel), zq_X12_noBalls.1, zq_X12_noBalls.2, ⟨by decide +kernel, by decide +kernel, by decide +kernel⟩, by decide⟩, zT_of 1483 (by decide +kernel) (by decide +kernel), zT_sel 66 (q := (kX12_noBalls.1, 103)) (by decide +kernel) (by decide +kernel)⟩
theorem zc_X12_416 : zCV RX12 416 kX12_serves 0 := ⟨⟨zT_of 1493 (by decide +kernel) (by decide +kernel), zq_X12_serves.1, zq_X12_serves.2, ⟨by decide +kernel, by decide +kernel, by decide +kernel⟩, by decide⟩, zT_of 1495 (by decide +kernel) (by decide +kernel), zT_sel 69 (q := (kX12_serves.1, 103)) (by decide +kernel) (by decide +kernel)⟩
theorem zc_X12_428 : zCV RX12 428 kX12_starts 1 := ⟨⟨zT_of 1497 (by decide +kernel) (by decide +kernel), zq_X12_starts.1, zq_X12_starts.2, ⟨by decide +kernel, by decide +kernel, by decide +kernel⟩, by decide⟩, zT_of 1499 (by decide +kernel) (by decide +kernel), zT_sel 70 (q := (kX12_starts.1, 103)) (by decide +kernel) (by decide +kernel)⟩
theorem zc_X12_430 : zCV RX12 430 kX12_works 0 := ⟨⟨zT_of 1509 (by decide +kernel) (by decide +kernel), zq_X12_works.1, zq_X12_works.2, ⟨by decide +kernel, by decide +kernel, by decide +kernel⟩, by decide⟩, zT_of 1511 (by decide +kernel) (by decide +kernel), zT_sel 73 (q := (kX12_works.1, 103)) (by decide +kernel) (by decide +kernel)⟩
theorem zc_X12_433 : zCV RX12 433 kX12_asksBall 0 := ⟨⟨zT_of 1541 (by decide +kernel) (by decide +kernel), zq_X12_asksBall.1, zq_X12_asksBall.2, ⟨by decide +kernel, by decide +kernel, by decide +kernel⟩, by decide⟩, zT_of 1543 (by decide +kernel) (by decide +kernel), zT_sel 81 (q := (kX12_asksBall.1, 103)) (by decide +kernel) (by decide +kernel)⟩
theorem zc_X12_436 : zCV RX12 436 kX12_offs 0 := ⟨⟨zT_of 1529 (by decide +kernel) (by decide +kernel), zq_X12_offs.1, zq_X12_offs.2, ⟨by decide +kernel, by decide +kernel, by decide +kernel⟩, by decide⟩, zT_of 1531 (by decide +kernel) (by decide +kernel), zT_sel 78 (q := (kX12_offs.1, 103)) (by decide +kernel) (by decide +kernel)⟩
theorem zc_X12_439 : zCV RX12 439 kX12_deep 0 := ⟨⟨zT_of 1501 (by decide +kernel) (by decide +kernel), zq_X12_deep.1, zq_X12_deep.2, ⟨by decide +kernel, by decide +kernel, by decide +kernel⟩, by decide⟩, zT_of 1503 (by decide +kernel) (by decide +kernel), zT_sel 71 (q := (kX12_deep.1, 103)) (by decide +kernel) (by decide +kernel)⟩
theorem zc_X12_443 : zCV RX12 443 kX12_frame 2 := ⟨⟨zT_of 1505 (by decide +kernel) (by decide +kernel), zq_X12_frame.1, zq_X12_frame.2, ⟨by decide +kernel, by decide +kernel, by decide +kernel⟩, by decide⟩, zT_of 1507 (by decide +kernel) (by decide +kernel), zT_sel 72 (q := (kX12_frame.1, 103)) (by decide +kernel) (by decide +kernel)⟩
theorem zc_X12_446 : zCV RX12 446 kX12_term 3 := ⟨⟨zT_of 1517 (by decide +kernel) (by decide +kernel), zq_X12_term.1, zq_X12_term.2, ⟨by decide +kernel, by decide +kernel, by decide +kernel⟩, by decide⟩, zT_of 1519 (by decide +kernel) (by decide +kernel), zT_sel 75 (q := (kX12_term.1, 103)) (by decide +kernel) (by decide +kernel)⟩
theorem zc_X12_449 : zCV RX12 449 kX12_does 3 := ⟨⟨zT_of 1513 (by decide +kernel) (by decide +kernel), zq_X12_does.1, zq_X12_does.2, ⟨by decide +kernel, by decide +kernel, by decide +kernel⟩, by decide⟩, zT_of 1515 (by decide +kernel) (by decide +kernel), zT_sel 74 (q := (kX12_does.1, 103)) (by decide +kernel) (by decide +kernel)⟩
theorem zc_X12_453 : zCV RX12 453 kX12_nextRule 1 := ⟨⟨zT_of 1533 (by decide +kernel) (by decide +kernel), zq_X12_nextRule.1, zq_X12_nextRule.2, ⟨by decide +kernel, by decide +kernel, by decide +kernel⟩, by decide⟩, zT_of 1535 (by decide +kernel) (by decide +kernel), zT_sel 79 (q := (kX12_nextRule.1, 103)) (by decide +kernel) (by decide +kernel)⟩
theorem zc_X12_462 : zCV RX12 462 kX12_holds 2 := ⟨⟨zT_of 1537 (by decide +kernel) (by decide +kernel), zq_X12_holds.1, zq_X12_holds.2, ⟨by decide +kernel, by decide +kernel, by decide +kernel⟩, by decide⟩, zT_of 1539 (by decide +kernel) (by decide +kernel), zT_sel 80 (q := (kX12_holds.1, 103)) (by decide +kernel) (by decide +kernel)⟩
theorem zc_X12_466 : zCV RX12 466 kX12_leaves 1 := ⟨⟨zT_of 1521 (by decide +kernel) (by decide +kernel), zq_X12_leaves.1, zq_X12_leaves.2, ⟨by decide +kernel, by decide +kernel, by decide +kernel⟩, by decide⟩, zT_of 1523 (by decide +kernel) (by decide +kernel), zT_sel 76 (q := (kX12_leaves.1, 103)) (by decide +kernel) (by decide +kernel)⟩
theorem zc_X12_469 : zCV RX12 469 kX12_drains 0 := ⟨⟨zT_of 1525 (by decide +kernel) (by decide +kernel), zq_X12_drains.1, zq_X12_drains.2, ⟨by decide +kernel, by decide +kernel, by decide +kernel⟩, by decide⟩, zT_of 1527 (by decide +kernel) (by decide +kernel), zT_sel 77 (q := (kX12_drains.1, 103)) (by decide +kernel) (by decide +kernel)⟩
theorem zc_X12_472 : zCV RX12 472 kX12_passes 1 := ⟨⟨zT_of 1549 (by decide +kernel) (by decide +kernel), zq_X12_passes.1, zq_X12_passes.2, ⟨by decide +kernel, by decide +kernel, by decide +kernel⟩, by decide⟩, zT_of 1551 (by decide +kernel) (by decide +kernel), zT_sel 82 (q := (kX12_passes.1, 103)) (by decide +kernel) (by decide +kernel)⟩
theorem zc_X12_475 : zCV RX12 475 kX12_remembers 0 := ⟨⟨zT_of 1553 (by decide +kernel) (by decide +kernel), zq_X12_remembers.1, zq_X12_remembers.2, ⟨by decide +kernel, by decide +kernel, by decide +kernel⟩, by decide⟩, zT_of 1555 (by decide +kernel) (by decide +kernel), zT_sel 83 (q := (kX12_remembers.1, 103)) (by decide +kernel) (by decide +kernel)⟩
theorem zc_X12_478 : zCV RX12 478 kX12_oneTick 0 := ⟨⟨zT_of 1561 (by decide +kernel) (by decide +kernel), zq_X12_oneTick.1, zq_X12_oneTick.2, ⟨by decide +kernel, by decide +kernel, by decide +kernel⟩, by decide⟩, zT_of 1563 (by decide +kernel) (by decide +kernel), zT_sel 84 (q := (kX12_oneTick.1, 103)) (by decide +kernel) (by decide +kernel)⟩
theorem zc_X12_481 : zCV RX12 481 kX12_fires 0 := ⟨⟨zT_of 1565 (by decide +kernel) (by decide +kernel), zq_X12_fires.1, zq_X12_fires.2, ⟨by decide +kernel, by decide +kernel, by decide +kernel⟩, by decide⟩, zT_of 1567 (by decide +kernel) (by decide +kernel), zT_sel 85 (q := (kX12_fires.1, 103)) (by decide +kernel) (by decide +kernel)⟩
theorem zc_X12_486 : zCV RX12 486 kX12_comesBack 1 := ⟨⟨zT_of 1606 (by decide +kernel) (by decide +kernel), zq_X12_comesBack.1, zq_X12_comesBack.2, ⟨by decide +kernel, by decide +kernel, by decide +kernel⟩, by decide⟩, zT_of 1608 (by decide +kernel) (by decide +kernel), zT_sel 86 (q := (kX12_comesBack.1, 103)) (by decide +kernel) (by decide +kernel)⟩
theorem zc_X12_489 : zCV RX12 489 kX12_leadsOn 2 := ⟨⟨zT_of 1610 (by decide +kernel) (by decide +kernel), zq_X12_leadsOn.1, zq_X12_leadsOn.2, ⟨by decide +kernel, by decide +kernel, by decide +kernel⟩, by decide⟩, zT_of 1612 (by decide +kernel) (by decide +kernel), zT_sel 87 (q := (kX12_leadsOn.1, 103)) (by decide +kernel) (by decide +kernel)⟩
theorem zc_X2_23 : zCV RX2 23 kX2_goesOnWithPart 0 := ⟨⟨zT_of 571 (by decide +kernel) (by decide +kernel), zq_X2_goesOnWithPart.1, zq_X2_goesOnWithPart.2, ⟨by decide +kernel, by decide +kernel, by decide +kernel⟩, by decide⟩, zT_of 573 (by decide +kernel) (by decide +kernel), zT_sel 3 (q := (kX2_goesOnWithPart.1, 3)) (by decide +kernel) (by decide +kernel)⟩
theorem zc_X2_27 : zCV RX2 27 kX2_checkPart 0 := ⟨⟨zT_of 579 (by decide +kernel) (by decide +kernel), zq_X2_checkPart.1, zq_X2_checkPart.2, ⟨by decide +kernel, by decide +kernel, by decide +kernel⟩, by decide⟩, zT_of 581 (by decide +kernel) (by decide +kernel), zT_sel 4 (q := (kX2_checkPart.1, 3)) (by decide +kernel) (by decide +kernel)⟩
theorem zc_X2_30 : zCV RX2 30 kX2_sees 1 := ⟨⟨zT_of 602 (by decide +kernel) (by decide +kernel), zq_X2_sees.1, zq_X2_sees.2, ⟨by decide +kernel, by decide +kernel, by decide +kernel⟩, by decide⟩, zT_of 604 (by decide +kernel) (by decide +kernel), zT_sel 8 (q := (kX2_sees.1, 3)) (by decide +kernel) (by decide +kernel)⟩
theorem zc_X2_34 : zCV RX2 34 kX2_checkModeHead 0 := ⟨⟨zT_of 606 (by decide +kernel) (by decide +kernel), zq_X2_checkModeHead.1, zq_X2_checkModeHead.2, ⟨by decide +kernel, by decide +kernel, by decide +kernel⟩, by decide⟩, zT_of 608 (by decide +kernel) (by decide +kernel), zT_sel 9 (q := (kX2_checkModeHead.1, 3)) (by decide +kernel) (by decide +kernel)⟩
theorem zc_X2_37 : zCV RX2 37 kX2_checkRule 0 := ⟨⟨zT_of 610 (by decide +kernel) (by decide +kernel), zq_X2_checkRule.1, zq_X2_checkRule.2, ⟨by decide +kernel, by decide +kernel, by decide +kernel⟩, by decide⟩, zT_of 612 (by decide +kernel) (by decide +kernel), zT_sel 10 (q := (kX2_checkRule.1, 3)) (by decide +kernel) (by decide +kernel)⟩
theorem zc_X2_40 : zCV RX2 40 kX2_need 1 := ⟨⟨zT_of 598 (by decide +kernel) (by decide +kernel), zq_X2_need.1, zq_X2_need.2, ⟨by decide +kernel, by decide +kernel, by decide +kernel⟩, by decide⟩, zT_of 600 (by decide +kernel) (by decide +kernel), zT_sel 7 (q := (kX2_need.1, 3)) (by decide +kernel) (by decide +kernel)⟩
theorem zc_X2_44 : zCV RX2 44 kX10_blame 2 := ⟨⟨zT_of 590 (by decide +kernel) (by decide +kernel), zq_X10_blame.1, zq_X10_blame.2, ⟨by decide +kernel, by decide +kernel, by decide +kernel⟩, by decide⟩, zT_of 591 (by decide +kernel) (by decide +kernel), zT_of 592 (by decide +kernel) (by decide +kernel)⟩
theorem zc_X2_53 : zCV RX2 53 kX10_kindAt 1 := ⟨⟨zT_of 575 (by decide +kernel) (by decide +kernel), zq_X10_kindAt.1, zq_X10_kindAt.2, ⟨by decide +kernel, by decide +kernel, by decide +kernel⟩, by decide⟩, zT_of 576 (by decide +kernel) (by decide +kernel), zT_of 577 (by decide +kernel) (by decide +kernel)⟩
theorem zc_X2_57 : zCV RX2 57 kX2_pass 0 := ⟨⟨zT_of 594 (by decide +kernel) (by decide +kernel), zq_X2_pass.1, zq_X2_pass.2, ⟨by decide +kernel, by decide +kernel, by decide +kernel⟩, by decide⟩, zT_of 596 (by decide +kernel) (by decide +kernel), zT_sel 6 (q := (kX2_pass.1, 3)) (by decide +kernel) (by decide +kernel)⟩
theorem zc_X2_60 : zCS RX2 60 kX9_roomFor 1 := ⟨⟨zT_of 583 (by decide +kernel) (by decide +kernel), zq_X9_roomFor.1, zq_X9_roomFor.2, ⟨by decide +kernel, by decide +kernel, by decide +kernel⟩, by decide⟩, zT_of 584 (by decide +kernel) (by decide +kernel)⟩
theorem zc_X2_65 : zCV RX2 65 kX2_passNewOne 2 := ⟨⟨zT_of 586 (by decide +kernel) (by decide +kernel), zq_X2_passNewOne.1, zq_X2_passNewOne.2, ⟨by decide +kernel, by decide +kernel, by decide +kernel⟩, by decide⟩, zT_of 588 (by decide +kernel) (by decide +kernel), zT_sel 5 (q := (kX2_passNewOne.1, 3)) (by decide +kernel) (by decide +kernel)⟩
theorem zc_X2_68 : zCV RX2 68 kX2_checkCond 0 := ⟨⟨zT_of 614 (by decide +kernel) (by decide +kernel), zq_X2_checkCond.1, zq_X2_checkCond.2, ⟨by decide +kernel, by decide +kernel, by decide +kernel⟩, by decide⟩, zT_of 616 (by decide +kernel) (by decide +kernel), zT_sel 11 (q := (kX2_checkCond.1, 3)) (by decide +kernel) (by decide +kernel)⟩
theorem zc_X2_71 : zCV RX2 71 kX2_checkAct 0 := ⟨⟨zT_of 625 (by decide +kernel) (by decide +kernel), zq_X2_checkAct.1, zq_X2_checkAct.2, ⟨by decide +kernel, by decide +kernel, by decide +kernel⟩, by decide⟩, zT_of 627 (by decide +kernel) (by decide +kernel), zT_sel 13 (q := (kX2_checkAct.1, 3)) (by decide +kernel) (by decide +kernel)⟩
theorem zc_X2_74 : zCS RX2 74 kX2_isAct 1 := ⟨⟨zT_of 629 (by decide +kernel) (by decide +kernel), zq_X2_isAct.1, zq_X2_isAct.2, ⟨by decide +kernel, by decide +kernel, by decide +kernel⟩, by decide⟩, zT_of 630 (by decide +kernel) (by decide +kernel)⟩
theorem zc_X2_77 : zCV RX2 77 kX2_checkSum 0 := ⟨⟨zT_of 618 (by decide +kernel) (by decide +kernel), zq_X2_checkSum.1, zq_X2_checkSum.2, ⟨by decide +kernel, by decide +kernel, by decide +kernel⟩, by decide⟩, zT_of 620 (by decide +kernel) (by decide +kernel), zT_sel 12 (q := (kX2_checkSum.1, 3)) (by decide +kernel) (by decide +kernel)⟩
theorem zc_X2_80 : zCS RX2 80 kX2_isRelation 1 := ⟨⟨zT_of 622 (by decide +kernel) (by decide +kernel), zq_X2_isRelation.1, zq_X2_isRelation.2, ⟨by decide +kernel, by decide +kernel, by decide +kernel⟩, by decide⟩, zT_of 623 (by decide +kernel) (by decide +kernel)⟩
theorem zc_X3_41 : zCV RX3 41 kX3_turnOver 0 := ⟨⟨zT_of 753 (by decide +kernel) (by decide +kernel), zq_X3_turnOver.1, zq_X3_turnOver.2, ⟨by decide +kernel, by decide +kernel, by decide +kernel⟩, by decide⟩, zT_of 755 (by decide +kernel) (by decide +kernel), zT_sel 28 (q := (kX3_turnOver.1, 9)) (by decide +kernel) (by decide +kernel)⟩
theorem zc_X3_49 : zCV RX3 49 kX3_put 1 := ⟨⟨zT_of 757 (by decide +kernel) (by decide +kernel), zq_X3_put.1, zq_X3_put.2, ⟨by decide +kernel, by decide +kernel, by decide +kernel⟩, by decide⟩, zT_of 759 (by decide +kernel) (by decide +kernel), zT_sel 29 (q := (kX3_put.1, 9)) (by decide +kernel) (by decide +kernel)⟩
theorem zc_X3_53 : zCV RX3 53 kX3_moveAll 2 := ⟨⟨zT_of 769 (by decide +kernel) (by decide +kernel), zq_X3_moveAll.1, zq_X3_moveAll.2, ⟨by decide +kernel, by decide +kernel, by decide +kernel⟩, by decide⟩, zT_of 771 (by decide +kernel) (by decide +kernel), zT_sel 30 (q := (kX3_moveAll.1, 9)) (by decide +kernel) (by decide +kernel)⟩
theorem zc_X3_57 : zCV RX3 57 kX3_spread 0 := ⟨⟨zT_of 778 (by decide +kernel) (by decide +kernel), zq_X3_spread.1, zq_X3_spread.2, ⟨by decide +kernel, by decide +kernel, by decide +kernel⟩, by decide⟩, zT_of 780 (by decide +kernel) (by decide +kernel), zT_sel 31 (q := (kX3_spread.1, 9)) (by decide +kernel) (by decide +kernel)⟩
theorem zc_X3_69 : zCV RX3 69 kX3_putAll 0 := ⟨⟨zT_of 923 (by decide +kernel) (by decide +kernel), zq_X3_putAll.1, zq_X3_putAll.2, ⟨by decide +kernel, by decide +kernel, by decide +kernel⟩, by decide⟩, zT_of 925 (by decide +kernel) (by decide +kernel), zT_sel 40 (q := (kX3_putAll.1, 9)) (by decide +kernel) (by decide +kernel)⟩
theorem zc_X3_72 : zCS RX3 72 kX3_moved 3 := ⟨⟨zT_of 773 (by decide +kernel) (by decide +kernel), zq_X3_moved.1, zq_X3_moved.2, ⟨by decide +kernel, by decide +kernel, by decide +kernel⟩, by decide⟩, zT_of 774 (by decide +kernel) (by decide +kernel)⟩
theorem zc_X3_76 : zCS RX3 76 kJ9_max_7cf53 2 := ⟨⟨zT_of 776 (by decide +kernel) (by decide +kernel), zq_J9_max_7cf53.1, zq_J9_max_7cf53.2, ⟨by decide +kernel, by decide +kernel, by decide +kernel⟩, by decide⟩, zT_of 554 (by decide +kernel) (by decide +kernel)⟩
theorem zc_X3_82 : zCS RX3 82 kJ9_min_7cf53 2 := ⟨⟨zT_of 777 (by decide +kernel) (by decide +kernel), zq_J9_min_7cf53.1, zq_J9_min_7cf53.2, ⟨by decide +kernel, by decide +kernel, by decide +kernel⟩, by decide⟩, zT_of 529 (by decide +kernel) (by decide +kernel)⟩
theorem zc_X3_85 : zCS RX3 85 kX3_ballsAt 2 := ⟨⟨zT_of 1013 (by decide +kernel) (by decide +kernel), zq_X3_ballsAt.1, zq_X3_ballsAt.2, ⟨by decide +kernel, by decide +kernel, by decide +kernel⟩, by decide⟩, zT_of 1014 (by decide +kernel) (by decide +kernel)⟩
theorem zc_X4_41 : zCV RX4 41 kX9_has 2 := ⟨⟨zT_of 794 (by decide +kernel) (by decide +kernel), zq_X9_has.1, zq_X9_has.2, ⟨by decide +kernel, by decide +kernel, by decide +kernel⟩, by decide⟩, zT_of 795 (by decide +kernel) (by decide +kernel), zT_of 796 (by decide +kernel) (by decide +kernel)⟩
theorem zc_X4_48 : zCV RX4 48 kX4_isOn 1 := ⟨⟨zT_of 879 (by decide +kernel) (by decide +kernel), zq_X4_isOn.1, zq_X4_isOn.2, ⟨by decide +kernel, by decide +kernel, by decide +kernel⟩, by decide⟩, zT_of 880 (by decide +kernel) (by decide +kernel), zT_of 881 (by decide +kernel) (by decide +kernel)⟩
theorem zc_X4_52 : zCV RX4 52 kX4_turnOff 1 := ⟨⟨zT_of 900 (by decide +kernel) (by decide +kernel), zq_X4_turnOff.1, zq_X4_turnOff.2, ⟨by decide +kernel, by decide +kernel, by decide +kernel⟩, by decide⟩, zT_of 876 (by decide +kernel) (by decide +kernel), zT_of 877 (by decide +kernel) (by decide +kernel)⟩
theorem zc_X4_55 : zCV RX4 55 kX4_isOnSinceThen 1 := ⟨⟨zT_of 947 (by decide +kernel) (by decide +kernel), zq_X4_isOnSinceThen.1, zq_X4_isOnSinceThen.2, ⟨by decide +kernel, by decide +kernel, by decide +kernel⟩, by decide⟩, zT_of 932 (by decide +kernel) (by decide +kernel), zT_of 933 (by decide +kernel) (by decide +kernel)⟩
theorem zc_X5_36 : zCV RX5 36 kX5_gatherModes 0 := ⟨⟨zT_of 636 (by decide +kernel) (by decide +kernel), zq_X5_gatherModes.1, zq_X5_gatherModes.2, ⟨by decide +kernel, by decide +kernel, by decide +kernel⟩, by decide⟩, zT_of 638 (by decide +kernel) (by decide +kernel), zT_sel 14 (q := (kX5_gatherModes.1, 7)) (by decide +kernel) (by decide +kernel)⟩
theorem zc_X5_39 : zCV RX5 39 kX10_size 0 := ⟨⟨zT_of 640 (by decide +kernel) (by decide +kernel), zq_X10_size.1, zq_X10_size.2, ⟨by decide +kernel, by decide +kernel, by decide +kernel⟩, by decide⟩, zT_of 641 (by decide +kernel) (by decide +kernel), zT_of 642 (by decide +kernel) (by decide +kernel)⟩
theorem zc_X5_48 : zCV RX5 48 kX10_kindAt 1 := ⟨⟨zT_of 644 (by decide +kernel) (by decide +kernel), zq_X10_kindAt.1, zq_X10_kindAt.2, ⟨by decide +kernel, by decide +kernel, by decide +kernel⟩, by decide⟩, zT_of 576 (by decide +kernel) (by decide +kernel), zT_of 577 (by decide +kernel) (by decide +kernel)⟩
theorem zc_X5_52 : zCV RX5 52 kX5_checkName 1 := ⟨⟨zT_of 649 (by decide +kernel) (by decide +kernel), zq_X5_checkName.1, zq_X5_checkName.2, ⟨by decide +kernel, by decide +kernel, by decide +kernel⟩, by decide⟩, zT_of 651 (by decide +kernel) (by decide +kernel), zT_sel 15 (q := (kX5_checkName.1, 7)) (by decide +kernel) (by decide +kernel)⟩
theorem zc_X5_56 : zCV RX5 56 kX10_valueAt 1 := ⟨⟨zT_of 645 (by decide +kernel) (by decide +kernel), zq_X10_valueAt.1, zq_X10_valueAt.2, ⟨by decide +kernel, by decide +kernel, by decide +kernel⟩, by decide⟩, zT_of 646 (by decide +kernel) (by decide +kernel), zT_of 647 (by decide +kernel) (by decide +kernel)⟩
theorem zc_X5_60 : zCV RX5 60 kX10_blame 2 := ⟨⟨zT_of 661 (by decide +kernel) (by decide +kernel), zq_X10_blame.1, zq_X10_blame.2, ⟨by decide +kernel, by decide +kernel, by decide +kernel⟩, by decide⟩, zT_of 591 (by decide +kernel) (by decide +kernel), zT_of 592 (by decide +kernel) (by decide +kernel)⟩
theorem zc_X5_64 : zCV RX5 64 kX5_tell 2 := ⟨⟨zT_of 653 (by decide +kernel) (by decide +kernel), zq_X5_tell.1, zq_X5_tell.2, ⟨by decide +kernel, by decide +kernel, by decide +kernel⟩, by decide⟩, zT_of 655 (by decide +kernel) (by decide +kernel), zT_sel 16 (q := (kX5_tell.1, 7)) (by decide +kernel) (by decide +kernel)⟩
theorem zc_X5_67 : zCV RX5 67 kX5_use 2 := ⟨⟨zT_of 666 (by decide +kernel) (by decide +kernel), zq_X5_use.1, zq_X5_use.2, ⟨by decide +kernel, by decide +kernel, by decide +kernel⟩, by decide⟩, zT_of 668 (by decide +kernel) (by decide +kernel), zT_sel 18 (q := (kX5_use.1, 7)) (by decide +kernel) (by decide +kernel)⟩
theorem zc_X5_70 : zCV RX5 70 kX5_checkSecondName 2 := ⟨⟨zT_of 674 (by decide +kernel) (by decide +kernel), zq_X5_checkSecondName.1, zq_X5_checkSecondName.2, ⟨by decide +kernel, by decide +kernel, by decide +kernel⟩, by decide⟩, zT_of 676 (by decide +kernel) (by decide +kernel), zT_sel 20 (q := (kX5_checkSecondName.1, 7)) (by decide +kernel) (by decide +kernel)⟩
theorem zc_X5_73 : zCV RX5 73 kX5_telling 1 := ⟨⟨zT_of 657 (by decide +kernel) (by decide +kernel), zq_X5_telling.1, zq_X5_telling.2, ⟨by decide +kernel, by decide +kernel, by decide +kernel⟩, by decide⟩, zT_of 659 (by decide +kernel) (by decide +kernel), zT_sel 17 (q := (kX5_telling.1, 7)) (by decide +kernel) (by decide +kernel)⟩
theorem zc_X5_77 : zCV RX5 77 kX10_setNumber 2 := ⟨⟨zT_of 662 (by decide +kernel) (by decide +kernel), zq_X10_setNumber.1, zq_X10_setNumber.2, ⟨by decide +kernel, by decide +kernel, by decide +kernel⟩, by decide⟩, zT_of 663 (by decide +kernel) (by decide +kernel), zT_of 664 (by decide +kernel) (by decide +kernel)⟩
theorem zc_X5_80 : zCV RX5 80 kX5_modeNamed 1 := ⟨⟨zT_of 670 (by decide +kernel) (by decide +kernel), zq_X5_modeNamed.1, zq_X5_modeNamed.2, ⟨by decide +kernel, by decide +kernel, by decide +kernel⟩, by decide⟩, zT_of 672 (by decide +kernel) (by decide +kernel), zT_sel 19 (q := (kX5_modeNamed.1, 7)) (by decide +kernel) (by decide +kernel)⟩
theorem zc_X6_51 : zCV RX6 51 kX10_size 0 := ⟨⟨zT_of 706 (by decide +kernel) (by decide +kernel), zq_X10_size.1, zq_X10_size.2, ⟨by decide +kernel, by decide +kernel, by decide +kernel⟩, by decide⟩, zT_of 641 (by decide +kernel) (by decide +kernel), zT_of 642 (by decide +kernel) (by decide +kernel)⟩
theorem zc_X6_56 : zCS RX6 56 kJ9_min_7cf53 2 := ⟨⟨zT_of 707 (by decide +kernel) (by decide +kernel), zq_J9_min_7cf53.1, zq_J9_min_7cf53.2, ⟨by decide +kernel, by decide +kernel, by decide +kernel⟩, by decide⟩, zT_of 529 (by decide +kernel) (by decide +kernel)⟩
theorem zc_X6_62 : zCV RX6 62 kX10_kindAt 1 := ⟨⟨zT_of 708 (by decide +kernel) (by decide +kernel), zq_X10_kindAt.1, zq_X10_kindAt.2, ⟨by decide +kernel, by decide +kernel, by decide +kernel⟩, by decide⟩, zT_of 576 (by decide +kernel) (by decide +kernel), zT_of 577 (by decide +kernel) (by decide +kernel)⟩
theorem zc_X6_66 : zCV RX6 66 kX10_numberAt 1 := ⟨⟨zT_of 709 (by decide +kernel) (by decide +kernel), zq_X10_numberAt.1, zq_X10_numberAt.2, ⟨by decide +kernel, by decide +kernel, by decide +kernel⟩, by decide⟩, zT_of 690 (by decide +kernel) (by decide +kernel), zT_of 691 (by decide +kernel) (by decide +kernel)⟩
theorem zc_X6_69 : zCV RX6 69 kX6_openRule 2 := ⟨⟨zT_of 710 (by decide +kernel) (by decide +kernel), zq_X6_openRule.1, zq_X6_openRule.2, ⟨by decide +kernel, by decide +kernel, by decide +kernel⟩, by decide⟩, zT_of 712 (by decide +kernel) (by decide +kernel), zT_sel 24 (q := (kX6_openRule.1, 12)) (by decide +kernel) (by decide +kernel)⟩
theorem zc_X6_73 : zCV RX6 73 kX6_takeIntoRule 4 := ⟨⟨zT_of 714 (by decide +kernel) (by decide +kernel), zq_X6_takeIntoRule.1, zq_X6_takeIntoRule.2, ⟨by decide +kernel, by decide +kernel, by decide +kernel⟩, by decide⟩, zT_of 716 (by decide +kernel) (by decide +kernel), zT_sel 25 (q := (kX6_takeIntoRule.1, 12)) (by decide +kernel) (by decide +kernel)⟩
theorem zc_X6_77 : zCV RX6 77 kX6_findRing 1 := ⟨⟨zT_of 725 (by decide +kernel) (by decide +kernel), zq_X6_findRing.1, zq_X6_findRing.2, ⟨by decide +kernel, by decide +kernel, by decide +kernel⟩, by decide⟩, zT_of 727 (by decide +kernel) (by decide +kernel), zT_sel 27 (q := (kX6_findRing.1, 12)) (by decide +kernel) (by decide +kernel)⟩
theorem zc_X6_81 : zCS RX6 81 kX6_nodeOf 2 := ⟨⟨zT_of 718 (by decide +kernel) (by decide +kernel), zq_X6_nodeOf.1, zq_X6_nodeOf.2, ⟨by decide +kernel, by decide +kernel, by decide +kernel⟩, by decide⟩, zT_of 719 (by decide +kernel) (by decide +kernel)⟩
theorem zc_X6_84 : zCV RX6 84 kX6_addLead 2 := ⟨⟨zT_of 721 (by decide +kernel) (by decide +kernel), zq_X6_addLead.1, zq_X6_addLead.2, ⟨by decide +kernel, by decide +kernel, by decide +kernel⟩, by decide⟩, zT_of 723 (by decide +kernel) (by decide +kernel), zT_sel 26 (q := (kX6_addLead.1, 12)) (by decide +kernel) (by decide +kernel)⟩
theorem zc_X7_26 : zCS RX7 26 kJ9_max_7cf53 2 := ⟨⟨zT_of 834 (by decide +kernel) (by decide +kernel), zq_J9_max_7cf53.1, zq_J9_max_7cf53.2, ⟨by decide +kernel, by decide +kernel, by decide +kernel⟩, by decide⟩, zT_of 554 (by decide +kernel) (by decide +kernel)⟩
theorem zc_X7_32 : zCV RX7 32 kX6_size 0 := ⟨⟨zT_of 835 (by decide +kernel) (by decide +kernel), zq_X6_size.1, zq_X6_size.2, ⟨by decide +kernel, by decide +kernel, by decide +kernel⟩, by decide⟩, zT_of 836 (by decide +kernel) (by decide +kernel), zT_of 837 (by decide +kernel) (by decide +kernel)⟩
theorem zc_X7_38 : zCV RX7 38 kX6_kindAt 1 := ⟨⟨zT_of 839 (by decide +kernel) (by decide +kernel), zq_X6_kindAt.1, zq_X6_kindAt.2, ⟨by decide +kernel, by decide +kernel, by decide +kernel⟩, by decide⟩, zT_of 840 (by decide +kernel) (by decide +kernel), zT_of 841 (by decide +kernel) (by decide +kernel)⟩
theorem zc_X7_42 : zCV RX7 42 kX6_numberAt 1 := ⟨⟨zT_of 843 (by decide +kernel) (by decide +kernel), zq_X6_numberAt.1, zq_X6_numberAt.2, ⟨by decide +kernel, by decide +kernel, by decide +kernel⟩, by decide⟩, zT_of 844 (by decide +kernel) (by decide +kernel), zT_of 845 (by decide +kernel) (by decide +kernel)⟩
theorem zc_X7_45 : zCS RX7 45 kX7_unit 5 := ⟨⟨zT_of 847 (by decide +kernel) (by decide +kernel), zq_X7_unit.1, zq_X7_unit.2, ⟨by decide +kernel, by decide +kernel, by decide +kernel⟩, by decide⟩, zT_of 848 (by decide +kernel) (by decide +kernel)⟩
theorem zc_X8_28 : zCV RX8 28 kX9_has 2 := ⟨⟨zT_of 918 (by decide +kernel) (by decide +kernel), zq_X9_has.1, zq_X9_has.2, ⟨by decide +kernel, by decide +kernel, by decide +kernel⟩, by decide⟩, zT_of 795 (by decide +kernel) (by decide +kernel), zT_of 796 (by decide +kernel) (by decide +kernel)⟩
theorem zc_X9_55 : zCV RX9 55 kX10_size 0 := ⟨⟨zT_of 682 (by decide +kernel) (by decide +kernel), zq_X10_size.1, zq_X10_size.2, ⟨by decide +kernel, by decide +kernel, by decide +kernel⟩, by decide⟩, zT_of 641 (by decide +kernel) (by decide +kernel), zT_of 642 (by decide +kernel) (by decide +kernel)⟩
theorem zc_X9_61 : zCV RX9 61 kX10_kindAt 1 := ⟨⟨zT_of 683 (by decide +kernel) (by decide +kernel), zq_X10_kindAt.1, zq_X10_kindAt.2, ⟨by decide +kernel, by decide +kernel, by decide +kernel⟩, by decide⟩, zT_of 576 (by decide +kernel) (by decide +kernel), zT_of 577 (by decide +kernel) (by decide +kernel)⟩
theorem zc_X9_65 : zCS RX9 65 kX9_roomFor 1 := ⟨⟨zT_of 684 (by decide +kernel) (by decide +kernel), zq_X9_roomFor.1, zq_X9_roomFor.2, ⟨by decide +kernel, by decide +kernel, by decide +kernel⟩, by decide⟩, zT_of 584 (by decide +kernel) (by decide +kernel)⟩
theorem zc_X9_68 : zCV RX9 68 kX9_takeOne 3 := ⟨⟨zT_of 685 (by decide +kernel) (by decide +kernel), zq_X9_takeOne.1, zq_X9_takeOne.2, ⟨by decide +kernel, by decide +kernel, by decide +kernel⟩, by decide⟩, zT_of 687 (by decide +kernel) (by decide +kernel), zT_sel 21 (q := (kX9_takeOne.1, 13)) (by decide +kernel) (by decide +kernel)⟩
theorem zc_X9_72 : zCV RX9 72 kX9_putInOrder 0 := ⟨⟨zT_of 698 (by decide +kernel) (by decide +kernel), zq_X9_putInOrder.1, zq_X9_putInOrder.2, ⟨by decide +kernel, by decide +kernel, by decide +kernel⟩, by decide⟩, zT_of 700 (by decide +kernel) (by decide +kernel), zT_sel 23 (q := (kX9_putInOrder.1, 13)) (by decide +kernel) (by decide +kernel)⟩
theorem zc_X9_75 : zCV RX9 75 kX6_takeFrom 1 := ⟨⟨zT_of 702 (by decide +kernel) (by decide +kernel), zq_X6_takeFrom.1, zq_X6_takeFrom.2, ⟨by decide +kernel, by decide +kernel, by decide +kernel⟩, by decide⟩, zT_of 703 (by decide +kernel) (by decide +kernel), zT_of 704 (by decide +kernel) (by decide +kernel)⟩
theorem zc_X9_79 : zCV RX9 79 kX10_numberAt 1 := ⟨⟨zT_of 689 (by decide +kernel) (by decide +kernel), zq_X10_numberAt.1, zq_X10_numberAt.2, ⟨by decide +kernel, by decide +kernel, by decide +kernel⟩, by decide⟩, zT_of 690 (by decide +kernel) (by decide +kernel), zT_of 691 (by decide +kernel) (by decide +kernel)⟩
theorem zc_X9_82 : zCV RX9 82 kX9_setApart 2 := ⟨⟨zT_of 694 (by decide +kernel) (by decide +kernel), zq_X9_setApart.1, zq_X9_setApart.2, ⟨by decide +kernel, by decide +kernel, by decide +kernel⟩, by decide⟩, zT_of 696 (by decide +kernel) (by decide +kernel), zT_sel 22 (q := (kX9_setApart.1, 13)) (by decide +kernel) (by decide +kernel)⟩
theorem zk_J6_265 : Cond.constant RJ6 265 (1431655765) ∈ zT := zT_of 955 (by decide +kernel) (by decide +kernel)
theorem zk_J6_266 : Cond.constant RJ6 266 (858993459) ∈ zT := zT_of 956 (by decide +kernel) (by decide +kernel)
theorem zk_J6_267 : Cond.constant RJ6 267 (252645135) ∈ zT := zT_of 957 (by decide +kernel) (by decide +kernel)
theorem zk_X10_92 : Cond.constantLong RX10 92 (10) ∈ zT := zT_of 556 (by decide +kernel) (by decide +kernel)
theorem zk_X11_120 : Cond.constantLong RX11 120 (-1) ∈ zT := zT_of 962 (by decide +kernel) (by decide +kernel)
theorem zk_X12_233 : Cond.constantLong RX12 233 (37) ∈ zT := zT_of 1049 (by decide +kernel) (by decide +kernel)
theorem zk_X12_484 : Cond.constantLong RX12 484 (-1) ∈ zT := zT_of 1573 (by decide +kernel) (by decide +kernel)
