/-! the layout of our cells: the references that never change (by program) -/
def layL : List (Int × Int × Int) := [(8, 0, 9), (15, 0, 16), (19, 0, 20), (22, 0, 23), (24, 0, 25), (36, 0, 37), (38, 0, 39), (43, 0, 44), (45, 0, 46), (48, 0, 49), (50, 0, 51), (52, 0, 53), (55, 0, 56), (57, 0, 58), (59, 0, 60), (122, 0, 123), (124, 0, 125), (127, 0, 128), (129, 0, 130), (132, 0, 133), (134, 0, 135), (137, 0, 138), (139, 0, 140), (142, 0, 143), (144, 0, 145), (146, 0, 147), (148, 0, 149), (150, 0, 151), (152, 0, 153), (154, 0, 155), (156, 0, 157), (158, 0, 159), (160, 0, 161), (162, 0, 163), (164, 0, 165), (1, 0, 2), (2, 0, 3), (2, 1, 4), (2, 2, 5), (2, 3, 6), (73, 0, 74), (74, 0, 75), (74, 1, 76), (74, 2, 77), (74, 3, 78), (79, 0, 80), (80, 0, 81), (80, 1, 82), (80, 2, 83), (80, 3, 84), (85, 0, 86), (86, 0, 87), (86, 1, 88), (86, 2, 89), (86, 3, 90), (91, 0, 92), (92, 0, 93), (92, 1, 94), (92, 2, 95), (92, 3, 96), (0, 0, 1), (0, 1, 7), (0, 3, 8), (0, 4, 10), (0, 5, 17), (0, 7, 18), (0, 9, 19), (0, 10, 21), (0, 12, 22), (0, 13, 24), (0, 14, 26), (0, 15, 40), (0, 16, 47), (0, 17, 54), (0, 18, 61), (0, 19, 63), (7, 0, 73), (7, 1, 79), (7, 2, 85), (7, 3, 91), (17, 0, 97), (17, 1, 101), (17, 2, 105), (17, 3, 109), (17, 4, 113), (17, 5, 117), (18, 0, 121), (18, 1, 126), (18, 2, 131), (18, 3, 136), (18, 4, 141), (21, 0, 146), (21, 1, 148), (21, 2, 150), (21, 3, 152), (21, 4, 154), (21, 5, 156), (21, 6, 158), (21, 7, 160), (21, 8, 162), (21, 9, 164), (10, 0, 11), (11, 0, 12), (11, 1, 13), (11, 4, 14), (97, 0, 98), (97, 1, 99), (97, 4, 100), (101, 0, 102), (101, 1, 103), (101, 4, 104), (105, 0, 106), (105, 1, 107), (105, 4, 108), (109, 0, 110), (109, 1, 111), (109, 4, 112), (113, 0, 114), (113, 1, 115), (113, 4, 116), (117, 0, 118), (117, 1, 119), (117, 4, 120), (121, 0, 122), (121, 1, 124), (126, 0, 127), (126, 1, 129), (131, 0, 132), (131, 1, 134), (136, 0, 137), (136, 1, 139), (141, 0, 142), (141, 1, 144), (26, 0, 27), (26, 1, 28), (26, 2, 29), (26, 3, 30), (26, 4, 31), (26, 6, 32), (26, 7, 33), (26, 8, 34), (26, 9, 35), (26, 13, 36), (26, 14, 38), (40, 0, 41), (40, 1, 42), (40, 2, 43), (40, 3, 45), (47, 0, 48), (47, 1, 50), (47, 2, 52), (54, 0, 55), (54, 1, 57), (54, 2, 59), (61, 0, 62), (63, 0, 64), (64, 0, 65), (64, 1, 66), (64, 2, 67), (64, 3, 68), (64, 4, 69), (64, 5, 70), (64, 6, 71), (64, 7, 72), (166, 1, 167), (166, 2, 168), (166, 4, 169), (166, 5, 170), (166, 6, 171), (166, 7, 172), (166, 8, 173), (166, 9, 174), (166, 10, 175), (166, 11, 176), (166, 26, 177), (166, 27, 178), (166, 28, 179), (166, 29, 180), (166, 31, 181), (166, 32, 182), (166, 33, 183), (166, 35, 184), (166, 36, 185), (166, 37, 186), (166, 39, 187), (166, 40, 188), (166, 42, 189), (166, 43, 190), (166, 44, 191), (166, 45, 192), (166, 46, 193), (166, 47, 194), (166, 48, 195), (166, 50, 196), (166, 51, 197), (166, 52, 198), (166, 53, 199), (166, 55, 200), (166, 56, 201), (166, 57, 202), (166, 59, 203), (166, 60, 204), (166, 65, 205), (166, 66, 206), (166, 67, 207)]
def Lay (σ : kS) : Prop := ∀ q ∈ layL, σ q.1 q.2.1 = q.2.2
theorem Lay.g {σ : kS} (h : Lay σ) (i : Nat) {k j v : Int} (hi : layL[i]? = some (k, j, v)) : σ k j = v := h (k, j, v) (List.mem_of_getElem? hi)
theorem ly_1_0 {σ : kS} (h : Lay σ) : σ 1 0 = 2 := h.g 35 rfl
theorem ly_2_0 {σ : kS} (h : Lay σ) : σ 2 0 = 3 := h.g 36 rfl
theorem ly_2_1 {σ : kS} (h : Lay σ) : σ 2 1 = 4 := h.g 37 rfl
theorem ly_2_2 {σ : kS} (h : Lay σ) : σ 2 2 = 5 := h.g 38 rfl
theorem ly_2_3 {σ : kS} (h : Lay σ) : σ 2 3 = 6 := h.g 39 rfl
theorem ly_73_0 {σ : kS} (h : Lay σ) : σ 73 0 = 74 := h.g 40 rfl
theorem ly_74_0 {σ : kS} (h : Lay σ) : σ 74 0 = 75 := h.g 41 rfl
theorem ly_74_1 {σ : kS} (h : Lay σ) : σ 74 1 = 76 := h.g 42 rfl
theorem ly_74_2 {σ : kS} (h : Lay σ) : σ 74 2 = 77 := h.g 43 rfl
theorem ly_74_3 {σ : kS} (h : Lay σ) : σ 74 3 = 78 := h.g 44 rfl
theorem ly_79_0 {σ : kS} (h : Lay σ) : σ 79 0 = 80 := h.g 45 rfl
theorem ly_80_0 {σ : kS} (h : Lay σ) : σ 80 0 = 81 := h.g 46 rfl
theorem ly_80_1 {σ : kS} (h : Lay σ) : σ 80 1 = 82 := h.g 47 rfl
theorem ly_80_2 {σ : kS} (h : Lay σ) : σ 80 2 = 83 := h.g 48 rfl
theorem ly_80_3 {σ : kS} (h : Lay σ) : σ 80 3 = 84 := h.g 49 rfl
theorem ly_85_0 {σ : kS} (h : Lay σ) : σ 85 0 = 86 := h.g 50 rfl
theorem ly_86_0 {σ : kS} (h : Lay σ) : σ 86 0 = 87 := h.g 51 rfl
theorem ly_86_1 {σ : kS} (h : Lay σ) : σ 86 1 = 88 := h.g 52 rfl
theorem ly_86_2 {σ : kS} (h : Lay σ) : σ 86 2 = 89 := h.g 53 rfl
theorem ly_86_3 {σ : kS} (h : Lay σ) : σ 86 3 = 90 := h.g 54 rfl
theorem ly_91_0 {σ : kS} (h : Lay σ) : σ 91 0 = 92 := h.g 55 rfl
theorem ly_92_0 {σ : kS} (h : Lay σ) : σ 92 0 = 93 := h.g 56 rfl
theorem ly_92_1 {σ : kS} (h : Lay σ) : σ 92 1 = 94 := h.g 57 rfl
theorem ly_92_2 {σ : kS} (h : Lay σ) : σ 92 2 = 95 := h.g 58 rfl
theorem ly_92_3 {σ : kS} (h : Lay σ) : σ 92 3 = 96 := h.g 59 rfl
theorem ly_0_0 {σ : kS} (h : Lay σ) : σ 0 0 = 1 := h.g 60 rfl
theorem ly_0_1 {σ : kS} (h : Lay σ) : σ 0 1 = 7 := h.g 61 rfl
theorem ly_0_3 {σ : kS} (h : Lay σ) : σ 0 3 = 8 := h.g 62 rfl
theorem ly_0_4 {σ : kS} (h : Lay σ) : σ 0 4 = 10 := h.g 63 rfl
theorem ly_0_5 {σ : kS} (h : Lay σ) : σ 0 5 = 17 := h.g 64 rfl
theorem ly_0_7 {σ : kS} (h : Lay σ) : σ 0 7 = 18 := h.g 65 rfl
theorem ly_0_9 {σ : kS} (h : Lay σ) : σ 0 9 = 19 := h.g 66 rfl
theorem ly_0_10 {σ : kS} (h : Lay σ) : σ 0 10 = 21 := h.g 67 rfl
theorem ly_0_12 {σ : kS} (h : Lay σ) : σ 0 12 = 22 := h.g 68 rfl
theorem ly_0_13 {σ : kS} (h : Lay σ) : σ 0 13 = 24 := h.g 69 rfl
theorem ly_0_14 {σ : kS} (h : Lay σ) : σ 0 14 = 26 := h.g 70 rfl
theorem ly_0_15 {σ : kS} (h : Lay σ) : σ 0 15 = 40 := h.g 71 rfl
theorem ly_0_16 {σ : kS} (h : Lay σ) : σ 0 16 = 47 := h.g 72 rfl
theorem ly_0_17 {σ : kS} (h : Lay σ) : σ 0 17 = 54 := h.g 73 rfl
theorem ly_0_18 {σ : kS} (h : Lay σ) : σ 0 18 = 61 := h.g 74 rfl
theorem ly_0_19 {σ : kS} (h : Lay σ) : σ 0 19 = 63 := h.g 75 rfl
theorem ly_7_0 {σ : kS} (h : Lay σ) : σ 7 0 = 73 := h.g 76 rfl
theorem ly_7_1 {σ : kS} (h : Lay σ) : σ 7 1 = 79 := h.g 77 rfl
theorem ly_7_2 {σ : kS} (h : Lay σ) : σ 7 2 = 85 := h.g 78 rfl
theorem ly_7_3 {σ : kS} (h : Lay σ) : σ 7 3 = 91 := h.g 79 rfl
theorem ly_17_0 {σ : kS} (h : Lay σ) : σ 17 0 = 97 := h.g 80 rfl
theorem ly_17_1 {σ : kS} (h : Lay σ) : σ 17 1 = 101 := h.g 81 rfl
theorem ly_17_2 {σ : kS} (h : Lay σ) : σ 17 2 = 105 := h.g 82 rfl
theorem ly_17_3 {σ : kS} (h : Lay σ) : σ 17 3 = 109 := h.g 83 rfl
theorem ly_17_4 {σ : kS} (h : Lay σ) : σ 17 4 = 113 := h.g 84 rfl
theorem ly_17_5 {σ : kS} (h : Lay σ) : σ 17 5 = 117 := h.g 85 rfl
theorem ly_18_0 {σ : kS} (h : Lay σ) : σ 18 0 = 121 := h.g 86 rfl
theorem ly_18_1 {σ : kS} (h : Lay σ) : σ 18 1 = 126 := h.g 87 rfl
theorem ly_18_2 {σ : kS} (h : Lay σ) : σ 18 2 = 131 := h.g 88 rfl
theorem ly_18_3 {σ : kS} (h : Lay σ) : σ 18 3 = 136 := h.g 89 rfl
theorem ly_18_4 {σ : kS} (h : Lay σ) : σ 18 4 = 141 := h.g 90 rfl
theorem ly_21_0 {σ : kS} (h : Lay σ) : σ 21 0 = 146 := h.g 91 rfl
theorem ly_21_1 {σ : kS} (h : Lay σ) : σ 21 1 = 148 := h.g 92 rfl
theorem ly_21_2 {σ : kS} (h : Lay σ) : σ 21 2 = 150 := h.g 93 rfl
theorem ly_21_3 {σ : kS} (h : Lay σ) : σ 21 3 = 152 := h.g 94 rfl
theorem ly_21_4 {σ : kS} (h : Lay σ) : σ 21 4 = 154 := h.g 95 rfl
theorem ly_21_5 {σ : kS} (h : Lay σ) : σ 21 5 = 156 := h.g 96 rfl
theorem ly_21_6 {σ : kS} (h : Lay σ) : σ 21 6 = 158 := h.g 97 rfl
theorem ly_21_7 {σ : kS} (h : Lay σ) : σ 21 7 = 160 := h.g 98 rfl
theorem ly_21_8 {σ : kS} (h : Lay σ) : σ 21 8 = 162 := h.g 99 rfl
theorem ly_21_9 {σ : kS} (h : Lay σ) : σ 21 9 = 164 := h.g 100 rfl
theorem ly_10_0 {σ : kS} (h : Lay σ) : σ 10 0 = 11 := h.g 101 rfl
theorem ly_11_0 {σ : kS} (h : Lay σ) : σ 11 0 = 12 := h.g 102 rfl
theorem ly_11_1 {σ : kS} (h : Lay σ) : σ 11 1 = 13 := h.g 103 rfl
theorem ly_11_4 {σ : kS} (h : Lay σ) : σ 11 4 = 14 := h.g 104 rfl
theorem ly_97_0 {σ : kS} (h : Lay σ) : σ 97 0 = 98 := h.g 105 rfl
theorem ly_97_1 {σ : kS} (h : Lay σ) : σ 97 1 = 99 := h.g 106 rfl
theorem ly_97_4 {σ : kS} (h : Lay σ) : σ 97 4 = 100 := h.g 107 rfl
theorem ly_101_0 {σ : kS} (h : Lay σ) : σ 101 0 = 102 := h.g 108 rfl
theorem ly_101_1 {σ : kS} (h : Lay σ) : σ 101 1 = 103 := h.g 109 rfl
theorem ly_101_4 {σ : kS} (h : Lay σ) : σ 101 4 = 104 := h.g 110 rfl
theorem ly_105_0 {σ : kS} (h : Lay σ) : σ 105 0 = 106 := h.g 111 rfl
theorem ly_105_1 {σ : kS} (h : Lay σ) : σ 105 1 = 107 := h.g 112 rfl
theorem ly_105_4 {σ : kS} (h : Lay σ) : σ 105 4 = 108 := h.g 113 rfl
theorem ly_109_0 {σ : kS} (h : Lay σ) : σ 109 0 = 110 := h.g 114 rfl
theorem ly_109_1 {σ : kS} (h : Lay σ) : σ 109 1 = 111 := h.g 115 rfl
theorem ly_109_4 {σ : kS} (h : Lay σ) : σ 109 4 = 112 := h.g 116 rfl
theorem ly_113_0 {σ : kS} (h : Lay σ) : σ 113 0 = 114 := h.g 117 rfl
theorem ly_113_1 {σ : kS} (h : Lay σ) : σ 113 1 = 115 := h.g 118 rfl
theorem ly_113_4 {σ : kS} (h : Lay σ) : σ 113 4 = 116 := h.g 119 rfl
theorem ly_117_0 {σ : kS} (h : Lay σ) : σ 117 0 = 118 := h.g 120 rfl
theorem ly_117_1 {σ : kS} (h : Lay σ) : σ 117 1 = 119 := h.g 121 rfl
theorem ly_117_4 {σ : kS} (h : Lay σ) : σ 117 4 = 120 := h.g 122 rfl
theorem ly_121_0 {σ : kS} (h : Lay σ) : σ 121 0 = 122 := h.g 123 rfl
theorem ly_121_1 {σ : kS} (h : Lay σ) : σ 121 1 = 124 := h.g 124 rfl
theorem ly_126_0 {σ : kS} (h : Lay σ) : σ 126 0 = 127 := h.g 125 rfl
theorem ly_126_1 {σ : kS} (h : Lay σ) : σ 126 1 = 129 := h.g 126 rfl
theorem ly_131_0 {σ : kS} (h : Lay σ) : σ 131 0 = 132 := h.g 127 rfl
theorem ly_131_1 {σ : kS} (h : Lay σ) : σ 131 1 = 134 := h.g 128 rfl
theorem ly_136_0 {σ : kS} (h : Lay σ) : σ 136 0 = 137 := h.g 129 rfl
theorem ly_136_1 {σ : kS} (h : Lay σ) : σ 136 1 = 139 := h.g 130 rfl
theorem ly_141_0 {σ : kS} (h : Lay σ) : σ 141 0 = 142 := h.g 131 rfl
theorem ly_141_1 {σ : kS} (h : Lay σ) : σ 141 1 = 144 := h.g 132 rfl
theorem ly_26_0 {σ : kS} (h : Lay σ) : σ 26 0 = 27 := h.g 133 rfl
theorem ly_26_1 {σ : kS} (h : Lay σ) : σ 26 1 = 28 := h.g 134 rfl
theorem ly_26_2 {σ : kS} (h : Lay σ) : σ 26 2 = 29 := h.g 135 rfl
theorem ly_26_3 {σ : kS} (h : Lay σ) : σ 26 3 = 30 := h.g 136 rfl
theorem ly_26_4 {σ : kS} (h : Lay σ) : σ 26 4 = 31 := h.g 137 rfl
theorem ly_26_6 {σ : kS} (h : Lay σ) : σ 26 6 = 32 := h.g 138 rfl
theorem ly_26_7 {σ : kS} (h : Lay σ) : σ 26 7 = 33 := h.g 139 rfl
theorem ly_26_8 {σ : kS} (h : Lay σ) : σ 26 8 = 34 := h.g 140 rfl
theorem ly_26_9 {σ : kS} (h : Lay σ) : σ 26 9 = 35 := h.g 141 rfl
theorem ly_26_13 {σ : kS} (h : Lay σ) : σ 26 13 = 36 := h.g 142 rfl
theorem ly_26_14 {σ : kS} (h : Lay σ) : σ 26 14 = 38 := h.g 143 rfl
theorem ly_40_0 {σ : kS} (h : Lay σ) : σ 40 0 = 41 := h.g 144 rfl
theorem ly_40_1 {σ : kS} (h : Lay σ) : σ 40 1 = 42 := h.g 145 rfl
theorem ly_40_2 {σ : kS} (h : Lay σ) : σ 40 2 = 43 := h.g 146 rfl
theorem ly_40_3 {σ : kS} (h : Lay σ) : σ 40 3 = 45 := h.g 147 rfl
theorem ly_47_0 {σ : kS} (h : Lay σ) : σ 47 0 = 48 := h.g 148 rfl
theorem ly_47_1 {σ : kS} (h : Lay σ) : σ 47 1 = 50 := h.g 149 rfl
theorem ly_47_2 {σ : kS} (h : Lay σ) : σ 47 2 = 52 := h.g 150 rfl
theorem ly_54_0 {σ : kS} (h : Lay σ) : σ 54 0 = 55 := h.g 151 rfl
theorem ly_54_1 {σ : kS} (h : Lay σ) : σ 54 1 = 57 := h.g 152 rfl
theorem ly_54_2 {σ : kS} (h : Lay σ) : σ 54 2 = 59 := h.g 153 rfl
theorem ly_61_0 {σ : kS} (h : Lay σ) : σ 61 0 = 62 := h.g 154 rfl
theorem ly_63_0 {σ : kS} (h : Lay σ) : σ 63 0 = 64 := h.g 155 rfl
theorem ly_64_0 {σ : kS} (h : Lay σ) : σ 64 0 = 65 := h.g 156 rfl
theorem ly_64_1 {σ : kS} (h : Lay σ) : σ 64 1 = 66 := h.g 157 rfl
theorem ly_64_2 {σ : kS} (h : Lay σ) : σ 64 2 = 67 := h.g 158 rfl
theorem ly_64_3 {σ : kS} (h : Lay σ) : σ 64 3 = 68 := h.g 159 rfl
theorem ly_64_4 {σ : kS} (h : Lay σ) : σ 64 4 = 69 := h.g 160 rfl
theorem ly_64_5 {σ : kS} (h : Lay σ) : σ 64 5 = 70 := h.g 161 rfl
theorem ly_64_6 {σ : kS} (h : Lay σ) : σ 64 6 = 71 := h.g 162 rfl
theorem ly_64_7 {σ : kS} (h : Lay σ) : σ 64 7 = 72 := h.g 163 rfl
theorem ly_166_1 {σ : kS} (h : Lay σ) : σ 166 1 = 167 := h.g 164 rfl
theorem ly_166_2 {σ : kS} (h : Lay σ) : σ 166 2 = 168 := h.g 165 rfl
theorem ly_166_4 {σ : kS} (h : Lay σ) : σ 166 4 = 169 := h.g 166 rfl
theorem ly_166_5 {σ : kS} (h : Lay σ) : σ 166 5 = 170 := h.g 167 rfl
theorem ly_166_6 {σ : kS} (h : Lay σ) : σ 166 6 = 171 := h.g 168 rfl
theorem ly_166_7 {σ : kS} (h : Lay σ) : σ 166 7 = 172 := h.g 169 rfl
theorem ly_166_8 {σ : kS} (h : Lay σ) : σ 166 8 = 173 := h.g 170 rfl
theorem ly_166_9 {σ : kS} (h : Lay σ) : σ 166 9 = 174 := h.g 171 rfl
theorem ly_166_10 {σ : kS} (h : Lay σ) : σ 166 10 = 175 := h.g 172 rfl
theorem ly_166_11 {σ : kS} (h : Lay σ) : σ 166 11 = 176 := h.g 173 rfl
theorem ly_166_26 {σ : kS} (h : Lay σ) : σ 166 26 = 177 := h.g 174 rfl
theorem ly_166_27 {σ : kS} (h : Lay σ) : σ 166 27 = 178 := h.g 175 rfl
theorem ly_166_28 {σ : kS} (h : Lay σ) : σ 166 28 = 179 := h.g 176 rfl
theorem ly_166_29 {σ : kS} (h : Lay σ) : σ 166 29 = 180 := h.g 177 rfl
theorem ly_166_31 {σ : kS} (h : Lay σ) : σ 166 31 = 181 := h.g 178 rfl
theorem ly_166_32 {σ : kS} (h : Lay σ) : σ 166 32 = 182 := h.g 179 rfl
theorem ly_166_33 {σ : kS} (h : Lay σ) : σ 166 33 = 183 := h.g 180 rfl
theorem ly_166_35 {σ : kS} (h : Lay σ) : σ 166 35 = 184 := h.g 181 rfl
theorem ly_166_36 {σ : kS} (h : Lay σ) : σ 166 36 = 185 := h.g 182 rfl
theorem ly_166_37 {σ : kS} (h : Lay σ) : σ 166 37 = 186 := h.g 183 rfl
theorem ly_166_39 {σ : kS} (h : Lay σ) : σ 166 39 = 187 := h.g 184 rfl
theorem ly_166_40 {σ : kS} (h : Lay σ) : σ 166 40 = 188 := h.g 185 rfl
theorem ly_166_42 {σ : kS} (h : Lay σ) : σ 166 42 = 189 := h.g 186 rfl
theorem ly_166_43 {σ : kS} (h : Lay σ) : σ 166 43 = 190 := h.g 187 rfl
theorem ly_166_44 {σ : kS} (h : Lay σ) : σ 166 44 = 191 := h.g 188 rfl
theorem ly_166_45 {σ : kS} (h : Lay σ) : σ 166 45 = 192 := h.g 189 rfl
theorem ly_166_46 {σ : kS} (h : Lay σ) : σ 166 46 = 193 := h.g 190 rfl
theorem ly_166_47 {σ : kS} (h : Lay σ) : σ 166 47 = 194 := h.g 191 rfl
theorem ly_166_48 {σ : kS} (h : Lay σ) : σ 166 48 = 195 := h.g 192 rfl
theorem ly_166_50 {σ : kS} (h : Lay σ) : σ 166 50 = 196 := h.g 193 rfl
theorem ly_166_51 {σ : kS} (h : Lay σ) : σ 166 51 = 197 := h.g 194 rfl
theorem ly_166_52 {σ : kS} (h : Lay σ) : σ 166 52 = 198 := h.g 195 rfl
theorem ly_166_53 {σ : kS} (h : Lay σ) : σ 166 53 = 199 := h.g 196 rfl
theorem ly_166_55 {σ : kS} (h : Lay σ) : σ 166 55 = 200 := h.g 197 rfl
theorem ly_166_56 {σ : kS} (h : Lay σ) : σ 166 56 = 201 := h.g 198 rfl
theorem ly_166_57 {σ : kS} (h : Lay σ) : σ 166 57 = 202 := h.g 199 rfl
theorem ly_166_59 {σ : kS} (h : Lay σ) : σ 166 59 = 203 := h.g 200 rfl
theorem ly_166_60 {σ : kS} (h : Lay σ) : σ 166 60 = 204 := h.g 201 rfl
theorem ly_166_65 {σ : kS} (h : Lay σ) : σ 166 65 = 205 := h.g 202 rfl
theorem ly_166_66 {σ : kS} (h : Lay σ) : σ 166 66 = 206 := h.g 203 rfl
theorem ly_166_67 {σ : kS} (h : Lay σ) : σ 166 67 = 207 := h.g 204 rfl
theorem layL_ok : layL.all (fun q => decide (0 ≤ q.1) && (decide (0 ≤ q.2.1) && decide (kkd (ksh q.1.toNat).1 q.2.1.toNat = 2))) = true := by decide +kernel
theorem Lay.kstG {σ : kS} {a i v : Int} (h : Lay σ) (hk : kkd (ksh a.toNat).1 i.toNat ≠ 2) : Lay (kst σ a i v) := by
  intro q hq
  have h1 := List.all_eq_true.mp layL_ok q hq
  simp only [Bool.and_eq_true, decide_eq_true_eq] at h1
  rw [kst_ap, if_neg]
  · exact h q hq
  · rintro ⟨e1, e2⟩
    exact hk (by rw [← e1, ← e2]; exact h1.2.2)
theorem Lay.kstA {σ : kS} {a i v : Int} {c : Nat} (h : Lay σ) (hA : isA c kN a) (hc : 20 ≤ c ∧ c ≤ 23 := by decide) : Lay (kst σ a i v) := by
  refine h.kstG ?_
  rw [hA.2.2]
  rcases (show c = 20 ∨ c = 21 ∨ c = 22 ∨ c = 23 by omega) with rfl | rfl | rfl | rfl <;> simp [kkd]
theorem Lay.kstO {σ : kS} {a v : Int} {c : Nat} (j : Nat) (h : Lay σ) (hO : isO c kN a) (hj : kkd c j ≠ 2) : Lay (kst σ a j v) := by
  refine h.kstG ?_
  rw [hO.2.2, Int.toNat_natCast]
  exact hj
theorem Lay.off {σ σ' : kS} (h : Lay σ) (ho : ∀ q ∈ layL, σ' q.1 q.2.1 = σ q.1 q.2.1) : Lay σ' := fun q hq => (ho q hq).trans (h q hq)
def isOb (c : Nat) (k : Int) : Bool := decide (0 ≤ k) && (decide (k < 209) && decide (ksh k.toNat = (c, (kfd.getD c []).length)))
theorem isO_k {c : Nat} {k : Int} (h : isOb c k = true) : isO c kN k := by
  unfold isOb at h
  simp only [Bool.and_eq_true, decide_eq_true_eq] at h
  exact ⟨h.1, h.2.1, h.2.2⟩
def isAb (c : Nat) (k : Int) : Bool := decide (0 ≤ k) && (decide (k < 209) && decide ((ksh k.toNat).1 = c))
theorem isA_k {c : Nat} {k : Int} (h : isAb c k = true) : isA c kN k := by
  unfold isAb at h
  simp only [Bool.and_eq_true, decide_eq_true_eq] at h
  exact ⟨h.1, h.2.1, h.2.2⟩
theorem all209 {P : Nat → Bool} (h : (List.range 209).all P = true) {r : Int} (h0 : 0 ≤ r) (h1 : r < 209) : P r.toNat = true := List.all_eq_true.mp h _ (List.mem_range.mpr (by omega))
theorem rowT : (List.range 209).all (fun k => !(decide (ksh k = (8, 2))) || (decide ((ksh (k + 1)).1 = 20) && (decide (k + 1 < 209) && decide (((k : Int), (0 : Int), (k : Int) + 1) ∈ layL)))) = true := by decide +kernel
/-- a Row's items lie behind it -/
theorem row_arr {r : Int} (h : isO 8 kN r) : isA 20 kN (r + 1) := by
  obtain ⟨h0, h1, h2⟩ := h
  have h3 := all209 rowT h0 h1
  rw [h2] at h3
  simp only [Bool.or_eq_true, Bool.and_eq_true, Bool.not_eq_true', decide_eq_true_eq, decide_eq_false_iff_not] at h3
  rcases h3 with h3 | h3
  · exact absurd rfl h3
  · have e : (r + 1).toNat = r.toNat + 1 := by omega
    exact ⟨by omega, by have := h3.2.1; show r + 1 < 209; omega, by rw [e]; exact h3.1⟩
theorem Lay.row {σ : kS} (h : Lay σ) {r : Int} (hr : isO 8 kN r) : σ r 0 = r + 1 := by
  obtain ⟨h0, h1, h2⟩ := hr
  have h3 := all209 rowT h0 h1
  rw [h2] at h3
  simp only [Bool.or_eq_true, Bool.and_eq_true, Bool.not_eq_true', decide_eq_true_eq, decide_eq_false_iff_not] at h3
  rcases h3 with h3 | h3
  · exact absurd rfl h3
  · have := h _ h3.2.2
    simp only [k_toNat h0] at this
    exact this
theorem klen_nn (a : Int) : 0 ≤ klen a ∧ klen a ≤ 100000 := by
  have := ksh_small a.toNat
  unfold klen
  omega
theorem isOA {c c' : Nat} {r a : Int} (h1 : isO c kN r) (h2 : isA c' kN a) (hc : c < 13 := by decide) (hc' : 13 ≤ c' := by decide) : r ≠ a := by
  rintro rfl
  have := h1.2.2
  have h3 := h2.2.2
  rw [this] at h3
  simp only at h3
  omega
theorem o_0 : isO 11 kN 0 := isO_k (by decide +kernel)
theorem o_1 : isO 5 kN 1 := isO_k (by decide +kernel)
theorem a_2 : isA 24 kN 2 := isA_k (by decide +kernel)
theorem kl_2 : klen 2 = 4 := by decide +kernel
theorem a_3 : isA 20 kN 3 := isA_k (by decide +kernel)
theorem kl_3 : klen 3 = 120 := by decide +kernel
theorem a_4 : isA 20 kN 4 := isA_k (by decide +kernel)
theorem kl_4 : klen 4 = 120 := by decide +kernel
theorem a_5 : isA 20 kN 5 := isA_k (by decide +kernel)
theorem kl_5 : klen 5 = 120 := by decide +kernel
theorem a_6 : isA 20 kN 6 := isA_k (by decide +kernel)
theorem kl_6 : klen 6 = 120 := by decide +kernel
theorem a_7 : isA 25 kN 7 := isA_k (by decide +kernel)
theorem kl_7 : klen 7 = 4 := by decide +kernel
theorem o_8 : isO 8 kN 8 := isO_k (by decide +kernel)
theorem a_9 : isA 20 kN 9 := isA_k (by decide +kernel)
theorem kl_9 : klen 9 = 120 := by decide +kernel
theorem o_10 : isO 4 kN 10 := isO_k (by decide +kernel)
theorem o_11 : isO 3 kN 11 := isO_k (by decide +kernel)
theorem a_12 : isA 20 kN 12 := isA_k (by decide +kernel)
theorem kl_12 : klen 12 = 120 := by decide +kernel
theorem a_13 : isA 20 kN 13 := isA_k (by decide +kernel)
theorem kl_13 : klen 13 = 120 := by decide +kernel
theorem a_14 : isA 20 kN 14 := isA_k (by decide +kernel)
theorem kl_14 : klen 14 = 6 := by decide +kernel
theorem o_15 : isO 8 kN 15 := isO_k (by decide +kernel)
theorem a_16 : isA 20 kN 16 := isA_k (by decide +kernel)
theorem kl_16 : klen 16 = 0 := by decide +kernel
theorem a_17 : isA 26 kN 17 := isA_k (by decide +kernel)
theorem kl_17 : klen 17 = 6 := by decide +kernel
theorem a_18 : isA 27 kN 18 := isA_k (by decide +kernel)
theorem kl_18 : klen 18 = 5 := by decide +kernel
theorem o_19 : isO 8 kN 19 := isO_k (by decide +kernel)
theorem a_20 : isA 20 kN 20 := isA_k (by decide +kernel)
theorem kl_20 : klen 20 = 8 := by decide +kernel
theorem a_21 : isA 28 kN 21 := isA_k (by decide +kernel)
theorem kl_21 : klen 21 = 10 := by decide +kernel
theorem o_22 : isO 8 kN 22 := isO_k (by decide +kernel)
theorem a_23 : isA 20 kN 23 := isA_k (by decide +kernel)
theorem kl_23 : klen 23 = 6 := by decide +kernel
theorem o_24 : isO 8 kN 24 := isO_k (by decide +kernel)
theorem a_25 : isA 20 kN 25 := isA_k (by decide +kernel)
theorem kl_25 : klen 25 = 32 := by decide +kernel
theorem o_26 : isO 10 kN 26 := isO_k (by decide +kernel)
theorem a_27 : isA 20 kN 27 := isA_k (by decide +kernel)
theorem kl_27 : klen 27 = 960 := by decide +kernel
theorem a_28 : isA 20 kN 28 := isA_k (by decide +kernel)
theorem kl_28 : klen 28 = 960 := by decide +kernel
theorem a_29 : isA 20 kN 29 := isA_k (by decide +kernel)
theorem kl_29 : klen 29 = 120 := by decide +kernel
theorem a_30 : isA 20 kN 30 := isA_k (by decide +kernel)
theorem kl_30 : klen 30 = 120 := by decide +kernel
theorem a_31 : isA 20 kN 31 := isA_k (by decide +kernel)
theorem kl_31 : klen 31 = 120 := by decide +kernel
theorem a_32 : isA 20 kN 32 := isA_k (by decide +kernel)
theorem kl_32 : klen 32 = 120 := by decide +kernel
theorem a_33 : isA 20 kN 33 := isA_k (by decide +kernel)
theorem kl_33 : klen 33 = 120 := by decide +kernel
theorem a_34 : isA 20 kN 34 := isA_k (by decide +kernel)
theorem kl_34 : klen 34 = 8 := by decide +kernel
theorem a_35 : isA 20 kN 35 := isA_k (by decide +kernel)
theorem kl_35 : klen 35 = 3184 := by decide +kernel
theorem o_36 : isO 8 kN 36 := isO_k (by decide +kernel)
theorem a_37 : isA 20 kN 37 := isA_k (by decide +kernel)
theorem kl_37 : klen 37 = 120 := by decide +kernel
theorem o_38 : isO 8 kN 38 := isO_k (by decide +kernel)
theorem a_39 : isA 20 kN 39 := isA_k (by decide +kernel)
theorem kl_39 : klen 39 = 120 := by decide +kernel
theorem o_40 : isO 9 kN 40 := isO_k (by decide +kernel)
theorem a_41 : isA 20 kN 41 := isA_k (by decide +kernel)
theorem kl_41 : klen 41 = 120 := by decide +kernel
theorem a_42 : isA 20 kN 42 := isA_k (by decide +kernel)
theorem kl_42 : klen 42 = 120 := by decide +kernel
theorem o_43 : isO 8 kN 43 := isO_k (by decide +kernel)
theorem a_44 : isA 20 kN 44 := isA_k (by decide +kernel)
theorem kl_44 : klen 44 = 120 := by decide +kernel
theorem o_45 : isO 8 kN 45 := isO_k (by decide +kernel)
theorem a_46 : isA 20 kN 46 := isA_k (by decide +kernel)
theorem kl_46 : klen 46 = 128 := by decide +kernel
theorem o_47 : isO 2 kN 47 := isO_k (by decide +kernel)
theorem o_48 : isO 8 kN 48 := isO_k (by decide +kernel)
theorem a_49 : isA 20 kN 49 := isA_k (by decide +kernel)
theorem kl_49 : klen 49 = 30 := by decide +kernel
theorem o_50 : isO 8 kN 50 := isO_k (by decide +kernel)
theorem a_51 : isA 20 kN 51 := isA_k (by decide +kernel)
theorem kl_51 : klen 51 = 30 := by decide +kernel
theorem o_52 : isO 8 kN 52 := isO_k (by decide +kernel)
theorem a_53 : isA 20 kN 53 := isA_k (by decide +kernel)
theorem kl_53 : klen 53 = 30 := by decide +kernel
theorem o_54 : isO 7 kN 54 := isO_k (by decide +kernel)
theorem o_55 : isO 8 kN 55 := isO_k (by decide +kernel)
theorem a_56 : isA 20 kN 56 := isA_k (by decide +kernel)
theorem kl_56 : klen 56 = 6 := by decide +kernel
theorem o_57 : isO 8 kN 57 := isO_k (by decide +kernel)
theorem a_58 : isA 20 kN 58 := isA_k (by decide +kernel)
theorem kl_58 : klen 58 = 6 := by decide +kernel
theorem o_59 : isO 8 kN 59 := isO_k (by decide +kernel)
theorem a_60 : isA 20 kN 60 := isA_k (by decide +kernel)
theorem kl_60 : klen 60 = 6 := by decide +kernel
theorem o_61 : isO 1 kN 61 := isO_k (by decide +kernel)
theorem a_62 : isA 20 kN 62 := isA_k (by decide +kernel)
theorem kl_62 : klen 62 = 120 := by decide +kernel
theorem o_63 : isO 6 kN 63 := isO_k (by decide +kernel)
theorem a_64 : isA 24 kN 64 := isA_k (by decide +kernel)
theorem kl_64 : klen 64 = 8 := by decide +kernel
theorem a_65 : isA 20 kN 65 := isA_k (by decide +kernel)
theorem kl_65 : klen 65 = 8 := by decide +kernel
theorem a_66 : isA 20 kN 66 := isA_k (by decide +kernel)
theorem kl_66 : klen 66 = 8 := by decide +kernel
theorem a_67 : isA 20 kN 67 := isA_k (by decide +kernel)
theorem kl_67 : klen 67 = 8 := by decide +kernel
theorem a_68 : isA 20 kN 68 := isA_k (by decide +kernel)
theorem kl_68 : klen 68 = 8 := by decide +kernel
theorem a_69 : isA 20 kN 69 := isA_k (by decide +kernel)
theorem kl_69 : klen 69 = 8 := by decide +kernel
theorem a_70 : isA 20 kN 70 := isA_k (by decide +kernel)
theorem kl_70 : klen 70 = 8 := by decide +kernel
theorem a_71 : isA 20 kN 71 := isA_k (by decide +kernel)
theorem kl_71 : klen 71 = 8 := by decide +kernel
theorem a_72 : isA 20 kN 72 := isA_k (by decide +kernel)
theorem kl_72 : klen 72 = 8 := by decide +kernel
theorem o_73 : isO 5 kN 73 := isO_k (by decide +kernel)
theorem a_74 : isA 24 kN 74 := isA_k (by decide +kernel)
theorem kl_74 : klen 74 = 4 := by decide +kernel
theorem a_75 : isA 20 kN 75 := isA_k (by decide +kernel)
theorem kl_75 : klen 75 = 120 := by decide +kernel
theorem a_76 : isA 20 kN 76 := isA_k (by decide +kernel)
theorem kl_76 : klen 76 = 120 := by decide +kernel
theorem a_77 : isA 20 kN 77 := isA_k (by decide +kernel)
theorem kl_77 : klen 77 = 120 := by decide +kernel
theorem a_78 : isA 20 kN 78 := isA_k (by decide +kernel)
theorem kl_78 : klen 78 = 120 := by decide +kernel
theorem o_79 : isO 5 kN 79 := isO_k (by decide +kernel)
theorem a_80 : isA 24 kN 80 := isA_k (by decide +kernel)
theorem kl_80 : klen 80 = 4 := by decide +kernel
theorem a_81 : isA 20 kN 81 := isA_k (by decide +kernel)
theorem kl_81 : klen 81 = 120 := by decide +kernel
theorem a_82 : isA 20 kN 82 := isA_k (by decide +kernel)
theorem kl_82 : klen 82 = 120 := by decide +kernel
theorem a_83 : isA 20 kN 83 := isA_k (by decide +kernel)
theorem kl_83 : klen 83 = 120 := by decide +kernel
theorem a_84 : isA 20 kN 84 := isA_k (by decide +kernel)
theorem kl_84 : klen 84 = 120 := by decide +kernel
theorem o_85 : isO 5 kN 85 := isO_k (by decide +kernel)
theorem a_86 : isA 24 kN 86 := isA_k (by decide +kernel)
theorem kl_86 : klen 86 = 4 := by decide +kernel
theorem a_87 : isA 20 kN 87 := isA_k (by decide +kernel)
theorem kl_87 : klen 87 = 120 := by decide +kernel
theorem a_88 : isA 20 kN 88 := isA_k (by decide +kernel)
theorem kl_88 : klen 88 = 120 := by decide +kernel
theorem a_89 : isA 20 kN 89 := isA_k (by decide +kernel)
theorem kl_89 : klen 89 = 120 := by decide +kernel
theorem a_90 : isA 20 kN 90 := isA_k (by decide +kernel)
theorem kl_90 : klen 90 = 120 := by decide +kernel
theorem o_91 : isO 5 kN 91 := isO_k (by decide +kernel)
theorem a_92 : isA 24 kN 92 := isA_k (by decide +kernel)
theorem kl_92 : klen 92 = 4 := by decide +kernel
theorem a_93 : isA 20 kN 93 := isA_k (by decide +kernel)
theorem kl_93 : klen 93 = 120 := by decide +kernel
theorem a_94 : isA 20 kN 94 := isA_k (by decide +kernel)
theorem kl_94 : klen 94 = 120 := by decide +kernel
theorem a_95 : isA 20 kN 95 := isA_k (by decide +kernel)
theorem kl_95 : klen 95 = 120 := by decide +kernel
theorem a_96 : isA 20 kN 96 := isA_k (by decide +kernel)
theorem kl_96 : klen 96 = 120 := by decide +kernel
theorem o_97 : isO 3 kN 97 := isO_k (by decide +kernel)
theorem a_98 : isA 20 kN 98 := isA_k (by decide +kernel)
theorem kl_98 : klen 98 = 120 := by decide +kernel
theorem a_99 : isA 20 kN 99 := isA_k (by decide +kernel)
theorem kl_99 : klen 99 = 120 := by decide +kernel
theorem a_100 : isA 20 kN 100 := isA_k (by decide +kernel)
theorem kl_100 : klen 100 = 6 := by decide +kernel
theorem o_101 : isO 3 kN 101 := isO_k (by decide +kernel)
theorem a_102 : isA 20 kN 102 := isA_k (by decide +kernel)
theorem kl_102 : klen 102 = 120 := by decide +kernel
theorem a_103 : isA 20 kN 103 := isA_k (by decide +kernel)
theorem kl_103 : klen 103 = 120 := by decide +kernel
theorem a_104 : isA 20 kN 104 := isA_k (by decide +kernel)
theorem kl_104 : klen 104 = 6 := by decide +kernel
theorem o_105 : isO 3 kN 105 := isO_k (by decide +kernel)
theorem a_106 : isA 20 kN 106 := isA_k (by decide +kernel)
theorem kl_106 : klen 106 = 120 := by decide +kernel
theorem a_107 : isA 20 kN 107 := isA_k (by decide +kernel)
theorem kl_107 : klen 107 = 120 := by decide +kernel
theorem a_108 : isA 20 kN 108 := isA_k (by decide +kernel)
theorem kl_108 : klen 108 = 6 := by decide +kernel
theorem o_109 : isO 3 kN 109 := isO_k (by decide +kernel)
theorem a_110 : isA 20 kN 110 := isA_k (by decide +kernel)
theorem kl_110 : klen 110 = 120 := by decide +kernel
theorem a_111 : isA 20 kN 111 := isA_k (by decide +kernel)
theorem kl_111 : klen 111 = 120 := by decide +kernel
theorem a_112 : isA 20 kN 112 := isA_k (by decide +kernel)
theorem kl_112 : klen 112 = 6 := by decide +kernel
theorem o_113 : isO 3 kN 113 := isO_k (by decide +kernel)
theorem a_114 : isA 20 kN 114 := isA_k (by decide +kernel)
theorem kl_114 : klen 114 = 120 := by decide +kernel
theorem a_115 : isA 20 kN 115 := isA_k (by decide +kernel)
theorem kl_115 : klen 115 = 120 := by decide +kernel
theorem a_116 : isA 20 kN 116 := isA_k (by decide +kernel)
theorem kl_116 : klen 116 = 6 := by decide +kernel
theorem o_117 : isO 3 kN 117 := isO_k (by decide +kernel)
theorem a_118 : isA 20 kN 118 := isA_k (by decide +kernel)
theorem kl_118 : klen 118 = 120 := by decide +kernel
theorem a_119 : isA 20 kN 119 := isA_k (by decide +kernel)
theorem kl_119 : klen 119 = 120 := by decide +kernel
theorem a_120 : isA 20 kN 120 := isA_k (by decide +kernel)
theorem kl_120 : klen 120 = 6 := by decide +kernel
theorem o_121 : isO 0 kN 121 := isO_k (by decide +kernel)
theorem o_122 : isO 8 kN 122 := isO_k (by decide +kernel)
theorem a_123 : isA 20 kN 123 := isA_k (by decide +kernel)
theorem kl_123 : klen 123 = 120 := by decide +kernel
theorem o_124 : isO 8 kN 124 := isO_k (by decide +kernel)
theorem a_125 : isA 20 kN 125 := isA_k (by decide +kernel)
theorem kl_125 : klen 125 = 120 := by decide +kernel
theorem o_126 : isO 0 kN 126 := isO_k (by decide +kernel)
theorem o_127 : isO 8 kN 127 := isO_k (by decide +kernel)
theorem a_128 : isA 20 kN 128 := isA_k (by decide +kernel)
theorem kl_128 : klen 128 = 120 := by decide +kernel
theorem o_129 : isO 8 kN 129 := isO_k (by decide +kernel)
theorem a_130 : isA 20 kN 130 := isA_k (by decide +kernel)
theorem kl_130 : klen 130 = 120 := by decide +kernel
theorem o_131 : isO 0 kN 131 := isO_k (by decide +kernel)
theorem o_132 : isO 8 kN 132 := isO_k (by decide +kernel)
theorem a_133 : isA 20 kN 133 := isA_k (by decide +kernel)
theorem kl_133 : klen 133 = 120 := by decide +kernel
theorem o_134 : isO 8 kN 134 := isO_k (by decide +kernel)
theorem a_135 : isA 20 kN 135 := isA_k (by decide +kernel)
theorem kl_135 : klen 135 = 120 := by decide +kernel
theorem o_136 : isO 0 kN 136 := isO_k (by decide +kernel)
theorem o_137 : isO 8 kN 137 := isO_k (by decide +kernel)
theorem a_138 : isA 20 kN 138 := isA_k (by decide +kernel)
theorem kl_138 : klen 138 = 120 := by decide +kernel
theorem o_139 : isO 8 kN 139 := isO_k (by decide +kernel)
theorem a_140 : isA 20 kN 140 := isA_k (by decide +kernel)
theorem kl_140 : klen 140 = 120 := by decide +kernel
theorem o_141 : isO 0 kN 141 := isO_k (by decide +kernel)
theorem o_142 : isO 8 kN 142 := isO_k (by decide +kernel)
theorem a_143 : isA 20 kN 143 := isA_k (by decide +kernel)
theorem kl_143 : klen 143 = 120 := by decide +kernel
theorem o_144 : isO 8 kN 144 := isO_k (by decide +kernel)
theorem a_145 : isA 20 kN 145 := isA_k (by decide +kernel)
theorem kl_145 : klen 145 = 120 := by decide +kernel
theorem o_146 : isO 8 kN 146 := isO_k (by decide +kernel)
theorem a_147 : isA 20 kN 147 := isA_k (by decide +kernel)
theorem kl_147 : klen 147 = 128 := by decide +kernel
theorem o_148 : isO 8 kN 148 := isO_k (by decide +kernel)
theorem a_149 : isA 20 kN 149 := isA_k (by decide +kernel)
theorem kl_149 : klen 149 = 128 := by decide +kernel
theorem o_150 : isO 8 kN 150 := isO_k (by decide +kernel)
theorem a_151 : isA 20 kN 151 := isA_k (by decide +kernel)
theorem kl_151 : klen 151 = 128 := by decide +kernel
theorem o_152 : isO 8 kN 152 := isO_k (by decide +kernel)
theorem a_153 : isA 20 kN 153 := isA_k (by decide +kernel)
theorem kl_153 : klen 153 = 128 := by decide +kernel
theorem o_154 : isO 8 kN 154 := isO_k (by decide +kernel)
theorem a_155 : isA 20 kN 155 := isA_k (by decide +kernel)
theorem kl_155 : klen 155 = 128 := by decide +kernel
theorem o_156 : isO 8 kN 156 := isO_k (by decide +kernel)
theorem a_157 : isA 20 kN 157 := isA_k (by decide +kernel)
theorem kl_157 : klen 157 = 128 := by decide +kernel
theorem o_158 : isO 8 kN 158 := isO_k (by decide +kernel)
theorem a_159 : isA 20 kN 159 := isA_k (by decide +kernel)
theorem kl_159 : klen 159 = 128 := by decide +kernel
theorem o_160 : isO 8 kN 160 := isO_k (by decide +kernel)
theorem a_161 : isA 20 kN 161 := isA_k (by decide +kernel)
theorem kl_161 : klen 161 = 128 := by decide +kernel
theorem o_162 : isO 8 kN 162 := isO_k (by decide +kernel)
theorem a_163 : isA 20 kN 163 := isA_k (by decide +kernel)
theorem kl_163 : klen 163 = 128 := by decide +kernel
theorem o_164 : isO 8 kN 164 := isO_k (by decide +kernel)
theorem a_165 : isA 20 kN 165 := isA_k (by decide +kernel)
theorem kl_165 : klen 165 = 128 := by decide +kernel
theorem o_166 : isO 12 kN 166 := isO_k (by decide +kernel)
theorem a_167 : isA 20 kN 167 := isA_k (by decide +kernel)
theorem kl_167 : klen 167 = 480 := by decide +kernel
theorem a_168 : isA 20 kN 168 := isA_k (by decide +kernel)
theorem kl_168 : klen 168 = 8 := by decide +kernel
theorem a_169 : isA 21 kN 169 := isA_k (by decide +kernel)
theorem kl_169 : klen 169 = 120 := by decide +kernel
theorem a_170 : isA 21 kN 170 := isA_k (by decide +kernel)
theorem kl_170 : klen 170 = 720 := by decide +kernel
theorem a_171 : isA 20 kN 171 := isA_k (by decide +kernel)
theorem kl_171 : klen 171 = 6 := by decide +kernel
theorem a_172 : isA 20 kN 172 := isA_k (by decide +kernel)
theorem kl_172 : klen 172 = 128 := by decide +kernel
theorem a_173 : isA 20 kN 173 := isA_k (by decide +kernel)
theorem kl_173 : klen 173 = 5 := by decide +kernel
theorem a_174 : isA 20 kN 174 := isA_k (by decide +kernel)
theorem kl_174 : klen 174 = 300 := by decide +kernel
theorem a_175 : isA 20 kN 175 := isA_k (by decide +kernel)
theorem kl_175 : klen 175 = 300 := by decide +kernel
theorem a_176 : isA 20 kN 176 := isA_k (by decide +kernel)
theorem kl_176 : klen 176 = 300 := by decide +kernel
theorem a_177 : isA 20 kN 177 := isA_k (by decide +kernel)
theorem kl_177 : klen 177 = 960 := by decide +kernel
theorem a_178 : isA 20 kN 178 := isA_k (by decide +kernel)
theorem kl_178 : klen 178 = 120 := by decide +kernel
theorem a_179 : isA 20 kN 179 := isA_k (by decide +kernel)
theorem kl_179 : klen 179 = 120 := by decide +kernel
theorem a_180 : isA 20 kN 180 := isA_k (by decide +kernel)
theorem kl_180 : klen 180 = 140 := by decide +kernel
theorem a_181 : isA 20 kN 181 := isA_k (by decide +kernel)
theorem kl_181 : klen 181 = 120 := by decide +kernel
theorem a_182 : isA 20 kN 182 := isA_k (by decide +kernel)
theorem kl_182 : klen 182 = 10 := by decide +kernel
theorem a_183 : isA 20 kN 183 := isA_k (by decide +kernel)
theorem kl_183 : klen 183 = 1400 := by decide +kernel
theorem a_184 : isA 20 kN 184 := isA_k (by decide +kernel)
theorem kl_184 : klen 184 = 30 := by decide +kernel
theorem a_185 : isA 20 kN 185 := isA_k (by decide +kernel)
theorem kl_185 : klen 185 = 30 := by decide +kernel
theorem a_186 : isA 20 kN 186 := isA_k (by decide +kernel)
theorem kl_186 : klen 186 = 30 := by decide +kernel
theorem a_187 : isA 20 kN 187 := isA_k (by decide +kernel)
theorem kl_187 : klen 187 = 6 := by decide +kernel
theorem a_188 : isA 20 kN 188 := isA_k (by decide +kernel)
theorem kl_188 : klen 188 = 36 := by decide +kernel
theorem a_189 : isA 20 kN 189 := isA_k (by decide +kernel)
theorem kl_189 : klen 189 = 6 := by decide +kernel
theorem a_190 : isA 20 kN 190 := isA_k (by decide +kernel)
theorem kl_190 : klen 190 = 6 := by decide +kernel
theorem a_191 : isA 20 kN 191 := isA_k (by decide +kernel)
theorem kl_191 : klen 191 = 840 := by decide +kernel
theorem a_192 : isA 20 kN 192 := isA_k (by decide +kernel)
theorem kl_192 : klen 192 = 6 := by decide +kernel
theorem a_193 : isA 20 kN 193 := isA_k (by decide +kernel)
theorem kl_193 : klen 193 = 64 := by decide +kernel
theorem a_194 : isA 20 kN 194 := isA_k (by decide +kernel)
theorem kl_194 : klen 194 = 6 := by decide +kernel
theorem a_195 : isA 20 kN 195 := isA_k (by decide +kernel)
theorem kl_195 : klen 195 = 6 := by decide +kernel
theorem a_196 : isA 20 kN 196 := isA_k (by decide +kernel)
theorem kl_196 : klen 196 = 8 := by decide +kernel
theorem a_197 : isA 20 kN 197 := isA_k (by decide +kernel)
theorem kl_197 : klen 197 = 8 := by decide +kernel
theorem a_198 : isA 20 kN 198 := isA_k (by decide +kernel)
theorem kl_198 : klen 198 = 8 := by decide +kernel
theorem a_199 : isA 20 kN 199 := isA_k (by decide +kernel)
theorem kl_199 : klen 199 = 8 := by decide +kernel
theorem a_200 : isA 20 kN 200 := isA_k (by decide +kernel)
theorem kl_200 : klen 200 = 28 := by decide +kernel
theorem a_201 : isA 20 kN 201 := isA_k (by decide +kernel)
theorem kl_201 : klen 201 = 28 := by decide +kernel
theorem a_202 : isA 20 kN 202 := isA_k (by decide +kernel)
theorem kl_202 : klen 202 = 28 := by decide +kernel
theorem a_203 : isA 20 kN 203 := isA_k (by decide +kernel)
theorem kl_203 : klen 203 = 120 := by decide +kernel
theorem a_204 : isA 20 kN 204 := isA_k (by decide +kernel)
theorem kl_204 : klen 204 = 960 := by decide +kernel
theorem a_205 : isA 20 kN 205 := isA_k (by decide +kernel)
theorem kl_205 : klen 205 = 1920 := by decide +kernel
theorem a_206 : isA 20 kN 206 := isA_k (by decide +kernel)
theorem kl_206 : klen 206 = 480 := by decide +kernel
theorem a_207 : isA 22 kN 207 := isA_k (by decide +kernel)
theorem kl_207 : klen 207 = 120 := by decide +kernel
theorem a_208 : isA 23 kN 208 := isA_k (by decide +kernel)
theorem kl_208 : klen 208 = 1 := by decide +kernel
