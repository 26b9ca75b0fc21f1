/-! the arrays of objects -/
theorem line_at {σ : kS} (hL : Lay σ) {i : Int} (h : 0 ≤ i ∧ i < 10) : σ 21 i = 146 + 2 * i ∧ isO 8 kN (146 + 2 * i) ∧ klen (146 + 2 * i + 1) = 128 := by
  rcases (show i = 0 ∨ i = 1 ∨ i = 2 ∨ i = 3 ∨ i = 4 ∨ i = 5 ∨ i = 6 ∨ i = 7 ∨ i = 8 ∨ i = 9 by omega) with rfl | rfl | rfl | rfl | rfl | rfl | rfl | rfl | rfl | rfl
  · exact ⟨ly_21_0 hL, o_146, kl_147⟩
  · exact ⟨ly_21_1 hL, o_148, kl_149⟩
  · exact ⟨ly_21_2 hL, o_150, kl_151⟩
  · exact ⟨ly_21_3 hL, o_152, kl_153⟩
  · exact ⟨ly_21_4 hL, o_154, kl_155⟩
  · exact ⟨ly_21_5 hL, o_156, kl_157⟩
  · exact ⟨ly_21_6 hL, o_158, kl_159⟩
  · exact ⟨ly_21_7 hL, o_160, kl_161⟩
  · exact ⟨ly_21_8 hL, o_162, kl_163⟩
  · exact ⟨ly_21_9 hL, o_164, kl_165⟩
theorem goer_at {σ : kS} (hL : Lay σ) {i : Int} (h : 0 ≤ i ∧ i < 6) : σ 17 i = 97 + 4 * i ∧ isO 3 kN (97 + 4 * i) := by
  rcases (show i = 0 ∨ i = 1 ∨ i = 2 ∨ i = 3 ∨ i = 4 ∨ i = 5 by omega) with rfl | rfl | rfl | rfl | rfl | rfl
  · exact ⟨ly_17_0 hL, o_97⟩
  · exact ⟨ly_17_1 hL, o_101⟩
  · exact ⟨ly_17_2 hL, o_105⟩
  · exact ⟨ly_17_3 hL, o_109⟩
  · exact ⟨ly_17_4 hL, o_113⟩
  · exact ⟨ly_17_5 hL, o_117⟩
theorem book_at {σ : kS} (hL : Lay σ) {i : Int} (h : 0 ≤ i ∧ i < 5) : σ 18 i = 121 + 5 * i ∧ isO 0 kN (121 + 5 * i) ∧ isO 8 kN (121 + 5 * i + 1) ∧ isO 8 kN (121 + 5 * i + 3) := by
  rcases (show i = 0 ∨ i = 1 ∨ i = 2 ∨ i = 3 ∨ i = 4 by omega) with rfl | rfl | rfl | rfl | rfl
  · exact ⟨ly_18_0 hL, o_121, o_122, o_124⟩
  · exact ⟨ly_18_1 hL, o_126, o_127, o_129⟩
  · exact ⟨ly_18_2 hL, o_131, o_132, o_134⟩
  · exact ⟨ly_18_3 hL, o_136, o_137, o_139⟩
  · exact ⟨ly_18_4 hL, o_141, o_142, o_144⟩
theorem era_at {σ : kS} (hL : Lay σ) {i : Int} (h : 0 ≤ i ∧ i < 4) : σ 7 i = 73 + 6 * i ∧ isO 5 kN (73 + 6 * i) := by
  rcases (show i = 0 ∨ i = 1 ∨ i = 2 ∨ i = 3 by omega) with rfl | rfl | rfl | rfl
  · exact ⟨ly_7_0 hL, o_73⟩
  · exact ⟨ly_7_1 hL, o_79⟩
  · exact ⟨ly_7_2 hL, o_85⟩
  · exact ⟨ly_7_3 hL, o_91⟩
