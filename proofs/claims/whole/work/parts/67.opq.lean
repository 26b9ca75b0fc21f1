/-! operations: drawn, count, trodden, trips, worn -/
theorem O_drawn {c w : Int} : Op MX11_drawn MX12_drawn [(0, c), (0, w)] := by
  refine Op.of (fun σ => cif (isCel c ∧ 0 ≤ w ∧ w < 4) (landM σ c w) (-1)) (fun σ s _ hk => ?_) (fun d σ Q hd hI h => ?_) (fun d σ Q hd hI h => ?_)
  · show cif _ _ _ = cif _ _ _
    rw [landM_fr hk.1]
  · obtain ⟨d, rfl⟩ : ∃ e, d = e + 1 := ⟨d - 1, by omega⟩
    have hs := h σ hI.self
    refine EX11_drawn fun _ _ _ => SX11_drawn_0 (X_isCell (by omega) (fun c1 => ⟨fun e => by omega, fun _ => X_isLayer (by omega) (fun c2 => ⟨fun e => by omega, fun _ => ?_⟩) (fun c2 => ⟨fun _ => ?_, fun e => absurd rfl e⟩)⟩) (fun c1 => ⟨fun _ => ?_, fun e => absurd rfl e⟩))
    · simp only [cif_pos (show isCel c ∧ 0 ≤ w ∧ w < 4 from ⟨c1, c2⟩)] at hs
      rw [ly_0_0 hI.1]
      refine ⟨o_0, o_1, Land_toldI (by omega) hI.1 o_1 c1 c2 ?_⟩
      rw [hI.2.2.1.eq.1 c w c1.1 c1.2 c2.1 c2.2]
      exact hs
    · simp only [cif_neg (show ¬ (isCel c ∧ 0 ≤ w ∧ w < 4) from fun z => c2 z.2)] at hs
      exact hs
    · simp only [cif_neg (show ¬ (isCel c ∧ 0 ≤ w ∧ w < 4) from fun z => c1 z.1)] at hs
      exact hs
  · obtain ⟨d, rfl⟩ : ∃ e, d = e + 1 := ⟨d - 1, by omega⟩
    have k167 := kl_167
    refine EX12_drawn fun _ _ _ => SX12_drawn_0 ⟨o_166, fun s1 e1 => ?_⟩
    have hk1 : Keep σ s1 := by rw [e1]; exact hI.thrown
    have hI1 := hI.keep hk1
    have hs := h s1 hk1
    refine M_isCell (by omega) (fun c1 => ⟨fun e => by omega, fun _ => M_isIn (by omega) (fun c2 => ⟨fun e => by omega, fun _ => ?_⟩) (fun c2 => ⟨fun _ => ?_, fun e => absurd rfl e⟩)⟩) (fun c1 => ⟨fun _ => ?_, fun e => absurd rfl e⟩)
    · simp only [cif_pos (show isCel c ∧ 0 ≤ w ∧ w < 4 from ⟨c1, by omega⟩)] at hs
      rw [ly_166_1 hI1.1]
      refine ⟨by omega, by omega, a_167, by omega, ?_⟩
      unfold landM at hs
      rw [← hk1.1.1 167 (by unfold scr; omega)] at hs
      exact hs
    · simp only [cif_neg (show ¬ (isCel c ∧ 0 ≤ w ∧ w < 4) from fun z => c2 (by omega))] at hs
      exact hs
    · simp only [cif_neg (show ¬ (isCel c ∧ 0 ≤ w ∧ w < 4) from fun z => c1 z.1)] at hs
      exact hs
def cntA (σ : kS) (a : Int) : Int := if a = 0 then σ 19 1 else if a = 1 then σ 0 6 else if a = 2 then σ 0 8 else if a = 3 then σ 0 11 else if a = 4 then σ 48 1 else if a = 5 then σ 22 1 else if a = 6 then σ 55 1 else if a = 7 then σ 166 54 else if a = 8 then σ 8 1 else if a = 9 then σ 0 2 else -1
theorem cntA_no {σ : kS} {a : Int} (h : a < 0 ∨ 9 < a) : cntA σ a = -1 := by
  unfold cntA
  rw [if_neg (show ¬ a = 0 by omega), if_neg (show ¬ a = 1 by omega), if_neg (show ¬ a = 2 by omega), if_neg (show ¬ a = 3 by omega), if_neg (show ¬ a = 4 by omega), if_neg (show ¬ a = 5 by omega), if_neg (show ¬ a = 6 by omega), if_neg (show ¬ a = 7 by omega), if_neg (show ¬ a = 8 by omega), if_neg (show ¬ a = 9 by omega)]
theorem O_count {a : Int} : Op MX11_count MX12_count [(0, a)] := by
  refine Op.of (fun σ => cntA σ a) (fun σ s _ hk => ?_) (fun d σ Q hd hI h => ?_) (fun d σ Q hd hI h => ?_)
  · show cntA s a = cntA σ a
    unfold cntA
    rw [hk.1.e0, hk.1.1 19 (by unfold scr; omega), hk.1.1 48 (by unfold scr; omega), hk.1.1 22 (by unfold scr; omega), hk.1.1 55 (by unfold scr; omega), hk.1.1 8 (by unfold scr; omega), hk.1.2 54 (by unfold esf; omega)]
  · obtain ⟨d, rfl⟩ : ∃ e, d = e + 1 := ⟨d - 1, by omega⟩
    have hs := h σ hI.self
    have hf := hI.2.2.2.2.2.2.2.2.2.2.2.2.1
    refine EX11_count fun _ _ => SX11_count_0 ?_
    rw [ly_0_9 hI.1, ly_0_16 hI.1, ly_0_12 hI.1, ly_0_17 hI.1, ly_0_13 hI.1, ly_0_3 hI.1, ly_47_0 hI.1, ly_54_0 hI.1]
    refine ⟨fun c => ?_, fun c => ⟨o_0, o_19, ?_⟩, fun c => ⟨o_0, ?_⟩, fun c => ⟨o_0, ?_⟩, fun c => ⟨o_0, ?_⟩, fun c => ⟨o_0, o_47, o_48, ?_⟩, fun c => ⟨o_0, o_22, ?_⟩, fun c => ⟨o_0, o_54, o_55, ?_⟩, fun c => ⟨o_0, o_24, by have := hf.1.2.1; omega, ?_⟩, fun c => ⟨o_0, o_8, ?_⟩, fun c => ⟨o_0, ?_⟩⟩
    · rw [cntA_no c] at hs
      exact hs
    all_goals subst c
    · exact hs
    · exact hs
    · exact hs
    · exact hs
    · exact hs
    · exact hs
    · exact hs
    · rw [hf.2.1, show 4 * σ 166 54 / 4 = σ 166 54 by omega]
      exact hs
    · exact hs
    · exact hs
  · obtain ⟨d, rfl⟩ : ∃ e, d = e + 1 := ⟨d - 1, by omega⟩
    refine EX12_count fun _ _ => SX12_count_0 ⟨o_166, fun s1 e1 => ?_⟩
    have hk1 : Keep σ s1 := by rw [e1]; exact hI.thrown
    have hI1 := hI.keep hk1
    have hs := h s1 hk1
    have e : cntA σ a = cntA s1 a := by
      unfold cntA
      rw [hk1.1.e0, hk1.1.1 19 (by unfold scr; omega), hk1.1.1 48 (by unfold scr; omega), hk1.1.1 22 (by unfold scr; omega), hk1.1.1 55 (by unfold scr; omega), hk1.1.1 8 (by unfold scr; omega), hk1.1.2 54 (by unfold esf; omega)]
    have hs : Q (cntA s1 a) s1 := e ▸ hs
    obtain ⟨a1, a2, a3, a4, a5, a6, a7, a8, a9, a10, a11, a12⟩ := hI1.2.2
    refine ⟨fun c => ?_, fun c => ?_, fun c => ?_, fun c => ?_, fun c => ?_, fun c => ?_, fun c => ?_, fun c => ?_, fun c => ?_, fun c => ?_, fun c => ?_⟩
    · rw [cntA_no c] at hs
      exact hs
    all_goals subst c
    · rw [a3.2.1]; exact hs
    · rw [a5.2.1]; exact hs
    · rw [a6.2.1]; exact hs
    · rw [a7.2.1]; exact hs
    · rw [a8.2.1]; exact hs
    · rw [a9.2.1]; exact hs
    · rw [a10.2.1]; exact hs
    · exact hs
    · rw [a4.2.1]; exact hs
    · rw [a2.2.1]; exact hs
theorem O_trodden {c : Int} : Op MX11_trodden MX12_trodden [(0, c)] := by
  refine Op.of (fun σ => cif (isCel c) (σ 62 c) (-1)) (fun σ s _ hk => ?_) (fun d σ Q hd hI h => ?_) (fun d σ Q hd hI h => ?_)
  · show cif _ _ _ = cif _ _ _
    rw [hk.1.1 62 (by unfold scr; omega)]
  · obtain ⟨d, rfl⟩ : ∃ e, d = e + 1 := ⟨d - 1, by omega⟩
    have k62 := kl_62
    have hs := h σ hI.self
    refine EX11_trodden fun _ _ => SX11_trodden_0 (X_isCell (by omega) (fun c1 => ⟨fun e => by omega, fun _ => ?_⟩) (fun c1 => ⟨fun _ => ?_, fun e => absurd rfl e⟩))
    · simp only [cif_pos (show isCel c from c1)] at hs
      rw [ly_0_18 hI.1, ly_61_0 hI.1]
      exact ⟨o_0, o_61, a_62, by omega, hs⟩
    · simp only [cif_neg (show ¬ isCel c from c1)] at hs
      exact hs
  · obtain ⟨d, rfl⟩ : ∃ e, d = e + 1 := ⟨d - 1, by omega⟩
    have k203 := kl_203
    refine EX12_trodden fun _ _ => SX12_trodden_0 ⟨o_166, fun s1 e1 => ?_⟩
    have hk1 : Keep σ s1 := by rw [e1]; exact hI.thrown
    have hI1 := hI.keep hk1
    have hs := h s1 hk1
    refine M_isCell (by omega) (fun c1 => ⟨fun e => by omega, fun _ => ?_⟩) (fun c1 => ⟨fun _ => ?_, fun e => absurd rfl e⟩)
    · simp only [cif_pos (show isCel c from c1)] at hs
      rw [ly_166_59 hI1.1]
      refine ⟨a_203, by omega, ?_⟩
      rw [← (hI1.2.2.2.2.2.2.2.2.2.2.2.2.2.1 c c1.1 c1.2).1, hk1.1.1 62 (by unfold scr; omega)]
      exact hs
    · simp only [cif_neg (show ¬ isCel c from c1)] at hs
      exact hs
def tripA (σ : kS) (a : Int) : Int := if σ 61 4 = 0 then -1 else if a = 0 then σ 61 2 else if a = 1 then σ 61 3 else -1
theorem O_trips {a : Int} : Op MX11_trips MX12_trips [(0, a)] := by
  refine Op.of (fun σ => tripA σ a) (fun σ s _ hk => ?_) (fun d σ Q hd hI h => ?_) (fun d σ Q hd hI h => ?_)
  · show tripA s a = tripA σ a
    unfold tripA
    rw [hk.1.1 61 (by unfold scr; omega)]
  · obtain ⟨d, rfl⟩ : ∃ e, d = e + 1 := ⟨d - 1, by omega⟩
    have hs := h σ hI.self
    refine EX11_trips fun _ _ => SX11_trips_0 ⟨o_0, ?_⟩
    rw [ly_0_18 hI.1]
    unfold tripA at hs
    refine ⟨o_61, fun c => ?_, fun c => ⟨fun c2 => ?_, fun c2 => ⟨fun c3 => ⟨fun c4 => ?_, fun c4 => ?_⟩, fun c3 => ?_⟩⟩⟩
    · rw [if_pos c] at hs
      exact hs
    · rw [if_neg c, if_neg (show ¬ a = 0 by omega), if_neg (show ¬ a = 1 by omega)] at hs
      exact hs
    · rw [if_neg c, if_neg c4, if_pos (show a = 1 by omega)] at hs
      exact hs
    · rw [if_neg c, if_pos (show a = 0 by omega)] at hs
      exact hs
    · rw [if_neg c, if_neg (show ¬ a = 0 by omega), if_neg (show ¬ a = 1 by omega)] at hs
      exact hs
  · obtain ⟨d, rfl⟩ : ∃ e, d = e + 1 := ⟨d - 1, by omega⟩
    refine EX12_trips fun _ _ => SX12_trips_0 ⟨o_166, fun s1 e1 => ?_⟩
    have hk1 : Keep σ s1 := by rw [e1]; exact hI.thrown
    have hI1 := hI.keep hk1
    have hs := h s1 hk1
    have hf := hI1.2.2.2.2.2.2.2.2.2.2.2.2.2.2
    unfold tripA at hs
    rw [← hk1.1.1 61 (by unfold scr; omega), hf.1, hf.2.1, hf.2.2] at hs
    refine ⟨fun c => ?_, fun c => M_isIn (by omega) (fun c2 => ⟨fun _ => ⟨fun c4 => ?_, fun c4 => ?_⟩, fun e => by omega⟩) (fun c2 => ⟨fun e => absurd rfl e, fun _ => ?_⟩)⟩
    · rw [if_pos c] at hs
      exact hs
    · rw [if_neg c, if_neg c4, if_pos (show a = 1 by omega)] at hs
      exact hs
    · rw [if_neg c, if_pos (show a = 0 by omega)] at hs
      exact hs
    · rw [if_neg c, if_neg (show ¬ a = 0 by omega), if_neg (show ¬ a = 1 by omega)] at hs
      exact hs
/-- how many cells are trodden so often -/
def trodN (f : Int → Int) (k : Int) : Int := sm (fun c => if f c < k then 0 else 1) 120
theorem Feet_trodden {d : Nat} (hd : 1 ≤ d) {σ : kS} {k : Int} {Q : Int → kS → Prop} (hL : Lay σ) (h : Q (trodN (σ 62) k) σ) : Ci d MX1_troddenCells [(2, 61), (0, k)] kN σ Q := by
  obtain ⟨d, rfl⟩ : ∃ e, d = e + 1 := ⟨d - 1, by omega⟩
  have k62 := kl_62
  have key : ∀ c many : Int, 0 ≤ c → c ≤ 120 → many = sm (fun c => if σ 62 c < k then 0 else 1) c.toNat → LX1_troddenCells_4 d kN Q 61 k many c σ := by
    refine up_to (e := 120) ?_
    intro c ih many c0 c1 hm
    have hs := sm_s (f := fun c => if σ 62 c < k then 0 else 1) c0
    have hb := sm_1 (f := fun c => if σ 62 c < k then 0 else 1) (n := c.toNat) (fun i _ _ => by split <;> omega)
    rw [k_toNat c0] at hb
    refine SX1_troddenCells_4 ⟨fun e => ?_, fun e => ?_⟩
    · rw [show c = 120 by omega] at hm
      rw [hm]
      exact h
    · rw [ly_61_0 hL]
      refine ⟨o_61, a_62, by omega, fun q => ⟨by omega, ih (by omega) many (by omega) (by omega) ?_⟩, fun q => ⟨by omega, by omega, ih (by omega) (many + 1) (by omega) (by omega) ?_⟩⟩
      · rw [hs, hm]
        simp only [if_pos q]
        omega
      · rw [hs, hm]
        simp only [if_neg q]
  exact EX1_troddenCells fun _ _ => SX1_troddenCells_0 (key 0 0 (by omega) (by omega) rfl)
theorem M_trodden {d : Nat} (hd : 1 ≤ d) {σ : kS} {k : Int} {Q : Int → kS → Prop} (hL : Lay σ) (h : Q (trodN (σ 203) k) σ) : Ci d MX12_troddenMany [(2, 166), (0, k)] kN σ Q := by
  obtain ⟨d, rfl⟩ : ∃ e, d = e + 1 := ⟨d - 1, by omega⟩
  have k203 := kl_203
  have key : ∀ c many : Int, 0 ≤ c → c ≤ 120 → many = sm (fun c => if σ 203 c < k then 0 else 1) c.toNat → LX12_troddenMany_4 d kN Q 166 k many c σ := by
    refine up_to (e := 120) ?_
    intro c ih many c0 c1 hm
    have hs := sm_s (f := fun c => if σ 203 c < k then 0 else 1) c0
    have hb := sm_1 (f := fun c => if σ 203 c < k then 0 else 1) (n := c.toNat) (fun i _ _ => by split <;> omega)
    rw [k_toNat c0] at hb
    refine SX12_troddenMany_4 ⟨fun e => ?_, fun e => ?_⟩
    · rw [show c = 120 by omega] at hm
      rw [hm]
      exact h
    · rw [ly_166_59 hL]
      refine ⟨o_166, a_203, by omega, fun q => ⟨by omega, by omega, ih (by omega) (many + 0) (by omega) (by omega) ?_⟩, fun q => ⟨by omega, by omega, ih (by omega) (many + 1) (by omega) (by omega) ?_⟩⟩
      · rw [hs, hm]
        simp only [if_pos q]
      · rw [hs, hm]
        simp only [if_neg q]
  exact EX12_troddenMany fun _ _ => SX12_troddenMany_0 (key 0 0 (by omega) (by omega) rfl)
theorem cFeet.trod {σ : kS} {k : Int} (h : cFeet σ) : trodN (σ 203) k = trodN (σ 62) k :=
  sm_cong (fun i i0 i1 => by rw [(h.1 i i0 (by omega)).1])
theorem O_worn {k : Int} : Op MX11_worn MX12_worn [(0, k)] := by
  refine Op.of (fun σ => cif (1 ≤ k ∧ k ≤ 99) (trodN (σ 62) k) (-1)) (fun σ s _ hk => ?_) (fun d σ Q hd hI h => ?_) (fun d σ Q hd hI h => ?_)
  · show cif _ _ _ = cif _ _ _
    rw [hk.1.1 62 (by unfold scr; omega)]
  · obtain ⟨d, rfl⟩ : ∃ e, d = e + 1 := ⟨d - 1, by omega⟩
    have hs := h σ hI.self
    refine EX11_worn fun _ _ => SX11_worn_0 (X_isOften (by omega) (fun c1 => ⟨fun e => by omega, fun _ => ?_⟩) (fun c1 => ⟨fun _ => ?_, fun e => absurd rfl e⟩))
    · simp only [cif_pos (show 1 ≤ k ∧ k ≤ 99 from c1)] at hs
      rw [ly_0_18 hI.1]
      exact ⟨o_0, o_61, Feet_trodden (by omega) hI.1 hs⟩
    · simp only [cif_neg (show ¬ (1 ≤ k ∧ k ≤ 99) from c1)] at hs
      exact hs
  · obtain ⟨d, rfl⟩ : ∃ e, d = e + 1 := ⟨d - 1, by omega⟩
    refine EX12_worn fun _ _ => SX12_worn_0 ⟨o_166, fun s1 e1 => ?_⟩
    have hk1 : Keep σ s1 := by rw [e1]; exact hI.thrown
    have hI1 := hI.keep hk1
    have hs := h s1 hk1
    refine M_isIn (by omega) (fun c1 => ⟨fun e => by omega, fun _ => M_trodden (by omega) hI1.1 ?_⟩) (fun c1 => ⟨fun _ => ?_, fun e => absurd rfl e⟩)
    · simp only [cif_pos (show 1 ≤ k ∧ k ≤ 99 from c1)] at hs
      rw [hI1.2.2.2.2.2.2.2.2.2.2.2.2.2.trod, hk1.1.1 62 (by unfold scr; omega)]
      exact hs
    · simp only [cif_neg (show ¬ (1 ≤ k ∧ k ≤ 99) from c1)] at hs
      exact hs
