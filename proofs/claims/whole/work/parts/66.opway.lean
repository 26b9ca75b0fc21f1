/-! operations: pains, way, nearly, sees -/
theorem Fr.e0 {σ s : kS} (h : Fr σ s) : s 0 = σ 0 := h.1 0 (by unfold scr; omega)
theorem isWy_fr {σ s : kS} (h : Fr σ s) {g l a b : Int} : isWy s g l a b = isWy σ g l a b := by
  unfold isWy isMan
  rw [h.e0]
theorem isMan_fr {σ s : kS} (h : Fr σ s) {g l : Int} : isMan s g l = isMan σ g l := by
  unfold isMan
  rw [h.e0]
theorem MI_isMan {d : Nat} (hd : 2 ≤ d) {σ : kS} {g l : Int} {Q : Int → kS → Prop} (hI : Inv σ) (h1 : isMan σ g l → Q 1 σ) (h0 : ¬ isMan σ g l → Q 0 σ) : Ci d MX12_isManner [(2, 166), (0, g), (0, l)] kN σ Q := by
  have e := hI.2.2.2.2.2.2.1.2.1
  refine M_isManner hd (fun c => h1 ?_) (fun c => h0 (fun z => c ?_))
  · rw [e] at c
    exact c
  · rw [e]
    exact z
theorem MI_isWay {d : Nat} (hd : 3 ≤ d) {σ : kS} {g l a b : Int} {Q : Int → kS → Prop} (hI : Inv σ) (h1 : isWy σ g l a b → Q 1 σ) (h0 : ¬ isWy σ g l a b → Q 0 σ) : Ci d MX12_isWay [(2, 166), (0, g), (0, l), (0, a), (0, b)] kN σ Q := by
  have e := hI.2.2.2.2.2.2.1.2.1
  refine M_isWay hd (fun c => h1 ?_) (fun c => h0 (fun z => c ?_))
  · rw [e] at c
    exact c
  · rw [e]
    exact z
theorem MI_layWay {d : Nat} (hd : 38 ≤ d) {σ : kS} {g load wet a b : Int} {Q : kS → Prop} (hI : Inv σ) (hw : wet = 0 ∨ wet = 1) (hy : isWy σ g load a b) (h : ∀ s, MWent σ s (tolN σ g load wet) a b → Q s) : Cv d MX12_layWay [(2, 166), (0, g), (0, load), (0, wet), (0, a), (0, b)] kN σ Q :=
  M_layWay hd hI.1 ⟨hy.1.1.1, by have := hI.2.2.2.2.2.2.1.1; have := hy.1.1.2; omega⟩ (hI.2.2.2.2.2.2.1.gm hy.1.1) hw hI.2.2.1.eq.2 hy.2.1 hy.2.2 h
theorem XI_goes {d : Nat} (hd : 7 ≤ d) {σ : kS} {g load wet a b : Int} {Q : Int → kS → Prop} (hI : Inv σ) (hw : wet = 0 ∨ wet = 1) (h1 : isWy σ g load a b → ∀ s, Went σ s (tolN σ g load wet) a b → Q 1 s) (h0 : ¬ isWy σ g load a b → Q 0 σ) : Ci d MX11_goes [(2, 0), (2, 1), (0, g), (0, load), (0, wet), (0, a), (0, b)] kN σ Q :=
  X_goes hd hI hw o_1 hI.2.2.1.eq.1 hI.2.2.1.eq.2 h1 h0
theorem O_pains {g load wet a b : Int} (hw : wet = 0 ∨ wet = 1) : Op MX11_pains MX12_pains [(0, g), (0, load), (0, wet), (0, a), (0, b)] := by
  refine Op.of (fun σ => cif (isWy σ g load a b) (sumP (tolN σ g load wet) b a / 1000) (-1)) (fun σ s _ hk => ?_) (fun d σ Q hd hI h => ?_) (fun d σ Q hd hI h => ?_)
  · show cif _ _ _ = cif _ _ _
    rw [isWy_fr hk.1, tolN_fr hk.1]
  · obtain ⟨d, rfl⟩ : ∃ e, d = e + 1 := ⟨d - 1, by omega⟩
    refine EX11_pains fun _ _ _ _ _ _ => SX11_pains_0 ⟨o_0, ?_⟩
    rw [ly_0_0 hI.1]
    refine XI_goes (by omega) hI hw (fun c s hs => ⟨fun e => by omega, fun _ => ?_⟩) (fun c => ⟨fun _ => ?_, fun e => absurd rfl e⟩)
    · rw [ly_0_14 hs.1.2.1]
      have hz := hs.2.2.2.2.1 a c.2.1.1 c.2.1.2
      have := h s hs.1
      simp only [cif_pos c] at this
      rw [← hz.1] at this
      exact ⟨o_26, Ways_least (by omega) hs.1.2.1 c.2.1 hz.2.1 this⟩
    · have := h σ hI.self
      simp only [cif_neg c] at this
      exact this
  · obtain ⟨d, rfl⟩ : ∃ e, d = e + 1 := ⟨d - 1, by omega⟩
    refine EX12_pains fun _ _ _ _ _ _ => SX12_pains_0 ⟨o_166, fun s1 e1 => ?_⟩
    have hk1 : Keep σ s1 := by rw [e1]; exact hI.thrown
    have hI1 := hI.keep hk1
    refine MI_isWay (by omega) hI1 (fun c => ⟨fun _ => MI_layWay (by omega) hI1 hw c (fun s hs => ?_), fun e => by omega⟩) (fun c => ⟨fun e => absurd rfl e, fun _ => ?_⟩)
    · have k178 := kl_178
      have hz := hs.2.2.2.2.2.2.2.1 a c.2.1.1 c.2.1.2
      have hca := c.2.1
      unfold isCel at hca
      rw [ly_166_27 hs.2.2.1]
      have := h s (hk1.trans (hs.keep hI1))
      rw [isWy_fr hk1.1] at c
      simp only [cif_pos c] at this
      rw [tolN_fr hk1.1] at hz
      rw [← hz.1] at this
      exact ⟨a_178, by omega, hz.2.1, this⟩
    · have := h s1 hk1
      rw [isWy_fr hk1.1] at c
      simp only [cif_neg c] at this
      exact this
/-- what way answers of a row l -/
noncomputable def wayAns (l : List Int) (i : Int) : Int := cif (i = -1) ((l.length : Int) - 1) (cif (0 ≤ i ∧ i < l.length) (l.getD i.toNat 0) (-1))
theorem rowL_getD {σ : kS} {r i : Int} (h : 0 ≤ i ∧ i < σ r 1) : (rowL σ r).getD i.toNat 0 = σ (r + 1) i := by
  rw [List.getD_eq_getElem?_getD, rowL_get (by omega), k_toNat h.1]
  rfl
theorem seg_getD {f : Int → Int} {n i : Int} (h : 0 ≤ i ∧ i < n) : (seg f 0 n).getD i.toNat 0 = f i := by
  unfold seg
  rw [List.getD_eq_getElem?_getD, List.getElem?_map, List.getElem?_range (by omega)]
  show f (0 + ((i.toNat : Nat) : Int)) = f i
  rw [k_toNat h.1, Int.zero_add]
theorem wayAns_row {σ : kS} {r i : Int} (h : 0 ≤ σ r 1) (hi : i ≠ -1) : wayAns (rowL σ r) i = rowAt σ r i := by
  unfold wayAns rowAt
  have hl : ((rowL σ r).length : Int) = σ r 1 := by rw [rowL_len]; omega
  rw [cif_neg hi, hl]
  by_cases c : 0 ≤ i ∧ i < σ r 1
  · rw [cif_pos c, if_pos c, rowL_getD c]
  · rw [cif_neg c, if_neg c]
theorem O_way {g load wet a b i : Int} (hw : wet = 0 ∨ wet = 1) : Op MX11_way MX12_way [(0, g), (0, load), (0, wet), (0, a), (0, b), (0, i)] := by
  refine Op.of (fun σ => cif (isWy σ g load a b) (wayAns (wayP (tolN σ g load wet) a b) i) (-1)) (fun σ s _ hk => ?_) (fun d σ Q hd hI h => ?_) (fun d σ Q hd hI h => ?_)
  · show cif _ _ _ = cif _ _ _
    rw [isWy_fr hk.1, tolN_fr hk.1]
  · obtain ⟨d, rfl⟩ : ∃ e, d = e + 1 := ⟨d - 1, by omega⟩
    refine EX11_way fun _ _ _ _ _ _ _ => SX11_way_0 ⟨o_0, ?_⟩
    rw [ly_0_0 hI.1]
    refine XI_goes (by omega) hI hw (fun c s hs => ⟨fun _ => ?_, fun e => by omega⟩) (fun c => ⟨fun e => absurd rfl e, fun _ => ?_⟩)
    · have hLs := hs.1.2.1
      have hr := hs.2.1.1
      have k37 : klen (36 + 1) = 120 := kl_37
      have hsz := hr.1.2
      rw [ly_0_14 hLs, ly_26_13 hLs]
      have := h s hs.1
      simp only [cif_pos c] at this
      rw [← hs.2.2.2.1] at this
      refine ⟨fun ci => ⟨o_26, o_36, Row_at (by omega) hLs hr.1 ?_⟩, fun ci => ⟨o_26, o_36, by omega, ?_⟩⟩
      · rwa [wayAns_row hsz.1 ci] at this
      · unfold wayAns at this
        rw [cif_pos (Classical.not_not.mp ci), rowL_len, k_toNat hsz.1] at this
        exact this
    · have := h σ hI.self
      simp only [cif_neg c] at this
      exact this
  · obtain ⟨d, rfl⟩ : ∃ e, d = e + 1 := ⟨d - 1, by omega⟩
    refine EX12_way fun _ _ _ _ _ _ _ => SX12_way_0 ⟨o_166, fun s1 e1 => ?_⟩
    have hk1 : Keep σ s1 := by rw [e1]; exact hI.thrown
    have hI1 := hI.keep hk1
    refine MI_isWay (by omega) hI1 (fun c => ⟨fun _ => MI_layWay (by omega) hI1 hw c (fun s hs => ?_), fun e => by omega⟩) (fun c => ⟨fun e => absurd rfl e, fun _ => ?_⟩)
    · have k180 := kl_180
      have hn := hs.2.2.2.1
      have := h s (hk1.trans (hs.keep hI1))
      rw [isWy_fr hk1.1] at c
      simp only [cif_pos c] at this
      have hl := hs.2.2.2.2.2.2.1
      rw [tolN_fr hk1.1] at hl
      rw [← hl] at this
      have hlen : ((seg (s 180) 0 (s 166 30)).length : Int) = s 166 30 := by rw [seg_len]; omega
      unfold wayAns at this
      rw [hlen] at this
      refine ⟨fun ci => ⟨by omega, M_isIn (by omega) (fun c2 => ⟨fun e => by omega, fun _ => ?_⟩) (fun c2 => ⟨fun _ => ?_, fun e => absurd rfl e⟩)⟩, fun ci => ⟨by omega, ?_⟩⟩
      · rw [ly_166_29 hs.2.2.1]
        rw [cif_neg ci, cif_pos (show 0 ≤ i ∧ i < s 166 30 by omega), seg_getD (by omega)] at this
        exact ⟨a_180, by omega, this⟩
      · rw [cif_neg ci, cif_neg (show ¬ (0 ≤ i ∧ i < s 166 30) by omega)] at this
        exact this
      · rw [cif_pos (Classical.not_not.mp ci)] at this
        exact this
    · have := h s1 hk1
      rw [isWy_fr hk1.1] at c
      simp only [cif_neg c] at this
      exact this
theorem O_sees {a b : Int} : Op MX11_sees MX12_sees [(0, a), (0, b)] := by
  refine Op.of (fun σ => cif (isCel a ∧ isCel b ∧ a ≠ b) (cif (sees (σ 167) a b) 1 0) (-1)) (fun σ s _ hk => ?_) (fun d σ Q hd hI h => ?_) (fun d σ Q hd hI h => ?_)
  · show cif _ _ _ = cif _ _ _
    rw [hk.1.1 167 (by unfold scr; omega)]
  · obtain ⟨d, rfl⟩ : ∃ e, d = e + 1 := ⟨d - 1, by omega⟩
    have hself := h σ hI.self
    have hle := hI.2.2.1.eq
    have hm0 : ∀ x, σ 167 x = landM σ x 0 := fun x => by unfold landM; rw [show 120 * 0 + x = x by omega]
    have hH : HOK σ 1 := fun c c0 c1 => by
      rw [hle.1 c 0 c0 c1 (by decide) (by decide)]
      exact (hle.2.at ⟨c0, c1⟩).1
    refine EX11_sees fun _ _ _ => SX11_sees_0 (X_isCell (by omega) (fun c1 => ⟨fun e => by omega, fun _ => X_isCell (by omega) (fun c2 => ⟨fun e => by omega, fun _ => ⟨fun c3 => ⟨o_0, ?_⟩, fun c3 => ?_⟩⟩) (fun c2 => ⟨fun _ => ?_, fun e => absurd rfl e⟩)⟩) (fun c1 => ⟨fun _ => ?_, fun e => absurd rfl e⟩))
    · rw [ly_0_0 hI.1, ly_0_15 hI.1]
      simp only [cif_pos (show isCel a ∧ isCel b ∧ a ≠ b from ⟨c1, c2, c3⟩)] at hself
      have hsc : sees (fun c => told σ 1 c 0) a b ↔ sees (σ 167) a b := sees_cong c1 c2 (fun c c0 cl => by rw [hm0]; exact hle.1 c 0 c0 cl (by decide) (by decide))
      refine ⟨o_40, Sight_isSeen (by omega) hI.1 o_1 hH c1 c2 (fun q => ⟨fun e => by omega, fun _ => ?_⟩) (fun q => ⟨fun _ => ?_, fun e => absurd rfl e⟩)⟩
      · rwa [cif_pos (hsc.mp q)] at hself
      · rwa [cif_neg (fun z => q (hsc.mpr z))] at hself
    · simp only [cif_neg (show ¬ (isCel a ∧ isCel b ∧ a ≠ b) from fun z => c3 z.2.2)] at hself
      exact hself
    · simp only [cif_neg (show ¬ (isCel a ∧ isCel b ∧ a ≠ b) from fun z => c2 z.2.1)] at hself
      exact hself
    · simp only [cif_neg (show ¬ (isCel a ∧ isCel b ∧ a ≠ b) from fun z => c1 z.1)] at hself
      exact hself
  · obtain ⟨d, rfl⟩ : ∃ e, d = e + 1 := ⟨d - 1, by omega⟩
    refine EX12_sees fun _ _ _ => SX12_sees_0 ⟨o_166, fun s1 e1 => ?_⟩
    have hk1 : Keep σ s1 := by rw [e1]; exact hI.thrown
    have hI1 := hI.keep hk1
    have hself := h s1 hk1
    have hle := hI1.2.2.1.eq
    have e167 : s1 167 = σ 167 := hk1.1.1 167 (by unfold scr; omega)
    rw [← e167] at hself
    have hH : HM s1 := fun c c0 c1 => by
      have := (hle.2.at ⟨c0, c1⟩).1
      unfold landM at this
      rwa [show 120 * 0 + c = c by omega] at this
    refine M_isCell (by omega) (fun c1 => ⟨fun e => by omega, fun _ => M_isCell (by omega) (fun c2 => ⟨fun e => by omega, fun _ => ⟨fun c3 => ?_, fun c3 => ?_⟩⟩) (fun c2 => ⟨fun _ => ?_, fun e => absurd rfl e⟩)⟩) (fun c1 => ⟨fun _ => ?_, fun e => absurd rfl e⟩)
    · simp only [cif_pos (show isCel a ∧ isCel b ∧ a ≠ b from ⟨c1, c2, c3⟩)] at hself
      refine M_seesIt (by omega) hI1.1 hH c1 c2 (fun q => ⟨fun e => by omega, fun _ => ?_⟩) (fun q => ⟨fun _ => ?_, fun e => absurd rfl e⟩)
      · rwa [cif_pos q] at hself
      · rwa [cif_neg q] at hself
    · simp only [cif_neg (show ¬ (isCel a ∧ isCel b ∧ a ≠ b) from fun z => c3 z.2.2)] at hself
      exact hself
    · simp only [cif_neg (show ¬ (isCel a ∧ isCel b ∧ a ≠ b) from fun z => c2 z.2.1)] at hself
      exact hself
    · simp only [cif_neg (show ¬ (isCel a ∧ isCel b ∧ a ≠ b) from fun z => c1 z.1)] at hself
      exact hself
