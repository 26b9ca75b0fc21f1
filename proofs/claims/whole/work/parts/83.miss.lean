/-! miss, best, tried -/
def missL (road W : List Int) : Int := sm (fun j => if isNearL road (W.getD j.toNat 0 % 12) (W.getD j.toNat 0 / 12) 1 = true then 0 else 1) W.length
noncomputable def missA (σ : kS) (T : Int → Int) (i : Int) : Int := missL (rowL σ (146 + 2 * σ 23 i)) (wayP T (σ (147 + 2 * σ 23 i) 0) (σ (147 + 2 * σ 23 i) (σ (146 + 2 * σ 23 i) 1 - 1)))
theorem missA_fr {σ s : kS} (hI : Inv σ) (h : Fr σ s) {T : Int → Int} {i : Int} (hi : 0 ≤ i ∧ i < σ 22 1) : missA s T i = missA σ T i := by
  have hK := hI.2.2.2.2.2.2.2.2.2.2.1
  have hn := hI.2.2.2.2.2.2.2.2.1.1
  have h1 := (hK.2.2 i hi.1 hi.2).2
  unfold missA
  rw [h.1 23 (by unfold scr; omega), rowL_line h (by omega), h.1 (147 + 2 * σ 23 i) (by unfold scr; omega), h.1 (146 + 2 * σ 23 i) (by unfold scr; omega)]
theorem missL_loop {road : List Int} {f : Int → Int} {n : Int} (hn : 0 ≤ n) : missL road (seg f 0 n) = sm (fun j => if isNearL road (f j % 12) (f j / 12) 1 = true then 0 else 1) n.toNat := by
  unfold missL
  rw [seg_len]
  exact sm_cong (fun j j0 j1 => by rw [seg_getD (by omega)])
theorem X_missOf {d : Nat} (hd : 6 ≤ d) {σ : kS} {T : Int → Int} {i : Int} {Q : Int → kS → Prop} (hI : Inv σ) (ht : TolOK T) (hT : TEq (σ 28) T) (hi : 0 ≤ i ∧ i < σ 22 1) (h : ∀ s, Keep σ s → off [26, 29, 31, 36, 37] σ s → 0 ≤ missA σ T i ∧ missA σ T i ≤ 120 → Q (missA σ T i) s) : Ci d MX11_missOf [(2, 0), (0, i)] kN σ Q := by
  obtain ⟨d, rfl⟩ : ∃ e, d = e + 1 := ⟨d - 1, by omega⟩
  have hK := hI.2.2.2.2.2.2.2.2.2.2.1
  have hC := hI.2.2.2.2.2.2.2.2.1
  have hn := hC.1
  have hl := (hK.2.2 i hi.1 hi.2).2
  have k21 := kl_21
  have ev : rowAt σ 22 i = σ 23 i := rowAt_in hi
  refine EX11_missOf fun _ _ => SX11_missOf_0 ⟨o_0, ?_⟩
  rw [ly_0_12 hI.1]
  refine ⟨o_22, Row_at (by omega) hI.1 hK.1 ?_⟩
  rw [ev]
  refine X_isLine (by omega) (fun _ => ⟨fun _ => ?_, fun e => by omega⟩) (fun z => absurd hl z)
  have hla := line_at hI.1 (i := σ 23 i) (by omega)
  have hb := hC.2.2 (σ 23 i) hl.1 hl.2
  have hr := hb.1
  have hsz := hr.1.2
  have hc0 := line_cell hC hl (i := 0) (by omega)
  have hc1 := line_cell hC hl (i := σ (146 + 2 * σ 23 i) 1 - 1) (by omega)
  have e0 : rowAt σ (146 + 2 * σ 23 i) 0 = σ (147 + 2 * σ 23 i) 0 := by rw [rowAt_in (by omega), show 146 + 2 * σ 23 i + 1 = 147 + 2 * σ 23 i by omega]
  have e1 : rowAt σ (146 + 2 * σ 23 i) (σ (146 + 2 * σ 23 i) 1 - 1) = σ (147 + 2 * σ 23 i) (σ (146 + 2 * σ 23 i) 1 - 1) := by rw [rowAt_in (by omega), show 146 + 2 * σ 23 i + 1 = 147 + 2 * σ 23 i by omega]
  rw [ly_0_10 hI.1, hla.1]
  refine ⟨a_21, by omega, hla.2.1, Row_at (by omega) hI.1 hr.1 (Row_last (by omega) hI.1 hr.1 ?_)⟩
  rw [e0, e1, ly_0_14 hI.1]
  refine ⟨o_26, X_layT (by omega) hI hc0 hc1 ht hT (fun s hs ho => ?_)⟩
  have hIs := hI.keep hs.1
  have hrs := hs.2.1.1
  have hss := hrs.1.2
  have hrl : rowL s (146 + 2 * σ 23 i) = rowL σ (146 + 2 * σ 23 i) := rowL_line hs.1.1 (by omega)
  have hRC : RowC s (146 + 2 * σ 23 i) := (hIs.2.2.2.2.2.2.2.2.1.2.2 (σ 23 i) hl.1 (by rw [hs.1.1.e0]; exact hl.2)).1
  have hW : wayP T (σ (147 + 2 * σ 23 i) 0) (σ (147 + 2 * σ 23 i) (σ (146 + 2 * σ 23 i) 1 - 1)) = seg (s 37) 0 (s 36 1) := by
    rw [← hs.2.2.2.1]
    exact rowL_seg
  have k37 : klen (36 + 1) = 120 := kl_37
  have hbd : 0 ≤ missA σ T i ∧ missA σ T i ≤ 120 := by
    unfold missA
    rw [hW, missL_loop hss.1]
    have := sm_1 (f := fun j => if isNearL (rowL σ (146 + 2 * σ 23 i)) (s 37 j % 12) (s 37 j / 12) 1 = true then 0 else 1) (n := (s 36 1).toNat) (fun _ _ _ => by split <;> omega)
    omega
  have hgo := h s hs.1 ho hbd
  unfold missA at hgo
  rw [hW, missL_loop hss.1] at hgo
  have key : ∀ j many : Int, 0 ≤ j → j ≤ s 36 1 → many = sm (fun j => if isNearL (rowL σ (146 + 2 * σ 23 i)) (s 37 j % 12) (s 37 j / 12) 1 = true then 0 else 1) j.toNat → LX11_missOf_48 d kN Q 0 (146 + 2 * σ 23 i) many j s := by
    refine up_to (e := s 36 1) ?_
    intro j ih many j0 j1 hm
    have hsq := sm_s (f := fun j => if isNearL (rowL σ (146 + 2 * σ 23 i)) (s 37 j % 12) (s 37 j / 12) 1 = true then 0 else 1) j0
    have hbb := sm_1 (f := fun j => if isNearL (rowL σ (146 + 2 * σ 23 i)) (s 37 j % 12) (s 37 j / 12) 1 = true then 0 else 1) (n := j.toNat) (fun _ _ _ => by split <;> omega)
    rw [k_toNat j0] at hbb
    refine SX11_missOf_48 ⟨o_0, ?_⟩
    have k37 : klen (36 + 1) = 120 := kl_37
    rw [ly_0_14 hIs.1, ly_26_13 hIs.1]
    refine ⟨o_26, o_36, fun q => ?_, fun q => Row_atI (by omega) hIs.1 hrs.1 ⟨j0, by omega⟩ ?_⟩
    · rw [show j = s 36 1 by omega] at hm
      rw [hm]
      exact hgo
    · have hcell : 0 ≤ s 37 j ∧ s 37 j < 120 := hrs.2 j j0 (by omega)
      rw [show (36 : Int) + 1 = 37 from rfl]
      refine ⟨hcell.1, hRC.1.1, Row_isNear (by omega) hIs.1 hRC (by omega) (by omega) (fun hnr => ⟨fun _ => ⟨by omega, ih (by omega) many (by omega) (by omega) ?_⟩, fun e => by omega⟩) (fun hnr => ⟨fun e => absurd rfl e, fun _ => ⟨by omega, by omega, ih (by omega) _ (by omega) (by omega) ?_⟩⟩)⟩
      · rw [hrl, ← isNearL_iff] at hnr
        rw [hsq, hm, if_pos hnr]
        omega
      · rw [hrl, ← isNearL_iff] at hnr
        rw [hsq, hm, if_neg hnr]
  exact key 0 0 (by omega) hss.1 rfl
theorem M_missOf {d : Nat} (hd : 7 ≤ d) {σ : kS} {T : Int → Int} {i : Int} {Q : Int → kS → Prop} (hI : Inv σ) (ht : TolOK T) (hT : TEq (σ 177) T) (hi : 0 ≤ i ∧ i < σ 22 1) (h : ∀ s, Keep σ s → off [166, 178, 180] σ s → 0 ≤ missA σ T i ∧ missA σ T i ≤ 120 → Q (missA σ T i) s) : Ci d MX12_missOf [(2, 166), (0, i)] kN σ Q := by
  obtain ⟨d, rfl⟩ : ∃ e, d = e + 1 := ⟨d - 1, by omega⟩
  have hK := hI.2.2.2.2.2.2.2.2.2.2.1
  have hC := hI.2.2.2.2.2.2.2.2.1
  have hn := hC.1
  have hl := (hK.2.2 i hi.1 hi.2).2
  have k187 := kl_187
  have k182 := kl_182
  have k180 := kl_180
  have k23 : klen (22 + 1) = 6 := kl_23
  have hsz22 := hK.1.2
  refine EX12_missOf fun _ _ => SX12_missOf_0 ⟨o_166, ?_⟩
  rw [ly_166_39 hI.1, ← (hK.2.2 i hi.1 hi.2).1]
  have hla := line_at hI.1 (i := σ 23 i) (by omega)
  obtain ⟨b1, b2, b3, b4, b5⟩ := hC.2.2 (σ 23 i) hl.1 hl.2
  have hsz := b1.1.2
  have hc0 := line_cell hC hl (i := 0) (by omega)
  have hc1 := line_cell hC hl (i := σ (146 + 2 * σ 23 i) 1 - 1) (by omega)
  refine ⟨a_187, by omega, M_cellOf (by omega) hI.1 (by omega) (by omega) ?_⟩
  rw [ly_166_32 hI.1, b3]
  refine ⟨a_182, by omega, by omega, M_cellOf (by omega) hI.1 (by omega) (by omega) ?_⟩
  rw [← b4 0 (by omega) (by omega), ← b4 (σ (146 + 2 * σ 23 i) 1 - 1) (by omega) (by omega)]
  refine M_goT (by omega) hI.1 hc0 hc1 ht hT (fun s hs hj ho => ?_)
  have hks := hs.keep hI
  have hIs := hI.keep hks
  have hss := hs.2.2.2.1
  have hCs := hIs.2.2.2.2.2.2.2.2.1
  have hls : 0 ≤ σ 23 i ∧ σ 23 i < s 0 11 := by rw [hks.1.e0]; exact hl
  have hrl : rowL s (146 + 2 * σ 23 i) = rowL σ (146 + 2 * σ 23 i) := rowL_line hks.1 (by omega)
  have hbd : 0 ≤ missA σ T i ∧ missA σ T i ≤ 120 := by
    unfold missA
    rw [← hs.2.2.2.2.2.2.1, missL_loop (by omega)]
    have := sm_1 (f := fun j => if isNearL (rowL σ (146 + 2 * σ 23 i)) (s 180 j % 12) (s 180 j / 12) 1 = true then 0 else 1) (n := (s 166 30).toNat) (fun _ _ _ => by split <;> omega)
    omega
  have hgo := h s hks ho hbd
  unfold missA at hgo
  rw [← hs.2.2.2.2.2.2.1, missL_loop (by omega)] at hgo
  have key : ∀ j many : Int, 0 ≤ j → j ≤ s 166 30 → many = sm (fun j => if isNearL (rowL σ (146 + 2 * σ 23 i)) (s 180 j % 12) (s 180 j / 12) 1 = true then 0 else 1) j.toNat → LX12_missOf_35 d kN Q 166 (σ 23 i) many j s := by
    refine up_to (e := s 166 30) ?_
    intro j ih many j0 j1 hm
    have hsq := sm_s (f := fun j => if isNearL (rowL σ (146 + 2 * σ 23 i)) (s 180 j % 12) (s 180 j / 12) 1 = true then 0 else 1) j0
    have hbb := sm_1 (f := fun j => if isNearL (rowL σ (146 + 2 * σ 23 i)) (s 180 j % 12) (s 180 j / 12) 1 = true then 0 else 1) (n := j.toNat) (fun _ _ _ => by split <;> omega)
    rw [k_toNat j0] at hbb
    refine SX12_missOf_35 ⟨o_166, ?_⟩
    rw [ly_166_29 hIs.1]
    refine ⟨fun q => ?_, fun q => ⟨a_180, by omega, ?_⟩⟩
    · rw [show j = s 166 30 by omega] at hm
      rw [hm]
      exact hgo
    · have hcell := hs.2.2.2.2.1 j j0 (by omega)
      refine M_farFrom (by omega) hIs.1 hCs hls hcell (inLand0 hCs hls) (by omega) (fun v v0 hv => ?_)
      have hv1 := hv 1 (by omega) (by omega)
      rw [Int.sub_zero, Int.sub_zero, hrl, ← isNearL_iff] at hv1
      refine ⟨fun q2 => ⟨by omega, by omega, ih (by omega) _ (by omega) (by omega) ?_⟩, fun q2 => ⟨by omega, by omega, ih (by omega) _ (by omega) (by omega) ?_⟩⟩
      · rw [hsq, hm, if_pos (hv1.mp q2)]
      · rw [hsq, hm, if_neg (fun z => q2 (hv1.mpr z))]
  exact key 0 0 (by omega) (by omega) rfl
theorem X_fitK {d : Nat} (hd : 5 ≤ d) {σ : kS} {g load wet : Int} {Q : kS → Prop} (hI : Inv σ) (hm : isMan σ g load) (hw : wet = 0 ∨ wet = 1) (h : ∀ s, Keep σ s → TEq (s 28) (tolN σ g load wet) → (∀ k, 97 ≤ k → k ≤ 120 → (k - 97) % 4 = 3 → s k = σ k) → Q s) : Cv d MX10_fit [(2, 26), (2, 97 + 4 * g), (0, load), (0, wet), (2, 1)] kN σ Q := by
  refine Ways_fit (by omega) hI.1 hI.2.1.1 hI.2.1.2.2 hm.1 hI.2.2.2.2.2.2.1.1.2 (hI.2.2.2.2.2.2.1.gf hm.1) hw hm.2 o_1 (hI.2.2.1.eq.2.cong hI.2.2.1.eq.1) (fun s hs => h s (hs.keep hI hm.1) ?_ (fun k k0 k1 k2 => ?_))
  · exact TEq.trans' hs.2.2.2.2 (tolT_land hI.2.2.1.eq.1)
  · have := hm.1
    exact hs.1 k (by simp only [List.mem_cons, List.not_mem_nil, or_false]; omega)
theorem MI_layPains {d : Nat} (hd : 37 ≤ d) {σ : kS} {g load wet : Int} {Q : kS → Prop} (hI : Inv σ) (hm : isMan σ g load) (hw : wet = 0 ∨ wet = 1) (h : ∀ s, Keep σ s → TEq (s 177) (tolN σ g load wet) → off [166, 172, 177] σ s → Q s) : Cv d MX12_layPains [(2, 166), (0, g), (0, load), (0, wet)] kN σ Q := by
  have hg6 := hI.2.2.2.2.2.2.1.1
  refine M_layPains hd hI.1 ⟨hm.1.1, by have := hm.1.2; omega⟩ (hI.2.2.2.2.2.2.1.gm hm.1) hw hI.2.2.1.eq.2 (fun s hs => h s (M_keep hI hs.1 hs.2.2.1 (by decide) (fun j hj => ?_)) hs.2.2.2 hs.1)
  unfold esf at hj
  exact hs.2.1 j (by omega) (by omega) (by omega)
noncomputable def miA (σ : kS) (g load wet i : Int) : Int := cif (isMan σ g load ∧ 0 ≤ i ∧ i < σ 22 1) (missA σ (tolN σ g load wet) i) (-1)
theorem miA_fr {σ s : kS} (hI : Inv σ) (h : Fr σ s) {g load wet i : Int} : miA s g load wet i = miA σ g load wet i := by
  unfold miA
  rw [isMan_fr h, tolN_fr h, h.1 22 (by unfold scr; omega)]
  by_cases c : isMan σ g load ∧ 0 ≤ i ∧ i < σ 22 1
  · rw [cif_pos c, cif_pos c, missA_fr hI h c.2]
  · rw [cif_neg c, cif_neg c]
theorem O_miss {g load wet i : Int} (hw : wet = 0 ∨ wet = 1) : Op MX11_miss MX12_miss [(0, g), (0, load), (0, wet), (0, i)] := by
  refine Op.of (fun σ => miA σ g load wet i) (fun σ s hI hk => miA_fr hI hk.1) (fun d σ Q hd hI h => ?_) (fun d σ Q hd hI h => ?_)
  · obtain ⟨d, rfl⟩ : ∃ e, d = e + 1 := ⟨d - 1, by omega⟩
    have k17 := kl_17
    have hg6 := hI.2.2.2.2.2.2.1.1
    have hno : ¬ (isMan σ g load ∧ 0 ≤ i ∧ i < σ 22 1) → Q (-1) σ := fun z => by
      have hs := h σ hI.self
      unfold miA at hs
      rw [cif_neg z] at hs
      exact hs
    refine EX11_miss fun _ _ _ _ _ => SX11_miss_0 ⟨o_0, X_isManner (by omega) (fun c1 => ⟨fun e => by omega, fun _ => ⟨fun q => hno (fun z => by omega), fun q => ?_⟩⟩) (fun c1 => ⟨fun _ => hno (fun z => c1 z.1), fun e => absurd rfl e⟩)⟩
    have hgo := goer_at hI.1 (i := g) (by omega)
    rw [ly_0_12 hI.1, ly_0_5 hI.1, ly_0_14 hI.1, hgo.1, ly_0_0 hI.1]
    refine ⟨o_22, fun q2 => ⟨a_17, by omega, o_26, X_fitK (by omega) hI c1 hw (fun s hs hT _ => ?_)⟩, fun q2 => hno (fun z => by omega)⟩
    have hIs := hI.keep hs
    have hi : 0 ≤ i ∧ i < s 22 1 := by rw [hs.1.1 22 (by unfold scr; omega)]; omega
    refine X_missOf (by omega) hIs tolH_ok hT hi (fun s2 hs2 _ _ => ?_)
    rw [missA_fr hI hs.1 (by omega)]
    have hgo := h s2 (hs.trans hs2)
    unfold miA at hgo
    rw [cif_pos (show isMan σ g load ∧ 0 ≤ i ∧ i < σ 22 1 from ⟨c1, by omega⟩)] at hgo
    exact hgo
  · obtain ⟨d, rfl⟩ : ∃ e, d = e + 1 := ⟨d - 1, by omega⟩
    refine EX12_miss fun _ _ _ _ _ => SX12_miss_0 ⟨o_166, fun s1 e1 => ?_⟩
    have hk1 : Keep σ s1 := by rw [e1]; exact hI.thrown
    have hI1 := hI.keep hk1
    have hh : ∀ s, Keep s1 s → Q (miA s1 g load wet i) s := fun s hs => by
      rw [miA_fr hI hk1.1]
      exact h s (hk1.trans hs)
    have hK := hI1.2.2.2.2.2.2.2.2.2.2.1
    have h41 := hK.2.1
    have hsz := hK.1.2
    have k23 : klen (22 + 1) = 6 := kl_23
    have hno : ¬ (isMan s1 g load ∧ 0 ≤ i ∧ i < s1 22 1) → Q (-1) s1 := fun z => by
      have hs := hh s1 hI1.self
      unfold miA at hs
      rw [cif_neg z] at hs
      exact hs
    refine MI_isMan (by omega) hI1 (fun c1 => ⟨fun e => by omega, fun _ => ⟨by omega, M_isIn (by omega) (fun c2 => ⟨fun _ => ?_, fun e => by omega⟩) (fun c2 => ⟨fun e => absurd rfl e, fun _ => hno (fun z => c2 (by omega))⟩)⟩⟩) (fun c1 => ⟨fun _ => hno (fun z => c1 z.1), fun e => absurd rfl e⟩)
    refine MI_layPains (by omega) hI1 c1 hw (fun s hs hT _ => ?_)
    have hi : 0 ≤ i ∧ i < s 22 1 := by rw [hs.1.1 22 (by unfold scr; omega)]; omega
    refine M_missOf (by omega) (hI1.keep hs) tolH_ok hT hi (fun s2 hs2 _ _ => ?_)
    rw [missA_fr hI1 hs.1 (by omega)]
    have hgo := hh s2 (hs.trans hs2)
    unfold miA at hgo
    rw [cif_pos (show isMan s1 g load ∧ 0 ≤ i ∧ i < s1 22 1 from ⟨c1, by omega⟩)] at hgo
    exact hgo
