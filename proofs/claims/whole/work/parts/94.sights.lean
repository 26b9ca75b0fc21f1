/-! operation: sights -/
theorem NextHop.tcong {H T T' : Int → Int} {far c y : Int} (hc : 0 ≤ c ∧ c < 120) (h : ∀ z, 0 ≤ z → z < 120 → T z = T' z) (hn : NextHop H T far c y) : NextHop H T' far c y := by
  obtain ⟨h1, h2, h3⟩ := hn
  refine ⟨h1, ⟨by rw [← h y h1.1 h1.2, ← h c hc.1 hc.2]; exact h2.1, h2.2⟩, fun z z0 z1 hz => h3 z z0 z1 ⟨?_, hz.2⟩⟩
  rw [h z z0 (by omega), h c hc.1 hc.2]
  exact hz.1
theorem keep43 {σ s : kS} (hI : Inv σ) (ho : off [41, 42, 43, 44] σ s) (hL : Lay s) (hr : RowOK s 43) : Keep σ s := by
  obtain ⟨b1, ⟨b2, b3, b4, b5, b6, b7⟩, b8⟩ := hI.2.1
  have ne : ∀ k, ¬ (41 ≤ k ∧ k ≤ 44) → s k = σ k := fun k h1 => ho k (by simp only [List.mem_cons, List.not_mem_nil, or_false]; omega)
  exact ⟨Fr.offX ho (by decide), hL, ⟨by unfold Bes; rw [ne 27 (by decide)]; exact b1, ⟨b2.cong (ne 36 (by decide)), b3.cong (ne 38 (by decide)), hr, b5.cong (ne 45 (by decide)), b6.cong (ne 57 (by decide)), b7.cong (ne 59 (by decide))⟩, b8.cong (ne 0 (by decide)) (ne 35 (by decide)) (ne 170 (by decide)) (ne 171 (by decide)) (fun j _ _ => by rw [ne 26 (by decide)])⟩⟩
noncomputable def siA (σ : kS) (f g far i : Int) : Int := cif (isCel f ∧ isCel g ∧ 1 ≤ far ∧ far ≤ 11) (cif (i = -1) (hopT (σ 167) far g f) (cif (0 ≤ i ∧ i ≤ hopT (σ 167) far g f) (hopAt (σ 167) far g f i.toNat) (-1))) (-1)
theorem O_sights {f g far i : Int} : Op MX11_sights MX12_sights [(0, f), (0, g), (0, far), (0, i)] := by
  refine Op.of (fun σ => siA σ f g far i) (fun σ s _ hk => ?_) (fun d σ Q hd hI h => ?_) (fun d σ Q hd hI h => ?_)
  · show siA s f g far i = siA σ f g far i
    unfold siA
    rw [hk.1.1 167 (by unfold scr; omega)]
  · obtain ⟨d, rfl⟩ : ∃ e, d = e + 1 := ⟨d - 1, by omega⟩
    refine EX11_sights fun _ _ _ _ _ => SX11_sights_0 ⟨o_0, X_looks (by omega) hI (fun z => ⟨fun e => absurd rfl e, fun _ => ?_⟩) (fun c1 c2 c3 c4 s ho hLs hr hn hrow => ⟨fun _ => ?_, fun e => by omega⟩)⟩
    · have hs := h σ hI.self
      unfold siA at hs
      rw [cif_neg z] at hs
      exact hs
    · have hs := h s (keep43 hI ho hLs hr.1)
      unfold siA at hs
      rw [cif_pos ⟨c1, c2, c3, c4⟩] at hs
      have hT0 := (HD_ex (H := σ 167) (g := g) c3 c2).2.1 f c1.1 c1.2
      have hT1 := (HD_ex (H := σ 167) (g := g) c3 c2).le c3 c2 f c1.1 c1.2
      rw [ly_0_15 hLs, ly_40_2 hLs]
      refine ⟨fun q => ⟨o_40, o_43, Row_at (by omega) hLs hr.1 ?_⟩, fun q => ⟨o_40, o_43, by omega, ?_⟩⟩
      · rw [cif_neg q] at hs
        unfold rowAt
        by_cases c5 : 0 ≤ i ∧ i ≤ hopT (σ 167) far g f
        · rw [if_pos (by omega), show (43 : Int) + 1 = 44 from rfl, hrow i c5.1 c5.2]
          rw [cif_pos c5] at hs
          exact hs
        · rw [if_neg (by omega)]
          rw [cif_neg c5] at hs
          exact hs
      · rw [cif_pos (Classical.not_not.mp q)] at hs
        rw [hn, show hopT (σ 167) far g f + 1 - 1 = hopT (σ 167) far g f by omega]
        exact hs
  · obtain ⟨d, rfl⟩ : ∃ e, d = e + 1 := ⟨d - 1, by omega⟩
    have k181 := kl_181
    refine EX12_sights fun _ _ _ _ _ => SX12_sights_0 ⟨o_166, fun s1 e1 => ?_⟩
    have hk1 : Keep σ s1 := by rw [e1]; exact hI.thrown
    have hI1 := hI.keep hk1
    have hh : ∀ u, Keep s1 u → Q (siA s1 f g far i) u := fun u hu => by
      have := h u (hk1.trans hu)
      have e : siA s1 f g far i = siA σ f g far i := by
        unfold siA
        rw [hk1.1.1 167 (by unfold scr; omega)]
      rw [e]
      exact this
    have hno : ¬ (isCel f ∧ isCel g ∧ 1 ≤ far ∧ far ≤ 11) → Q (-1) s1 := fun z => by
      have hs := hh s1 hI1.self
      unfold siA at hs
      rw [cif_neg z] at hs
      exact hs
    have hH : HM s1 := fun c c0 c1 => by
      have := (hI1.2.2.1.eq.2.at ⟨c0, c1⟩).1
      unfold landM at this
      rwa [show 120 * 0 + c = c by omega] at this
    refine M_isCell (by omega) (fun c1 => ⟨fun e => by omega, fun _ => M_isCell (by omega) (fun c2 => ⟨fun e => by omega, fun _ => M_isIn (by omega) (fun c3 => ⟨fun _ => ?_, fun e => by omega⟩) (fun c3 => ⟨fun e => absurd rfl e, fun _ => hno (fun z => c3 z.2.2)⟩)⟩) (fun c2 => ⟨fun _ => hno (fun z => c2 z.2.1), fun e => absurd rfl e⟩)⟩) (fun c1 => ⟨fun _ => hno (fun z => c1 z.1), fun e => absurd rfl e⟩)
    have hT : HD (s1 167) far g (hopT (s1 167) far g) := HD_ex c3.1 c2
    refine M_layHops (by omega) hI1.1 hH c2 c3.1 (fun s ho hLs hD hb => ?_)
    have hks : Keep s1 s := M_keep hI1 ho hLs (by decide) (fun j _ => by rw [ho 166 (by decide)])
    have hs := hh s hks
    unfold siA at hs
    rw [cif_pos ⟨c1, c2, c3⟩] at hs
    have hTe := hD.uniq hT
    have e167 : s 167 = s1 167 := ho 167 (by decide)
    have hHs : HM s := fun c c0 c1 => by
      rw [e167]
      exact hH c c0 c1
    rw [ly_166_31 hLs, hTe f c1.1 c1.2]
    refine ⟨fun q => ⟨a_181, by omega, M_isIn (by omega) (fun c5 => ⟨fun _ => ?_, fun e => by omega⟩) (fun c5 => ⟨fun e => absurd rfl e, fun _ => ?_⟩)⟩, fun q => ⟨a_181, by omega, ?_⟩⟩
    · rw [cif_neg q, cif_pos c5] at hs
      have hT11 := hT.le c3.1 c2 f c1.1 c1.2
      have key : ∀ k c : Int, 0 ≤ k → k ≤ i → c = hopAt (s1 167) far g f k.toNat → (0 ≤ c ∧ c < 120) → hopT (s1 167) far g c = hopT (s1 167) far g f - k → LX12_sights_73 d kN Q 166 far i c k s := by
        refine up_to (e := i) ?_
        intro k ih c k0 k1 hc hcc hTk
        refine SX12_sights_73 ⟨fun z => ?_, fun z => ⟨o_166, ?_⟩⟩
        · rw [hc, show k = i by omega]
          exact hs
        · have hne : c ≠ g := fun e => by
            have e0 : hopT (s1 167) far g g = 0 := hT.1
            rw [e, e0] at hTk
            omega
          obtain ⟨b, hbc, hhop, eb⟩ := hT.2.2.2 c hcc.1 hcc.2 hne
          refine M_nextHop (by omega) hLs hHs hcc (fun z z0 z1 => ⟨hD.2.1 z z0 z1, by have := hb z z0 z1; omega⟩) ⟨b, hbc, by rw [hTe b hbc.1 hbc.2, hTe c hcc.1 hcc.2]; omega, by rw [e167]; exact hhop⟩ (fun y hy => ?_)
          rw [e167] at hy
          have hnx := hy.tcong hcc hTe
          refine ⟨by omega, ih (by omega) y (by omega) (by omega) ?_ hnx.1 ?_⟩
          · rw [show (k + 1).toNat = k.toNat + 1 by omega, hopAt, ← hc, nextP_eq hnx]
          · have := hnx.2.1.1
            omega
      exact key 0 f (by omega) c5.1 rfl c1 (by omega)
    · rw [cif_neg q, cif_neg c5] at hs
      exact hs
    · rw [cif_pos (Classical.not_not.mp q)] at hs
      exact hs
