/-! evidence, odds: the answers -/
theorem MWd_fr {σ u s : kS} (h : Fr σ u) {g a b : Int} (hg : 0 ≤ g ∧ g < 6) (hw : MWd u s g a b) : MWd σ s g a b := by
  unfold MWd at hw ⊢
  rw [wayW_fr h, evA_fr h hg] at hw
  exact hw
theorem M_areTowns {d : Nat} (hd : 2 ≤ d) {σ : kS} {a b : Int} {Q : Int → kS → Prop} (hT : cTown σ) (h1 : twoT σ a b → Q 1 σ) (h0 : ¬ twoT σ a b → Q 0 σ) : Ci d MX12_areTowns [(2, 166), (0, a), (0, b)] kN σ Q := by
  obtain ⟨d, rfl⟩ : ∃ e, d = e + 1 := ⟨d - 1, by omega⟩
  have e := hT.2.1
  unfold twoT at h1 h0
  exact EX12_areTowns fun _ _ _ => SX12_areTowns_0 ⟨o_166, M_isTown (by omega) (fun c1 => ⟨fun e => by omega, fun _ => M_isTown (by omega) (fun c2 => ⟨fun e => by omega, fun _ => ⟨fun q => h0 (fun z => z.2.2 q), fun q => h1 ⟨by omega, by omega, q⟩⟩⟩) (fun c2 => ⟨fun _ => h0 (fun z => c2 (by omega)), fun e => absurd rfl e⟩)⟩) (fun c1 => ⟨fun _ => h0 (fun z => c1 (by omega)), fun e => absurd rfl e⟩)⟩
theorem M_layWorlds {d : Nat} (hd : 43 ≤ d) {σ : kS} {a b : Int} {Q : kS → Prop} (hI : Inv σ) (ht : twoT σ a b) (h : ∀ s, Keep σ s → (∀ g, 0 ≤ g → g < σ 0 6 → MWd σ s g a b) → Q s) : Cv d MX12_layWorlds [(2, 166), (0, a), (0, b)] kN σ Q := by
  obtain ⟨d, rfl⟩ : ∃ e, d = e + 1 := ⟨d - 1, by omega⟩
  have hg6 := hI.2.2.2.2.2.2.1.1
  have h14 := hI.2.2.2.2.2.2.1.2.1
  have key : ∀ g : Int, ∀ u : kS, 0 ≤ g → g ≤ σ 0 6 → Keep σ u → (∀ f, 0 ≤ f → f < g → MWd σ u f a b) → LX12_layWorlds_2 d kN Q 166 a b g u := by
    refine up_to (e := σ 0 6) ?_
    intro g ih u g0 g1 hku hm
    have hIu := hI.keep hku
    refine SX12_layWorlds_2 ⟨o_166, ?_⟩
    rw [hku.1.2 14 (by unfold esf; omega), h14]
    refine ⟨fun q => h u hku (fun f f0 f1 => hm f f0 (by omega)), fun q => M_layWorld (by omega) hIu (by rw [hku.1.e0]; omega) (by rw [twoT_fr hku.1]; exact ht) (fun s hks hw hoth h191 => ⟨by omega, ih (by omega) s (by omega) (by omega) (hku.trans hks) (fun f f0 f1 => ?_)⟩)⟩
    by_cases ef : f = g
    · rw [ef]
      exact MWd_fr hku.1 (by omega) hw
    · obtain ⟨p1, p2, p3, p4⟩ := hm f f0 (by omega)
      have hf := hoth f ef
      refine ⟨by rw [hf.1]; exact p1, p2, fun i i0 i1 => ?_, by rw [hf.2]; exact p4⟩
      rw [h191 _ (by omega)]
      exact p3 i i0 i1
  exact EX12_layWorlds fun _ _ _ => SX12_layWorlds_0 (key 0 σ (by omega) hg6.1 hI.self (fun f f0 f1 => by omega))
noncomputable def eviA (σ : kS) (g a b : Int) : Int := cif ((0 ≤ g ∧ g < σ 0 6) ∧ twoT σ a b) (evA σ g a b) (-1)
theorem eviA_fr {σ s : kS} (hI : Inv σ) (h : Fr σ s) {g a b : Int} : eviA s g a b = eviA σ g a b := by
  have hg6 := hI.2.2.2.2.2.2.1.1
  unfold eviA
  rw [h.e0, twoT_fr h]
  by_cases c : (0 ≤ g ∧ g < σ 0 6) ∧ twoT σ a b
  · rw [cif_pos c, cif_pos c, evA_fr h (by omega)]
  · rw [cif_neg c, cif_neg c]
theorem O_evidence {g a b : Int} : Op MX11_evidence MX12_evidence [(0, g), (0, a), (0, b)] := by
  refine Op.of (fun σ => eviA σ g a b) (fun σ s hI hk => eviA_fr hI hk.1) (fun d σ Q hd hI h => ?_) (fun d σ Q hd hI h => ?_)
  · obtain ⟨d, rfl⟩ : ∃ e, d = e + 1 := ⟨d - 1, by omega⟩
    have hno : ¬ ((0 ≤ g ∧ g < σ 0 6) ∧ twoT σ a b) → Q (-1) σ := fun z => by
      have hs := h σ hI.self
      unfold eviA at hs
      rw [cif_neg z] at hs
      exact hs
    refine EX11_evidence fun _ _ _ _ => SX11_evidence_0 ⟨o_0, X_isManner (by omega) (fun c1 => ⟨fun e => by omega, fun _ => X_areTwoTowns (by omega) hI.1 (fun c2 => ⟨fun _ => X_evidenceOf (by omega) hI c1.1 c2 (fun s hks _ _ => ?_), fun e => by omega⟩) (fun c2 => ⟨fun e => absurd rfl e, fun _ => hno (fun z => c2 z.2)⟩)⟩) (fun c1 => ⟨fun _ => hno (fun z => c1 ⟨z.1, by omega⟩), fun e => absurd rfl e⟩)⟩
    have hs := h s hks
    unfold eviA at hs
    rw [cif_pos (show (0 ≤ g ∧ g < σ 0 6) ∧ twoT σ a b from ⟨c1.1, c2⟩)] at hs
    exact hs
  · obtain ⟨d, rfl⟩ : ∃ e, d = e + 1 := ⟨d - 1, by omega⟩
    have k192 := kl_192
    refine EX12_evidence fun _ _ _ _ => SX12_evidence_0 ⟨o_166, fun s1 e1 => ?_⟩
    have hk1 : Keep σ s1 := by rw [e1]; exact hI.thrown
    have hI1 := hI.keep hk1
    have hh : ∀ u, Keep s1 u → Q (eviA s1 g a b) u := fun u hu => by
      rw [eviA_fr hI hk1.1]
      exact h u (hk1.trans hu)
    have h14 := hI1.2.2.2.2.2.2.1.2.1
    have hg6 := hI1.2.2.2.2.2.2.1.1
    have hno : ¬ ((0 ≤ g ∧ g < s1 0 6) ∧ twoT s1 a b) → Q (-1) s1 := fun z => by
      have hs := hh s1 hI1.self
      unfold eviA at hs
      rw [cif_neg z] at hs
      exact hs
    refine M_isGoer (by omega) (fun c1 => ⟨fun e => by omega, fun _ => M_areTowns (by omega) hI1.2.2.2.2.1 (fun c2 => ⟨fun _ => M_layWorld (by omega) hI1 (by omega) c2 (fun s hks hw _ _ => ?_), fun e => by omega⟩) (fun c2 => ⟨fun e => absurd rfl e, fun _ => hno (fun z => c2 z.2)⟩)⟩) (fun c1 => ⟨fun _ => hno (fun z => c1 (by omega)), fun e => absurd rfl e⟩)
    have hs := hh s hks
    unfold eviA at hs
    rw [cif_pos (show (0 ≤ g ∧ g < s1 0 6) ∧ twoT s1 a b from ⟨by omega, c2⟩)] at hs
    rw [ly_166_45 hks.2.1, hw.2.2.2]
    exact ⟨a_192, by omega, hs⟩
noncomputable def odF (σ : kS) (a b c g : Int) : Int := cif (c = -1 ∨ c ∈ wayW σ g a b) (evA σ g a b) 0
noncomputable def odA (σ : kS) (a b c : Int) : Int := cif (twoT σ a b ∧ (c = -1 ∨ isCel c)) (sm (odF σ a b c) (σ 0 6).toNat) (-1)
theorem odA_fr {σ s : kS} (hI : Inv σ) (h : Fr σ s) {a b c : Int} : odA s a b c = odA σ a b c := by
  have hg6 := hI.2.2.2.2.2.2.1.1
  unfold odA
  rw [h.e0, twoT_fr h]
  have e : sm (odF s a b c) (σ 0 6).toNat = sm (odF σ a b c) (σ 0 6).toNat := sm_cong (fun g g0 g1 => by
    unfold odF
    rw [wayW_fr h, evA_fr h (by omega)])
  rw [e]
theorem od_b {σ : kS} (hI : Inv σ) {a b c g : Int} (hg : 0 ≤ g ∧ g ≤ σ 0 6) : 0 ≤ sm (odF σ a b c) g.toNat ∧ sm (odF σ a b c) g.toNat ≤ 2439 * g := by
  have := sm_b (f := odF σ a b c) (B := 2439) (n := g.toNat) (fun i i0 i1 => by
    have := evA_b hI (a := a) (b := b) (g := i) (by omega)
    unfold odF
    by_cases q : c = -1 ∨ c ∈ wayW σ i a b
    · rw [cif_pos q]; omega
    · rw [cif_neg q]; omega)
  rw [k_toNat hg.1] at this
  exact this
theorem O_odds {a b c : Int} : Op MX11_odds MX12_odds [(0, a), (0, b), (0, c)] := by
  refine Op.of (fun σ => odA σ a b c) (fun σ s hI hk => odA_fr hI hk.1) (fun d σ Q hd hI h => ?_) (fun d σ Q hd hI h => ?_)
  · obtain ⟨d, rfl⟩ : ∃ e, d = e + 1 := ⟨d - 1, by omega⟩
    have hg6 := hI.2.2.2.2.2.2.1.1
    have hno : ¬ (twoT σ a b ∧ (c = -1 ∨ isCel c)) → Q (-1) σ := fun z => by
      have hs := h σ hI.self
      unfold odA at hs
      rw [cif_neg z] at hs
      exact hs
    refine EX11_odds fun _ _ _ _ => SX11_odds_0 ⟨o_0, X_areTwoTowns (by omega) hI.1 (fun c1 => ⟨fun e => by omega, fun _ => X_isCellOrNone (by omega) (fun c2 => ⟨fun _ => ?_, fun e => by omega⟩) (fun c2 => ⟨fun e => absurd rfl e, fun _ => hno (fun z => c2 z.2)⟩)⟩) (fun c1 => ⟨fun _ => hno (fun z => c1 z.1), fun e => absurd rfl e⟩)⟩
    have key : ∀ g sum : Int, ∀ u : kS, 0 ≤ g → g ≤ σ 0 6 → Keep σ u → sum = sm (odF σ a b c) g.toNat → LX11_odds_24 d kN Q 0 a b c sum g u := by
      refine up_to (e := σ 0 6) ?_
      intro g ih sum u g0 g1 hku hsum
      have hIu := hI.keep hku
      have hss := sm_s (f := odF σ a b c) g0
      have hbb := od_b hI (a := a) (b := b) (c := c) (g := g) (by omega)
      refine SX11_odds_24 ⟨o_0, ?_⟩
      rw [hku.1.e0]
      refine ⟨fun q => ?_, fun q => X_evidenceOf (by omega) hIu (by rw [hku.1.e0]; omega) (by rw [twoT_fr hku.1]; exact c1) (fun s hks hrow hrc => ?_)⟩
      · have hs := h u hku
        unfold odA at hs
        rw [cif_pos (show twoT σ a b ∧ (c = -1 ∨ isCel c) from ⟨c1, c2⟩)] at hs
        rw [hsum, show g = σ 0 6 by omega]
        exact hs
      · have hev := evA_b hI (a := a) (b := b) (g := g) (by omega)
        rw [evA_fr hku.1 (by omega)]
        rw [wayW_fr hku.1] at hrow
        have hLs := hks.2.1
        rw [ly_0_14 hLs, ly_26_13 hLs]
        refine ⟨fun q2 => ⟨by omega, by omega, ih (by omega) _ s (by omega) (by omega) (hku.trans hks) ?_⟩, fun q2 => ⟨o_26, o_36, Row_has (by omega) hLs hrc.1 ?_⟩⟩
        · rw [hss, hsum, show odF σ a b c g = evA σ g a b from cif_pos (Or.inl q2)]
        · rw [hrow]
          by_cases hm : c ∈ wayW σ g a b
          · rw [if_pos hm]
            exact ⟨fun e => by omega, fun _ => ⟨by omega, by omega, ih (by omega) _ s (by omega) (by omega) (hku.trans hks) (by rw [hss, hsum, show odF σ a b c g = evA σ g a b from cif_pos (Or.inr hm)])⟩⟩
          · rw [if_neg hm]
            exact ⟨fun _ => ⟨by omega, ih (by omega) _ s (by omega) (by omega) (hku.trans hks) (by rw [hss, hsum, show odF σ a b c g = 0 from cif_neg (fun z => z.elim q2 hm)]; omega)⟩, fun e => absurd rfl e⟩
    exact key 0 0 σ (by omega) hg6.1 hI.self rfl
  · obtain ⟨d, rfl⟩ : ∃ e, d = e + 1 := ⟨d - 1, by omega⟩
    have k192 := kl_192
    refine EX12_odds fun _ _ _ _ => SX12_odds_0 ⟨o_166, fun s1 e1 => ?_⟩
    have hk1 : Keep σ s1 := by rw [e1]; exact hI.thrown
    have hI1 := hI.keep hk1
    have hh : ∀ u, Keep s1 u → Q (odA s1 a b c) u := fun u hu => by
      rw [odA_fr hI hk1.1]
      exact h u (hk1.trans hu)
    have h14 := hI1.2.2.2.2.2.2.1.2.1
    have hg6 := hI1.2.2.2.2.2.2.1.1
    have hno : ¬ (twoT s1 a b ∧ (c = -1 ∨ isCel c)) → Q (-1) s1 := fun z => by
      have hs := hh s1 hI1.self
      unfold odA at hs
      rw [cif_neg z] at hs
      exact hs
    refine M_areTowns (by omega) hI1.2.2.2.2.1 (fun c1 => ⟨fun e => by omega, fun _ => ?_⟩) (fun c1 => ⟨fun _ => hno (fun z => c1 z.1), fun e => absurd rfl e⟩)
    have loop : (c = -1 ∨ isCel c) → ∀ s : kS, Keep s1 s → (∀ g, 0 ≤ g → g < s1 0 6 → MWd s1 s g a b) → LX12_odds_40 d kN Q 166 c 0 0 s := by
      intro c2 s hks hw
      have hs := hh s hks
      unfold odA at hs
      rw [cif_pos (show twoT s1 a b ∧ (c = -1 ∨ isCel c) from ⟨c1, c2⟩)] at hs
      have key : ∀ g sum : Int, 0 ≤ g → g ≤ s1 0 6 → sum = sm (odF s1 a b c) g.toNat → LX12_odds_40 d kN Q 166 c sum g s := by
        refine up_to (e := s1 0 6) ?_
        intro g ih sum g0 g1 hsum
        have hss := sm_s (f := odF s1 a b c) g0
        have hbb := od_b hI1 (a := a) (b := b) (c := c) (g := g) (by omega)
        refine SX12_odds_40 ⟨o_166, ?_⟩
        rw [hks.1.2 14 (by unfold esf; omega), h14, ly_166_45 hks.2.1]
        refine ⟨fun q => ?_, fun q => ?_⟩
        · rw [hsum, show g = s1 0 6 by omega]
          exact hs
        · obtain ⟨p1, p2, p3, p4⟩ := hw g g0 (by omega)
          have hev := evA_b hI1 (a := a) (b := b) (g := g) (by omega)
          rw [p4]
          refine ⟨fun q2 => ⟨a_192, by omega, by omega, by omega, ih (by omega) _ (by omega) (by omega) ?_⟩, fun q2 => M_isOnWay (W := wayW s1 g a b) (by omega) hks.2.1 (by omega) p1 p2.1 p3 (fun hm => ⟨fun e => by omega, fun _ => ?_⟩) (fun hm => ⟨fun _ => ⟨by omega, by omega, ih (by omega) _ (by omega) (by omega) ?_⟩, fun e => absurd rfl e⟩)⟩
          · rw [hss, hsum, show odF s1 a b c g = evA s1 g a b from cif_pos (Or.inl q2)]
          · rw [ly_166_45 hks.2.1, p4]
            exact ⟨a_192, by omega, by omega, by omega, ih (by omega) _ (by omega) (by omega) (by rw [hss, hsum, show odF s1 a b c g = evA s1 g a b from cif_pos (Or.inr hm)])⟩
          · rw [hss, hsum, show odF s1 a b c g = 0 from cif_neg (fun z => z.elim q2 hm)]
      exact key 0 0 (by omega) hg6.1 rfl
    exact ⟨fun q => M_layWorlds (by omega) hI1 c1 (loop (Or.inl q)), fun q => M_isCell (by omega) (fun c2 => ⟨fun _ => M_layWorlds (by omega) hI1 c1 (loop (Or.inr c2)), fun e => by omega⟩) (fun c2 => ⟨fun e => absurd rfl e, fun _ => hno (fun z => z.2.elim q c2)⟩)⟩
