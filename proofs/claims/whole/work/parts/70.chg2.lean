/-! changes: known, pit, find, field -/
theorem M_known {d : Nat} (hd : 3 ≤ d) {σ : kS} {c : Int} {Q : Int → kS → Prop} (hL : Lay σ) (hn : 0 ≤ σ 166 41 ∧ σ 166 41 ≤ 6) (h0 : ¬ ((0 ≤ c ∧ c < σ 166 34) ∧ σ 166 41 < 6 ∧ ∀ j, 0 ≤ j → j < σ 166 41 → σ 187 j ≠ c) → Q (-1) (kst σ 166 0 0)) (h1 : (0 ≤ c ∧ c < σ 166 34) → σ 166 41 < 6 → (∀ j, 0 ≤ j → j < σ 166 41 → σ 187 j ≠ c) → Q (σ 166 41 + 1) (kst (kst (kst σ 166 0 0) 187 (σ 166 41) c) 166 41 (σ 166 41 + 1))) : Ci d MX12_known [(2, 166), (0, c)] kN σ Q := by
  obtain ⟨d, rfl⟩ : ∃ e, d = e + 1 := ⟨d - 1, by omega⟩
  have k187 := kl_187
  refine EX12_known fun _ _ => SX12_known_0 ⟨o_166, fun s1 e1 => ?_⟩
  have e3 : s1 166 41 = σ 166 41 := by rw [e1, kst_kj (by decide)]
  have e34 : s1 166 34 = σ 166 34 := by rw [e1, kst_kj (by decide)]
  have e187 : s1 187 = σ 187 := by rw [e1, kst_k (by decide)]
  have eL : Lay s1 := by rw [e1]; exact hL.kstO 0 o_166 (by decide)
  rw [← e1] at h0 h1
  refine ⟨fun c1 => h0 (fun z => by omega), fun c1 => M_isLine (by omega) (fun c2 => ⟨fun _ => ?_, fun e => by omega⟩) (fun c2 => ⟨fun e => absurd rfl e, fun _ => h0 (fun z => c2 (by omega))⟩)⟩
  have key : ∀ i : Int, 0 ≤ i → i ≤ σ 166 41 → (∀ j, 0 ≤ j → j < i → σ 187 j ≠ c) → LX12_known_26 d kN Q 166 c i s1 := by
    refine up_to (e := σ 166 41) ?_
    intro i ih i0 i1 hh
    refine SX12_known_26 ⟨o_166, ?_⟩
    rw [ly_166_39 eL, e3]
    refine ⟨fun e => ⟨a_187, by omega, fun s2 e2 => ?_⟩, fun e => ⟨a_187, by omega, fun e4 => ⟨by omega, ih (by omega) (by omega) (by omega) (fun j j0 j1 => ?_)⟩, fun e4 => h0 (fun z => e4 (fun q => z.2.2 i i0 (by omega) (by rw [← e187]; exact q)))⟩⟩
    · have e5 : s2 166 41 = σ 166 41 := by rw [e2, kst_k (by decide), e3]
      rw [e5]
      refine ⟨by omega, fun s3 e6 => ?_⟩
      have e7 : s3 166 41 = σ 166 41 + 1 := by rw [e6, kst_eq]
      rw [e7, e6, e2]
      exact h1 (by omega) (by omega) (fun j j0 j1 => hh j j0 (by omega))
    · by_cases ej : j = i
      · rw [ej, ← e187]; exact e4
      · exact hh j j0 (by omega)
  exact key 0 (by omega) (by omega) (fun j j0 j1 => by omega)
theorem X_known {d : Nat} (hd : 3 ≤ d) {σ : kS} {c : Int} {Q : Int → kS → Prop} (hL : Lay σ) (hr : RowOK σ 22) (h0 : ¬ ((0 ≤ c ∧ c < σ 0 11) ∧ σ 22 1 < 6 ∧ ∀ j, 0 ≤ j → j < σ 22 1 → σ 23 j ≠ c) → Q (-1) σ) (h1 : (0 ≤ c ∧ c < σ 0 11) → σ 22 1 < 6 → (∀ j, 0 ≤ j → j < σ 22 1 → σ 23 j ≠ c) → Q (σ 22 1 + 1) (rowPush σ 22 c)) : Ci d MX11_known [(2, 0), (0, c)] kN σ Q := by
  obtain ⟨d, rfl⟩ : ∃ e, d = e + 1 := ⟨d - 1, by omega⟩
  have k20 : klen (22 + 1) = 6 := kl_23
  have h8 := hr.2
  have hm := mem_rowL (σ := σ) (r := 22) (x := c)
  refine EX11_known fun _ _ => SX11_known_0 ⟨o_0, X_isLine (by omega) (fun c1 => ⟨fun e => by omega, fun _ => ?_⟩) (fun c1 => ⟨fun _ => h0 (fun z => c1 z.1), fun e => absurd rfl e⟩)⟩
  rw [ly_0_12 hL]
  refine ⟨o_22, Row_has (by omega) hL hr ?_⟩
  by_cases c2 : c ∈ rowL σ 22
  · rw [if_pos c2]
    refine ⟨fun _ => h0 (fun z => ?_), fun e => by omega⟩
    obtain ⟨i, i0, i1, hi⟩ := hm.mp c2
    exact z.2.2 i i0 i1 hi
  · rw [if_neg c2]
    have hno : ∀ j, 0 ≤ j → j < σ 22 1 → σ 23 j ≠ c := fun j j0 j1 e => c2 (hm.mpr ⟨j, j0, j1, e⟩)
    rw [ly_0_12 hL]
    refine ⟨fun e => absurd rfl e, fun _ => ⟨o_22, Row_add (by omega) hL hr (fun c3 => ⟨fun _ => ?_, fun e => by omega⟩) (fun c3 => ⟨fun e => absurd rfl e, fun _ => h0 (fun z => by omega)⟩)⟩⟩
    have e9 : rowPush σ 22 c 0 12 = 22 := by rw [rowPush_k (by decide) (by decide)]; exact ly_0_12 hL
    rw [e9, rowPush_0]
    exact ⟨o_22, h1 c1 (by omega) hno⟩
theorem O_known {c : Int} : Op MX11_known MX12_known [(0, c)] := by
  intro d σ hd hI
  have hT := hI.2.2.2.2.2.2.2.2.2.2.1
  have hl := hI.2.2.2.2.2.2.2.2.1.2.1
  have h3 := hT.2.1
  have k20 : klen (22 + 1) = 6 := kl_23
  have h8 := hT.1.2
  refine X_known (by omega) hI.1 hT.1 (fun h => M_known (by omega) hI.1 (by omega) (fun _ => ⟨rfl, hI.keep hI.thrown⟩) (fun p1 p2 p3 => absurd ⟨by omega, by omega, fun j j0 j1 => by rw [(hT.2.2 j j0 j1).1]; exact p3 j j0 (by omega)⟩ h)) (fun c1 c2 c3 => ?_)
  have eL : Lay (rowPush σ 22 c) := (hI.1.kstA a_23).kstO 1 o_22 (by decide)
  have q166 : rowPush σ 22 c 166 = σ 166 := rowPush_k (by decide) (by decide)
  have q187 : rowPush σ 22 c 187 = σ 187 := rowPush_k (by decide) (by decide)
  refine M_known (by omega) eL (by rw [q166]; omega) (fun h => absurd ⟨by rw [q166]; omega, by rw [q166]; omega, fun j j0 j1 => ?_⟩ h) (fun p1 p2 p3 => ⟨by rw [q166]; omega, ?_⟩)
  rotate_left
  · rw [q166] at j1
    rw [q187, ← (hT.2.2 j j0 (by omega)).1]
    exact c3 j j0 (by omega)
  · rw [q166, h3]
    generalize hs : kst (kst (kst (rowPush σ 22 c) 166 0 0) 187 (σ 22 1) c) 166 41 (σ 22 1 + 1) = s
    have eLs : Lay s := by
      rw [← hs]
      exact ((eL.kstO 0 o_166 (by decide)).kstA a_187).kstO 41 o_166 (by decide)
    have oo : off [22, 23, 187, 166] σ s := by
      rw [← hs]
      exact (((rowPush_off off.rfl' (by decide) (by decide)).kst (by decide)).kst (by decide)).kst (by decide)
    have ho : FrB [22, 23, 187] [41] σ s := by
      rw [← hs]
      unfold rowPush
      exact ((((FrB.rf.ks (by decide) (by decide) (Or.inl (by decide))).ks (by decide) (by decide) (Or.inl (by decide))).kstM (Or.inr (by unfold esf; omega))).ks (by decide) (by decide) (Or.inl (by decide))).kstM (Or.inl (by decide))
    have e1 : s 22 1 = σ 22 1 + 1 := by rw [← hs, kst_k (by decide), kst_k (by decide), kst_k (by decide), rowPush_0]
    have e23 : ∀ k, s 23 k = if k = σ 22 1 then c else σ 23 k := fun k => by
      rw [← hs, kst_k (by decide), kst_k (by decide), kst_k (by decide)]
      exact rowPush_at
    have e187 : ∀ k, s 187 k = if k = σ 22 1 then c else σ 187 k := fun k => by
      rw [← hs, kst_k (by decide), kst_ap, kst_k (by decide), q187]
      by_cases ck : k = σ 22 1
      · rw [if_pos ck, if_pos ⟨rfl, ck⟩]
      · rw [if_neg ck, if_neg (fun z => ck z.2)]
    have e41 : s 166 41 = σ 22 1 + 1 := by rw [← hs, kst_eq]
    refine ⟨eLs, hI.2.1.offU (fun k _ hk => oo k hk) (by rw [oo 0 (by decide)]) (by decide), Ess.upd ho hI.2.2 (c9 := fun _ => ?_)⟩
    unfold cKnown
    rw [e1, oo 0 (by decide)]
    refine ⟨⟨o_22, by rw [e1]; omega⟩, e41, fun i i0 i1 => ?_⟩
    rw [e23, e187]
    by_cases ci : i = σ 22 1
    · rw [if_pos ci, if_pos ci]; exact ⟨rfl, c1⟩
    · rw [if_neg ci, if_neg ci]; exact hT.2.2 i i0 (by omega)
/-! pit -/
theorem O_pit {c : Int} : Op MX11_pit MX12_pit [(0, c)] := by
  intro d σ hd hI
  obtain ⟨d, rfl⟩ : ∃ e, d = e + 1 := ⟨d - 1, by omega⟩
  have hT := hI.2.2.2.2.2.2.2.2.2.2.2.1
  have h3 := hT.2.1
  have k20 : klen (55 + 1) = 6 := kl_56
  have k194 := kl_194
  have h8 := hT.1.1.2
  have hno : ¬ (isCel c ∧ σ 55 1 < 6) → Ci (d + 1) MX12_pit [(2, 166), (0, c)] kN σ (fun b s' => -1 = b ∧ Inv s') := fun hc => by
    refine EX12_pit fun _ _ => SX12_pit_0 ⟨o_166, fun s1 e1 => ?_⟩
    have hk1 : Keep σ s1 := by rw [e1]; exact hI.thrown
    have hI1 := hI.keep hk1
    have e49 : s1 166 49 = σ 55 1 := by rw [e1, kst_kj (by decide)]; exact h3
    exact ⟨fun _ => ⟨rfl, hI1⟩, fun c1 => M_isCell (by omega) (fun c2 => absurd ⟨c2, by omega⟩ hc) (fun _ => ⟨fun e => absurd rfl e, fun _ => ⟨rfl, hI1⟩⟩)⟩
  refine EX11_pit fun _ _ => SX11_pit_0 (X_isCell (by omega) (fun c1 => ⟨fun e => by omega, fun _ => ?_⟩) (fun c1 => ⟨fun _ => hno (fun z => c1 z.1), fun e => absurd rfl e⟩))
  rw [ly_0_17 hI.1, ly_54_0 hI.1]
  refine ⟨o_0, o_54, o_55, Row_add (by omega) hI.1 hT.1.1 (fun c3 => ⟨fun _ => ?_, fun e => by omega⟩) (fun c3 => ⟨fun e => absurd rfl e, fun _ => hno (fun z => by omega)⟩)⟩
  have eL : Lay (rowPush σ 55 c) := (hI.1.kstA a_56).kstO 1 o_55 (by decide)
  have q166 : rowPush σ 55 c 166 = σ 166 := rowPush_k (by decide) (by decide)
  have q194 : rowPush σ 55 c 194 = σ 194 := rowPush_k (by decide) (by decide)
  rw [ly_0_17 eL, ly_54_0 eL, rowPush_0]
  refine ⟨o_54, o_55, by omega, EX12_pit fun _ _ => SX12_pit_0 ⟨o_166, fun s1 e1 => ?_⟩⟩
  have e49 : s1 166 49 = σ 55 1 := by rw [e1, kst_kj (by decide), q166]; exact h3
  have eL1 : Lay s1 := by rw [e1]; exact eL.kstO 0 o_166 (by decide)
  refine ⟨fun e => by omega, fun _ => M_isCell (by omega) (fun _ => ⟨fun _ => ?_, fun e => by omega⟩) (fun c2 => absurd c1 c2)⟩
  rw [ly_166_47 eL1, e49]
  refine ⟨a_194, by omega, fun s2 e2 => ?_⟩
  have e5 : s2 166 49 = σ 55 1 := by rw [e2, kst_k (by decide), e49]
  rw [e5]
  refine ⟨by omega, fun s hs => ?_⟩
  have e6 : s 166 49 = σ 55 1 + 1 := by rw [hs, kst_eq]
  rw [e6]
  refine ⟨by omega, rfl, ?_⟩
  rw [e2, e1] at hs
  have eLs : Lay s := by
    rw [hs]
    exact ((eL.kstO 0 o_166 (by decide)).kstA a_194).kstO 49 o_166 (by decide)
  have oo : off [55, 56, 194, 166] σ s := by
    rw [hs]
    exact (((rowPush_off off.rfl' (by decide) (by decide)).kst (by decide)).kst (by decide)).kst (by decide)
  have ho : FrB [55, 56, 194] [49] σ s := by
    rw [hs]
    unfold rowPush
    exact ((((FrB.rf.ks (by decide) (by decide) (Or.inl (by decide))).ks (by decide) (by decide) (Or.inl (by decide))).kstM (Or.inr (by unfold esf; omega))).ks (by decide) (by decide) (Or.inl (by decide))).kstM (Or.inl (by decide))
  have e55 : s 55 1 = σ 55 1 + 1 := by rw [hs, kst_k (by decide), kst_k (by decide), kst_k (by decide), rowPush_0]
  have e56 : ∀ k, s 56 k = if k = σ 55 1 then c else σ 56 k := fun k => by
    rw [hs, kst_k (by decide), kst_k (by decide), kst_k (by decide)]
    exact rowPush_at
  have e194 : ∀ k, s 194 k = if k = σ 55 1 then c else σ 194 k := fun k => by
    rw [hs, kst_k (by decide), kst_ap, kst_k (by decide), q194]
    by_cases ck : k = σ 55 1
    · rw [if_pos ck, if_pos ⟨rfl, ck⟩]
    · rw [if_neg ck, if_neg (fun z => ck z.2)]
  refine ⟨eLs, hI.2.1.offU (fun k _ hk => oo k hk) (by rw [oo 0 (by decide)]) (by decide), Ess.upd ho hI.2.2 (c10 := fun _ => ?_)⟩
  unfold cPit
  rw [e55]
  refine ⟨⟨⟨o_55, by rw [e55]; omega⟩, fun i i0 i1 => ?_⟩, e6, fun i i0 i1 => ?_⟩
  · rw [e55] at i1
    show 0 ≤ s 56 i ∧ s 56 i < 120
    rw [e56]
    by_cases ci : i = σ 55 1
    · rw [if_pos ci]; exact c1
    · rw [if_neg ci]; exact hT.1.2 i i0 (by omega)
  · rw [e56, e194]
    by_cases ci : i = σ 55 1
    · rw [if_pos ci, if_pos ci]
    · rw [if_neg ci, if_neg ci]; exact hT.2.2 i i0 (by omega)
/-! find -/
theorem O_find {c so w : Int} : Op MX11_find MX12_find [(0, c), (0, so), (0, w)] := by
  intro d σ hd hI
  obtain ⟨d, rfl⟩ : ∃ e, d = e + 1 := ⟨d - 1, by omega⟩
  have hT := hI.2.2.2.2.2.2.2.2.2.1
  have h3 := hT.2.1
  obtain ⟨f1, f2, f3, f4, f5, f6⟩ := hT.1
  have k49 : klen (48 + 1) = 30 := kl_49
  have k51 : klen (50 + 1) = 30 := kl_51
  have k53 : klen (52 + 1) = 30 := kl_53
  have k184 := kl_184
  have k185 := kl_185
  have k186 := kl_186
  have h8 := f1.1.2
  have hno : ¬ (isCel c ∧ (0 ≤ so ∧ so ≤ 3) ∧ (1 ≤ w ∧ w ≤ 9) ∧ σ 48 1 < 30) → Ci (d + 1) MX12_find [(2, 166), (0, c), (0, so), (0, w)] kN σ (fun b s' => -1 = b ∧ Inv s') := fun hc => by
    refine EX12_find fun _ _ _ _ => SX12_find_0 ⟨o_166, fun s1 e1 => ?_⟩
    have hk1 : Keep σ s1 := by rw [e1]; exact hI.thrown
    have hI1 := hI.keep hk1
    have e38 : s1 166 38 = σ 48 1 := by rw [e1, kst_kj (by decide)]; exact h3
    exact ⟨fun _ => ⟨rfl, hI1⟩, fun c1 => M_isCell (by omega) (fun c2 => ⟨fun e => by omega, fun _ => M_isIn (by omega) (fun c3 => ⟨fun e => by omega, fun _ => M_isIn (by omega) (fun c4 => absurd ⟨c2, c3, c4, by omega⟩ hc) (fun _ => ⟨fun e => absurd rfl e, fun _ => ⟨rfl, hI1⟩⟩)⟩) (fun _ => ⟨fun _ => ⟨rfl, hI1⟩, fun e => absurd rfl e⟩)⟩) (fun _ => ⟨fun _ => ⟨rfl, hI1⟩, fun e => absurd rfl e⟩)⟩
  refine EX11_find fun _ _ _ _ => SX11_find_0 (X_isCell (by omega) (fun c1 => ⟨fun e => by omega, fun _ => ⟨fun q => hno (fun z => by omega), fun q1 => ⟨fun q => hno (fun z => by omega), fun q2 => ⟨fun q => hno (fun z => by omega), fun q3 => ⟨fun q4 => ?_, fun q => hno (fun z => by omega)⟩⟩⟩⟩⟩) (fun c1 => ⟨fun _ => hno (fun z => c1 z.1), fun e => absurd rfl e⟩))
  rw [ly_0_16 hI.1]
  refine ⟨o_0, o_47, Finds_add (by omega) hI.1 hT.1 (fun c3 => ?_) (fun c3 => hno (fun z => by omega))⟩
  generalize hp : rowPush (rowPush (rowPush σ 48 c) 50 so) 52 w = p
  have op : off [48, 49, 50, 51, 52, 53] σ p := by
    rw [← hp]
    exact rowPush_off (rowPush_off (rowPush_off off.rfl' (by decide) (by decide)) (by decide) (by decide)) (by decide) (by decide)
  have eL : Lay p := by
    rw [← hp]
    unfold rowPush
    exact (((((hI.1.kstA a_49).kstO 1 o_48 (by decide)).kstA a_51).kstO 1 o_50 (by decide)).kstA a_53).kstO 1 o_52 (by decide)
  have q166 : p 166 = σ 166 := op 166 (by decide)
  refine EX12_find fun _ _ _ _ => SX12_find_0 ⟨o_166, fun s1 e1 => ?_⟩
  have e38 : s1 166 38 = σ 48 1 := by rw [e1, kst_kj (by decide), q166]; exact h3
  have eL1 : Lay s1 := by rw [e1]; exact eL.kstO 0 o_166 (by decide)
  refine ⟨fun e => by omega, fun _ => M_isCell (by omega) (fun _ => ⟨fun e => by omega, fun _ => M_isIn (by omega) (fun _ => ⟨fun e => by omega, fun _ => M_isIn (by omega) (fun _ => ⟨fun _ => ?_, fun e => by omega⟩) (fun q => absurd (by omega) q)⟩) (fun q => absurd (by omega) q)⟩) (fun c2 => absurd c1 c2)⟩
  rw [ly_166_35 eL1, e38]
  refine ⟨a_184, by omega, fun s2 e2 => ?_⟩
  have eL2 : Lay s2 := by rw [e2]; exact eL1.kstA a_184
  have g2 : s2 166 38 = σ 48 1 := by rw [e2, kst_k (by decide), e38]
  rw [ly_166_36 eL2, g2]
  refine ⟨a_185, by omega, fun s3 e3 => ?_⟩
  have eL3 : Lay s3 := by rw [e3]; exact eL2.kstA a_185
  have g3 : s3 166 38 = σ 48 1 := by rw [e3, kst_k (by decide), g2]
  rw [ly_166_37 eL3, g3]
  refine ⟨a_186, by omega, fun s4 e4 => ?_⟩
  have eL4 : Lay s4 := by rw [e4]; exact eL3.kstA a_186
  have g4 : s4 166 38 = σ 48 1 := by rw [e4, kst_k (by decide), g3]
  rw [g4]
  refine ⟨by omega, fun s hs => ?_⟩
  have e6 : s 166 38 = σ 48 1 + 1 := by rw [hs, kst_eq]
  rw [e6]
  refine ⟨by omega, by omega, ?_⟩
  have eLs : Lay s := by rw [hs]; exact eL4.kstO 38 o_166 (by decide)
  have o4 : off [184, 185, 186, 166] p s := by
    rw [hs, e4, e3, e2, e1]
    exact ((((off.rfl'.kst (by decide)).kst (by decide)).kst (by decide)).kst (by decide)).kst (by decide)
  have oo : off [48, 49, 50, 51, 52, 53, 184, 185, 186, 166] σ s := fun k hk => by
    simp only [List.mem_cons, List.not_mem_nil, or_false] at hk
    rw [o4 k (by simp only [List.mem_cons, List.not_mem_nil, or_false]; omega), op k (by simp only [List.mem_cons, List.not_mem_nil, or_false]; omega)]
  have ho : FrB [48, 49, 50, 51, 52, 53, 184, 185, 186] [38] σ s := by
    have hb : FrB [48, 49, 50, 51, 52, 53, 184, 185, 186] [38] σ p := FrB.rf.off op (fun k hk => by simp only [List.mem_cons, List.not_mem_nil, or_false] at hk ⊢; omega)
    rw [hs, e4, e3, e2, e1]
    exact ((((hb.kstM (Or.inr (by unfold esf; omega))).ks (by decide) (by decide) (Or.inl (by decide))).ks (by decide) (by decide) (Or.inl (by decide))).ks (by decide) (by decide) (Or.inl (by decide))).kstM (Or.inl (by decide))
  have w48 : s 48 1 = σ 48 1 + 1 := by rw [o4 48 (by decide), ← hp, rowPush_k (by decide) (by decide), rowPush_k (by decide) (by decide), rowPush_0]
  have w50 : s 50 1 = σ 48 1 + 1 := by rw [o4 50 (by decide), ← hp, rowPush_k (by decide) (by decide), rowPush_0, rowPush_k (by decide) (by decide), f4]
  have w52 : s 52 1 = σ 48 1 + 1 := by rw [o4 52 (by decide), ← hp, rowPush_0, rowPush_k (by decide) (by decide), rowPush_k (by decide) (by decide), f5]
  have w49 : ∀ k, s 49 k = if k = σ 48 1 then c else σ 49 k := fun k => by
    rw [o4 49 (by decide), ← hp, rowPush_k (by decide) (by decide), rowPush_k (by decide) (by decide)]
    exact rowPush_at
  have w51 : ∀ k, s 51 k = if k = σ 48 1 then so else σ 51 k := fun k => by
    rw [o4 51 (by decide), ← hp, rowPush_k (by decide) (by decide)]
    refine (rowPush_at (r := 50)).trans ?_
    rw [rowPush_k (by decide) (by decide), rowPush_k (by decide) (by decide), f4]
    rfl
  have w53 : ∀ k, s 53 k = if k = σ 48 1 then w else σ 53 k := fun k => by
    rw [o4 53 (by decide), ← hp]
    refine (rowPush_at (r := 52)).trans ?_
    rw [rowPush_k (by decide) (by decide), rowPush_k (by decide) (by decide), f5, rowPush_k (by decide) (by decide), rowPush_k (by decide) (by decide)]
    rfl
  have u : ∀ (r v : Int) (z z' : kS) (k : Int), z' = kst z r (σ 48 1) v → z r = σ r → z' r k = if k = σ 48 1 then v else σ r k := fun r v z z' k e1 e2 => by
    rw [e1, kst_ap, e2]
    by_cases ck : k = σ 48 1
    · rw [if_pos ck, if_pos ⟨rfl, ck⟩]
    · rw [if_neg ck, if_neg (fun z => ck z.2)]
  have w184 : ∀ k, s 184 k = if k = σ 48 1 then c else σ 184 k := fun k => by
    rw [hs, kst_k (by decide), e4, kst_k (by decide), e3, kst_k (by decide)]
    exact u 184 c s1 s2 k e2 (by rw [e1, kst_k (by decide), op 184 (by decide)])
  have w185 : ∀ k, s 185 k = if k = σ 48 1 then so else σ 185 k := fun k => by
    rw [hs, kst_k (by decide), e4, kst_k (by decide)]
    exact u 185 so s2 s3 k e3 (by rw [e2, kst_k (by decide), e1, kst_k (by decide), op 185 (by decide)])
  have w186 : ∀ k, s 186 k = if k = σ 48 1 then w else σ 186 k := fun k => by
    rw [hs, kst_k (by decide)]
    exact u 186 w s3 s4 k e4 (by rw [e3, kst_k (by decide), e2, kst_k (by decide), e1, kst_k (by decide), op 186 (by decide)])
  refine ⟨eLs, hI.2.1.offU (fun k _ hk => oo k hk) (by rw [oo 0 (by decide)]) (by decide), Ess.upd ho hI.2.2 (c8 := fun _ => ?_)⟩
  unfold cFind FindsOK
  rw [w48, w50, w52]
  refine ⟨⟨⟨⟨o_48, by rw [w48]; omega⟩, fun i i0 i1 => ?_⟩, ⟨o_50, by rw [w50]; omega⟩, ⟨o_52, by rw [w52]; omega⟩, rfl, rfl, fun i i0 i1 => ?_⟩, e6, fun i i0 i1 => ?_⟩
  · rw [w48] at i1
    show 0 ≤ s 49 i ∧ s 49 i < 120
    rw [w49]
    by_cases ci : i = σ 48 1
    · rw [if_pos ci]; exact c1
    · rw [if_neg ci]; exact f1.2 i i0 (by omega)
  · rw [w51, w53]
    by_cases ci : i = σ 48 1
    · rw [if_pos ci, if_pos ci]; omega
    · rw [if_neg ci, if_neg ci]; exact f6 i i0 (by omega)
  · rw [w49, w51, w53, w184, w185, w186]
    by_cases ci : i = σ 48 1
    · rw [if_pos ci, if_pos ci, if_pos ci, if_pos ci, if_pos ci, if_pos ci]; exact ⟨rfl, rfl, rfl⟩
    · rw [if_neg ci, if_neg ci, if_neg ci, if_neg ci, if_neg ci, if_neg ci]; exact hT.2.2 i i0 (by omega)
