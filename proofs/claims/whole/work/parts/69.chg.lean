/-! changes: weigh, town, known, pit, find -/
theorem O_weigh {g w : Int} : Op MX11_weigh MX12_weigh [(0, g), (0, w)] := by
  intro d σ hd hI
  obtain ⟨d, rfl⟩ : ∃ e, d = e + 1 := ⟨d - 1, by omega⟩
  have hG := hI.2.2.2.2.2.2.1
  have hg6 := hG.1
  have k17 := kl_17
  have k189 := kl_189
  have hno : ¬ ((0 ≤ g ∧ g < σ 0 6) ∧ 0 ≤ w ∧ w ≤ 9) → Ci (d + 1) MX12_weigh [(2, 166), (0, g), (0, w)] kN σ (fun b s' => 0 = b ∧ Inv s') := fun hc => by
    refine EX12_weigh fun _ _ _ => SX12_weigh_0 ⟨o_166, fun s1 e1 => ?_⟩
    have hk1 : Keep σ s1 := by rw [e1]; exact hI.thrown
    have hI1 := hI.keep hk1
    have e14 : s1 166 14 = σ 0 6 := by rw [e1, kst_kj (by decide)]; exact hG.2.1
    exact M_isGoer (by omega) (fun c1 => ⟨fun e => by omega, fun _ => M_isIn (by omega) (fun c2 => absurd ⟨by omega, c2⟩ hc) (fun _ => ⟨fun e => absurd rfl e, fun _ => ⟨rfl, hI1⟩⟩)⟩) (fun _ => ⟨fun _ => ⟨rfl, hI1⟩, fun e => absurd rfl e⟩)
  refine EX11_weigh fun _ _ _ => SX11_weigh_0 ⟨fun c => hno (fun z => by omega), fun c => ⟨o_0, fun c2 => hno (fun z => by omega), fun c2 => ⟨fun c3 => hno (fun z => by omega), fun c3 => ⟨fun c4 => ?_, fun c4 => hno (fun z => by omega)⟩⟩⟩⟩
  have hga := goer_at hI.1 (i := g) (by omega)
  rw [ly_0_5 hI.1, hga.1]
  refine ⟨a_17, by omega, hga.2, fun s0 e0 => ?_⟩
  refine EX12_weigh fun _ _ _ => SX12_weigh_0 ⟨o_166, fun s1 e1 => ?_⟩
  have eL1 : Lay s1 := by
    rw [e1, e0]
    exact (hI.1.kstO 3 hga.2 (by decide)).kstO 0 o_166 (by decide)
  have e14 : s1 166 14 = σ 0 6 := by rw [e1, kst_kj (by decide), e0, kst_k (by omega)]; exact hG.2.1
  refine M_isGoer (by omega) (fun c1 => ⟨fun e => by omega, fun _ => M_isIn (by omega) (fun c2 => ⟨fun _ => ?_, fun e => by omega⟩) (fun c2 => by omega)⟩) (fun c1 => by omega)
  rw [ly_166_42 eL1]
  refine ⟨a_189, by omega, fun s2 e2 => ⟨rfl, ?_⟩⟩
  have hm : 97 + 4 * g ∈ [97, 101, 105, 109, 113, 117, 189, 166] := by
    simp only [List.mem_cons, List.not_mem_nil, or_false]
    omega
  have oo : off [97, 101, 105, 109, 113, 117, 189, 166] σ s2 := by
    rw [e2, e1, e0]
    exact ((off.rfl'.kst hm).kst (by decide)).kst (by decide)
  have ho : FrB [97, 101, 105, 109, 113, 117, 189] [] σ s2 := by
    rw [e2, e1, e0]
    exact ((FrB.rf.ks (by omega) (by omega) (Or.inl (by simp only [List.mem_cons, List.not_mem_nil, or_false]; omega))).kstM (Or.inr (by unfold esf; omega))).ks (by decide) (by decide) (Or.inl (by decide))
  have e00 : s2 0 = σ 0 := oo 0 (by decide)
  refine ⟨by rw [e2]; exact eL1.kstA a_189, hI.2.1.offU (fun k _ hk => oo k hk) (by rw [e00]) (by decide), Ess.upd ho hI.2.2 (c5 := fun _ => ?_)⟩
  have hw : ∀ q j, 0 ≤ q → q < 6 → s2 (97 + 4 * q) j = if q = g ∧ j = 3 then w else σ (97 + 4 * q) j := fun q j q0 q6 => by
    by_cases h189 : 97 + 4 * q = 189
    · omega
    · by_cases h166 : 97 + 4 * q = 166
      · omega
      · rw [e2, kst_k h189, e1, kst_k h166, e0, kst_ap]
        by_cases c : q = g ∧ j = 3
        · rw [if_pos c, if_pos ⟨by omega, c.2⟩]
        · rw [if_neg c, if_neg (fun z => c ⟨by omega, z.2⟩)]
  have hv : ∀ q, s2 189 q = if q = g then w else σ 189 q := fun q => by
    rw [e2, kst_ap, e1, kst_k (by decide), e0, kst_k (by omega)]
    by_cases c : q = g
    · rw [if_pos c, if_pos ⟨rfl, c⟩]
    · rw [if_neg c, if_neg (fun z => c z.2)]
  have e170 : s2 170 = σ 170 := oo 170 (by decide)
  have e171 : s2 171 = σ 171 := oo 171 (by decide)
  have ht : ∀ g, tb s2 g = tb σ g ∧ tn s2 g = tn σ g := fun g => by
    refine ⟨?_, by unfold tn; rw [e171]⟩
    unfold tb mby
    rw [e170]
  unfold cGoer
  rw [e00, ho.2.2 14 (by unfold esf; omega) (by decide), e170, e171]
  refine ⟨hg6, hG.2.1, fun q q0 q1 => ?_, fun q q0 q1 => ?_⟩
  · obtain ⟨p1, p2, p3, p4, p5, p6⟩ := hG.2.2.1 q q0 q1
    rw [hw q 2 q0 (by omega), if_neg (fun z => by omega), (ht q).1, (ht q).2, oo (97 + 4 * q + 1) (by simp only [List.mem_cons, List.not_mem_nil, or_false]; omega), hw q 3 q0 (by omega), hv q]
    refine ⟨p1, p2, p3, p4, ?_⟩
    by_cases c : q = g
    · rw [if_pos ⟨c, rfl⟩, if_pos c]
      omega
    · rw [if_neg (fun z => c z.1), if_neg c]
      exact ⟨p5, p6⟩
  · rw [hw q 3 (by omega) q1, if_neg (fun z => by omega)]
    exact hG.2.2.2 q q0 q1
/-! town -/
theorem M_town {d : Nat} (hd : 3 ≤ d) {σ : kS} {c : Int} {Q : Int → kS → Prop} (hL : Lay σ) (hn : 0 ≤ σ 166 3 ∧ σ 166 3 ≤ 8) (h0 : ¬ (isCel c ∧ σ 166 3 < 8 ∧ ∀ j, 0 ≤ j → j < σ 166 3 → σ 168 j ≠ c) → Q (-1) (kst σ 166 0 0)) (h1 : isCel c → σ 166 3 < 8 → (∀ j, 0 ≤ j → j < σ 166 3 → σ 168 j ≠ c) → Q (σ 166 3) (kst (kst (kst σ 166 0 0) 168 (σ 166 3) c) 166 3 (σ 166 3 + 1))) : Ci d MX12_town [(2, 166), (0, c)] kN σ Q := by
  obtain ⟨d, rfl⟩ : ∃ e, d = e + 1 := ⟨d - 1, by omega⟩
  have k168 := kl_168
  refine EX12_town fun _ _ => SX12_town_0 ⟨o_166, fun s1 e1 => ?_⟩
  have e3 : s1 166 3 = σ 166 3 := by rw [e1, kst_kj (by decide)]
  have e168 : s1 168 = σ 168 := by rw [e1, kst_k (by decide)]
  have eL : Lay s1 := by rw [e1]; exact hL.kstO 0 o_166 (by decide)
  rw [← e1] at h0 h1
  refine ⟨fun c1 => h0 (fun z => by omega), fun c1 => M_isCell (by omega) (fun c2 => ⟨fun _ => ?_, fun e => by omega⟩) (fun c2 => ⟨fun e => absurd rfl e, fun _ => h0 (fun z => c2 z.1)⟩)⟩
  have key : ∀ i : Int, 0 ≤ i → i ≤ σ 166 3 → (∀ j, 0 ≤ j → j < i → σ 168 j ≠ c) → LX12_town_25 d kN Q 166 c i s1 := by
    refine up_to (e := σ 166 3) ?_
    intro i ih i0 i1 hh
    refine SX12_town_25 ⟨o_166, ?_⟩
    rw [ly_166_2 eL, e3]
    refine ⟨fun e => ⟨a_168, by omega, fun s2 e2 => ?_⟩, fun e => ⟨a_168, by omega, fun e4 => ⟨by omega, ih (by omega) (by omega) (by omega) (fun j j0 j1 => ?_)⟩, fun e4 => h0 (fun z => e4 (fun q => z.2.2 i i0 (by omega) (by rw [← e168]; exact q)))⟩⟩
    · have e5 : s2 166 3 = σ 166 3 := by rw [e2, kst_k (by decide), e3]
      rw [e5]
      refine ⟨by omega, fun s3 e6 => ?_⟩
      have e7 : s3 166 3 = σ 166 3 + 1 := by rw [e6, kst_eq]
      rw [e7, show σ 166 3 + 1 - 1 = σ 166 3 by omega, e6, e2]
      exact ⟨by omega, h1 c2 (by omega) (fun j j0 j1 => hh j j0 (by omega))⟩
    · by_cases ej : j = i
      · rw [ej, ← e168]; exact e4
      · exact hh j j0 (by omega)
  exact key 0 (by omega) (by omega) (fun j j0 j1 => by omega)
theorem X_town {d : Nat} (hd : 3 ≤ d) {σ : kS} {c : Int} {Q : Int → kS → Prop} (hL : Lay σ) (hr : RowC σ 19) (h0 : ¬ (isCel c ∧ σ 19 1 < 8 ∧ ∀ j, 0 ≤ j → j < σ 19 1 → σ 20 j ≠ c) → Q (-1) σ) (h1 : isCel c → σ 19 1 < 8 → (∀ j, 0 ≤ j → j < σ 19 1 → σ 20 j ≠ c) → Q (σ 19 1) (rowPush σ 19 c)) : Ci d MX11_town [(2, 0), (0, c)] kN σ Q := by
  obtain ⟨d, rfl⟩ : ∃ e, d = e + 1 := ⟨d - 1, by omega⟩
  have k20 : klen (19 + 1) = 8 := kl_20
  have h8 := hr.1.2
  have hm := mem_rowL (σ := σ) (r := 19) (x := c)
  refine EX11_town fun _ _ => SX11_town_0 (X_isCell (by omega) (fun c1 => ⟨fun e => by omega, fun _ => ?_⟩) (fun c1 => ⟨fun _ => h0 (fun z => c1 z.1), fun e => absurd rfl e⟩))
  rw [ly_0_9 hL]
  refine ⟨o_0, o_19, Row_has (by omega) hL hr.1 ?_⟩
  by_cases c2 : c ∈ rowL σ 19
  · rw [if_pos c2]
    refine ⟨fun _ => h0 (fun z => ?_), fun e => by omega⟩
    obtain ⟨i, i0, i1, hi⟩ := hm.mp c2
    exact z.2.2 i i0 i1 hi
  · rw [if_neg c2]
    have hno : ∀ j, 0 ≤ j → j < σ 19 1 → σ 20 j ≠ c := fun j j0 j1 e => c2 (hm.mpr ⟨j, j0, j1, e⟩)
    rw [ly_0_9 hL]
    refine ⟨fun e => absurd rfl e, fun _ => ⟨o_19, Row_add (by omega) hL hr.1 (fun c3 => ⟨fun _ => ?_, fun e => by omega⟩) (fun c3 => ⟨fun e => absurd rfl e, fun _ => h0 (fun z => by omega)⟩)⟩⟩
    have e9 : rowPush σ 19 c 0 9 = 19 := by rw [rowPush_k (by decide) (by decide)]; exact ly_0_9 hL
    rw [e9, rowPush_0, show σ 19 1 + 1 - 1 = σ 19 1 by omega]
    exact ⟨o_19, by omega, h1 c1 (by omega) hno⟩
theorem O_town {c : Int} : Op MX11_town MX12_town [(0, c)] := by
  intro d σ hd hI
  have hT := hI.2.2.2.2.1
  have h3 := hT.2.1
  have k20 : klen (19 + 1) = 8 := kl_20
  have h8 := hT.1.1.2
  refine X_town (by omega) hI.1 hT.1 (fun h => M_town (by omega) hI.1 (by omega) (fun _ => ⟨rfl, hI.keep hI.thrown⟩) (fun p1 p2 p3 => absurd ⟨p1, by omega, fun j j0 j1 => by rw [hT.2.2.1 j j0 j1]; exact p3 j j0 (by omega)⟩ h)) (fun c1 c2 c3 => ?_)
  have eL : Lay (rowPush σ 19 c) := (hI.1.kstA a_20).kstO 1 o_19 (by decide)
  have q166 : rowPush σ 19 c 166 = σ 166 := rowPush_k (by decide) (by decide)
  have q168 : rowPush σ 19 c 168 = σ 168 := rowPush_k (by decide) (by decide)
  refine M_town (by omega) eL (by rw [q166]; omega) (fun h => absurd ⟨c1, by rw [q166]; omega, fun j j0 j1 => ?_⟩ h) (fun p1 p2 p3 => ⟨by rw [q166]; omega, ?_⟩)
  rotate_left
  · rw [q166] at j1
    rw [q168, ← hT.2.2.1 j j0 (by omega)]
    exact c3 j j0 (by omega)
  · rw [q166, hT.2.1]
    generalize hs : kst (kst (kst (rowPush σ 19 c) 166 0 0) 168 (σ 19 1) c) 166 3 (σ 19 1 + 1) = s
    have eLs : Lay s := by
      rw [← hs]
      exact ((eL.kstO 0 o_166 (by decide)).kstA a_168).kstO 3 o_166 (by decide)
    have oo : off [19, 20, 168, 166] σ s := by
      rw [← hs]
      exact (((rowPush_off off.rfl' (by decide) (by decide)).kst (by decide)).kst (by decide)).kst (by decide)
    have ho : FrB [19, 20, 168] [3] σ s := by
      rw [← hs]
      unfold rowPush
      exact ((((FrB.rf.ks (by decide) (by decide) (Or.inl (by decide))).ks (by decide) (by decide) (Or.inl (by decide))).kstM (Or.inr (by unfold esf; omega))).ks (by decide) (by decide) (Or.inl (by decide))).kstM (Or.inl (by decide))
    have e1 : s 19 1 = σ 19 1 + 1 := by rw [← hs, kst_k (by decide), kst_k (by decide), kst_k (by decide), rowPush_0]
    have e20 : ∀ k, s 20 k = if k = σ 19 1 then c else σ 20 k := fun k => by
      rw [← hs, kst_k (by decide), kst_k (by decide), kst_k (by decide)]
      exact rowPush_at
    have e168 : ∀ k, s 168 k = if k = σ 19 1 then c else σ 168 k := fun k => by
      rw [← hs, kst_k (by decide), kst_ap, kst_k (by decide), q168]
      by_cases ck : k = σ 19 1
      · rw [if_pos ck, if_pos ⟨rfl, ck⟩]
      · rw [if_neg ck, if_neg (fun z => ck z.2)]
    have e3 : s 166 3 = σ 19 1 + 1 := by rw [← hs, kst_eq]
    refine ⟨eLs, hI.2.1.offU (fun k _ hk => oo k hk) (by rw [oo 0 (by decide)]) (by decide), Ess.upd ho hI.2.2 (c3 := fun _ => ?_) (c6 := fun _ => ?_)⟩
    · unfold cTown
      rw [e1]
      refine ⟨⟨⟨o_19, by rw [e1]; omega⟩, fun i i0 i1 => ?_⟩, e3, fun i i0 i1 => ?_, fun i j i0 ij j1 => ?_⟩
      · rw [e1] at i1
        show 0 ≤ s 20 i ∧ s 20 i < 120
        rw [e20]
        by_cases ci : i = σ 19 1
        · rw [if_pos ci]; exact c1
        · rw [if_neg ci]; exact hT.1.2 i i0 (by omega)
      · rw [e20, e168]
        by_cases ci : i = σ 19 1
        · rw [if_pos ci, if_pos ci]
        · rw [if_neg ci, if_neg ci]; exact hT.2.2.1 i i0 (by omega)
      · rw [e20, e20, if_neg (show ¬ i = σ 19 1 by omega)]
        by_cases cj : j = σ 19 1
        · rw [if_pos cj]; exact c3 i i0 (by omega)
        · rw [if_neg cj]; exact hT.2.2.2 i j i0 ij (by omega)
    · have hB := hI.2.2.2.2.2.2.2.1
      unfold cBook
      rw [oo 0 (by decide), ho.2.2 15 (by unfold esf; omega) (by decide), oo 173 (by decide), oo 174 (by decide), oo 175 (by decide), oo 176 (by decide), e1]
      refine ⟨hB.1, hB.2.1, fun i i0 i1 => ?_, fun i i0 i1 => ?_⟩
      · have := hB.2.2.1 i i0 i1
        exact ⟨this.1.cong (oo _ (by simp only [List.mem_cons, List.not_mem_nil, or_false]; omega)), this.2.cong (oo _ (by simp only [List.mem_cons, List.not_mem_nil, or_false]; omega))⟩
      · have := hB.1
        rw [oo (122 + 5 * i) (by simp only [List.mem_cons, List.not_mem_nil, or_false]; omega), oo (123 + 5 * i) (by simp only [List.mem_cons, List.not_mem_nil, or_false]; omega), oo (124 + 5 * i) (by simp only [List.mem_cons, List.not_mem_nil, or_false]; omega), oo (125 + 5 * i) (by simp only [List.mem_cons, List.not_mem_nil, or_false]; omega)]
        obtain ⟨b1, b2, b3, b4, b5⟩ := hB.2.2.2 i i0 i1
        exact ⟨b1, b2, b3, b4, fun k k0 k1 => by have := b5 k k0 k1; omega⟩
