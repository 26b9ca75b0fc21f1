/-! best, tried: the answers -/
theorem mis_sb {σ : kS} {load wet g left : Int} (h : ∀ i, 0 ≤ i → i < σ 22 1 → 0 ≤ missM σ load wet g i ∧ missM σ load wet g i ≤ 120) {k : Int} (hk : 0 ≤ k ∧ k ≤ σ 22 1) : 0 ≤ sm (fun i => if i = left then 0 else missM σ load wet g i) k.toNat ∧ sm (fun i => if i = left then 0 else missM σ load wet g i) k.toNat ≤ 120 * k := by
  have := sm_b (f := fun i => if i = left then 0 else missM σ load wet g i) (B := 120) (n := k.toNat) (fun i i0 i1 => by
    have := h i i0 (by omega)
    split <;> omega)
  rw [k_toNat hk.1] at this
  exact this
theorem X_fitBut {d : Nat} (hd : 1 ≤ d) {σ s : kS} {load wet g left : Int} {Q : Int → kS → Prop} (hI : Inv σ) (hks : Keep σ s) (hm : MisX σ s load wet (σ 0 6)) (hg : 0 ≤ g ∧ g < σ 0 6) (h : Q (fitV (missM σ load wet) (σ 22 1) g left) s) : Ci d MX11_fitBut [(2, 0), (0, g), (0, left)] kN s Q := by
  obtain ⟨d, rfl⟩ : ∃ e, d = e + 1 := ⟨d - 1, by omega⟩
  have k17 := kl_17
  have hg6 := hI.2.2.2.2.2.2.1.1
  have hK := hI.2.2.2.2.2.2.2.2.2.2.1
  have k23 : klen (22 + 1) = 6 := kl_23
  have hsz := hK.1.2
  have hIs := hI.keep hks
  have e22 : s 22 = σ 22 := hks.1.1 22 (by unfold scr; omega)
  have hgu := goer_at hIs.1 (i := g) (by omega)
  have hgm := goer_mis hIs.1 (g := g) (by omega)
  have key : ∀ i sum : Int, 0 ≤ i → i ≤ σ 22 1 → sum = sm (fun i => if i = left then 0 else missM σ load wet g i) i.toNat → LX11_fitBut_5 d kN Q 0 g left sum i s := by
    refine up_to (e := σ 22 1) ?_
    intro i ih sum i0 i1 hs
    have hss := sm_s (f := fun i => if i = left then 0 else missM σ load wet g i) i0
    have hbb := mis_sb (left := left) (fun i i0 i1 => (hm g i hg.1 hg.2 i0 i1).2) ⟨i0, i1⟩
    refine SX11_fitBut_5 ⟨o_0, ?_⟩
    rw [ly_0_12 hIs.1, e22, ly_0_5 hIs.1, hgu.1, hgm.1]
    refine ⟨o_22, fun q => ?_, fun q => ⟨fun q2 => ⟨by omega, ih (by omega) sum (by omega) (by omega) ?_⟩, fun q2 => ?_⟩⟩
    · rw [show i = σ 22 1 by omega] at hs
      rw [hs]
      exact h
    · rw [hss, hs]
      simp only [if_pos q2]
      omega
    · have hmi := hm g i hg.1 hg.2 i0 (by omega)
      rw [hmi.1]
      refine ⟨a_17, by omega, hgu.2, hgm.2.1, by omega, by omega, by omega, ih (by omega) _ (by omega) (by omega) ?_⟩
      rw [hss, hs]
      simp only [if_neg q2]
  exact EX11_fitBut fun _ _ _ => SX11_fitBut_0 (key 0 0 (by omega) hsz.1 rfl)
theorem M_fitOf {d : Nat} (hd : 1 ≤ d) {σ s : kS} {load wet g left : Int} {Q : Int → kS → Prop} (hI : Inv σ) (hks : Keep σ s) (hm : MisM σ s load wet (σ 0 6)) (hg : 0 ≤ g ∧ g < σ 0 6) (h : Q (fitV (missM σ load wet) (σ 22 1) g left) s) : Ci d MX12_fitOf [(2, 166), (0, g), (0, left)] kN s Q := by
  obtain ⟨d, rfl⟩ : ∃ e, d = e + 1 := ⟨d - 1, by omega⟩
  have k188 := kl_188
  have hg6 := hI.2.2.2.2.2.2.1.1
  have hK := hI.2.2.2.2.2.2.2.2.2.2.1
  have h41 := hK.2.1
  have k23 : klen (22 + 1) = 6 := kl_23
  have hsz := hK.1.2
  have hIs := hI.keep hks
  have key : ∀ i sum : Int, 0 ≤ i → i ≤ σ 22 1 → sum = sm (fun i => if i = left then 0 else missM σ load wet g i) i.toNat → LX12_fitOf_5 d kN Q 166 g left sum i s := by
    refine up_to (e := σ 22 1) ?_
    intro i ih sum i0 i1 hs
    have hss := sm_s (f := fun i => if i = left then 0 else missM σ load wet g i) i0
    have hbb := mis_sb (left := left) (fun i i0 i1 => (hm g i hg.1 hg.2 i0 i1).2) ⟨i0, i1⟩
    refine SX12_fitOf_5 ⟨o_166, ?_⟩
    rw [hks.1.2 41 (by unfold esf; omega), h41, ly_166_40 hIs.1]
    refine ⟨fun q => ?_, fun q => ⟨fun q2 => ?_, fun q2 => ⟨by omega, by omega, ih (by omega) _ (by omega) (by omega) ?_⟩⟩⟩
    · rw [show i = σ 22 1 by omega] at hs
      rw [hs]
      exact h
    · have hmi := hm g i hg.1 hg.2 i0 (by omega)
      rw [hmi.1]
      refine ⟨by omega, by omega, a_188, by omega, by omega, by omega, ih (by omega) _ (by omega) (by omega) ?_⟩
      rw [hss, hs]
      simp only [if_neg q2]
    · rw [hss, hs]
      simp only [if_pos (Classical.not_not.mp q2)]
  exact EX12_fitOf fun _ _ _ => SX12_fitOf_0 (key 0 0 (by omega) hsz.1 rfl)
noncomputable def bstA (σ : kS) (load wet left : Int) : Int := bestR (missM σ load wet) (σ 22 1) left (σ 0 6 - 1).toNat
theorem bstA_b {σ : kS} {load wet left : Int} (h : 1 ≤ σ 0 6) : 0 ≤ bstA σ load wet left ∧ bstA σ load wet left < σ 0 6 := by
  have := bestR_b (M := missM σ load wet) (n := σ 22 1) (left := left) (σ 0 6 - 1).toNat
  unfold bstA
  omega
theorem X_bestBut {d : Nat} (hd : 2 ≤ d) {σ s : kS} {load wet left : Int} {Q : Int → kS → Prop} (hI : Inv σ) (hks : Keep σ s) (hm : MisX σ s load wet (σ 0 6)) (hG : 1 ≤ σ 0 6) (h : Q (bstA σ load wet left) s) : Ci d MX11_bestBut [(2, 0), (0, left)] kN s Q := by
  obtain ⟨d, rfl⟩ : ∃ e, d = e + 1 := ⟨d - 1, by omega⟩
  have hg6 := hI.2.2.2.2.2.2.1.1
  have e0 := hks.1.e0
  have key : ∀ g best : Int, 1 ≤ g → g ≤ σ 0 6 → best = bestR (missM σ load wet) (σ 22 1) left (g - 1).toNat → LX11_bestBut_4 d kN Q 0 left best g s := by
    refine up_to (e := σ 0 6) ?_
    intro g ih best g0 g1 hb
    have hs := bestR_s (M := missM σ load wet) (n := σ 22 1) (left := left) g0
    have hbb := bestR_b (M := missM σ load wet) (n := σ 22 1) (left := left) (g - 1).toNat
    refine SX11_bestBut_4 ⟨o_0, ?_⟩
    rw [e0]
    refine ⟨fun q => ?_, fun q => X_fitBut (by omega) hI hks hm (by omega) (X_fitBut (by omega) hI hks hm (by omega) ⟨fun q2 => ⟨by omega, ih (by omega) _ (by omega) (by omega) ?_⟩, fun q2 => ⟨by omega, ih (by omega) _ (by omega) (by omega) ?_⟩⟩)⟩
    · rw [hb, show g = σ 0 6 by omega]
      exact h
    · rw [hs, if_neg (by rw [← hb]; omega), hb]
    · rw [hs, if_pos (by rw [← hb]; omega)]
  exact EX11_bestBut fun _ _ => SX11_bestBut_0 (key 1 0 (by omega) hG rfl)
theorem M_bestOf {d : Nat} (hd : 2 ≤ d) {σ s : kS} {load wet left : Int} {Q : Int → kS → Prop} (hI : Inv σ) (hks : Keep σ s) (hm : MisM σ s load wet (σ 0 6)) (hG : 1 ≤ σ 0 6) (h : Q (bstA σ load wet left) s) : Ci d MX12_bestOf [(2, 166), (0, left)] kN s Q := by
  obtain ⟨d, rfl⟩ : ∃ e, d = e + 1 := ⟨d - 1, by omega⟩
  have hg6 := hI.2.2.2.2.2.2.1.1
  have h14 := hI.2.2.2.2.2.2.1.2.1
  have key : ∀ g best : Int, 1 ≤ g → g ≤ σ 0 6 → best = bestR (missM σ load wet) (σ 22 1) left (g - 1).toNat → LX12_bestOf_4 d kN Q 166 left best g s := by
    refine up_to (e := σ 0 6) ?_
    intro g ih best g0 g1 hb
    have hs := bestR_s (M := missM σ load wet) (n := σ 22 1) (left := left) g0
    have hbb := bestR_b (M := missM σ load wet) (n := σ 22 1) (left := left) (g - 1).toNat
    refine SX12_bestOf_4 ⟨o_166, ?_⟩
    rw [hks.1.2 14 (by unfold esf; omega), h14]
    refine ⟨fun q => ?_, fun q => M_fitOf (by omega) hI hks hm (by omega) (M_fitOf (by omega) hI hks hm (by omega) ⟨fun q2 => ⟨by omega, ih (by omega) _ (by omega) (by omega) ?_⟩, fun q2 => ⟨by omega, ih (by omega) _ (by omega) (by omega) ?_⟩⟩)⟩
    · rw [hb, show g = σ 0 6 by omega]
      exact h
    · rw [hs, if_neg (by rw [← hb]; omega), hb]
    · rw [hs, if_pos (by rw [← hb]; omega)]
  exact EX12_bestOf fun _ _ => SX12_bestOf_0 (key 1 0 (by omega) hG rfl)
theorem fitV_fr {σ s : kS} (hI : Inv σ) (h : Fr σ s) {load wet g left : Int} : fitV (missM s load wet) (s 22 1) g left = fitV (missM σ load wet) (σ 22 1) g left := by
  rw [h.1 22 (by unfold scr; omega)]
  exact fitV_cong (fun i i0 i1 => missM_fr hI h ⟨i0, i1⟩)
theorem bestR_fr {σ s : kS} (hI : Inv σ) (h : Fr σ s) {load wet left : Int} : ∀ k : Nat, bestR (missM s load wet) (s 22 1) left k = bestR (missM σ load wet) (σ 22 1) left k := by
  intro k
  induction k with
  | zero => rfl
  | succ k ih => rw [bestR, bestR, ih, fitV_fr hI h, fitV_fr hI h]
theorem bstA_fr {σ s : kS} (hI : Inv σ) (h : Fr σ s) {load wet left : Int} : bstA s load wet left = bstA σ load wet left := by
  unfold bstA
  rw [h.e0]
  exact bestR_fr hI h _
noncomputable def beA (σ : kS) (load wet w : Int) : Int := cif (isMan σ 0 load ∧ 0 ≤ w ∧ w ≤ 1) (if w = 0 then bstA σ load wet (-1) else fitV (missM σ load wet) (σ 22 1) (bstA σ load wet (-1)) (-1)) (-1)
theorem beA_fr {σ s : kS} (hI : Inv σ) (h : Fr σ s) {load wet w : Int} : beA s load wet w = beA σ load wet w := by
  unfold beA
  rw [isMan_fr h, bstA_fr hI h, fitV_fr hI h]
theorem O_best {load wet w : Int} (hw : wet = 0 ∨ wet = 1) : Op MX11_best MX12_best [(0, load), (0, wet), (0, w)] := by
  refine Op.of (fun σ => beA σ load wet w) (fun σ s hI hk => beA_fr hI hk.1) (fun d σ Q hd hI h => ?_) (fun d σ Q hd hI h => ?_)
  · obtain ⟨d, rfl⟩ : ∃ e, d = e + 1 := ⟨d - 1, by omega⟩
    have hno : ¬ (isMan σ 0 load ∧ 0 ≤ w ∧ w ≤ 1) → Q (-1) σ := fun z => by
      have hs := h σ hI.self
      unfold beA at hs
      rw [cif_neg z] at hs
      exact hs
    refine EX11_best fun _ _ _ _ => SX11_best_0 ⟨o_0, X_isManner (by omega) (fun c1 => ⟨fun e => by omega, fun _ => ⟨fun q => hno (fun z => by omega), fun q => ⟨fun q2 => ?_, fun q2 => hno (fun z => by omega)⟩⟩⟩) (fun c1 => ⟨fun _ => hno (fun z => c1 z.1), fun e => absurd rfl e⟩)⟩
    have hG : 1 ≤ σ 0 6 := by omega
    refine X_fill (by omega) hI c1.2 hw (fun s hks hm => X_bestBut (by omega) hI hks hm hG ?_)
    have hs := h s hks
    unfold beA at hs
    rw [cif_pos (show isMan σ 0 load ∧ 0 ≤ w ∧ w ≤ 1 from ⟨c1, by omega⟩)] at hs
    refine ⟨fun q3 => X_fitBut (by omega) hI hks hm (bstA_b hG) ?_, fun q3 => ?_⟩
    · rw [if_neg q3] at hs
      exact hs
    · rw [if_pos (Classical.not_not.mp q3)] at hs
      exact hs
  · obtain ⟨d, rfl⟩ : ∃ e, d = e + 1 := ⟨d - 1, by omega⟩
    refine EX12_best fun _ _ _ _ => SX12_best_0 ⟨o_166, fun s1 e1 => ?_⟩
    have hk1 : Keep σ s1 := by rw [e1]; exact hI.thrown
    have hI1 := hI.keep hk1
    have hh : ∀ s, Keep s1 s → Q (beA s1 load wet w) s := fun s hs => by
      rw [beA_fr hI hk1.1]
      exact h s (hk1.trans hs)
    have h14 := hI1.2.2.2.2.2.2.1.2.1
    have hg6 := hI1.2.2.2.2.2.2.1.1
    have hno : ¬ (isMan s1 0 load ∧ 0 ≤ w ∧ w ≤ 1) → Q (-1) s1 := fun z => by
      have hs := hh s1 hI1.self
      unfold beA at hs
      rw [cif_neg z] at hs
      exact hs
    refine ⟨fun q => hno (fun z => by have := z.1.1; omega), fun q => M_isIn (by omega) (fun c2 => ⟨fun e => by omega, fun _ => M_isIn (by omega) (fun c3 => ⟨fun _ => ?_, fun e => by omega⟩) (fun c3 => ⟨fun e => absurd rfl e, fun _ => hno (fun z => c3 z.2)⟩)⟩) (fun c2 => ⟨fun _ => hno (fun z => c2 z.1.2), fun e => absurd rfl e⟩)⟩
    have hG : 1 ≤ s1 0 6 := by omega
    refine M_fill (by omega) hI1 c2 hw (fun s hks hm => ?_)
    have hs := hh s hks
    unfold beA at hs
    rw [cif_pos (show isMan s1 0 load ∧ 0 ≤ w ∧ w ≤ 1 from ⟨⟨by omega, c2⟩, c3⟩)] at hs
    refine ⟨fun q3 => M_bestOf (by omega) hI1 hks hm hG (M_fitOf (by omega) hI1 hks hm (bstA_b hG) ?_), fun q3 => M_bestOf (by omega) hI1 hks hm hG ?_⟩
    · rw [if_neg q3] at hs
      exact hs
    · rw [if_pos (Classical.not_not.mp q3)] at hs
      exact hs
noncomputable def trF (σ : kS) (load wet i : Int) : Int := missM σ load wet (bstA σ load wet i) i
noncomputable def trA (σ : kS) (load wet : Int) : Int := cif (isMan σ 0 load ∧ 2 ≤ σ 22 1) (sm (trF σ load wet) (σ 22 1).toNat) (-1)
theorem trA_fr {σ s : kS} (hI : Inv σ) (h : Fr σ s) {load wet : Int} : trA s load wet = trA σ load wet := by
  unfold trA
  rw [isMan_fr h, h.1 22 (by unfold scr; omega)]
  have e : sm (trF s load wet) (σ 22 1).toNat = sm (trF σ load wet) (σ 22 1).toNat := sm_cong (fun i i0 i1 => by
    unfold trF
    rw [bstA_fr hI h, missM_fr hI h (by omega)])
  rw [e]
theorem O_tried {load wet : Int} (hw : wet = 0 ∨ wet = 1) : Op MX11_tried MX12_tried [(0, load), (0, wet)] := by
  refine Op.of (fun σ => trA σ load wet) (fun σ s hI hk => trA_fr hI hk.1) (fun d σ Q hd hI h => ?_) (fun d σ Q hd hI h => ?_)
  · obtain ⟨d, rfl⟩ : ∃ e, d = e + 1 := ⟨d - 1, by omega⟩
    have k17 := kl_17
    have hg6 := hI.2.2.2.2.2.2.1.1
    have hK := hI.2.2.2.2.2.2.2.2.2.2.1
    have k23 : klen (22 + 1) = 6 := kl_23
    have hsz := hK.1.2
    have hno : ¬ (isMan σ 0 load ∧ 2 ≤ σ 22 1) → Q (-1) σ := fun z => by
      have hs := h σ hI.self
      unfold trA at hs
      rw [cif_neg z] at hs
      exact hs
    refine EX11_tried fun _ _ _ => SX11_tried_0 ⟨o_0, X_isManner (by omega) (fun c1 => ⟨fun e => by omega, fun _ => ?_⟩) (fun c1 => ⟨fun _ => hno (fun z => c1 z.1), fun e => absurd rfl e⟩)⟩
    have hG : 1 ≤ σ 0 6 := by omega
    rw [ly_0_12 hI.1]
    refine ⟨o_22, fun q => X_fill (by omega) hI c1.2 hw (fun s hks hm => ?_), fun q => hno (fun z => q z.2)⟩
    have hs := h s hks
    unfold trA at hs
    rw [cif_pos (show isMan σ 0 load ∧ 2 ≤ σ 22 1 from ⟨c1, q⟩)] at hs
    have hIs := hI.keep hks
    have e22 : s 22 = σ 22 := hks.1.1 22 (by unfold scr; omega)
    have key : ∀ i sum : Int, 0 ≤ i → i ≤ σ 22 1 → sum = sm (trF σ load wet) i.toNat → LX11_tried_33 d kN Q 0 sum i s := by
      refine up_to (e := σ 22 1) ?_
      intro i ih sum i0 i1 hsum
      have hss := sm_s (f := trF σ load wet) i0
      have hbb := sm_b (f := trF σ load wet) (B := 120) (n := i.toNat) (fun j j0 j1 => (hm _ j (bstA_b hG).1 (bstA_b hG).2 j0 (by omega)).2)
      rw [k_toNat i0] at hbb
      refine SX11_tried_33 ⟨o_0, ?_⟩
      rw [ly_0_12 hIs.1, e22, ly_0_5 hIs.1]
      refine ⟨o_22, fun q2 => ?_, fun q2 => X_bestBut (by omega) hI hks hm hG ?_⟩
      · rw [show i = σ 22 1 by omega] at hsum
        rw [hsum]
        exact hs
      · have hb := bstA_b (load := load) (wet := wet) (left := i) hG
        have hgu := goer_at hIs.1 (i := bstA σ load wet i) (by omega)
        have hgm := goer_mis hIs.1 (g := bstA σ load wet i) (by omega)
        have hmi := hm _ i hb.1 hb.2 i0 (by omega)
        rw [hgu.1, hgm.1, hmi.1]
        refine ⟨a_17, by omega, hgu.2, hgm.2.1, by omega, by omega, by omega, ih (by omega) _ (by omega) (by omega) ?_⟩
        rw [hss, hsum]
        rfl
    exact key 0 0 (by omega) hsz.1 rfl
  · obtain ⟨d, rfl⟩ : ∃ e, d = e + 1 := ⟨d - 1, by omega⟩
    have k188 := kl_188
    refine EX12_tried fun _ _ _ => SX12_tried_0 ⟨o_166, fun s1 e1 => ?_⟩
    have hk1 : Keep σ s1 := by rw [e1]; exact hI.thrown
    have hI1 := hI.keep hk1
    have hh : ∀ s, Keep s1 s → Q (trA s1 load wet) s := fun s hs => by
      rw [trA_fr hI hk1.1]
      exact h s (hk1.trans hs)
    have h14 := hI1.2.2.2.2.2.2.1.2.1
    have hg6 := hI1.2.2.2.2.2.2.1.1
    have hK := hI1.2.2.2.2.2.2.2.2.2.2.1
    have h41 := hK.2.1
    have k23 : klen (22 + 1) = 6 := kl_23
    have hsz := hK.1.2
    have hno : ¬ (isMan s1 0 load ∧ 2 ≤ s1 22 1) → Q (-1) s1 := fun z => by
      have hs := hh s1 hI1.self
      unfold trA at hs
      rw [cif_neg z] at hs
      exact hs
    refine ⟨fun q => hno (fun z => by have := z.1.1; omega), fun q => ⟨fun q2 => hno (fun z => by omega), fun q2 => M_isIn (by omega) (fun c2 => ⟨fun _ => ?_, fun e => by omega⟩) (fun c2 => ⟨fun e => absurd rfl e, fun _ => hno (fun z => c2 z.1.2)⟩)⟩⟩
    have hG : 1 ≤ s1 0 6 := by omega
    refine M_fill (by omega) hI1 c2 hw (fun s hks hm => ?_)
    have hs := hh s hks
    unfold trA at hs
    rw [cif_pos (show isMan s1 0 load ∧ 2 ≤ s1 22 1 from ⟨⟨by omega, c2⟩, by omega⟩)] at hs
    have hIs := hI1.keep hks
    have key : ∀ i sum : Int, 0 ≤ i → i ≤ s1 22 1 → sum = sm (trF s1 load wet) i.toNat → LX12_tried_43 d kN Q 166 sum i s := by
      refine up_to (e := s1 22 1) ?_
      intro i ih sum i0 i1 hsum
      have hss := sm_s (f := trF s1 load wet) i0
      have hbb := sm_b (f := trF s1 load wet) (B := 120) (n := i.toNat) (fun j j0 j1 => (hm _ j (bstA_b hG).1 (bstA_b hG).2 j0 (by omega)).2)
      rw [k_toNat i0] at hbb
      refine SX12_tried_43 ⟨o_166, ?_⟩
      rw [hks.1.2 41 (by unfold esf; omega), h41, ly_166_40 hIs.1]
      refine ⟨fun q2 => ?_, fun q2 => M_bestOf (by omega) hI1 hks hm hG ?_⟩
      · rw [show i = s1 22 1 by omega] at hsum
        rw [hsum]
        exact hs
      · have hb := bstA_b (σ := s1) (load := load) (wet := wet) (left := i) hG
        have hmi := hm _ i hb.1 hb.2 i0 (by omega)
        rw [hmi.1]
        refine ⟨by omega, by omega, a_188, by omega, by omega, by omega, ih (by omega) _ (by omega) (by omega) ?_⟩
        rw [hss, hsum]
        rfl
    exact key 0 0 (by omega) hsz.1 rfl
