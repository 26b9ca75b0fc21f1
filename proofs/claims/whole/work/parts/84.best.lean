/-! best, tried -/
theorem goer_mis {σ : kS} (hL : Lay σ) {g : Int} (h : 0 ≤ g ∧ g < 6) : σ (97 + 4 * g) 4 = 100 + 4 * g ∧ isA 20 kN (100 + 4 * g) ∧ klen (100 + 4 * g) = 6 := by
  rcases (show g = 0 ∨ g = 1 ∨ g = 2 ∨ g = 3 ∨ g = 4 ∨ g = 5 by omega) with rfl | rfl | rfl | rfl | rfl | rfl
  · exact ⟨ly_97_4 hL, a_100, kl_100⟩
  · exact ⟨ly_101_4 hL, a_104, kl_104⟩
  · exact ⟨ly_105_4 hL, a_108, kl_108⟩
  · exact ⟨ly_109_4 hL, a_112, kl_112⟩
  · exact ⟨ly_113_4 hL, a_116, kl_116⟩
  · exact ⟨ly_117_4 hL, a_120, kl_120⟩
def fitV (M : Int → Int → Int) (n g left : Int) : Int := sm (fun i => if i = left then 0 else M g i) n.toNat
def bestR (M : Int → Int → Int) (n left : Int) : Nat → Int
  | 0 => 0
  | k + 1 => if fitV M n ((k : Int) + 1) left < fitV M n (bestR M n left k) left then (k : Int) + 1 else bestR M n left k
theorem bestR_b {M : Int → Int → Int} {n left : Int} : ∀ k : Nat, 0 ≤ bestR M n left k ∧ bestR M n left k ≤ k := by
  intro k
  induction k with
  | zero => exact ⟨Int.le_refl 0, Int.le_refl 0⟩
  | succ k ih =>
    rw [bestR]
    split <;> omega
theorem bestR_s {M : Int → Int → Int} {n left g : Int} (h : 1 ≤ g) : bestR M n left (g + 1 - 1).toNat = if fitV M n g left < fitV M n (bestR M n left (g - 1).toNat) left then g else bestR M n left (g - 1).toNat := by
  obtain ⟨k, hk⟩ : ∃ k : Nat, g = (k : Int) + 1 := ⟨(g - 1).toNat, by omega⟩
  rw [hk, show ((k : Int) + 1 + 1 - 1).toNat = k + 1 by omega, show ((k : Int) + 1 - 1).toNat = k by omega, bestR]
theorem fitV_cong {M M' : Int → Int → Int} {n g left : Int} (h : ∀ i, 0 ≤ i → i < n → M g i = M' g i) : fitV M n g left = fitV M' n g left :=
  sm_cong (fun i i0 i1 => by rw [h i i0 (by omega)])
theorem fitV_b {M : Int → Int → Int} {n g left : Int} (hn : 0 ≤ n ∧ n ≤ 6) (h : ∀ i, 0 ≤ i → i < n → 0 ≤ M g i ∧ M g i ≤ 120) : 0 ≤ fitV M n g left ∧ fitV M n g left ≤ 720 := by
  have := sm_b (f := fun i => if i = left then 0 else M g i) (B := 120) (n := n.toNat) (fun i i0 i1 => by
    have := h i i0 (by omega)
    split <;> omega)
  unfold fitV
  omega
noncomputable def missM (σ : kS) (load wet g i : Int) : Int := missA σ (tolN σ g load wet) i
theorem missM_fr {σ s : kS} (hI : Inv σ) (h : Fr σ s) {load wet g i : Int} (hi : 0 ≤ i ∧ i < σ 22 1) : missM s load wet g i = missM σ load wet g i := by
  unfold missM
  rw [tolN_fr h, missA_fr hI h hi]
/-- the class's scratch array -/
theorem Keep.mis {σ s : kS} {g j v : Int} (h : Keep σ s) (hg : 0 ≤ g ∧ g < 6) : Keep σ (kst s (100 + 4 * g) j v) := by
  have hga := goer_mis h.2.1 hg
  refine ⟨h.1.trans ⟨fun k hk => kst_k (fun e => hk (by rw [e]; unfold scr; omega)), fun j _ => by rw [kst_k (by omega)]⟩, h.2.1.kstA hga.2.1, h.2.2.upd (by rw [kst_k (by omega)]) (fun k hk => kst_k (by omega)) (kst_k (by omega))⟩
def MisX (σ s : kS) (load wet : Int) (G : Int) : Prop := ∀ g i, 0 ≤ g → g < G → 0 ≤ i → i < σ 22 1 → s (100 + 4 * g) i = missM σ load wet g i ∧ 0 ≤ missM σ load wet g i ∧ missM σ load wet g i ≤ 120
def MisM (σ s : kS) (load wet : Int) (G : Int) : Prop := ∀ g i, 0 ≤ g → g < G → 0 ≤ i → i < σ 22 1 → s 188 (6 * g + i) = missM σ load wet g i ∧ 0 ≤ missM σ load wet g i ∧ missM σ load wet g i ≤ 120
theorem X_fill {d : Nat} (hd : 8 ≤ d) {σ : kS} {load wet : Int} {Q : kS → Prop} (hI : Inv σ) (hl : 0 ≤ load ∧ load ≤ 99) (hw : wet = 0 ∨ wet = 1) (h : ∀ s, Keep σ s → MisX σ s load wet (σ 0 6) → Q s) : Cv d MX11_fillMisses [(2, 0), (0, load), (0, wet)] kN σ Q := by
  obtain ⟨d, rfl⟩ : ∃ e, d = e + 1 := ⟨d - 1, by omega⟩
  have k17 := kl_17
  have hg6 := hI.2.2.2.2.2.2.1.1
  have hK := hI.2.2.2.2.2.2.2.2.2.2.1
  have k23 : klen (22 + 1) = 6 := kl_23
  have hsz := hK.1.2
  have key2 : ∀ g : Int, ∀ s : kS, 0 ≤ g → g ≤ σ 0 6 → Keep σ s → MisX σ s load wet g → LX11_fillMisses_2 d kN Q 0 load wet g s := by
    refine up_to (e := σ 0 6) ?_
    intro g ih s g0 g1 hks hm
    have hIs := hI.keep hks
    refine SX11_fillMisses_2 ⟨o_0, ?_⟩
    rw [hks.1.e0]
    refine ⟨fun q => ?_, fun q => ?_⟩
    · rw [show g = σ 0 6 by omega] at hm
      exact h s hks hm
    · have hgo := goer_at hIs.1 (i := g) (by omega)
      rw [← hks.1.e0, ly_0_5 hIs.1, ly_0_14 hIs.1, hgo.1, ly_0_0 hIs.1]
      refine ⟨a_17, by omega, o_26, X_fitK (by omega) hIs ⟨by rw [hks.1.e0]; omega, hl⟩ hw (fun s1 hk1 hT1 hmis1 => ?_)⟩
      have hT1 : TEq (s1 28) (tolN σ g load wet) := by rw [← tolN_fr hks.1]; exact hT1
      have key32 : ∀ i : Int, ∀ u : kS, 0 ≤ i → i ≤ σ 22 1 → Keep σ u → TEq (u 28) (tolN σ g load wet) → MisX σ u load wet g → (∀ j, 0 ≤ j → j < i → u (100 + 4 * g) j = missM σ load wet g j ∧ 0 ≤ missM σ load wet g j ∧ missM σ load wet g j ≤ 120) → LX11_fillMisses_32 d kN Q 0 load wet g i u := by
        refine up_to (e := σ 22 1) ?_
        intro i ihi u i0 i1 hku hTu hmu hcur
        have hIu := hI.keep hku
        have e22 : u 22 = σ 22 := hku.1.1 22 (by unfold scr; omega)
        have hgu := goer_at hIu.1 (i := g) (by omega)
        have hgm := goer_mis hIu.1 (g := g) (by omega)
        refine SX11_fillMisses_32 ⟨o_0, ?_⟩
        rw [ly_0_12 hIu.1, e22, ly_0_5 hIu.1, hgu.1, hgm.1]
        refine ⟨o_22, fun q2 => ⟨by omega, ih (by omega) u (by omega) (by omega) hku (fun f j f0 f1 j0 j1 => ?_)⟩, fun q2 => ⟨a_17, by omega, hgu.2, X_missOf (by omega) hIu tolH_ok hTu (by rw [e22]; omega) (fun u2 hk2 ho2 hb2 => ⟨hgm.2.1, by omega, fun u3 e3 => ⟨by omega, ihi (by omega) u3 (by omega) (by omega) ?_ ?_ ?_ ?_⟩⟩)⟩⟩
        · by_cases ef : f = g
          · rw [ef]
            exact hcur j j0 (by omega)
          · exact hmu f j f0 (by omega) j0 j1
        · rw [e3]
          exact (hku.trans hk2).mis (by omega)
        · rw [e3, kst_k (by omega), ho2 28 (by decide)]
          exact hTu
        · intro f j f0 f1 j0 j1
          rw [e3, kst_k (by omega), ho2 _ (by simp only [List.mem_cons, List.not_mem_nil, or_false]; omega)]
          exact hmu f j f0 f1 j0 j1
        · intro j j0 j1
          have hmf : missA u (tolN σ g load wet) i = missM σ load wet g i := missA_fr hI hku.1 (by omega)
          rw [e3, kst_ap]
          by_cases ej : j = i
          · rw [if_pos ⟨rfl, ej⟩, ej]
            have hb2 : 0 ≤ missA u (tolN σ g load wet) i ∧ missA u (tolN σ g load wet) i ≤ 120 := hb2
            rw [hmf] at hb2
            exact ⟨hmf, hb2⟩
          · rw [if_neg (fun z => ej z.2), ho2 _ (by simp only [List.mem_cons, List.not_mem_nil, or_false]; omega)]
            exact hcur j j0 (by omega)
      refine key32 0 s1 (by omega) hsz.1 (hks.trans hk1) hT1 (fun f j f0 f1 j0 j1 => ?_) (fun j j0 j1 => by omega)
      rw [hmis1 (100 + 4 * f) (by omega) (by omega) (by omega)]
      exact hm f j f0 f1 j0 j1
  exact EX11_fillMisses fun _ _ _ => SX11_fillMisses_0 (key2 0 σ (by omega) hg6.1 hI.self (fun g i g0 g1 => by omega))
theorem M_fill {d : Nat} (hd : 40 ≤ d) {σ : kS} {load wet : Int} {Q : kS → Prop} (hI : Inv σ) (hl : 0 ≤ load ∧ load ≤ 99) (hw : wet = 0 ∨ wet = 1) (h : ∀ s, Keep σ s → MisM σ s load wet (σ 0 6) → Q s) : Cv d MX12_layMisses [(2, 166), (0, load), (0, wet)] kN σ Q := by
  obtain ⟨d, rfl⟩ : ∃ e, d = e + 1 := ⟨d - 1, by omega⟩
  have k188 := kl_188
  have hG := hI.2.2.2.2.2.2.1
  have hg6 := hG.1
  have h14 := hG.2.1
  have hK := hI.2.2.2.2.2.2.2.2.2.2.1
  have h41 := hK.2.1
  have k23 : klen (22 + 1) = 6 := kl_23
  have hsz := hK.1.2
  have key2 : ∀ g : Int, ∀ s : kS, 0 ≤ g → g ≤ σ 0 6 → Keep σ s → MisM σ s load wet g → LX12_layMisses_2 d kN Q 166 load wet g s := by
    refine up_to (e := σ 0 6) ?_
    intro g ih s g0 g1 hks hm
    have hIs := hI.keep hks
    refine SX12_layMisses_2 ⟨o_166, ?_⟩
    rw [hks.1.2 14 (by unfold esf; omega), h14]
    refine ⟨fun q => ?_, fun q => ?_⟩
    · rw [show g = σ 0 6 by omega] at hm
      exact h s hks hm
    · refine MI_layPains (by omega) hIs ⟨by rw [hks.1.e0]; omega, hl⟩ hw (fun s1 hk1 hT1 ho1 => ?_)
      have hT1 : TEq (s1 177) (tolN σ g load wet) := by rw [← tolN_fr hks.1]; exact hT1
      have key20 : ∀ i : Int, ∀ u : kS, 0 ≤ i → i ≤ σ 22 1 → Keep σ u → TEq (u 177) (tolN σ g load wet) → MisM σ u load wet g → (∀ j, 0 ≤ j → j < i → u 188 (6 * g + j) = missM σ load wet g j ∧ 0 ≤ missM σ load wet g j ∧ missM σ load wet g j ≤ 120) → LX12_layMisses_20 d kN Q 166 load wet g i u := by
        refine up_to (e := σ 22 1) ?_
        intro i ihi u i0 i1 hku hTu hmu hcur
        have hIu := hI.keep hku
        have e22 : u 22 = σ 22 := hku.1.1 22 (by unfold scr; omega)
        refine SX12_layMisses_20 ⟨o_166, ?_⟩
        rw [hku.1.2 41 (by unfold esf; omega), h41, ly_166_40 hIu.1]
        refine ⟨fun q2 => ⟨by omega, ih (by omega) u (by omega) (by omega) hku (fun f j f0 f1 j0 j1 => ?_)⟩, fun q2 => ⟨by omega, by omega, M_missOf (by omega) hIu tolH_ok hTu (by rw [e22]; omega) (fun u2 hk2 ho2 hb2 => ⟨a_188, by omega, fun u3 e3 => ⟨by omega, ihi (by omega) u3 (by omega) (by omega) ?_ ?_ ?_ ?_⟩⟩)⟩⟩
        · by_cases ef : f = g
          · rw [ef]
            exact hcur j j0 (by omega)
          · exact hmu f j f0 (by omega) j0 j1
        · have hI2 := hIu.keep hk2
          refine (hku.trans hk2).trans (M_keep hI2 (L := [188]) (by rw [e3]; exact off.rfl'.kst (by decide)) (by rw [e3]; exact hI2.1.kstA a_188) (by decide) (fun j _ => by rw [e3, kst_k (by decide)]))
        · rw [e3, kst_k (by decide), ho2 177 (by decide)]
          exact hTu
        · intro f j f0 f1 j0 j1
          rw [e3, kst_kj (by omega), ho2 188 (by decide)]
          exact hmu f j f0 f1 j0 j1
        · intro j j0 j1
          have hmf : missA u (tolN σ g load wet) i = missM σ load wet g i := missA_fr hI hku.1 (by omega)
          rw [e3, kst_ap]
          by_cases ej : j = i
          · rw [if_pos ⟨rfl, by omega⟩, ej]
            have hb2 : 0 ≤ missA u (tolN σ g load wet) i ∧ missA u (tolN σ g load wet) i ≤ 120 := hb2
            rw [hmf] at hb2
            exact ⟨hmf, hb2⟩
          · rw [if_neg (fun z => ej (by omega)), ho2 188 (by decide)]
            exact hcur j j0 (by omega)
      refine key20 0 s1 (by omega) hsz.1 (hks.trans hk1) hT1 (fun f j f0 f1 j0 j1 => ?_) (fun j j0 j1 => by omega)
      rw [ho1 188 (by decide)]
      exact hm f j f0 f1 j0 j1
  exact EX12_layMisses fun _ _ _ => SX12_layMisses_0 (key2 0 σ (by omega) hg6.1 hI.self (fun g i g0 g1 => by omega))
