/-! operation: dig -/
theorem grp_cong {key key' E E' : Int → Int} {n : Nat} {k : Int} (h1 : ∀ g : Int, 0 ≤ g → g < n → key g = key' g) (h2 : ∀ g : Int, 0 ≤ g → g < n → E g = E' g) : grp key E n k = grp key' E' n k := sm_cong (fun g g0 g1 => by rw [h1 g g0 g1, h2 g g0 g1])
theorem prtM_cong {key key' E E' : Int → Int} {n : Nat} (h1 : ∀ g : Int, 0 ≤ g → g < n → key g = key' g) (h2 : ∀ g : Int, 0 ≤ g → g < n → E g = E' g) : prtM key E n = prtM key' E' n := sm_cong (fun k _ _ => by rw [grp_cong h1 h2])
theorem X_goesP {d : Nat} (hd : 7 ≤ d) {σ : kS} {g load wet a b : Int} {Q : Int → kS → Prop} (hI : Inv σ) (hw : wet = 0 ∨ wet = 1) (hy : isWy σ g load a b) (h1 : ∀ s, Went σ s (tolN σ g load wet) a b → (∀ k, 57 ≤ k → k ≤ 60 → s k = σ k) → Q 1 s) : Ci d MX11_goes [(2, 0), (2, 1), (0, g), (0, load), (0, wet), (0, a), (0, b)] kN σ Q := by
  obtain ⟨d, rfl⟩ : ∃ e, d = e + 1 := ⟨d - 1, by omega⟩
  have hg6 := hI.2.2.2.2.2.2.1.1
  unfold isWy isMan isCel at hy
  refine EX11_goes fun _ _ _ _ _ _ => SX11_goes_0 ⟨o_0, X_isManner (by omega) (fun c1 => ⟨fun e => by omega, fun _ => X_isCell (by omega) (fun c2 => ⟨fun e => by omega, fun _ => X_isCell (by omega) (fun c3 => ⟨fun _ => ?_, fun e => by omega⟩) (fun c3 => absurd hy.2.2 c3)⟩) (fun c2 => absurd hy.2.1 c2)⟩) (fun c1 => absurd hy.1 c1)⟩
  have k17 := kl_17
  have hgo := goer_at hI.1 (i := g) (by omega)
  rw [ly_0_5 hI.1, ly_0_14 hI.1, hgo.1]
  refine ⟨a_17, by omega, o_26, Ways_fit (by omega) hI.1 hI.2.1.1 hI.2.1.2.2 c1.1 hI.2.2.2.2.2.2.1.1.2 (hI.2.2.2.2.2.2.1.gf c1.1) hw c1.2 o_1 (hI.2.2.1.eq.2.cong hI.2.2.1.eq.1) (fun s hs => ?_)⟩
  have hk := hs.keep hI c1.1
  have hT : TEq (s 28) (tolN σ g load wet) := TEq.trans' hs.2.2.2.2 (tolT_land hI.2.2.1.eq.1)
  have hIs := hI.keep hk
  rw [ly_0_14 hIs.1]
  refine ⟨o_26, X_layT (by omega) hIs c2 c3 tolH_ok hT (fun s1 hs1 ho1 => h1 s1 ⟨hk.trans hs1.1, hs1.2⟩ (fun k k0 k1 => ?_))⟩
  rw [ho1 k (by simp only [List.mem_cons, List.not_mem_nil, or_false]; omega), hs.1 k (by simp only [List.mem_cons, List.not_mem_nil, or_false]; omega)]
theorem X_evidenceP {d : Nat} (hd : 9 ≤ d) {σ : kS} {g a b : Int} {Q : Int → kS → Prop} (hI : Inv σ) (hg : 0 ≤ g ∧ g < σ 0 6) (ht : twoT σ a b) (h : ∀ s, Keep σ s → rowL s 36 = wayW σ g a b → RowC s 36 → (∀ k, 57 ≤ k → k ≤ 60 → s k = σ k) → Q (evA σ g a b) s) : Ci d MX11_evidenceOf [(2, 0), (0, g), (0, a), (0, b)] kN σ Q := by
  obtain ⟨d, rfl⟩ : ∃ e, d = e + 1 := ⟨d - 1, by omega⟩
  have k17 := kl_17
  have hTn := hI.2.2.2.2.1
  have hg6 := hI.2.2.2.2.2.2.1.1
  have t1 := town_cell hI ht.1
  have t2 := town_cell hI ht.2.1
  have hy : isWy σ g 0 (σ 20 a) (σ 20 b) := ⟨⟨hg, by omega⟩, t1.2.2.1, t2.2.2.1⟩
  refine EX11_evidenceOf fun _ _ _ _ => SX11_evidenceOf_0 ⟨o_0, ?_⟩
  rw [ly_0_9 hI.1]
  refine ⟨o_19, Row_at (by omega) hI.1 hTn.1.1 ?_⟩
  rw [t1.1, ly_0_9 hI.1]
  refine ⟨o_19, Row_at (by omega) hI.1 hTn.1.1 ?_⟩
  rw [t2.1, ly_0_0 hI.1]
  refine X_goesP (by omega) hI (Or.inl rfl) hy (fun s hs h57 => ?_)
  have hLs := hs.1.2.1
  have hIs := hI.keep hs.1
  have hgo := goer_at hLs (i := g) (by omega)
  have hW : rowL s 36 = wayW σ g a b := hs.2.2.2.1
  have hq := h s hs.1 hW hs.2.1.1 h57
  have hb := evA_b hI (a := a) (b := b) hg
  have e48 : s 48 = σ 48 := hs.1.1.1 48 (by unfold scr; omega)
  have e49 : s 49 = σ 49 := hs.1.1.1 49 (by unfold scr; omega)
  have e51 : s 51 = σ 51 := hs.1.1.1 51 (by unfold scr; omega)
  have e53 : s 53 = σ 53 := hs.1.1.1 53 (by unfold scr; omega)
  have eg : s (97 + 4 * g) = σ (97 + 4 * g) := hs.1.1.1 _ (by unfold scr; omega)
  rw [ly_0_5 hLs, hgo.1, ly_0_14 hLs, ly_0_16 hLs, ly_26_13 hLs, eg]
  refine ⟨a_17, by omega, hgo.2, o_26, o_47, Finds_speakFor (by omega) hLs hIs.2.2.2.2.2.2.2.2.2.1.1 hs.2.1.1 (fun hc => ?_) (fun hc => ?_)⟩
  · rw [e48, e49, e51, hW] at hc
    rw [e48, e49, e51, e53, hW]
    have e : evA σ g a b = σ (97 + 4 * g) 3 * (1 + sm (likeF (σ 49) (σ 51) (σ 53) (wayW σ g a b)) (σ 48 1).toNat) := cif_pos hc
    rw [e] at hq hb
    exact ⟨by omega, hq⟩
  · rw [e48, e49, e51, hW] at hc
    have e : evA σ g a b = 0 := cif_neg (fun z => by
      obtain ⟨i, i0, i1, i2⟩ := hc
      exact z i i0 i1 i2)
    rw [e] at hq
    rw [Int.mul_zero]
    exact ⟨by omega, hq⟩
theorem keep57 {σ s : kS} (hI : Inv σ) (ho : off [57, 58, 59, 60] σ s) (hL : Lay s) (h7 : RowOK s 57) (h9 : RowOK s 59) : Keep σ s := by
  obtain ⟨b1, ⟨b2, b3, b4, b5, b6, b7⟩, b8⟩ := hI.2.1
  have ne : ∀ k, ¬ (57 ≤ k ∧ k ≤ 60) → s k = σ k := fun k h1 => ho k (by simp only [List.mem_cons, List.not_mem_nil, or_false]; omega)
  exact ⟨Fr.offX ho (by decide), hL, ⟨by unfold Bes; rw [ne 27 (by decide)]; exact b1, ⟨b2.cong (ne 36 (by decide)), b3.cong (ne 38 (by decide)), b4.cong (ne 43 (by decide)), b5.cong (ne 45 (by decide)), h7, h9⟩, b8.cong (ne 0 (by decide)) (ne 35 (by decide)) (ne 170 (by decide)) (ne 171 (by decide)) (fun j _ _ => by rw [ne 26 (by decide)])⟩⟩
noncomputable def dgBit (σ : kS) (a b g : Int) : Int := bitsF (fun p => σ 56 p ∈ wayW σ g a b) (σ 55 1).toNat
noncomputable def ptF (σ : kS) (a b set : Int) : Int := prtM (fun g => kand (dgBit σ a b g) set) (fun g => evA σ g a b) (σ 0 6).toNat
noncomputable def digA (σ : kS) (a b many : Int) : Int := cif (twoT σ a b ∧ 0 ≤ many ∧ many ≤ 6) (dgB (ptF σ a b) many (kishl 1 (σ 55 1) - 1).toNat).1 (-1)
theorem digA_fr {σ s : kS} (hI : Inv σ) (h : Fr σ s) {a b many : Int} : digA s a b many = digA σ a b many := by
  have hg6 := hI.2.2.2.2.2.2.1.1
  have e : ptF s a b = ptF σ a b := by
    funext set
    unfold ptF
    rw [h.e0]
    refine prtM_cong (fun g g0 g1 => ?_) (fun g g0 g1 => evA_fr h (by omega))
    unfold dgBit
    rw [wayW_fr h, h.1 56 (by unfold scr; omega), h.1 55 (by unfold scr; omega)]
  unfold digA
  rw [twoT_fr h, e, h.1 55 (by unfold scr; omega)]
theorem pits_6 {σ : kS} (hI : Inv σ) : 0 ≤ σ 55 1 ∧ σ 55 1 ≤ 6 := by
  have h := hI.2.2.2.2.2.2.2.2.2.2.2.1.1.1.2
  have k56 : klen (55 + 1) = 6 := kl_56
  omega
theorem X_dig {d : Nat} (hd : 12 ≤ d) {σ : kS} {a b many : Int} {Q : Int → kS → Prop} (hI : Inv σ) (h : ∀ s, Keep σ s → Q (digA σ a b many) s) : Ci d MX11_dig [(2, 0), (0, a), (0, b), (0, many)] kN σ Q := by
  obtain ⟨d, rfl⟩ : ∃ e, d = e + 1 := ⟨d - 1, by omega⟩
  have hg6 := hI.2.2.2.2.2.2.1.1
  have hp6 := pits_6 hI
  have hno : ¬ (twoT σ a b ∧ 0 ≤ many ∧ many ≤ 6) → Q (-1) σ := fun z => by
    have hs := h σ hI.self
    unfold digA at hs
    rw [cif_neg z] at hs
    exact hs
  refine EX11_dig fun _ _ _ _ => SX11_dig_0 ⟨o_0, X_areTwoTowns (by omega) hI.1 (fun c1 => ⟨fun e => by omega, fun _ => ⟨fun q => hno (fun z => by omega), fun q => ⟨fun q2 => ?_, fun q2 => hno (fun z => by omega)⟩⟩⟩) (fun c1 => ⟨fun _ => hno (fun z => c1 z.1), fun e => absurd rfl e⟩)⟩
  rw [ly_0_17 hI.1]
  have hB : ∀ g : Int, 0 ≤ g → g < σ 0 6 → 0 ≤ dgBit σ a b g ∧ dgBit σ a b g < 64 := fun g _ _ => bitsF_b _ (by omega)
  have hE : ∀ g : Int, 0 ≤ g → g < σ 0 6 → 0 ≤ evA σ g a b ∧ evA σ g a b ≤ 2439 := fun g g0 g1 => evA_b hI ⟨g0, g1⟩
  have key : ∀ g : Int, ∀ u : kS, 0 ≤ g → g ≤ σ 0 6 → Keep σ u → PW u (dgBit σ a b) (fun g => evA σ g a b) g → LX11_dig_31 d kN Q 0 a b many g u := by
    refine up_to (e := σ 0 6) ?_
    intro g ih u g0 g1 hku hpw
    have hIu := hI.keep hku
    refine SX11_dig_31 ⟨o_0, ?_⟩
    rw [hku.1.e0, ly_0_17 hI.1]
    refine ⟨fun q' => ⟨o_54, Pits_bestSet (by omega) hIu.1 hpw (by omega) (fun f f0 f1 => hB f f0 (by omega)) (fun f f0 f1 => hE f f0 (by omega)) (by rw [hku.1.1 55 (by unfold scr; omega)]; exact hp6) ?_⟩, fun q' => X_evidenceP (by omega) hIu (by rw [hku.1.e0]; omega) (by rw [twoT_fr hku.1]; exact c1) (fun s hks hrow hrc h57 => ?_)⟩
    · have hs := h u hku
      unfold digA at hs
      rw [cif_pos (show twoT σ a b ∧ 0 ≤ many ∧ many ≤ 6 from ⟨c1, by omega, q2⟩)] at hs
      rw [hku.1.1 55 (by unfold scr; omega), show g = σ 0 6 by omega]
      exact hs
    · have hLs := hks.2.1
      have hIs := hIu.keep hks
      have hF := hku.1.trans hks.1
      rw [evA_fr hku.1 (by omega)]
      rw [wayW_fr hku.1] at hrow
      rw [ly_0_14 hLs, ly_26_13 hLs]
      have hps : PW s (dgBit σ a b) (fun g => evA σ g a b) g := by
        obtain ⟨⟨p1, p2, p3⟩, p4, p5, p6⟩ := hpw
        have e7 := h57 57 (by decide) (by decide)
        have e8 := h57 58 (by decide) (by decide)
        have e9 := h57 59 (by decide) (by decide)
        have e10 := h57 60 (by decide) (by decide)
        exact ⟨⟨p1.cong e7, by rw [e7]; exact p2, fun f f0 f1 => by rw [e8]; exact p3 f f0 f1⟩, p4.cong e9, by rw [e9]; exact p5, fun f f0 f1 => by rw [e10]; exact p6 f f0 f1⟩
      refine ⟨o_26, o_54, Pits_addWorld (by omega) hLs hps (by omega) hIs.2.2.2.2.2.2.2.2.2.2.2.1.1 hrc ?_ rfl (fun u2 ho2 hL2 hp2 => ⟨by omega, ih (by omega) u2 (by omega) (by omega) ((hku.trans hks).trans (keep57 hIs ho2 hL2 hp2.1.1 hp2.2.1)) hp2⟩)⟩
      rw [hrow, hF.1 56 (by unfold scr; omega), hF.1 55 (by unfold scr; omega)]
      rfl
  exact ⟨o_54, Pits_forget (by omega) hI.1 hI.2.1.2.1.2.2.2.2.1 hI.2.1.2.1.2.2.2.2.2 (fun u ho hLu hpw => key 0 u (by omega) hg6.1 (keep57 hI (ho.mono (by simp)) hLu hpw.1.1 hpw.2.1) hpw)⟩
/-! the model's side -/
theorem M_partedBy {d : Nat} (hd : 1 ≤ d) {s : kS} {B E : Int → Int} {n set : Int} {Q : Int → kS → Prop} (hL : Lay s) (h14 : s 166 14 = n) (hn : 0 ≤ n ∧ n ≤ 6) (hB : ∀ g : Int, 0 ≤ g → g < n → s 195 g = B g ∧ 0 ≤ B g ∧ B g < 64) (hE : ∀ g : Int, 0 ≤ g → g < n → s 192 g = E g ∧ 0 ≤ E g ∧ E g ≤ 2439) (hset : 0 ≤ set ∧ set < 64) (h : ∀ u, off [193] s u → Lay u → Q (prtM (fun g => kand (B g) set) E n.toNat) u) : Ci d MX12_partedBy [(2, 166), (0, set)] kN s Q := by
  obtain ⟨d, rfl⟩ : ∃ e, d = e + 1 := ⟨d - 1, by omega⟩
  have k192 := kl_192
  have k193 := kl_193
  have k195 := kl_195
  have hE' : ∀ g : Int, 0 ≤ g → g < (n.toNat : Int) → 0 ≤ E g ∧ E g ≤ 2439 := fun g g0 g1 => (hE g g0 (by omega)).2
  have hk : ∀ g : Int, 0 ≤ g → g < (n.toNat : Int) → 0 ≤ kand (B g) set ∧ kand (B g) set < 64 := fun g g0 g1 => kand_b (hB g g0 (by omega)).2 hset
  have hmul : 2439 * (n.toNat : Int) * (2439 * (n.toNat : Int)) * (n.toNat : Int) ≤ 1284925896 ∧ 2439 * (n.toNat : Int) * (2439 * (n.toNat : Int)) ≤ 214154316 := by
    have e : ((n.toNat : Nat) : Int) = n := by omega
    rw [e]
    rcases (show n = 0 ∨ n = 1 ∨ n = 2 ∨ n = 3 ∨ n = 4 ∨ n = 5 ∨ n = 6 by omega) with rfl | rfl | rfl | rfl | rfl | rfl | rfl <;> omega
  have key63 : ∀ u : kS, off [193] s u → Lay u → (∀ k, 0 ≤ k → k < 64 → u 193 k = grp (fun g => kand (B g) set) E n.toNat k) → ∀ k sum : Int, 0 ≤ k → k ≤ 64 → sum = sm (fun k => grp (fun g => kand (B g) set) E n.toNat k * grp (fun g => kand (B g) set) E n.toNat k) k.toNat → LX12_partedBy_63 d kN Q 166 sum k u := by
    intro u ho hLu hu
    refine up_to (e := 64) ?_
    intro k ih sum k0 k1 hs
    refine SX12_partedBy_63 ⟨fun q => ?_, fun q => ⟨o_166, ?_⟩⟩
    · rw [hs, show k = 64 by omega]
      exact h u ho hLu
    · have hss := sm_s (f := fun k => grp (fun g => kand (B g) set) E n.toNat k * grp (fun g => kand (B g) set) E n.toNat k) k0
      have hg := sq_b (grp_b (key := fun g => kand (B g) set) (k := k) hE')
      have hnn : ∀ i : Int, 0 ≤ i → i < ((64 : Nat) : Int) → 0 ≤ grp (fun g => kand (B g) set) E n.toNat i * grp (fun g => kand (B g) set) E n.toNat i := fun i _ _ => (sq_b (grp_b (key := fun g => kand (B g) set) (k := i) hE')).1
      have m1 := sm_mono (f := fun k => grp (fun g => kand (B g) set) E n.toNat k * grp (fun g => kand (B g) set) E n.toNat k) (m := (k + 1).toNat) 64 (by omega) hnn
      have m2 := sm_mono (f := fun k => grp (fun g => kand (B g) set) E n.toNat k * grp (fun g => kand (B g) set) E n.toNat k) (m := 0) k.toNat (by omega) (fun i i0 i1 => hnn i i0 (by omega))
      have m3 := prt_eq (E := E) hk
      have m4 := prtC_b (key := fun g => kand (B g) set) (m := n.toNat) hE'
      rw [m3] at m4
      unfold prtM at m4
      rw [hss] at m1
      have m0 : sm (fun k => grp (fun g => kand (B g) set) E n.toNat k * grp (fun g => kand (B g) set) E n.toNat k) 0 = 0 := rfl
      rw [← hs] at m1 m2
      rw [ly_166_46 hLu, hu k k0 (by omega)]
      exact ⟨a_193, by omega, by omega, by omega, by omega, ih (by omega) _ (by omega) (by omega) (by rw [hss, hs])⟩
  have key23 : ∀ g : Int, ∀ u : kS, 0 ≤ g → g ≤ n → off [193] s u → Lay u → (∀ k, 0 ≤ k → k < 64 → u 193 k = grp (fun g => kand (B g) set) E g.toNat k) → LX12_partedBy_23 d kN Q 166 set g u := by
    refine up_to (e := n) ?_
    intro g ih u g0 g1 ho hLu hu
    refine SX12_partedBy_23 ⟨o_166, ?_⟩
    rw [ho 166 (by decide), h14, ← ho 166 (by decide)]
    refine ⟨fun q => key63 u ho hLu (fun k k0 k1 => by rw [hu k k0 k1, show g = n by omega]) 0 0 (by omega) (by omega) rfl, fun q => ?_⟩
    have hBg := hB g g0 (by omega)
    have hEg := hE g g0 (by omega)
    have hkb := kand_b hBg.2 hset
    have hgb := grp_b (key := fun g => kand (B g) set) (E := E) (n := g.toNat) (k := kand (B g) set) (B := 2439) (fun f f0 f1 => (hE f f0 (by omega)).2)
    rw [ly_166_48 hLu, ly_166_46 hLu, ly_166_45 hLu, ho 195 (by decide), ho 192 (by decide), hBg.1, hEg.1, hu _ hkb.1 hkb.2]
    refine ⟨a_195, by omega, a_193, by omega, a_192, by omega, by omega, fun v ev => ⟨by omega, ih (by omega) v (by omega) (by omega) (by rw [ev]; exact ho.kst (by decide)) (by rw [ev]; exact hLu.kstA a_193) (fun k k0 k1 => ?_)⟩⟩
    have hss := sm_s (f := fun f => if kand (B f) set = k then E f else 0) g0
    unfold grp
    rw [hss, ev, kst_ap]
    by_cases e : k = kand (B g) set
    · rw [if_pos ⟨rfl, e⟩, e, if_pos rfl]
      rfl
    · rw [if_neg (fun z => e z.2), hu k k0 k1, if_neg (fun z => e z.symm), Int.add_zero]
      rfl
  have key2 : ∀ k : Int, ∀ u : kS, 0 ≤ k → k ≤ 64 → off [193] s u → Lay u → (∀ i, 0 ≤ i → i < k → u 193 i = 0) → LX12_partedBy_2 d kN Q 166 set k u := by
    refine up_to (e := 64) ?_
    intro k ih u k0 k1 ho hLu hu
    refine SX12_partedBy_2 ⟨fun q => key23 0 u (by omega) hn.1 ho hLu (fun i i0 i1 => hu i i0 (by omega)), fun q => ⟨o_166, ?_⟩⟩
    rw [ly_166_46 hLu]
    refine ⟨a_193, by omega, fun v ev => ⟨by omega, ih (by omega) v (by omega) (by omega) (by rw [ev]; exact ho.kst (by decide)) (by rw [ev]; exact hLu.kstA a_193) (fun i i0 i1 => ?_)⟩⟩
    rw [ev, kst_ap]
    by_cases e : i = k
    · rw [if_pos ⟨rfl, e⟩]
    · rw [if_neg (fun z => e z.2)]
      exact hu i i0 (by omega)
  exact EX12_partedBy fun _ _ => SX12_partedBy_0 (key2 0 s (by omega) (by omega) off.rfl' hL (fun i i0 i1 => by omega))
theorem M_isBefore {d : Nat} (hd : 2 ≤ d) {s : kS} {a b : Int} {Q : Int → kS → Prop} (ha : 0 ≤ a ∧ a < 64) (hb : 0 ≤ b ∧ b < 64) (h1 : aheadF a b → Q 1 s) (h0 : ¬ aheadF a b → Q 0 s) : Ci d MX12_isBefore [(0, a), (0, b)] kN s Q := by
  obtain ⟨d, rfl⟩ : ∃ e, d = e + 1 := ⟨d - 1, by omega⟩
  have b1 := (bc_all ha).2
  have b2 := (bc_all hb).2
  have hx := kxor_b ha hb
  unfold aheadF at h1 h0
  exact EX12_isBefore fun _ _ _ => SX12_isBefore_0 (J_bitCount (by omega) ha (J_bitCount (by omega) hb ⟨fun q => ⟨hx, fun q3 => h0 (fun z => z.elim (fun y => by omega) (fun y => y.2 q3)), fun q3 => h1 (Or.inr ⟨q, q3⟩)⟩, fun q => ⟨fun q2 => h0 (fun z => z.elim (fun y => by omega) (fun y => q y.1)), fun q2 => h1 (Or.inl (by omega))⟩⟩))
theorem M_dig {d : Nat} (hd : 48 ≤ d) {σ : kS} {a b many : Int} {Q : Int → kS → Prop} (hI0 : Inv σ) (h0 : ∀ s, Keep σ s → Q (digA σ a b many) s) : Ci d MX12_dig [(2, 166), (0, a), (0, b), (0, many)] kN σ Q := by
  obtain ⟨d, rfl⟩ : ∃ e, d = e + 1 := ⟨d - 1, by omega⟩
  have k194 := kl_194
  have k195 := kl_195
  refine EX12_dig fun _ _ _ _ => SX12_dig_0 ⟨o_166, fun s1 e1 => ?_⟩
  have hk1 : Keep σ s1 := by rw [e1]; exact hI0.thrown
  have hI := hI0.keep hk1
  have h : ∀ u, Keep s1 u → Q (digA s1 a b many) u := fun u hu => by
    rw [digA_fr hI0 hk1.1]
    exact h0 u (hk1.trans hu)
  have h14 := hI.2.2.2.2.2.2.1.2.1
  have hg6 := hI.2.2.2.2.2.2.1.1
  have hp6 := pits_6 hI
  have hP := hI.2.2.2.2.2.2.2.2.2.2.2.1
  have hno : ¬ (twoT s1 a b ∧ 0 ≤ many ∧ many ≤ 6) → Q (-1) s1 := fun z => by
    have hs := h s1 hI.self
    unfold digA at hs
    rw [cif_neg z] at hs
    exact hs
  refine M_areTowns (by omega) hI.2.2.2.2.1 (fun c1 => ⟨fun e => by omega, fun _ => M_isIn (by omega) (fun c2 => ⟨fun _ => M_layWorlds (by omega) hI c1 (fun s hks hw => ?_), fun e => by omega⟩) (fun c2 => ⟨fun e => absurd rfl e, fun _ => hno (fun z => c2 z.2)⟩)⟩) (fun c1 => ⟨fun _ => hno (fun z => c1 z.1), fun e => absurd rfl e⟩)
  have hIs := hI.keep hks
  have hBb : ∀ g, 0 ≤ dgBit s1 a b g ∧ dgBit s1 a b g < 64 := fun g => bitsF_b _ (by omega)
  have hE : ∀ g : Int, 0 ≤ g → g < s1 0 6 → 0 ≤ evA s1 g a b ∧ evA s1 g a b ≤ 2439 := fun g g0 g1 => evA_b hI ⟨g0, g1⟩
  have s14 : s 166 14 = s1 0 6 := by rw [hks.1.2 14 (by unfold esf; omega)]; exact h14
  have s49 : s 166 49 = s1 55 1 := by rw [hks.1.2 49 (by unfold esf; omega)]; exact hP.2.1
  have kp : ∀ u : kS, off [193, 195] s u → Lay u → Keep s1 u := fun u ho hLu => hks.trans (M_keep hIs ho hLu (by decide) (fun j _ => by rw [ho 166 (by decide)]))
  have key123 : ∀ c best least : Int, ∀ u : kS, 1 ≤ c → c ≤ kishl 1 (s1 55 1) → off [193, 195] s u → Lay u → (∀ g : Int, 0 ≤ g → g < s1 0 6 → u 195 g = dgBit s1 a b g) → (best, least) = dgB (ptF s1 a b) many (c - 1).toNat → LX12_dig_123 d kN Q 166 many best least c u := by
    have hpw := pow_b hp6
    refine up_to (e := kishl 1 (s1 55 1)) ?_
    intro c ih best least u a1 a2 ho hLu hu hbl
    have hb1 : best = (dgB (ptF s1 a b) many (c - 1).toNat).1 := congrArg Prod.fst hbl
    have hb2 : least = (dgB (ptF s1 a b) many (c - 1).toNat).2 := congrArg Prod.snd hbl
    have hbb := dgB_b (pt := ptF s1 a b) (many := many) (c - 1).toNat
    rw [← hb1] at hbb
    have hst := dgB_s (pt := ptF s1 a b) (many := many) a1
    rw [← hb1, ← hb2, ← hbl] at hst
    have u166 : u 166 = s 166 := ho 166 (by decide)
    refine SX12_dig_123 ⟨o_166, ?_⟩
    rw [u166, s49]
    refine ⟨fun q => ?_, fun q => J_bitCount (by omega) (by omega) ⟨fun q2 => M_partedBy (by omega) hLu (by rw [u166]; exact s14) hg6 (fun g g0 g1 => ⟨hu g g0 g1, hBb g⟩) (fun g g0 g1 => ⟨by rw [ho 192 (by decide)]; exact (hw g g0 g1).2.2.2, hE g g0 g1⟩) (by omega) (fun v hov hLv => ?_), fun q2 => ⟨by omega, ih (by omega) _ _ u (by omega) (by omega) ho hLu hu ?_⟩⟩⟩
    · have hs := h u (kp u ho hLu)
      unfold digA at hs
      rw [cif_pos (show twoT s1 a b ∧ 0 ≤ many ∧ many ≤ 6 from ⟨c1, c2⟩)] at hs
      rw [hb1, show c - 1 = kishl 1 (s1 55 1) - 1 by omega]
      exact hs
    · have ho' : off [193, 195] s v := ho.trans (hov.mono (by simp))
      have hv : ∀ g : Int, 0 ≤ g → g < s1 0 6 → v 195 g = dgBit s1 a b g := fun g g0 g1 => by
        rw [hov 195 (by decide)]
        exact hu g g0 g1
      refine ⟨fun q3 => ⟨by omega, ih (by omega) _ _ v (by omega) (by omega) ho' hLv hv ?_⟩, fun q3 => ⟨fun q4 => ⟨by omega, ih (by omega) _ _ v (by omega) (by omega) ho' hLv hv ?_⟩, fun q4 => M_isBefore (by omega) (by omega) (by omega) (fun c => ⟨fun _ => ⟨by omega, ih (by omega) _ _ v (by omega) (by omega) ho' hLv hv ?_⟩, fun e => by omega⟩) (fun c => ⟨fun e => absurd rfl e, fun _ => ⟨by omega, ih (by omega) _ _ v (by omega) (by omega) ho' hLv hv ?_⟩⟩)⟩⟩
      · rw [Int.add_sub_cancel, hst, if_neg (fun z => by
          have hz : ptF s1 a b c < least ∨ (ptF s1 a b c = least ∧ _) := z.2
          have h3 : least < ptF s1 a b c := q3
          rcases hz with hz | hz <;> omega)]
      · rw [Int.add_sub_cancel, hst, if_pos ⟨q2, Or.inl (by
          have h3 : ¬ least < ptF s1 a b c := q3
          have h4 : ¬ ptF s1 a b c = least := q4
          omega)⟩]
        rfl
      · rw [Int.add_sub_cancel, hst, if_pos ⟨q2, Or.inr ⟨Classical.not_not.mp q4, c⟩⟩]
        rfl
      · rw [Int.add_sub_cancel, hst, if_neg (fun z => z.2.elim (fun y => by
          have h4 : ¬ ¬ ptF s1 a b _ = least := q4
          omega) (fun y => c y.2))]
    · rw [Int.add_sub_cancel, hst, if_neg (fun z => q2 z.1)]
  have key35 : ∀ g : Int, ∀ u : kS, 0 ≤ g → g ≤ s1 0 6 → off [195] s u → Lay u → (∀ f, 0 ≤ f → f < g → u 195 f = dgBit s1 a b f) → LX12_dig_35 d kN Q 166 many g u := by
    refine up_to (e := s1 0 6) ?_
    intro g ih u g0 g1 ho hLu hu
    have u166 : u 166 = s 166 := ho 166 (by decide)
    refine SX12_dig_35 ⟨o_166, ?_⟩
    rw [u166, s14, ← u166]
    refine ⟨fun q => M_partedBy (by omega) hLu (by rw [u166]; exact s14) hg6 (fun f f0 f1 => ⟨hu f f0 (by omega), hBb f⟩) (fun f f0 f1 => ⟨by rw [ho 192 (by decide)]; exact (hw f f0 f1).2.2.2, hE f f0 f1⟩) (by omega) (fun v hov hLv => key123 1 0 _ v (by omega) (pow_b hp6).1 ((ho.mono (by simp)).trans (hov.mono (by simp))) hLv (fun f f0 f1 => by rw [hov 195 (by decide)]; exact hu f f0 (by omega)) rfl), fun q => ?_⟩
    rw [ly_166_48 hLu]
    refine ⟨a_195, by omega, fun v0 e0 => ?_⟩
    have key55 : ∀ p : Int, ∀ v : kS, 0 ≤ p → p ≤ s1 55 1 → off [195] s v → Lay v → (∀ f, f ≠ g → v 195 f = u 195 f) → v 195 g = bitsF (fun p => s1 56 p ∈ wayW s1 g a b) p.toNat → LX12_dig_55 d kN Q 166 many g p v := by
      refine up_to (e := s1 55 1) ?_
      intro p ihp v p0 p1 hov hLv hvf hvg
      have v166 : v 166 = s 166 := hov 166 (by decide)
      refine SX12_dig_55 ⟨o_166, ?_⟩
      rw [v166, s49, ← v166, ly_166_48 hLv, ly_166_47 hLv]
      refine ⟨fun q2 => ⟨by omega, ih (by omega) v (by omega) (by omega) hov hLv (fun f f0 f1 => ?_)⟩, fun q2 => ⟨a_195, by omega, a_194, by omega, ?_⟩⟩
      · by_cases e : f = g
        · rw [e, hvg, show p = s1 55 1 by omega]
          rfl
        · rw [hvf f e]
          exact hu f f0 (by omega)
      · have e194 : v 194 p = s1 56 p := by
          rw [hov 194 (by decide), hks.1.1 194 (by unfold scr; omega)]
          exact (hP.2.2 p p0 (by omega)).symm
        have hbs := bitsF_s (on := fun p => s1 56 p ∈ wayW s1 g a b) p0
        have hbb := bitsF_b (on := fun p => s1 56 p ∈ wayW s1 g a b) p.toNat (by omega)
        obtain ⟨m1, m2, m3, m4⟩ := hw g g0 (by omega)
        have nx : ∀ x w, w = kst v 195 g x → x = bitsF (fun p => s1 56 p ∈ wayW s1 g a b) (p + 1).toNat → (-2147483648 ≤ p + 1 ∧ p + 1 ≤ 2147483647) ∧ LX12_dig_55 d kN Q 166 many g (p + 1) w := fun x w ew ex => ⟨by omega, ihp (by omega) w (by omega) (by omega) (by rw [ew]; exact hov.kst (by decide)) (by rw [ew]; exact hLv.kstA a_195) (fun f hf => by rw [ew, kst_kj hf]; exact hvf f hf) (by rw [ew, kst_eq, ex])⟩
        rw [e194]
        refine M_isOnWay (W := wayW s1 g a b) (by omega) hLv (by omega) (by rw [hov 190 (by decide)]; exact m1) m2.1 (fun i i0 i1 => by rw [hov 191 (by decide)]; exact m3 i i0 i1) (fun hm => ⟨fun e => by omega, fun _ w ew => nx _ w ew ?_⟩) (fun hm => ⟨fun _ w ew => nx _ w ew ?_, fun e => absurd rfl e⟩)
        · rw [hbs, cif_pos hm, hvg]
        · rw [hbs, cif_neg hm, hvg, kor_0 hbb]
    exact key55 0 v0 (by omega) hp6.1 (by rw [e0]; exact ho.kst (by decide)) (by rw [e0]; exact hLu.kstA a_195) (fun f hf => by rw [e0, kst_kj hf]) (by rw [e0, kst_eq]; rfl)
  exact key35 0 s (by omega) hg6.1 off.rfl' hIs.1 (fun f f0 f1 => by omega)
theorem O_dig {a b many : Int} : Op MX11_dig MX12_dig [(0, a), (0, b), (0, many)] :=
  Op.of (fun σ => digA σ a b many) (fun σ s hI hk => digA_fr hI hk.1) (fun d σ Q hd hI h => X_dig (by omega) hI h) (fun d σ Q hd hI h => M_dig (by omega) hI h)
