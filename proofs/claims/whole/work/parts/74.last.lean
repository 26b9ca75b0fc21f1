/-! operation: lasting -/
theorem sm_mem : ∀ l : List Int, l.Nodup → (∀ x ∈ l, 0 ≤ x ∧ x < 120) → (l.length : Int) = sm (fun c => cif (c ∈ l) 1 0) 120 := by
  intro l
  induction l with
  | nil =>
    intro _ _
    have h2 := sm_b (f := fun c => cif (c ∈ ([] : List Int)) 1 0) (B := 0) (n := 120) (fun i _ _ => by rw [cif_neg (by simp)]; omega)
    simp only [List.length_nil]
    omega
  | cons x t ih =>
    intro hn hb
    have hn' := List.nodup_cons.mp hn
    have h1 := ih hn'.2 (fun y hy => hb y (List.mem_cons_of_mem _ hy))
    have hx := hb x (List.mem_cons_self ..)
    have h2 := sm_up (f := fun c => cif (c ∈ t) 1 0) (g := fun c => cif (c ∈ x :: t) 1 0) (c := x) (n := 120) hx.1 (by omega) (fun i i0 i1 hi => by
      by_cases c : i ∈ t
      · rw [cif_pos c, cif_pos (List.mem_cons_of_mem _ c)]
      · rw [cif_neg c, cif_neg (fun z => (List.mem_cons.mp z).elim hi c)])
    simp only [cif_neg hn'.1, cif_pos (List.mem_cons_self (a := x) (l := t))] at h2
    rw [List.length_cons]
    omega
/-- goes again, with the row that is kept -/
theorem X_goesK {d : Nat} (hd : 7 ≤ d) {σ : kS} {H : Int → Int → Int} {r g load wet a b : Int} {Q : Int → kS → Prop} (hI : Inv σ) (hw : wet = 0 ∨ wet = 1) (hr : isO 5 kN r) (hH : ∀ c w, 0 ≤ c → c < 120 → 0 ≤ w → w < 4 → told σ r c w = H c w) (hHB : LandB H) (hy : isWy σ g load a b) (h1 : ∀ s, Went σ s (tolH σ H g load wet) a b → s 38 = σ 38 → s 39 = σ 39 → Q 1 s) : Ci d MX11_goes [(2, 0), (2, r), (0, g), (0, load), (0, wet), (0, a), (0, b)] kN σ Q := by
  obtain ⟨d, rfl⟩ : ∃ e, d = e + 1 := ⟨d - 1, by omega⟩
  have hg6 := hI.2.2.2.2.2.2.1.1
  unfold isWy isMan isCel at hy
  refine EX11_goes fun _ _ _ _ _ _ => SX11_goes_0 ⟨o_0, X_isManner (by omega) (fun c1 => ⟨fun e => by omega, fun _ => X_isCell (by omega) (fun c2 => ⟨fun e => by omega, fun _ => X_isCell (by omega) (fun c3 => ⟨fun _ => ?_, fun e => by omega⟩) (fun c3 => absurd hy.2.2 c3)⟩) (fun c2 => absurd hy.2.1 c2)⟩) (fun c1 => absurd hy.1 c1)⟩
  have k17 := kl_17
  have hgo := goer_at hI.1 (i := g) (by omega)
  rw [ly_0_5 hI.1, ly_0_14 hI.1, hgo.1]
  refine ⟨a_17, by omega, o_26, Ways_fit (by omega) hI.1 hI.2.1.1 hI.2.1.2.2 c1.1 hI.2.2.2.2.2.2.1.1.2 (hI.2.2.2.2.2.2.1.gf c1.1) hw c1.2 hr (hHB.cong hH) (fun s hs => ?_)⟩
  have hk := hs.keep hI c1.1
  have hT : TEq (s 28) (tolH σ H g load wet) := TEq.trans' hs.2.2.2.2 (tolT_land hH)
  have hIs := hI.keep hk
  rw [ly_0_14 hIs.1]
  refine ⟨o_26, X_layT (by omega) hIs c2 c3 tolH_ok hT (fun s1 hs1 ho1 => h1 s1 ⟨hk.trans hs1.1, hs1.2⟩ ?_ ?_)⟩
  · rw [ho1 38 (by decide), hs.1 38 (by simp only [List.mem_cons, List.not_mem_nil, or_false]; omega)]
  · rw [ho1 39 (by decide), hs.1 39 (by simp only [List.mem_cons, List.not_mem_nil, or_false]; omega)]
/-- the cell lasts through the first n eras -/
def lastP (σ : kS) (g load wet a b n c : Int) : Prop := c ∈ wayP (tolN σ g load wet) a b ∧ 0 < σ 0 2 ∧ ∀ e, 0 ≤ e → e < n → c ∈ wayP (tolH σ (eraM σ e) g load wet) a b
theorem lastP_fr {σ s : kS} (h : Fr σ s) {g load wet a b n c : Int} : lastP s g load wet a b n c ↔ lastP σ g load wet a b n c := by
  unfold lastP
  rw [tolN_fr h, h.e0, eraM_fr h]
  have e : ∀ H, tolH s H g load wet = tolH σ H g load wet := fun H => tolH_fr h
  simp only [e]
noncomputable def lastA (σ : kS) (g load wet a b : Int) : Int := cif (isWy σ g load a b) (sm (fun c => cif (lastP σ g load wet a b (σ 0 2) c) 1 0) 120) (-1)
theorem lastA_fr {σ s : kS} (h : Fr σ s) {g load wet a b : Int} : lastA s g load wet a b = lastA σ g load wet a b := by
  have e : (fun c => cif (lastP s g load wet a b (s 0 2) c) 1 0) = fun c => cif (lastP σ g load wet a b (σ 0 2) c) 1 0 := by
    funext c
    rw [h.e0]
    by_cases q : lastP σ g load wet a b (σ 0 2) c
    · rw [cif_pos q, cif_pos ((lastP_fr h).mpr q)]
    · rw [cif_neg q, cif_neg (fun z => q ((lastP_fr h).mp z))]
  unfold lastA
  rw [isWy_fr h, e]
theorem keep38 {σ s : kS} (hI : Inv σ) (ho : off [38, 39] σ s) (hL : Lay s) (hr : RowOK s 38) : Keep σ s := by
  obtain ⟨b1, ⟨b2, b3, b4, b5, b6, b7⟩, b8⟩ := hI.2.1
  have ne : ∀ k, k ≠ 38 → k ≠ 39 → s k = σ k := fun k h1 h2 => ho k (by simp only [List.mem_cons, List.not_mem_nil, or_false]; omega)
  exact ⟨Fr.offX ho (by decide), hL, ⟨by unfold Bes; rw [ne 27 (by decide) (by decide)]; exact b1, ⟨b2.cong (ne 36 (by decide) (by decide)), hr, b4.cong (ne 43 (by decide) (by decide)), b5.cong (ne 45 (by decide) (by decide)), b6.cong (ne 57 (by decide) (by decide)), b7.cong (ne 59 (by decide) (by decide))⟩, b8.cong (ne 0 (by decide) (by decide)) (ne 35 (by decide) (by decide)) (ne 170 (by decide) (by decide)) (ne 171 (by decide) (by decide)) (fun j _ _ => by rw [ne 26 (by decide) (by decide)])⟩⟩
theorem X_lasting {d : Nat} (hd : 20 ≤ d) {σ : kS} {g load wet a b : Int} {Q : Int → kS → Prop} (hI : Inv σ) (hw : wet = 0 ∨ wet = 1) (hq : ∀ s, Keep σ s → Q (lastA σ g load wet a b) s) : Ci d MX11_lasting [(2, 0), (0, g), (0, load), (0, wet), (0, a), (0, b)] kN σ Q := by
  obtain ⟨d, rfl⟩ : ∃ e, d = e + 1 := ⟨d - 1, by omega⟩
  have k7 := kl_7
  have k37 : klen (36 + 1) = 120 := kl_37
  have k39 : klen (38 + 1) = 120 := kl_39
  have h2 := hI.2.2.2.1.1
  refine EX11_lasting fun _ _ _ _ _ _ => SX11_lasting_0 ⟨o_0, ?_⟩
  rw [ly_0_0 hI.1]
  refine XI_goes (by omega) hI hw (fun cw s hs => ⟨fun _ => ?_, fun e => by omega⟩) (fun cw => ⟨fun e => absurd rfl e, fun _ => ?_⟩)
  rotate_left
  · have := hq σ hI.self
    unfold lastA at this
    rw [cif_neg cw] at this
    exact this
  have hLs := hs.1.2.1
  have hIs := hI.keep hs.1
  have e0 : s 0 = σ 0 := hs.1.1.e0
  have hfa := hs.2.2.1.facts tolH_ok cw.2.1
  rw [ly_0_14 hLs, ly_26_13 hLs, ly_26_14 hLs, e0]
  refine ⟨fun cz => ⟨o_26, o_38, Row_take (by omega) hLs o_38 hs.2.1.1.1 (by decide) ?_⟩, fun cz => ?_⟩
  · have hsz := hs.2.1.1.1.2
    have hto : off [38, 39] s (rowTake s 38 36) := rowTake_off
    have htL := rowTake_L (σ := s) (r := 38) (q := 36) hs.2.1.1.1 (by decide) (by decide) (by omega)
    have hL2 : Lay (rowTake s 38 36) := Lay_rowOff hLs o_38 hto (fun j hj => by unfold rowTake; rw [kst_kj hj, kcpy_k (by decide)])
    have hr2 : RowOK (rowTake s 38 36) 38 := ⟨o_38, by rw [htL.2]; exact hsz.1, by rw [htL.2, k39]; omega⟩
    have hk2 : Keep σ (rowTake s 38 36) := hs.1.trans (keep38 hIs hto hL2 hr2)
    have key : ∀ e : Int, ∀ u : kS, 0 ≤ e → e ≤ σ 0 2 → Keep σ u → (rowL u 38).Nodup → (∀ x ∈ rowL u 38, 0 ≤ x ∧ x < 120) → (∀ x, x ∈ rowL u 38 ↔ lastP σ g load wet a b e x) → LX11_lasting_49 d kN Q 0 g load wet a b e u := by
      refine up_to (e := σ 0 2) ?_
      intro e ih u u0 u1 hku hnd hbd hme
      have hIu := hI.keep hku
      have hru := hIu.2.1.2.1.2.1
      have hru2 := hru.2
      have e0u : u 0 = σ 0 := hku.1.e0
      refine SX11_lasting_49 ?_
      rw [ly_0_14 hIu.1, ly_26_14 hIu.1, ly_0_1 hIu.1, e0u]
      refine ⟨o_0, fun ce => ⟨o_26, o_38, ?_⟩, fun ce => ⟨a_7, by omega, ?_⟩⟩
      · have hgo := hq u hku
        unfold lastA at hgo
        rw [cif_pos cw] at hgo
        have hl := sm_mem _ hnd hbd
        rw [rowL_len, k_toNat hru2.1] at hl
        have hc : sm (fun c => cif (c ∈ rowL u 38) 1 0) 120 = sm (fun c => cif (lastP σ g load wet a b (σ 0 2) c) 1 0) 120 := sm_cong (fun c _ _ => by
          have hm := hme c
          rw [show e = σ 0 2 by omega] at hm
          by_cases q : lastP σ g load wet a b (σ 0 2) c
          · rw [cif_pos q, cif_pos (hm.mpr q)]
          · rw [cif_neg q, cif_neg (fun z => q (hm.mp z))])
        rw [hl, hc]
        exact hgo
      · have hga := era_at hIu.1 (i := e) (by omega)
        have hE := hIu.2.2.2.1.eq (e := e) (by rw [e0u]; omega)
        rw [hga.1]
        refine X_goesK (by omega) hIu hw hga.2 hE.1 hE.2 (by rw [isWy_fr hku.1]; exact cw) (fun s3 hs3 e38 e39 => ?_)
        have hIs3 := hIu.keep hs3.1
        rw [ly_0_14 hIs3.1, ly_26_14 hIs3.1, ly_26_13 hIs3.1]
        have hr38 : RowOK s3 38 := hIs3.2.1.2.1.2.1
        have hrl : rowL s3 38 = rowL u 38 := rowL_cong e38 e39
        refine ⟨o_26, o_38, Row_keepIn (by omega) hIs3.1 hr38 hs3.2.1.1.1 (by decide) (fun s4 hL4 ho4 hr4 hl4 => ?_)⟩
        have hw3 : rowL s3 36 = wayP (tolH σ (eraM σ e) g load wet) a b := by rw [hs3.2.2.2.1, tolH_fr hku.1, eraM_fr hku.1]
        rw [hrl, hw3] at hl4
        refine ⟨by omega, ih (by omega) s4 (by omega) (by omega) ((hku.trans hs3.1).trans (keep38 hIs3 ho4 hL4 hr4)) ?_ ?_ ?_⟩
        · rw [hl4]
          exact hnd.sublist List.filter_sublist
        · intro x hx
          rw [hl4] at hx
          exact hbd x (List.mem_filter.mp hx).1
        · intro x
          rw [hl4, List.mem_filter, hme x]
          unfold lastP
          constructor
          · rintro ⟨⟨p1, p2, p3⟩, p4⟩
            refine ⟨p1, p2, fun f f0 f1 => ?_⟩
            by_cases ef : f = e
            · rw [ef]; exact of_decide_eq_true p4
            · exact p3 f f0 (by omega)
          · rintro ⟨p1, p2, p3⟩
            exact ⟨⟨p1, p2, fun f f0 f1 => p3 f f0 (by omega)⟩, decide_eq_true (p3 e u0 (by omega))⟩
    refine key 0 _ (by omega) (by omega) hk2 ?_ ?_ ?_
    · rw [htL.1]
      exact hfa.2.2.2
    · rw [htL.1]
      exact hfa.2.2.1
    · intro x
      rw [htL.1, hs.2.2.2.1]
      unfold lastP
      exact ⟨fun z => ⟨z, by omega, fun f f0 f1 => by omega⟩, fun z => z.1⟩
  · have hgo := hq s hs.1
    unfold lastA at hgo
    rw [cif_pos cw] at hgo
    have hz := sm_b (f := fun c => cif (lastP σ g load wet a b (σ 0 2) c) 1 0) (B := 0) (n := 120) (fun i _ _ => by
      rw [cif_neg (fun z => by have := z.2.1; omega)]
      omega)
    rw [show sm (fun c => cif (lastP σ g load wet a b (σ 0 2) c) 1 0) 120 = 0 by omega] at hgo
    exact hgo
/-- the model: what is kept in 207 -/
def lastV (P : Int → Prop) (s : kS) : Prop := ∀ c, 0 ≤ c → c < 120 → s 207 c = cif (P c) 1 0
theorem M_lasting {d : Nat} (hd : 50 ≤ d) {σ : kS} {g load wet a b : Int} {Q : Int → kS → Prop} (hI : Inv σ) (hw : wet = 0 ∨ wet = 1) (hq : ∀ s, Keep σ s → Q (lastA σ g load wet a b) s) : Ci d MX12_lasting [(2, 166), (0, g), (0, load), (0, wet), (0, a), (0, b)] kN σ Q := by
  obtain ⟨d, rfl⟩ : ∃ e, d = e + 1 := ⟨d - 1, by omega⟩
  have k207 := kl_207
  have k180 := kl_180
  refine EX12_lasting fun _ _ _ _ _ _ => SX12_lasting_0 ⟨o_166, fun t et => ?_⟩
  have hkt : Keep σ t := by rw [et]; exact hI.thrown
  have hIt := hI.keep hkt
  have hq : ∀ s, Keep t s → Q (lastA t g load wet a b) s := fun s hs => by
    have := hq s (hkt.trans hs)
    rw [lastA_fr hkt.1]
    exact this
  clear et
  have hE := hIt.2.2.2.1
  have h68 := hE.2.1
  have h02 := hE.1
  have hg6 := hIt.2.2.2.2.2.2.1.1
  refine MI_isWay (by omega) hIt (fun cw => ⟨fun _ => ?_, fun q => by omega⟩) (fun cw => ⟨fun q => absurd rfl q, fun _ => ?_⟩)
  rotate_left
  · have := hq t hIt.self
    unfold lastA at this
    rw [cif_neg cw] at this
    exact this
  have hgm := hIt.2.2.2.2.2.2.1.gm cw.1.1
  have hg : 0 ≤ g ∧ g < 6 := ⟨cw.1.1.1, by have := cw.1.1.2; omega⟩
  have endd : ∀ s : kS, Keep t s → lastV (lastP t g load wet a b (t 0 2)) s → LX12_lasting_234 d kN Q 166 0 0 s := by
    intro s hk hv
    have hgo := hq s hk
    unfold lastA at hgo
    rw [cif_pos cw] at hgo
    have key : ∀ c many : Int, 0 ≤ c → c ≤ 120 → many = sm (fun c => cif (lastP t g load wet a b (t 0 2) c) 1 0) c.toNat → LX12_lasting_234 d kN Q 166 many c s := by
      refine up_to (e := 120) ?_
      intro c ih many c0 c1 hm
      have hss := sm_s (f := fun c => cif (lastP t g load wet a b (t 0 2) c) 1 0) c0
      have hbb := sm_1 (f := fun c => cif (lastP t g load wet a b (t 0 2) c) 1 0) (n := c.toNat) (fun _ _ _ => cif_b)
      rw [k_toNat c0] at hbb
      refine SX12_lasting_234 ⟨fun q => ?_, fun q => ?_⟩
      · rw [show c = 120 by omega] at hm
        rw [hm]
        exact hgo
      · rw [ly_166_67 hk.2.1, hv c c0 (by omega)]
        refine ⟨o_166, a_207, by omega, fun q2 => ⟨by omega, by omega, ih (by omega) (many + 0) (by omega) (by omega) ?_⟩, fun q2 => ⟨by omega, by omega, ih (by omega) (many + 1) (by omega) (by omega) ?_⟩⟩
        · rw [hss, hm, q2]
        · rw [hss, hm]
          by_cases p : lastP t g load wet a b (t 0 2) c
          · rw [cif_pos p]
          · exact absurd (cif_neg p) q2
    exact key 0 0 (by omega) (by omega) rfl
  have key104 : ∀ e : Int, ∀ s : kS, 0 ≤ e → e ≤ t 0 2 → off [166, 167, 172, 177, 178, 180, 206, 207] t s → (∀ j, esf j → s 166 j = t 166 j) → Lay s → (∀ x, 0 ≤ x → x < 480 → s 206 x = t 167 x) → (∀ x, ¬ (0 ≤ x ∧ x < 480) → s 167 x = t 167 x) → lastV (lastP t g load wet a b e) s → LX12_lasting_104 d kN Q 166 g load wet a b e s := by
    refine up_to (e := t 0 2) ?_
    intro e ih s e0 e1 ho hj hLs h206 h167 hv
    have f68 : s 166 68 = t 0 2 := by rw [hj 68 (by unfold esf; omega)]; exact h68
    refine SX12_lasting_104 ⟨o_166, fun q => ?_, fun q => ?_⟩
    · refine M_comeBack (by omega) hLs (fun u hou hLu hxu => endd u (M_keep hIt ?_ hLu (L := [166, 172, 177, 178, 180, 206, 207]) (by decide) ?_) ?_)
      · have e167 : u 167 = t 167 := by
          funext x
          rw [hxu]
          by_cases cx : 0 ≤ x ∧ x < 480
          · rw [if_pos cx, h206 x cx.1 cx.2]
          · rw [if_neg cx, h167 x cx]
        intro k hk
        by_cases k167 : k = 167
        · rw [k167, e167]
        · simp only [List.mem_cons, List.not_mem_nil, or_false] at hk
          rw [hou k (by simp only [List.mem_cons, List.not_mem_nil, or_false]; omega), ho k (by simp only [List.mem_cons, List.not_mem_nil, or_false]; omega)]
      · intro j hjj
        rw [hou 166 (by decide)]
        exact hj j hjj
      · intro c c0 c1
        rw [hou 207 (by decide), ← show e = t 0 2 by omega]
        exact hv c c0 c1
    · have he : 0 ≤ e ∧ e < t 0 2 := by omega
      refine M_goTo (by omega) hLs (by omega) (fun s5 ho5 hL5 hx5 => ?_)
      have f170 : s5 170 = t 170 := by rw [ho5 170 (by decide), ho 170 (by decide)]
      have f171 : s5 171 = t 171 := by rw [ho5 171 (by decide), ho 171 (by decide)]
      have fl : ∀ c w, 0 ≤ c → c < 120 → 0 ≤ w → w < 4 → landM s5 c w = eraM t e c w := fun c w w0 w1 w2 w3 => by
        unfold landM eraM
        rw [hx5, if_pos (by omega), ho 205 (by decide), show 480 * e + (120 * w + c) = 480 * e + 120 * w + c by omega]
      refine M_layWayH (by omega) hL5 hg (hgm.cong f170 f171) hw fl (hE.eq he).2 cw.2.1 cw.2.2 (fun s6 hs6 => ?_)
      rw [tolH_cg f170 f171] at hs6
      have ho6 : off [166, 167, 172, 177, 178, 180, 206, 207] t s6 := fun k hk => by
        simp only [List.mem_cons, List.not_mem_nil, or_false] at hk
        rw [hs6.1 k (by simp only [List.mem_cons, List.not_mem_nil, or_false]; omega), ho5 k (by simp only [List.mem_cons, List.not_mem_nil, or_false]; omega), ho k (by simp only [List.mem_cons, List.not_mem_nil, or_false]; omega)]
      have hj6 : ∀ j, esf j → s6 166 j = t 166 j := fun j hjj => by
        have h9 := hj j hjj
        unfold esf at hjj
        rw [hs6.2.1 j (by omega) (by omega) (by omega) (by omega), ho5 166 (by decide)]
        exact h9
      have m206 : ∀ x, 0 ≤ x → x < 480 → s6 206 x = t 167 x := fun x x0 x1 => by
        rw [hs6.1 206 (by decide), ho5 206 (by decide)]
        exact h206 x x0 x1
      have m167 : ∀ x, ¬ (0 ≤ x ∧ x < 480) → s6 167 x = t 167 x := fun x hx => by
        rw [hs6.1 167 (by decide), hx5, if_neg hx]
        exact h167 x hx
      have m207 : lastV (lastP t g load wet a b e) s6 := fun c c0 c1 => by
        rw [hs6.1 207 (by decide), ho5 207 (by decide)]
        exact hv c c0 c1
      have hn := hs6.2.2.2.1
      have hW := hs6.2.2.2.2.2.2.1
      have key133 : ∀ c : Int, ∀ u : kS, 0 ≤ c → c ≤ 120 → off [207] s6 u → Lay u → (∀ z, 0 ≤ z → z < 120 → u 207 z = if z < c then cif (lastP t g load wet a b (e + 1) z) 1 0 else cif (lastP t g load wet a b e z) 1 0) → LX12_lasting_133 d kN Q 166 g load wet a b e c u := by
        refine up_to (e := 120) ?_
        intro c ihc u c0 c1 hou hLu hz
        refine SX12_lasting_133 ⟨fun q2 => ⟨by omega, ih (by omega) u (by omega) (by omega) ?_ ?_ hLu ?_ ?_ ?_⟩, fun q2 => ?_⟩
        · intro k hk
          simp only [List.mem_cons, List.not_mem_nil, or_false] at hk
          rw [hou k (by simp only [List.mem_cons, List.not_mem_nil, or_false]; omega), ho6 k (by simp only [List.mem_cons, List.not_mem_nil, or_false]; omega)]
        · intro j hjj
          rw [hou 166 (by decide)]
          exact hj6 j hjj
        · intro x x0 x1
          rw [hou 206 (by decide)]
          exact m206 x x0 x1
        · intro x hx
          rw [hou 167 (by decide)]
          exact m167 x hx
        · intro z z0 z1
          rw [hz z z0 z1, if_pos (by omega)]
        · have h30 : u 166 30 = s6 166 30 := by rw [hou 166 (by decide)]
          have h180 : u 180 = s6 180 := hou 180 (by decide)
          have key146 : ∀ i on : Int, 0 ≤ i → i ≤ s6 166 30 → ((on = 0 ∧ ∀ j, 0 ≤ j → j < i → s6 180 j ≠ c) ∨ (on = 1 ∧ c ∈ wayP (tolH t (eraM t e) g load wet) a b)) → LX12_lasting_146 d kN Q 166 g load wet a b e c on i u := by
            refine up_to (e := s6 166 30) ?_
            intro i ihi on i0 i1 hon
            refine SX12_lasting_146 ?_
            rw [h30, ly_166_67 hLu, ly_166_29 hLu, h180]
            have upd : ∀ v (u2 : kS), u2 = kst u 207 c v → v = cif (lastP t g load wet a b (e + 1) c) 1 0 → (-2147483648 ≤ c + 1 ∧ c + 1 ≤ 2147483647) ∧ LX12_lasting_133 d kN Q 166 g load wet a b e (c + 1) u2 := fun v u2 eu ev => ⟨by omega, ihc (by omega) u2 (by omega) (by omega) (by rw [eu]; exact hou.kst (by decide)) (by rw [eu]; exact hLu.kstA (c := 22) a_207) (fun z z0 z1 => by
              rw [eu, kst_ap]
              by_cases ez : z = c
              · rw [if_pos ⟨rfl, ez⟩, if_pos (by omega), ev, ez]
              · rw [if_neg (fun p => ez p.2), hz z z0 z1]
                by_cases cz : z < c
                · rw [if_pos cz, if_pos (by omega)]
                · rw [if_neg cz, if_neg (by omega)])⟩
            have inW : c ∈ wayP (tolH t (eraM t e) g load wet) a b ↔ ∃ j, 0 ≤ j ∧ j < s6 166 30 ∧ s6 180 j = c := by
              rw [← hW, mem_seg]
              constructor
              · rintro ⟨j, j0, j1, j2⟩
                exact ⟨j, j0, j1, by rw [Int.zero_add] at j2; exact j2⟩
              · rintro ⟨j, j0, j1, j2⟩
                exact ⟨j, j0, j1, by rw [Int.zero_add]; exact j2⟩
            have hzc := hz c c0 (by omega)
            rw [if_neg (by omega)] at hzc
            refine ⟨o_166, fun q3 => ⟨a_207, by omega, fun q4 => ⟨by omega, fun u2 eu => upd 0 u2 eu ?_⟩, fun q4 => ⟨fun q5 => ⟨by omega, fun u2 eu => upd 0 u2 eu ?_⟩, fun q5 => ⟨by omega, fun u2 eu => upd 1 u2 eu ?_⟩⟩⟩, fun q3 => ⟨fun q4 => ⟨by omega, ihi (by omega) 1 (by omega) (by omega) ?_⟩, fun q4 => ⟨a_180, by omega, fun q5 => ⟨by omega, ihi (by omega) 0 (by omega) (by omega) ?_⟩, fun q5 => ⟨by omega, ihi (by omega) 1 (by omega) (by omega) ?_⟩⟩⟩⟩
            · rw [cif_neg]
              intro p
              have : lastP t g load wet a b e c := ⟨p.1, p.2.1, fun f f0 f1 => p.2.2 f f0 (by omega)⟩
              rw [cif_pos this] at hzc
              omega
            · rw [cif_neg]
              intro p
              rcases hon with ⟨_, hon⟩ | ⟨hon, _⟩
              · obtain ⟨j, j0, j1, j2⟩ := inW.mp (p.2.2 e e0 (by omega))
                exact hon j j0 (by omega) j2
              · omega
            · rw [cif_pos]
              rcases hon with ⟨hon, _⟩ | ⟨_, hon⟩
              · omega
              · by_cases p : lastP t g load wet a b e c
                · refine ⟨p.1, p.2.1, fun f f0 f1 => ?_⟩
                  by_cases ef : f = e
                  · rw [ef]; exact hon
                  · exact p.2.2 f f0 (by omega)
                · rw [cif_neg p] at hzc
                  exact absurd hzc q4
            · rcases hon with ⟨hon, _⟩ | ⟨_, hon⟩
              · omega
              · exact Or.inr ⟨rfl, hon⟩
            · rcases hon with ⟨_, hon⟩ | ⟨hon, _⟩
              · refine Or.inl ⟨rfl, fun j j0 j1 => ?_⟩
                by_cases ej : j = i
                · rw [ej]; exact q5
                · exact hon j j0 (by omega)
              · omega
            · exact Or.inr ⟨rfl, inW.mpr ⟨i, i0, by omega, Classical.not_not.mp q5⟩⟩
          exact key146 0 0 (by omega) (by omega) (Or.inl ⟨rfl, fun j j0 j1 => by omega⟩)
      exact key133 0 s6 (by omega) (by omega) off.rfl' hs6.2.2.1 (fun z z0 z1 => by rw [if_neg (by omega)]; exact m207 z z0 z1)
  have key23 : ∀ c : Int, ∀ s : kS, 0 ≤ c → c ≤ 120 → off [207] t s → Lay s → (∀ z, 0 ≤ z → z < c → s 207 z = 0) → LX12_lasting_23 d kN Q 166 g load wet a b c s := by
    refine up_to (e := 120) ?_
    intro c ih s c0 c1 ho hLs hz
    refine SX12_lasting_23 ⟨fun q => ⟨o_166, ?_⟩, fun q => ?_⟩
    · have f170 : s 170 = t 170 := ho 170 (by decide)
      have f171 : s 171 = t 171 := ho 171 (by decide)
      have fl : ∀ c w, 0 ≤ c → c < 120 → 0 ≤ w → w < 4 → landM s c w = landM t c w := fun c w _ _ _ _ => by
        unfold landM
        rw [ho 167 (by decide)]
      refine M_layWayH (by omega) hLs hg (hgm.cong f170 f171) hw fl hIt.2.2.1.eq.2 cw.2.1 cw.2.2 (fun s6 hs6 => ?_)
      rw [tolH_cg f170 f171] at hs6
      have hn := hs6.2.2.2.1
      have hW : seg (s6 180) 0 (s6 166 30) = wayP (tolN t g load wet) a b := hs6.2.2.2.2.2.2.1
      have ho6 : off [166, 172, 177, 178, 180, 207] t s6 := fun k hk => by
        simp only [List.mem_cons, List.not_mem_nil, or_false] at hk
        rw [hs6.1 k (by simp only [List.mem_cons, List.not_mem_nil, or_false]; omega), ho k (by simp only [List.mem_cons, List.not_mem_nil, or_false]; omega)]
      have hj6 : ∀ j, esf j → s6 166 j = t 166 j := fun j hjj => by
        unfold esf at hjj
        rw [hs6.2.1 j (by omega) (by omega) (by omega) (by omega), ho 166 (by decide)]
      have h68' : s6 166 68 = t 0 2 := by rw [hj6 68 (by unfold esf; omega)]; exact h68
      have key58 : ∀ i : Int, ∀ u : kS, 0 ≤ i → i ≤ s6 166 30 → off [207] s6 u → Lay u → (∀ z, 0 ≤ z → z < 120 → u 207 z = cif ((∃ j, 0 ≤ j ∧ j < i ∧ s6 180 j = z) ∧ 0 < t 0 2) 1 0) → LX12_lasting_58 d kN Q 166 g load wet a b i u := by
        refine up_to (e := s6 166 30) ?_
        intro i ihi u i0 i1 hou hLu hz2
        have h30 : u 166 30 = s6 166 30 := by rw [hou 166 (by decide)]
        have h180 : u 180 = s6 180 := hou 180 (by decide)
        refine SX12_lasting_58 ?_
        rw [h30, ly_166_67 hLu, ly_166_29 hLu, h180, hou 166 (by decide), h68']
        refine ⟨o_166, fun q2 => ?_, fun q2 => ⟨a_180, by omega, ?_⟩⟩
        · refine M_leaveNow (by omega) hLu (fun v hov hLv hxv => key104 0 v (by omega) (by omega) ?_ ?_ hLv ?_ ?_ ?_)
          · intro k hk
            simp only [List.mem_cons, List.not_mem_nil, or_false] at hk
            rw [hov k (by simp only [List.mem_cons, List.not_mem_nil, or_false]; omega), hou k (by simp only [List.mem_cons, List.not_mem_nil, or_false]; omega), ho6 k (by simp only [List.mem_cons, List.not_mem_nil, or_false]; omega)]
          · intro j hjj
            rw [hov 166 (by decide), hou 166 (by decide)]
            exact hj6 j hjj
          · intro x x0 x1
            rw [hxv x x0 x1, hou 167 (by decide), ho6 167 (by decide)]
          · intro x _
            rw [hov 167 (by decide), hou 167 (by decide), ho6 167 (by decide)]
          · intro z z0 z1
            rw [hov 207 (by decide), hz2 z z0 z1]
            have inW : z ∈ wayP (tolN t g load wet) a b ↔ ∃ j, 0 ≤ j ∧ j < i ∧ s6 180 j = z := by
              rw [← hW, mem_seg]
              constructor
              · rintro ⟨j, j0, j1, j2⟩
                exact ⟨j, j0, by omega, by rw [Int.zero_add] at j2; exact j2⟩
              · rintro ⟨j, j0, j1, j2⟩
                exact ⟨j, j0, by omega, by rw [Int.zero_add]; exact j2⟩
            by_cases p : (∃ j, 0 ≤ j ∧ j < i ∧ s6 180 j = z) ∧ 0 < t 0 2
            · rw [cif_pos p, cif_pos ⟨inW.mpr p.1, p.2, fun f f0 f1 => by omega⟩]
            · rw [cif_neg p, cif_neg (fun r => p ⟨inW.mp r.1, r.2.1⟩)]
        · have hc := hs6.2.2.2.2.1 i i0 (by omega)
          have upd : ∀ v (u2 : kS), u2 = kst u 207 (s6 180 i) v → v = cif (0 < t 0 2) 1 0 → (-2147483648 ≤ i + 1 ∧ i + 1 ≤ 2147483647) ∧ LX12_lasting_58 d kN Q 166 g load wet a b (i + 1) u2 := fun v u2 eu ev => ⟨by omega, ihi (by omega) u2 (by omega) (by omega) (by rw [eu]; exact hou.kst (by decide)) (by rw [eu]; exact hLu.kstA (c := 22) a_207) (fun z z0 z1 => by
            rw [eu, kst_ap]
            by_cases ez : z = s6 180 i
            · rw [if_pos ⟨rfl, ez⟩, ev]
              by_cases p : 0 < t 0 2
              · rw [cif_pos p, cif_pos ⟨⟨i, i0, by omega, ez.symm⟩, p⟩]
              · rw [cif_neg p, cif_neg (fun r => p r.2)]
            · rw [if_neg (fun p => ez p.2), hz2 z z0 z1]
              by_cases p : (∃ j, 0 ≤ j ∧ j < i ∧ s6 180 j = z) ∧ 0 < t 0 2
              · obtain ⟨⟨j, j0, j1, j2⟩, p2⟩ := p
                rw [cif_pos ⟨⟨j, j0, j1, j2⟩, p2⟩, cif_pos ⟨⟨j, j0, by omega, j2⟩, p2⟩]
              · rw [cif_neg p, cif_neg]
                rintro ⟨⟨j, j0, j1, j2⟩, p2⟩
                refine p ⟨⟨j, j0, ?_, j2⟩, p2⟩
                by_cases ej : j = i
                · rw [ej] at j2
                  exact absurd j2.symm ez
                · omega)⟩
          exact ⟨fun q3 => ⟨a_207, by omega, by omega, fun u2 eu => upd 0 u2 eu (by rw [cif_neg (by omega)])⟩, fun q3 => ⟨a_207, by omega, by omega, fun u2 eu => upd 1 u2 eu (by rw [cif_pos (by omega)])⟩⟩
      refine key58 0 s6 (by omega) (by omega) off.rfl' hs6.2.2.1 (fun z z0 z1 => ?_)
      rw [hs6.1 207 (by decide), hz z z0 (by omega), cif_neg]
      rintro ⟨⟨j, j0, j1, _⟩, _⟩
      omega
    · rw [ly_166_67 hLs]
      refine ⟨o_166, a_207, by omega, by omega, fun u eu => ⟨by omega, ih (by omega) u (by omega) (by omega) (by rw [eu]; exact ho.kst (by decide)) (by rw [eu]; exact hLs.kstA (c := 22) a_207) (fun z z0 z1 => ?_)⟩⟩
      rw [eu, kst_ap]
      by_cases ez : z = c
      · rw [if_pos ⟨rfl, ez⟩]
      · rw [if_neg (fun p => ez p.2)]
        exact hz z z0 (by omega)
  exact key23 0 t (by omega) (by omega) off.rfl' hIt.1 (fun z z0 z1 => by omega)
theorem O_lasting {g load wet a b : Int} (hw : wet = 0 ∨ wet = 1) : Op MX11_lasting MX12_lasting [(0, g), (0, load), (0, wet), (0, a), (0, b)] :=
  Op.of (fun σ => lastA σ g load wet a b) (fun _ _ _ hk => lastA_fr hk.1) (fun _ _ _ hd hI hq => X_lasting (by omega) hI hw hq) (fun _ _ _ hd hI hq => M_lasting (by omega) hI hw hq)
