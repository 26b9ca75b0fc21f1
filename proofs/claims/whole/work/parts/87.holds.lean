/-! holds -/
theorem sm_oneN {f : Int → Int} {c : Int} {n : Nat} (hc : 0 ≤ c ∧ c < n) (h : ∀ i, i ≠ c → f i = 0) : sm f n = f c := by
  have h1 := sm_up (f := fun _ => 0) (g := f) (c := c) (n := n) hc.1 hc.2 (fun i _ _ hi => h i hi)
  have h2 := sm_zero n
  omega
theorem keepW {u v : kS} (hI : Inv u) (h1 : off [26, 29, 31, 36, 37] u v) (h2 : ∀ j, j ≠ 5 → v 26 j = u 26 j) (hL : Lay v) (h36 : RowOK v 36) : Keep u v := by
  obtain ⟨b1, ⟨b2, b3, b4, b5, b6, b7⟩, b8⟩ := hI.2.1
  have ne : ∀ k, (k = 0 ∨ k = 27 ∨ k = 35 ∨ k = 170 ∨ k = 171 ∨ k = 38 ∨ k = 43 ∨ k = 45 ∨ k = 57 ∨ k = 59) → v k = u k := fun k hk => h1 k (by simp only [List.mem_cons, List.not_mem_nil, or_false]; omega)
  exact ⟨Fr.offX h1 (by decide), hL, ⟨by unfold Bes; rw [ne 27 (by omega)]; exact b1, ⟨h36, b3.cong (ne 38 (by omega)), b4.cong (ne 43 (by omega)), b5.cong (ne 45 (by omega)), b6.cong (ne 57 (by omega)), b7.cong (ne 59 (by omega))⟩, b8.cong (ne 0 (by omega)) (ne 35 (by omega)) (ne 170 (by omega)) (ne 171 (by omega)) (fun j j0 j1 => h2 j (by omega))⟩⟩
noncomputable def hoG (σ : kS) (T : Int → Int) (b k t s : Int) : Int := cif (σ (123 + 5 * b) (s + 1) = t ∧ slipV (σ (125 + 5 * b) s) (trueM σ T b s) k = 0) 1 0
theorem hoG_fr {σ s : kS} (h : Fr σ s) {T : Int → Int} {b k t z : Int} (hb : 0 ≤ b ∧ b < 5) : hoG s T b k t z = hoG σ T b k t z := by
  unfold hoG
  rw [trueM_fr h hb, told_fr h hb, h.1 (123 + 5 * b) (by unfold scr; omega)]
theorem X_holdsInto {d : Nat} (hd : 6 ≤ d) {u : kS} {T : Int → Int} {b k t : Int} {Q : Int → kS → Prop} (hI : Inv u) (ht : TolOK T) (hT : TEq (u 28) T) (hb : 0 ≤ b ∧ b < u 0 8) (htn : 0 ≤ t ∧ t < u 19 1) (h : ∀ v, Keep u v → off [26, 29, 31, 36, 37] u v → Q (sm (hoG u T b k t) (u (124 + 5 * b) 1).toNat) v) : Ci d MX11_holdsInto [(2, 0), (2, 121 + 5 * b), (0, t), (0, k)] kN u Q := by
  obtain ⟨d, rfl⟩ : ∃ e, d = e + 1 := ⟨d - 1, by omega⟩
  have hB := hI.2.2.2.2.2.2.2.1
  have hTn := hI.2.2.2.2.1
  have hn := hB.1
  have hbk := book_at hI.1 (i := b) (by omega)
  have tc := town_cell hI htn
  have hT' : TEq T (u 28) := fun c k c0 c1 k0 k1 hn => (hT c k c0 c1 k0 k1 hn).symm
  have ht28 : TolOK (u 28) := TolOK.tcong hT' ht
  obtain ⟨p1, p2, p3, p4, p5⟩ := hB.2.2.2 b hb.1 hb.2
  refine EX11_holdsInto fun _ _ _ => SX11_holdsInto_0 ⟨o_0, ?_⟩
  rw [ly_0_9 hI.1]
  refine ⟨o_19, Row_at (by omega) hI.1 hTn.1.1 ?_⟩
  rw [tc.1, ly_0_14 hI.1]
  refine ⟨o_26, Ways_spreadTo (by omega) hI.1 hI.2.1.1 ht28 tc.2.2.1 (fun w hw hLw hGw hbw => ?_)⟩
  have key : ∀ s many : Int, ∀ v : kS, 0 ≤ s → s ≤ u (124 + 5 * b) 1 → off [26, 29, 31, 36, 37] u v → (∀ j, j ≠ 5 → v 26 j = u 26 j) → Lay v → RowOK v 36 → v 29 = w 29 → many = sm (hoG u T b k t) s.toNat → LX11_holdsInto_21 d kN Q 0 (121 + 5 * b) t k many s v := by
    refine up_to (e := u (124 + 5 * b) 1) ?_
    intro s ih many v s0 s1 ho hj hLv hrv h29 hm
    have hkv := keepW hI ho hj hLv hrv
    have hIv := hI.keep hkv
    have hss := sm_s (f := hoG u T b k t) s0
    have hbb := sm_1 (f := hoG u T b k t) (n := s.toNat) (fun _ _ _ => cif_b)
    rw [k_toNat s0] at hbb
    have e124 : v (124 + 5 * b) = u (124 + 5 * b) := ho _ (by simp only [List.mem_cons, List.not_mem_nil, or_false]; omega)
    refine SX11_holdsInto_21 ⟨hbk.2.1, X_stages (by omega) hLv hIv.2.2.2.2.2.2.2.1 (by omega) ?_⟩
    rw [e124]
    refine ⟨fun q => ?_, fun q => ?_⟩
    · rw [hm, show s = u (124 + 5 * b) 1 by omega]
      exact h v hkv ho
    · have hst : isStg u b s := ⟨hb, s0, by omega⟩
      have hsv : isStg v b s := (isStg_fr hI hkv.1).mpr hst
      obtain ⟨f1, f2, f3, f4, f5⟩ := stg_facts hIv hsv
      have e123 : v (123 + 5 * b) = u (123 + 5 * b) := ho _ (by simp only [List.mem_cons, List.not_mem_nil, or_false]; omega)
      have e125 : v (125 + 5 * b) = u (125 + 5 * b) := ho _ (by simp only [List.mem_cons, List.not_mem_nil, or_false]; omega)
      have t1 := town_cell hIv f4.1
      refine ⟨by omega, X_townAt (by omega) hLv hIv.2.2.2.2.2.2.2.1 (by omega) ?_⟩
      rw [f3.2.1, e123]
      refine ⟨fun q2 => ⟨o_0, X_townAt (by omega) hLv hIv.2.2.2.2.2.2.2.1 (by omega) ?_⟩, fun q2 => ih (by omega) many v (by omega) (by omega) ho hj hLv hrv h29 ?_⟩
      · rw [f3.1, ly_0_9 hLv]
        refine ⟨o_19, Row_at (by omega) hLv hIv.2.2.2.2.1.1.1 ?_⟩
        rw [t1.1, ly_0_9 hLv]
        refine ⟨o_19, Row_at (by omega) hLv hIv.2.2.2.2.1.1.1 ?_⟩
        have tcv := town_cell hIv (t := t) (by rw [ho 19 (by decide)]; exact htn)
        rw [tcv.1, ly_0_14 hLv]
        have e28 : v 28 = u 28 := ho 28 (by decide)
        have e20 : v 20 = u 20 := ho 20 (by decide)
        refine ⟨o_26, Ways_follow (by omega) hLv hIv.2.1.1 (by rw [e28]; exact ht28) tcv.2.2.1 t1.2.2.1 (by rw [e28, h29, e20]; exact hGw) (by rw [h29]; exact hbw) hrv.2.1 (fun x hox hLx hrx h1x h37 hway => ?_)⟩
        have hox2 : off [26, 29, 31, 36, 37] u x := ho.trans (hox.mono (by simp))
        have hlaid : Laid u x (v 20 (v (123 + 5 * b) s)) (v 20 t) := ⟨hox2, fun j hj5 => by rw [hox 26 (by decide)]; exact hj j hj5, hLx, by rw [hox 29 (by decide), h29, e20]; exact hGw, by rw [hox 29 (by decide), h29]; exact hbw, hrx, h1x, h37, by rw [hox 29 (by decide), ← e28]; exact hway⟩
        have hkx := hlaid.keep hI
        have hIx := hI.keep hkx
        have hwl := (hlaid.wl ht hT tcv.2.2.1).1
        have hwp := wayP_eq ht hwl
        have hfx := hwl.facts ht t1.2.2.1
        have e123x : x (123 + 5 * b) = v (123 + 5 * b) := hox _ (by simp only [List.mem_cons, List.not_mem_nil, or_false]; omega)
        have e20x : x 20 = v 20 := hox 20 (by decide)
        have hsx : isStg x b s := (isStg_fr hI hkx.1).mpr hst
        have hFx := stg_facts hIx hsx
        refine X_milesTold (by omega) hLx hIx.2.2.2.2.2.2.2.1 (by omega) ?_
        rw [hFx.2.2.1.2.2, ly_0_14 hLx, ly_26_13 hLx]
        refine ⟨o_26, o_36, Row_miles (by omega) hLx hrx ?_⟩
        have htm : milesL (rowL x 36) = trueM u T b s := by
          unfold trueM
          rw [← hwp, q2, e20, e123]
        have hbd := milesL_b hfx.2.1
        rw [htm] at hbd ⊢
        have e125x : x (125 + 5 * b) = u (125 + 5 * b) := hox2 _ (by simp only [List.mem_cons, List.not_mem_nil, or_false]; omega)
        have htold := hFx.2.2.2.2.2.2.2
        rw [e125x] at htold ⊢
        refine X_slipOf (by omega) htold hbd ⟨fun q3 => ih (by omega) many x (by omega) (by omega) hox2 (fun j hj5 => by rw [hox 26 (by decide)]; exact hj j hj5) hLx hrx.1 (by rw [hox 29 (by decide), h29]) ?_, fun q3 => ⟨by omega, ih (by omega) _ x (by omega) (by omega) hox2 (fun j hj5 => by rw [hox 26 (by decide)]; exact hj j hj5) hLx hrx.1 (by rw [hox 29 (by decide), h29]) ?_⟩⟩
        · rw [hss, show hoG u T b k t s = 0 from cif_neg (fun z => q3 z.2), hm]
          omega
        · rw [hss, show hoG u T b k t s = 1 from cif_pos ⟨q2, Classical.not_not.mp q3⟩, hm]
      · rw [hss, show hoG u T b k t s = 0 from cif_neg (fun z => q2 z.1), hm]
        omega
  refine key 0 0 w (by omega) (by omega) (hw.1.mono (by simp)) hw.2 hLw ?_ rfl rfl
  exact hI.2.1.2.1.1.cong (hw.1 36 (by decide))
noncomputable def hoS (σ : kS) (T : Int → Int) (b k : Int) : Int := sm (fun s => cif (slipV (σ (125 + 5 * b) s) (trueM σ T b s) k = 0) 1 0) (σ (124 + 5 * b) 1).toNat
noncomputable def hoA (σ : kS) (b g k : Int) : Int := cif ((0 ≤ b ∧ b < σ 0 8) ∧ (0 ≤ g ∧ g < σ 0 6) ∧ 0 ≤ k ∧ k ≤ 20) (hoS σ (tolN σ g 0 0) b k) (-1)
theorem hoS_fr {σ s : kS} (h : Fr σ s) {T : Int → Int} {b k : Int} (hb : 0 ≤ b ∧ b < 5) : hoS s T b k = hoS σ T b k := by
  unfold hoS
  rw [h.1 (124 + 5 * b) (by unfold scr; omega), told_fr h hb]
  exact sm_cong (fun z _ _ => by rw [trueM_fr h hb])
theorem hoA_fr {σ s : kS} (hI : Inv σ) (h : Fr σ s) {b g k : Int} : hoA s b g k = hoA σ b g k := by
  have hB := hI.2.2.2.2.2.2.2.1.1
  unfold hoA
  rw [h.e0, tolN_fr h]
  by_cases c : (0 ≤ b ∧ b < σ 0 8) ∧ (0 ≤ g ∧ g < σ 0 6) ∧ 0 ≤ k ∧ k ≤ 20
  · rw [cif_pos c, cif_pos c, hoS_fr h (by omega)]
  · rw [cif_neg c, cif_neg c]
theorem O_holds {b g k : Int} : Op MX11_holds MX12_holds [(0, b), (0, g), (0, k)] := by
  refine Op.of (fun σ => hoA σ b g k) (fun σ s hI hk => hoA_fr hI hk.1) (fun d σ Q hd hI h => ?_) (fun d σ Q hd hI h => ?_)
  · obtain ⟨d, rfl⟩ : ∃ e, d = e + 1 := ⟨d - 1, by omega⟩
    have k17 := kl_17
    have k18 := kl_18
    have k20 : klen (19 + 1) = 8 := kl_20
    have hB := hI.2.2.2.2.2.2.2.1
    have hn := hB.1
    have hg6 := hI.2.2.2.2.2.2.1.1
    have hTn := hI.2.2.2.2.1.1.1.2
    have hno : ¬ ((0 ≤ b ∧ b < σ 0 8) ∧ (0 ≤ g ∧ g < σ 0 6) ∧ 0 ≤ k ∧ k ≤ 20) → Q (-1) σ := fun z => by
      have hs := h σ hI.self
      unfold hoA at hs
      rw [cif_neg z] at hs
      exact hs
    refine EX11_holds fun _ _ _ _ => SX11_holds_0 ⟨fun q => hno (fun z => by omega), fun q => ⟨o_0, fun q2 => hno (fun z => by omega), fun q2 => X_isManner (by omega) (fun c2 => ⟨fun e => by omega, fun _ => X_isBy (by omega) (fun c3 => ⟨fun _ => ?_, fun e => by omega⟩) (fun c3 => ⟨fun e => absurd rfl e, fun _ => hno (fun z => c3 z.2.2)⟩)⟩) (fun c2 => ⟨fun _ => hno (fun z => c2 ⟨z.2.1, by omega⟩), fun e => absurd rfl e⟩)⟩⟩
    have hgo := goer_at hI.1 (i := g) (by omega)
    have hb : 0 ≤ b ∧ b < σ 0 8 := by omega
    rw [ly_0_5 hI.1, ly_0_14 hI.1, hgo.1, ly_0_0 hI.1]
    refine ⟨a_17, by omega, o_26, X_fitK (by omega) hI c2 (Or.inl rfl) (fun s3 hk3 hT3 _ => ?_)⟩
    obtain ⟨p1, p2, p3, p4, p5⟩ := hB.2.2.2 b hb.1 hb.2
    have key : ∀ t many : Int, ∀ v : kS, 0 ≤ t → t ≤ σ 19 1 → Keep σ v → TEq (v 28) (tolN σ g 0 0) → many = sm (fun t => sm (hoG σ (tolN σ g 0 0) b k t) (σ (124 + 5 * b) 1).toNat) t.toNat → LX11_holds_55 d kN Q 0 b k many t v := by
      refine up_to (e := σ 19 1) ?_
      intro t ih many v t0 t1 hkv hTv hm
      have hIv := hI.keep hkv
      have hss := sm_s (f := fun t => sm (hoG σ (tolN σ g 0 0) b k t) (σ (124 + 5 * b) 1).toNat) t0
      have one : ∀ t, 0 ≤ sm (hoG σ (tolN σ g 0 0) b k t) (σ (124 + 5 * b) 1).toNat ∧ sm (hoG σ (tolN σ g 0 0) b k t) (σ (124 + 5 * b) 1).toNat ≤ 59 := fun t => by
        have := sm_1 (f := hoG σ (tolN σ g 0 0) b k t) (n := (σ (124 + 5 * b) 1).toNat) (fun _ _ _ => cif_b)
        omega
      have hbb := sm_b (f := fun t => sm (hoG σ (tolN σ g 0 0) b k t) (σ (124 + 5 * b) 1).toNat) (B := 59) (n := t.toNat) (fun t _ _ => one t)
      rw [k_toNat t0] at hbb
      have h1t := one t
      have e19 : v 19 = σ 19 := hkv.1.1 19 (by unfold scr; omega)
      refine SX11_holds_55 ⟨o_0, ?_⟩
      have hbk := book_at hIv.1 (i := b) (by omega)
      rw [ly_0_9 hIv.1, e19, ly_0_7 hIv.1, hbk.1]
      refine ⟨o_19, fun q3 => ?_, fun q3 => ⟨a_18, by omega, X_holdsInto (by omega) hIv tolH_ok hTv (by rw [hkv.1.e0]; exact hb) (by rw [e19]; omega) (fun x hkx hox => ?_)⟩⟩
      · have hgo2 := h v hkv
        unfold hoA at hgo2
        rw [cif_pos ⟨hb, c2.1, c3⟩] at hgo2
        have htot : many = hoS σ (tolN σ g 0 0) b k := by
          rw [hm, show t = σ 19 1 by omega, sm_swap (f := fun t s => hoG σ (tolN σ g 0 0) b k t s)]
          unfold hoS
          refine sm_cong (fun s s0 s1 => ?_)
          have hs5 := p5 (s + 1) (by omega) (by omega)
          have hone := sm_oneN (f := fun i => hoG σ (tolN σ g 0 0) b k i s) (c := σ (123 + 5 * b) (s + 1)) (n := (σ 19 1).toNat) (by omega) (fun i hi => cif_neg (fun z => hi z.1.symm))
          rw [hone]
          unfold hoG
          by_cases q4 : slipV (σ (125 + 5 * b) s) (trueM σ (tolN σ g 0 0) b s) k = 0
          · rw [cif_pos q4, cif_pos ⟨rfl, q4⟩]
          · rw [cif_neg q4, cif_neg (fun z => q4 z.2)]
        rw [htot]
        exact hgo2
      · have ein : sm (hoG v (tolH σ (landM σ) g 0 0) b k t) (v (124 + 5 * b) 1).toNat = sm (hoG σ (tolN σ g 0 0) b k t) (σ (124 + 5 * b) 1).toNat := by
          rw [hkv.1.1 (124 + 5 * b) (by unfold scr; omega)]
          exact sm_cong (fun z _ _ => hoG_fr hkv.1 (by omega))
        rw [ein]
        refine ⟨by omega, by omega, ih (by omega) _ x (by omega) (by omega) (hkv.trans hkx) (by rw [hox 28 (by decide)]; exact hTv) ?_⟩
        rw [hss, hm]
    exact key 0 0 s3 (by omega) hTn.1 hk3 hT3 rfl
  · obtain ⟨d, rfl⟩ : ∃ e, d = e + 1 := ⟨d - 1, by omega⟩
    have k173 := kl_173
    refine EX12_holds fun _ _ _ _ => SX12_holds_0 ⟨o_166, fun s1 e1 => ?_⟩
    have hk1 : Keep σ s1 := by rw [e1]; exact hI.thrown
    have hI1 := hI.keep hk1
    have hh : ∀ u, Keep s1 u → Q (hoA s1 b g k) u := fun u hu => by
      rw [hoA_fr hI hk1.1]
      exact h u (hk1.trans hu)
    have hB := hI1.2.2.2.2.2.2.2.1
    have hn := hB.1
    have h15 := hB.2.1
    have h14 := hI1.2.2.2.2.2.2.1.2.1
    have hno : ¬ ((0 ≤ b ∧ b < s1 0 8) ∧ (0 ≤ g ∧ g < s1 0 6) ∧ 0 ≤ k ∧ k ≤ 20) → Q (-1) s1 := fun z => by
      have hs := hh s1 hI1.self
      unfold hoA at hs
      rw [cif_neg z] at hs
      exact hs
    refine ⟨by omega, M_isIn (by omega) (fun c1 => ⟨fun e => by omega, fun _ => M_isGoer (by omega) (fun c2 => ⟨fun e => by omega, fun _ => M_isIn (by omega) (fun c3 => ⟨fun _ => ?_, fun e => by omega⟩) (fun c3 => ⟨fun e => absurd rfl e, fun _ => hno (fun z => c3 z.2.2)⟩)⟩) (fun c2 => ⟨fun _ => hno (fun z => c2 (by omega)), fun e => absurd rfl e⟩)⟩) (fun c1 => ⟨fun _ => hno (fun z => c1 (by omega)), fun e => absurd rfl e⟩)⟩
    have hb : 0 ≤ b ∧ b < s1 0 8 := by omega
    have hgg : 0 ≤ g ∧ g < s1 0 6 := by omega
    obtain ⟨p1, p2, p3, p4, p5⟩ := hB.2.2.2 b hb.1 hb.2
    refine MI_layPains (by omega) hI1 ⟨hgg, by omega⟩ (Or.inl rfl) (fun s4 hk4 hT4 _ => ?_)
    have key : ∀ s many : Int, ∀ v : kS, 0 ≤ s → s ≤ s1 (124 + 5 * b) 1 → Keep s1 v → TEq (v 177) (tolN s1 g 0 0) → many = sm (fun s => cif (slipV (s1 (125 + 5 * b) s) (trueM s1 (tolN s1 g 0 0) b s) k = 0) 1 0) s.toNat → LX12_holds_52 d kN Q 166 b k many s v := by
      refine up_to (e := s1 (124 + 5 * b) 1) ?_
      intro s ih many v s0 s9 hkv hTv hm
      have hIv := hI1.keep hkv
      have hss := sm_s (f := fun s => cif (slipV (s1 (125 + 5 * b) s) (trueM s1 (tolN s1 g 0 0) b s) k = 0) 1 0) s0
      have hbb := sm_1 (f := fun s => cif (slipV (s1 (125 + 5 * b) s) (trueM s1 (tolN s1 g 0 0) b s) k = 0) 1 0) (n := s.toNat) (fun _ _ _ => cif_b)
      rw [k_toNat s0] at hbb
      refine SX12_holds_52 ⟨o_166, ?_⟩
      rw [ly_166_8 hIv.1, hkv.1.1 173 (by unfold scr; omega), p3]
      refine ⟨a_173, by omega, fun q => ?_, fun q => ?_⟩
      · have hgo2 := hh v hkv
        unfold hoA at hgo2
        rw [cif_pos ⟨hb, hgg, c3⟩] at hgo2
        rw [hm, show s = s1 (124 + 5 * b) 1 by omega]
        exact hgo2
      · have hst : isStg s1 b s := ⟨hb, s0, by omega⟩
        refine M_slipOf (by omega) hIv tolH_ok hTv ((isStg_fr hI1 hkv.1).mpr hst) c3.1 (fun x hkx hox => ?_)
        have ev : slipV (v (125 + 5 * b) s) (trueM v (tolH s1 (landM s1) g 0 0) b s) k = slipV (s1 (125 + 5 * b) s) (trueM s1 (tolN s1 g 0 0) b s) k := by
          rw [trueM_fr hkv.1 (by omega), told_fr hkv.1 (by omega)]
          rfl
        rw [ev]
        refine ⟨fun q2 => ⟨by omega, by omega, ih (by omega) _ x (by omega) (by omega) (hkv.trans hkx) (by rw [hox 177 (by decide)]; exact hTv) ?_⟩, fun q2 => ⟨by omega, by omega, ih (by omega) _ x (by omega) (by omega) (hkv.trans hkx) (by rw [hox 177 (by decide)]; exact hTv) ?_⟩⟩
        · rw [hss, hm, cif_neg q2]
        · rw [hss, hm, cif_pos (Classical.not_not.mp q2)]
    exact key 0 0 s4 (by omega) (by omega) hk4 hT4 rfl
