/-! operations: then, lasting -/
theorem GM.cong {σ s : kS} {g : Int} (h0 : s 170 = σ 170) (h1 : s 171 = σ 171) (h : GM σ g) : GM s g := by
  have e1 : tb s g = tb σ g := by
    unfold tb mby
    rw [h0]
  have e2 : tn s g = tn σ g := by
    unfold tn
    rw [h1]
  unfold GM
  rw [e1, e2, h0]
  exact h
theorem tolH_cg {σ s : kS} (h0 : s 170 = σ 170) (h1 : s 171 = σ 171) {H : Int → Int → Int} {g load wet : Int} : tolH s H g load wet = tolH σ H g load wet := by
  unfold tolH
  have e1 : tb s g = tb σ g := by
    unfold tb mby
    rw [h0]
  have e2 : tn s g = tn σ g := by
    unfold tn
    rw [h1]
  rw [e1, e2]
theorem tolH_fr {σ s : kS} (h : Fr σ s) {H : Int → Int → Int} {g load wet : Int} : tolH s H g load wet = tolH σ H g load wet :=
  tolH_cg (h.1 170 (by unfold scr; omega)) (h.1 171 (by unfold scr; omega))
theorem M_layWayH {d : Nat} (hd : 38 ≤ d) {σ : kS} {H : Int → Int → Int} {g load wet a b : Int} {Q : kS → Prop} (hL : Lay σ) (hg : 0 ≤ g ∧ g < 6) (hG : GM σ g) (hw : wet = 0 ∨ wet = 1) (hH : ∀ c w, 0 ≤ c → c < 120 → 0 ≤ w → w < 4 → landM σ c w = H c w) (hB : LandB H) (ha : isCel a) (hb : isCel b) (h : ∀ s, MWent σ s (tolH σ H g load wet) a b → Q s) : Cv d MX12_layWay [(2, 166), (0, g), (0, load), (0, wet), (0, a), (0, b)] kN σ Q := by
  obtain ⟨d, rfl⟩ : ∃ e, d = e + 1 := ⟨d - 1, by omega⟩
  refine EX12_layWay fun _ _ _ _ _ _ => SX12_layWay_0 ⟨o_166, M_layPains (by omega) hL hg hG hw (hB.cong hH) (fun s1 hs1 => M_goT (by omega) hs1.2.2.1 ha hb tolH_ok (TEq.trans' hs1.2.2.2 (tolT_land hH)) (fun s2 hs2 h30 ho2 => h s2 ?_))⟩
  obtain ⟨q1, q2, q3, q4, q5, q6, q7, q8, q9⟩ := hs2
  exact ⟨(hs1.1.mono (by simp)).trans q1, fun j j1 j2 j3 j4 => (h30 j j4).trans (hs1.2.1 j j1 j2 j3), q3, q4, q5, q6, q7, q8, q9⟩
noncomputable def thenA (σ : kS) (e g load wet a b i : Int) : Int := cif (isEr σ e ∧ isWy σ g load a b) (cif (i = -1) (sumP (tolH σ (eraM σ e) g load wet) b a / 1000) (wayAns (wayP (tolH σ (eraM σ e) g load wet) a b) i)) (-1)
theorem thenA_fr {σ s : kS} (h : Fr σ s) {e g load wet a b i : Int} : thenA s e g load wet a b i = thenA σ e g load wet a b i := by
  unfold thenA isEr
  rw [isWy_fr h, eraM_fr h, tolH_fr h, h.e0]
theorem O_then {e g load wet a b i : Int} (hw : wet = 0 ∨ wet = 1) : Op MX11_then MX12_then [(0, e), (0, g), (0, load), (0, wet), (0, a), (0, b), (0, i)] := by
  refine Op.of (fun σ => thenA σ e g load wet a b i) (fun σ s _ hk => thenA_fr hk.1) (fun d σ Q hd hI hq => ?_) (fun d σ Q hd hI hq => ?_)
  · obtain ⟨d, rfl⟩ : ∃ e, d = e + 1 := ⟨d - 1, by omega⟩
    have k7 := kl_7
    have h2 := hI.2.2.2.1.1
    have hno : ¬ (isEr σ e ∧ isWy σ g load a b) → Q (-1) σ := fun z => by
      have := hq σ hI.self
      unfold thenA at this
      rw [cif_neg z] at this
      exact this
    refine EX11_then fun _ _ _ _ _ _ _ _ => SX11_then_0 ⟨o_0, X_isEra (by omega) (fun c1 => ⟨fun q => by omega, fun _ => ?_⟩) (fun c1 => ⟨fun _ => hno (fun z => c1 z.1), fun q => absurd rfl q⟩)⟩
    have hga := era_at hI.1 (i := e) (by omega)
    have hE := hI.2.2.2.1.eq c1
    rw [ly_0_1 hI.1, hga.1]
    refine ⟨a_7, by omega, X_goes (by omega) hI hw hga.2 hE.1 hE.2 (fun cw s hs => ⟨fun _ => ?_, fun q => by omega⟩) (fun cw => ⟨fun q => absurd rfl q, fun _ => hno (fun z => cw z.2)⟩)⟩
    have hLs := hs.1.2.1
    have hr := hs.2.1.1
    have hsz := hr.1.2
    have hgo := hq s hs.1
    unfold thenA at hgo
    rw [cif_pos ⟨c1, cw⟩] at hgo
    rw [ly_0_14 hLs, ly_26_13 hLs]
    refine ⟨fun ci => ⟨o_26, o_36, Row_at (by omega) hLs hr.1 ?_⟩, fun ci => ⟨o_26, ?_⟩⟩
    · rw [cif_neg ci, ← hs.2.2.2.1, wayAns_row hsz.1 ci] at hgo
      exact hgo
    · rw [cif_pos (Classical.not_not.mp ci)] at hgo
      have hz := hs.2.2.2.2.1 a cw.2.1.1 cw.2.1.2
      rw [← hz.1] at hgo
      exact Ways_least (by omega) hLs cw.2.1 hz.2.1 hgo
  · obtain ⟨d, rfl⟩ : ∃ e, d = e + 1 := ⟨d - 1, by omega⟩
    refine EX12_then fun _ _ _ _ _ _ _ _ => SX12_then_0 ⟨o_166, fun s1 e1 => ?_⟩
    have hk1 : Keep σ s1 := by rw [e1]; exact hI.thrown
    have hI1 := hI.keep hk1
    have hq1 : ∀ s, Keep s1 s → Q (thenA s1 e g load wet a b i) s := fun s hs => by
      have := hq s (hk1.trans hs)
      rw [thenA_fr hk1.1]
      exact this
    have hE1 := hI1.2.2.2.1
    have h68 := hE1.2.1
    have h2 := hE1.1
    have hno : ¬ (isEr s1 e ∧ isWy s1 g load a b) → Q (-1) s1 := fun z => by
      have := hq1 s1 hI1.self
      unfold thenA at this
      rw [cif_neg z] at this
      exact this
    refine M_isEra (by omega) (fun c1 => ⟨fun q => by omega, fun _ => MI_isWay (by omega) hI1 (fun cw => ⟨fun _ => ?_, fun q => by omega⟩) (fun cw => ⟨fun q => absurd rfl q, fun _ => hno (fun z => cw z.2)⟩)⟩) (fun c1 => ⟨fun _ => hno (fun z => c1 ⟨z.1.1, by have := z.1.2; omega⟩), fun q => absurd rfl q⟩)
    have c1' : 0 ≤ e ∧ e < s1 0 2 := by omega
    have hg6 := hI1.2.2.2.2.2.2.1.1
    refine M_leaveNow (by omega) hI1.1 (fun s4 ho4 hL4 hx4 => M_goTo (by omega) hL4 (by omega) (fun s5 ho5 hL5 hx5 => ?_))
    have f170 : s5 170 = s1 170 := by rw [ho5 170 (by decide), ho4 170 (by decide)]
    have f171 : s5 171 = s1 171 := by rw [ho5 171 (by decide), ho4 171 (by decide)]
    have fl : ∀ c w, 0 ≤ c → c < 120 → 0 ≤ w → w < 4 → landM s5 c w = eraM s1 e c w := fun c w w0 w1 w2 w3 => by
      unfold landM eraM
      rw [hx5, if_pos (by omega), ho4 205 (by decide), show 480 * e + (120 * w + c) = 480 * e + 120 * w + c by omega]
    have hB := (hE1.eq c1').2
    refine M_layWayH (by omega) hL5 ⟨cw.1.1.1, by have := cw.1.1.2; omega⟩ ((hI1.2.2.2.2.2.2.1.gm cw.1.1).cong f170 f171) hw fl hB cw.2.1 cw.2.2 (fun s6 hs6 => M_comeBack (by omega) hs6.2.2.1 (fun s7 ho7 hL7 hx7 => ?_))
    rw [tolH_cg f170 f171] at hs6
    have e167 : s7 167 = s1 167 := by
      funext x
      rw [hx7, hs6.1 206 (by decide), hs6.1 167 (by decide), hx5, ho5 206 (by decide), ho4 167 (by decide)]
      by_cases cx : 0 ≤ x ∧ x < 480
      · rw [if_pos cx, hx4 x cx.1 cx.2]
      · rw [if_neg cx, if_neg cx]
    have oo : off [166, 172, 177, 178, 180, 206] s1 s7 := fun k hk => by
      by_cases k167 : k = 167
      · rw [k167, e167]
      · simp only [List.mem_cons, List.not_mem_nil, or_false] at hk
        rw [ho7 k (by simp only [List.mem_cons, List.not_mem_nil, or_false]; omega), hs6.1 k (by simp only [List.mem_cons, List.not_mem_nil, or_false]; omega), ho5 k (by simp only [List.mem_cons, List.not_mem_nil, or_false]; omega), ho4 k (by simp only [List.mem_cons, List.not_mem_nil, or_false]; omega)]
    have hk7 : Keep s1 s7 := M_keep hI1 oo hL7 (by decide) (fun j hj => by
      unfold esf at hj
      rw [ho7 166 (by decide), hs6.2.1 j (by omega) (by omega) (by omega) (by omega), ho5 166 (by decide), ho4 166 (by decide)])
    have hgo := hq1 s7 hk7
    unfold thenA at hgo
    rw [cif_pos ⟨c1', cw⟩] at hgo
    have f166 : s7 166 = s6 166 := ho7 166 (by decide)
    have f180 : s7 180 = s6 180 := ho7 180 (by decide)
    have f178 : s7 178 = s6 178 := ho7 178 (by decide)
    have k178 := kl_178
    have k180 := kl_180
    have hn := hs6.2.2.2.1
    have hca := cw.2.1
    unfold isCel at hca
    have hz := hs6.2.2.2.2.2.2.2.1 a hca.1 hca.2
    rw [ly_166_27 hL7, f166, f178]
    refine ⟨fun ci => ⟨by omega, M_isIn (by omega) (fun c2 => ⟨fun q => by omega, fun _ => ?_⟩) (fun c2 => ⟨fun _ => ?_, fun q => absurd rfl q⟩)⟩, fun ci => ⟨a_178, by omega, hz.2.1, ?_⟩⟩
    · rw [cif_neg ci, ← hs6.2.2.2.2.2.2.1] at hgo
      have hlen : ((seg (s6 180) 0 (s6 166 30)).length : Int) = s6 166 30 := by rw [seg_len]; omega
      unfold wayAns at hgo
      rw [hlen, cif_neg ci, cif_pos (show 0 ≤ i ∧ i < s6 166 30 by omega), seg_getD (by omega)] at hgo
      rw [ly_166_29 hL7, f180]
      exact ⟨a_180, by omega, hgo⟩
    · rw [cif_neg ci, ← hs6.2.2.2.2.2.2.1] at hgo
      have hlen : ((seg (s6 180) 0 (s6 166 30)).length : Int) = s6 166 30 := by rw [seg_len]; omega
      unfold wayAns at hgo
      rw [hlen, cif_neg ci, cif_neg (show ¬ (0 ≤ i ∧ i < s6 166 30) by omega)] at hgo
      exact hgo
    · rw [cif_pos (Classical.not_not.mp ci)] at hgo
      rw [hz.1]
      exact hgo
