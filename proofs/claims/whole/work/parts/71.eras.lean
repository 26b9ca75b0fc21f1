/-! eras: changed, bring, era -/
theorem M_isEra {d : Nat} (hd : 1 ≤ d) {σ : kS} {t : Int} {Q : Int → kS → Prop} (h1 : 0 ≤ t ∧ t < σ 166 68 → Q 1 σ) (h0 : ¬ (0 ≤ t ∧ t < σ 166 68) → Q 0 σ) : Ci d MX12_isEra [(2, 166), (0, t)] kN σ Q := by
  obtain ⟨d, rfl⟩ : ∃ e, d = e + 1 := ⟨d - 1, by omega⟩
  exact EX12_isEra fun _ _ => SX12_isEra_0 ⟨fun c => h0 (fun z => by omega), fun c => ⟨o_166, fun c2 => h0 (fun z => by omega), fun c2 => h1 (by omega)⟩⟩
def eraM (σ : kS) (e c w : Int) : Int := σ 205 (480 * e + 120 * w + c)
theorem eraM_fr {σ s : kS} (h : Fr σ s) : eraM s = eraM σ := by
  funext e c w
  unfold eraM
  rw [h.1 205 (by unfold scr; omega)]
theorem cEra.eq {σ : kS} (h : cEra σ) {e : Int} (he : 0 ≤ e ∧ e < σ 0 2) : (∀ c w, 0 ≤ c → c < 120 → 0 ≤ w → w < 4 → told σ (73 + 6 * e) c w = eraM σ e c w) ∧ LandB (eraM σ e) := by
  have q : ∀ c w, told σ (73 + 6 * e) c w = σ (75 + 6 * e + w) c := fun c w => by
    unfold told
    rw [show 73 + 6 * e + 2 + w = 75 + 6 * e + w by omega]
  refine ⟨fun c w c0 c1 w0 w1 => ?_, fun c w c0 c1 w0 w1 => ?_⟩
  · rw [q]
    exact (h.2.2 e c w he.1 he.2 c0 c1 w0 w1).1
  · have := h.2.2 e c w he.1 he.2 c0 c1 w0 w1
    rw [this.1] at this
    exact this.2
theorem unlN_cong {f g f' g' : Int → Int → Int} (h : ∀ c w, 0 ≤ c → c < 120 → 0 ≤ w → w < 4 → f c w = f' c w) (h2 : ∀ c w, 0 ≤ c → c < 120 → 0 ≤ w → w < 4 → g c w = g' c w) : unlN f g = unlN f' g' :=
  sm_cong (fun i i0 i1 => by
    have i1 : i < 120 := by omega
    have q : unl f g i ↔ unl f' g' i := by
      unfold unl
      rw [h i 0 i0 i1 (by decide) (by decide), h i 1 i0 i1 (by decide) (by decide), h i 2 i0 i1 (by decide) (by decide), h i 3 i0 i1 (by decide) (by decide), h2 i 0 i0 i1 (by decide) (by decide), h2 i 1 i0 i1 (by decide) (by decide), h2 i 2 i0 i1 (by decide) (by decide), h2 i 3 i0 i1 (by decide) (by decide)]
    by_cases c : unl f g i
    · rw [if_pos c, if_pos (q.mp c)]
    · rw [if_neg c, if_neg (fun z => c (q.mpr z))])
theorem M_changedOf {d : Nat} (hd : 1 ≤ d) {σ : kS} {e : Int} {Q : Int → kS → Prop} (hL : Lay σ) (he : 0 ≤ e ∧ e < 4) (h : Q (unlN (landM σ) (eraM σ e)) σ) : Ci d MX12_changedOf [(2, 166), (0, e)] kN σ Q := by
  obtain ⟨d, rfl⟩ : ∃ e, d = e + 1 := ⟨d - 1, by omega⟩
  have k167 := kl_167
  have k205 := kl_205
  have key : ∀ c many : Int, 0 ≤ c → c ≤ 120 → many = sm (fun c => if unl (landM σ) (eraM σ e) c then 1 else 0) c.toNat → LX12_changedOf_4 d kN Q 166 e many c σ := by
    refine up_to (e := 120) ?_
    intro c ih many c0 c1 hm
    have hs := sm_s (f := fun c => if unl (landM σ) (eraM σ e) c then 1 else 0) c0
    have hb := sm_1 (f := fun c => if unl (landM σ) (eraM σ e) c then 1 else 0) (n := c.toNat) (fun i _ _ => by split <;> omega)
    rw [k_toNat c0] at hb
    refine SX12_changedOf_4 ⟨fun q => ?_, fun q => ?_⟩
    · rw [show c = 120 by omega] at hm
      rw [hm]
      exact h
    · have key2 : ∀ w u : Int, 0 ≤ w → w ≤ 4 → ((u = 0 ∧ ∀ j, 0 ≤ j → j < w → landM σ c j = eraM σ e c j) ∨ (u = 1 ∧ unl (landM σ) (eraM σ e) c)) → LX12_changedOf_16 d kN Q 166 e many c u w σ := by
        refine up_to (e := 4) ?_
        intro w ih2 u w0 w1 hu
        refine SX12_changedOf_16 ⟨fun q4 => ⟨fun q5 => ⟨by omega, by omega, ih (by omega) _ (by omega) (by omega) ?_⟩, fun q5 => ⟨by omega, by omega, ih (by omega) _ (by omega) (by omega) ?_⟩⟩, fun q4 => ⟨fun q5 => ⟨by omega, ih2 (by omega) 1 (by omega) (by omega) ?_⟩, fun q5 => ?_⟩⟩
        · rcases hu with ⟨_, hu⟩ | ⟨hu, _⟩
          · rw [hs, hm]
            have : ¬ unl (landM σ) (eraM σ e) c := fun z => by
              obtain ⟨j, j0, j1, hj⟩ := unl_iff.mp z
              exact hj (hu j j0 (by omega))
            simp only [if_neg this]
          · omega
        · rcases hu with ⟨hu, _⟩ | ⟨_, hu⟩
          · omega
          · rw [hs, hm]
            simp only [if_pos hu]
        · rcases hu with ⟨hu, _⟩ | ⟨_, hu⟩
          · omega
          · exact Or.inr ⟨rfl, hu⟩
        · rw [ly_166_1 hL, ly_166_65 hL]
          rcases hu with ⟨hu, hj⟩ | ⟨hu, _⟩
          · refine ⟨o_166, by omega, by omega, a_167, by omega, by omega, by omega, by omega, a_205, by omega, fun q6 => ⟨by omega, ih2 (by omega) 0 (by omega) (by omega) (Or.inl ⟨rfl, fun j j0 j1 => ?_⟩)⟩, fun q6 => ⟨by omega, ih2 (by omega) 1 (by omega) (by omega) (Or.inr ⟨rfl, unl_iff.mpr ⟨w, w0, by omega, q6⟩⟩)⟩⟩
            by_cases ej : j = w
            · rw [ej]; exact q6
            · exact hj j j0 (by omega)
          · omega
      exact key2 0 0 (by omega) (by omega) (Or.inl ⟨rfl, fun j j0 j1 => by omega⟩)
  exact EX12_changedOf fun _ _ => SX12_changedOf_0 (key 0 0 (by omega) (by omega) rfl)
def isEr (σ : kS) (e : Int) : Prop := 0 ≤ e ∧ e < σ 0 2
noncomputable def chA (σ : kS) (e : Int) : Int := cif (isEr σ e) (unlN (landM σ) (eraM σ e)) (-1)
theorem chA_fr {σ s : kS} (h : Fr σ s) {e : Int} : chA s e = chA σ e := by
  unfold chA isEr
  rw [landM_fr h, eraM_fr h, h.e0]
theorem X_changedN {σ : kS} (hI : Inv σ) {e : Int} (he : 0 ≤ e ∧ e < σ 0 2) : unlN (told σ 1) (told σ (73 + 6 * e)) = unlN (landM σ) (eraM σ e) :=
  unlN_cong hI.2.2.1.eq.1 (hI.2.2.2.1.eq he).1
theorem O_changed {e : Int} : Op MX11_changed MX12_changed [(0, e)] := by
  refine Op.of (fun σ => chA σ e) (fun σ s _ hk => chA_fr hk.1) (fun d σ Q hd hI h => ?_) (fun d σ Q hd hI h => ?_)
  · obtain ⟨d, rfl⟩ : ∃ e, d = e + 1 := ⟨d - 1, by omega⟩
    have hs := h σ hI.self
    have h2 := hI.2.2.2.1.1
    have k7 := kl_7
    refine EX11_changed fun _ _ => SX11_changed_0 ⟨o_0, X_isEra (by omega) (fun c1 => ⟨fun q => by omega, fun _ => ?_⟩) (fun c1 => ⟨fun _ => ?_, fun q => absurd rfl q⟩)⟩
    · have hga := era_at hI.1 (i := e) (by omega)
      unfold chA at hs
      rw [cif_pos (show isEr σ e from c1), ← X_changedN hI c1] at hs
      rw [ly_0_1 hI.1, hga.1, ly_0_0 hI.1]
      exact ⟨a_7, by omega, o_1, Land_unlikeCells (by omega) hI.1 o_1 hga.2 hs⟩
    · unfold chA at hs
      rw [cif_neg (show ¬ isEr σ e from c1)] at hs
      exact hs
  · obtain ⟨d, rfl⟩ : ∃ e, d = e + 1 := ⟨d - 1, by omega⟩
    have h2 := hI.2.2.2.1.1
    refine EX12_changed fun _ _ => SX12_changed_0 ⟨o_166, fun s1 e1 => ?_⟩
    have hk1 : Keep σ s1 := by rw [e1]; exact hI.thrown
    have hI1 := hI.keep hk1
    have hs := h s1 hk1
    rw [← chA_fr hk1.1] at hs
    have e68 := hI1.2.2.2.1.2.1
    have h21 := hI1.2.2.2.1.1
    unfold chA at hs
    refine M_isEra (by omega) (fun c1 => ⟨fun q => by omega, fun _ => M_changedOf (by omega) hI1.1 (by omega) ?_⟩) (fun c1 => ⟨fun _ => ?_, fun q => absurd rfl q⟩)
    · rw [cif_pos (show isEr s1 e from ⟨c1.1, by omega⟩)] at hs
      exact hs
    · rw [cif_neg (show ¬ isEr s1 e from fun z => c1 ⟨z.1, by have := z.2; omega⟩)] at hs
      exact hs
/-! the copies of the model -/
theorem M_goTo {d : Nat} (hd : 1 ≤ d) {σ : kS} {e : Int} {Q : kS → Prop} (hL : Lay σ) (he : 0 ≤ e ∧ e < 4) (h : ∀ s, off [167] σ s → Lay s → (∀ x, s 167 x = if 0 ≤ x ∧ x < 480 then σ 205 (480 * e + x) else σ 167 x) → Q s) : Cv d MX12_goTo [(2, 166), (0, e)] kN σ Q := by
  obtain ⟨d, rfl⟩ : ∃ e, d = e + 1 := ⟨d - 1, by omega⟩
  have k167 := kl_167
  have k205 := kl_205
  have key : ∀ c : Int, ∀ s : kS, 0 ≤ c → c ≤ 480 → off [167] σ s → Lay s → (∀ x, s 167 x = if 0 ≤ x ∧ x < c then σ 205 (480 * e + x) else σ 167 x) → LX12_goTo_2 d kN Q 166 e c s := by
    refine up_to (e := 480) ?_
    intro c ih s c0 c1 ho hLs hx
    refine SX12_goTo_2 ⟨fun q => ?_, fun q => ?_⟩
    · rw [show c = 480 by omega] at hx
      exact h s ho hLs hx
    · rw [ly_166_65 hLs, ly_166_1 hLs]
      refine ⟨o_166, by omega, by omega, a_205, by omega, a_167, by omega, fun s1 e1 => ⟨by omega, ih (by omega) s1 (by omega) (by omega) (by rw [e1]; exact ho.kst (by decide)) (by rw [e1]; exact hLs.kstA a_167) (fun x => ?_)⟩⟩
      rw [e1, kst_ap, ho 205 (by decide), hx x]
      by_cases ex : x = c
      · rw [if_pos ⟨rfl, ex⟩, if_pos (show 0 ≤ x ∧ x < c + 1 by omega), ex]
      · rw [if_neg (fun z => ex z.2)]
        by_cases cx : 0 ≤ x ∧ x < c
        · rw [if_pos cx, if_pos (show 0 ≤ x ∧ x < c + 1 by omega)]
        · rw [if_neg cx, if_neg (show ¬ (0 ≤ x ∧ x < c + 1) by omega)]
  exact EX12_goTo fun _ _ => SX12_goTo_0 (key 0 σ (by omega) (by omega) off.rfl' hL (fun x => by rw [if_neg (by omega)]))
theorem M_leaveNow {d : Nat} (hd : 1 ≤ d) {σ : kS} {Q : kS → Prop} (hL : Lay σ) (h : ∀ s, off [206] σ s → Lay s → (∀ x, 0 ≤ x → x < 480 → s 206 x = σ 167 x) → Q s) : Cv d MX12_leaveNow [(2, 166)] kN σ Q := by
  obtain ⟨d, rfl⟩ : ∃ e, d = e + 1 := ⟨d - 1, by omega⟩
  have k167 := kl_167
  have k206 := kl_206
  have key : ∀ c : Int, ∀ s : kS, 0 ≤ c → c ≤ 480 → off [206] σ s → Lay s → (∀ x, 0 ≤ x → x < c → s 206 x = σ 167 x) → LX12_leaveNow_2 d kN Q 166 c s := by
    refine up_to (e := 480) ?_
    intro c ih s c0 c1 ho hLs hx
    refine SX12_leaveNow_2 ⟨fun q => ?_, fun q => ?_⟩
    · exact h s ho hLs (fun x x0 x1 => hx x x0 (by omega))
    · rw [ly_166_66 hLs, ly_166_1 hLs]
      refine ⟨o_166, a_167, by omega, a_206, by omega, fun s1 e1 => ⟨by omega, ih (by omega) s1 (by omega) (by omega) (by rw [e1]; exact ho.kst (by decide)) (by rw [e1]; exact hLs.kstA a_206) (fun x x0 x1 => ?_)⟩⟩
      rw [e1, kst_ap, ho 167 (by decide)]
      by_cases ex : x = c
      · rw [if_pos ⟨rfl, ex⟩, ex]
      · rw [if_neg (fun z => ex z.2)]
        exact hx x x0 (by omega)
  exact EX12_leaveNow fun _ => SX12_leaveNow_0 (key 0 σ (by omega) (by omega) off.rfl' hL (fun x _ _ => by omega))
theorem M_comeBack {d : Nat} (hd : 1 ≤ d) {σ : kS} {Q : kS → Prop} (hL : Lay σ) (h : ∀ s, off [167] σ s → Lay s → (∀ x, s 167 x = if 0 ≤ x ∧ x < 480 then σ 206 x else σ 167 x) → Q s) : Cv d MX12_comeBack [(2, 166)] kN σ Q := by
  obtain ⟨d, rfl⟩ : ∃ e, d = e + 1 := ⟨d - 1, by omega⟩
  have k167 := kl_167
  have k206 := kl_206
  have key : ∀ c : Int, ∀ s : kS, 0 ≤ c → c ≤ 480 → off [167] σ s → Lay s → (∀ x, s 167 x = if 0 ≤ x ∧ x < c then σ 206 x else σ 167 x) → LX12_comeBack_2 d kN Q 166 c s := by
    refine up_to (e := 480) ?_
    intro c ih s c0 c1 ho hLs hx
    refine SX12_comeBack_2 ⟨fun q => ?_, fun q => ?_⟩
    · rw [show c = 480 by omega] at hx
      exact h s ho hLs hx
    · rw [ly_166_66 hLs, ly_166_1 hLs]
      refine ⟨o_166, a_206, by omega, a_167, by omega, fun s1 e1 => ⟨by omega, ih (by omega) s1 (by omega) (by omega) (by rw [e1]; exact ho.kst (by decide)) (by rw [e1]; exact hLs.kstA a_167) (fun x => ?_)⟩⟩
      rw [e1, kst_ap, ho 206 (by decide), hx x]
      by_cases ex : x = c
      · rw [if_pos ⟨rfl, ex⟩, if_pos (show 0 ≤ x ∧ x < c + 1 by omega), ex]
      · rw [if_neg (fun z => ex z.2)]
        by_cases cx : 0 ≤ x ∧ x < c
        · rw [if_pos cx, if_pos (show 0 ≤ x ∧ x < c + 1 by omega)]
        · rw [if_neg cx, if_neg (show ¬ (0 ≤ x ∧ x < c + 1) by omega)]
  exact EX12_comeBack fun _ => SX12_comeBack_0 (key 0 σ (by omega) (by omega) off.rfl' hL (fun x => by rw [if_neg (by omega)]))
/-! bring -/
theorem O_bring {e : Int} : Op MX11_bring MX12_bring [(0, e)] := by
  intro d σ hd hI
  obtain ⟨d, rfl⟩ : ∃ e, d = e + 1 := ⟨d - 1, by omega⟩
  have hE := hI.2.2.2.1
  have h2 := hE.1
  have k7 := kl_7
  refine EX11_bring fun _ _ => SX11_bring_0 ⟨o_0, X_isEra (by omega) (fun c1 => ⟨fun _ => ?_, fun q => by omega⟩) (fun c1 => ⟨fun q => absurd rfl q, fun _ => ?_⟩)⟩
  · have hga := era_at hI.1 (i := e) (by omega)
    rw [ly_0_1 hI.1, hga.1, ly_0_0 hI.1]
    refine ⟨a_7, by omega, o_1, Land_unlikeCells (by omega) hI.1 o_1 hga.2 ?_⟩
    rw [ly_0_1 hI.1, hga.1, ly_0_0 hI.1]
    refine ⟨a_7, by omega, o_1, Land_take (by omega) hI.1 o_1 hga.2 (by omega) (fun p op hLp ht => ?_)⟩
    have q166 : p 166 = σ 166 := op 166 (by decide)
    refine EX12_bring fun _ _ => SX12_bring_0 ⟨o_166, fun s1 e1 => ?_⟩
    have eL1 : Lay s1 := by rw [e1]; exact hLp.kstO 0 o_166 (by decide)
    have e68 : s1 166 68 = σ 0 2 := by rw [e1, kst_kj (by decide), q166]; exact hE.2.1
    refine M_isEra (by omega) (fun _ => ⟨fun _ => M_changedOf (by omega) eL1 (by omega) (M_goTo (by omega) eL1 (by omega) (fun s os hLs hx => ?_)), fun q => by omega⟩) (fun c2 => absurd (by omega) c2)
    have e167 : s1 167 = σ 167 := by rw [e1, kst_k (by decide), op 167 (by decide)]
    have e205 : s1 205 = σ 205 := by rw [e1, kst_k (by decide), op 205 (by decide)]
    have oo : off [3, 4, 5, 6, 166, 167] σ s := fun k hk => by
      simp only [List.mem_cons, List.not_mem_nil, or_false] at hk
      rw [os k (by simp only [List.mem_cons, List.not_mem_nil, or_false]; omega), e1, kst_k (by omega), op k (by unfold landCells; simp only [List.mem_cons, List.not_mem_nil, or_false]; omega)]
    have ho : FrB [3, 4, 5, 6, 167] [] σ s := by
      refine FrB.off (s := s1) ?_ os (fun k hk => by simp only [List.mem_cons, List.not_mem_nil, or_false] at hk ⊢; omega)
      rw [e1]
      refine FrB.kstM (FrB.rf.off op (fun k hk => ?_)) (Or.inr (by unfold esf; omega))
      unfold landCells at hk
      simp only [List.mem_cons, List.not_mem_nil, or_false] at hk ⊢
      omega
    refine ⟨?_, hLs, hI.2.1.offU (fun k _ hk => oo k hk) (by rw [oo 0 (by decide)]) (by decide), Ess.upd ho hI.2.2 (c1 := fun _ => ?_)⟩
    · rw [X_changedN hI c1]
      have f1 : landM s1 = landM σ := by
        funext c w
        unfold landM
        rw [e167]
      have f2 : eraM s1 = eraM σ := by
        funext x c w
        unfold eraM
        rw [e205]
      rw [f1, f2]
    · intro c w w0 w1 w2 w3
      have t1 := ht c w w0 w1 w2 w3
      have t2 : s (3 + w) c = told p 1 c w := by
        unfold told
        rw [os (3 + w) (by simp only [List.mem_cons, List.not_mem_nil, or_false]; omega), e1, kst_k (by omega), show (1 : Int) + 2 + w = 3 + w by omega]
      rw [t2, t1, hx, if_pos (by omega), e205, (hE.eq c1).1 c w w0 w1 w2 w3]
      have hb := (hE.eq c1).2 c w w0 w1 w2 w3
      refine ⟨?_, hb⟩
      unfold eraM
      rw [show 480 * e + 120 * w + c = 480 * e + (120 * w + c) by omega]
  · refine EX12_bring fun _ _ => SX12_bring_0 ⟨o_166, fun s1 e1 => ?_⟩
    have hk1 : Keep σ s1 := by rw [e1]; exact hI.thrown
    have e68 : s1 166 68 = σ 0 2 := by rw [e1, kst_kj (by decide)]; exact hE.2.1
    exact M_isEra (by omega) (fun c2 => absurd (by omega) c1) (fun _ => ⟨fun q => absurd rfl q, fun _ => ⟨rfl, hI.keep hk1⟩⟩)
/-! era -/
theorem O_era : Op MX11_era MX12_era [] := by
  intro d σ hd hI
  obtain ⟨d, rfl⟩ : ∃ e, d = e + 1 := ⟨d - 1, by omega⟩
  have hE := hI.2.2.2.1
  have h2 := hE.1
  have h68 := hE.2.1
  have k7 := kl_7
  have k167 := kl_167
  have k205 := kl_205
  refine EX11_era fun _ => SX11_era_0 ⟨o_0, fun c1 => ?_, fun c1 => ?_⟩
  · have hga := era_at hI.1 (i := σ 0 2) (by omega)
    rw [ly_0_1 hI.1, hga.1, ly_0_0 hI.1]
    refine ⟨a_7, by omega, hga.2, Land_take (by omega) hI.1 hga.2 o_1 (by omega) (fun p op hLp ht => ?_)⟩
    have hop : ∀ k, ¬ (75 + 6 * σ 0 2 ≤ k ∧ k ≤ 78 + 6 * σ 0 2) → p k = σ k := fun k hk => op k (by unfold landCells; simp only [List.mem_cons, List.not_mem_nil, or_false]; omega)
    have p0 : p 0 = σ 0 := hop 0 (by omega)
    have p166 : p 166 = σ 166 := hop 166 (by omega)
    have p167 : p 167 = σ 167 := hop 167 (by omega)
    have p205 : p 205 = σ 205 := hop 205 (by omega)
    rw [p0]
    refine ⟨by omega, fun q eq => ?_⟩
    have q02 : q 0 2 = σ 0 2 + 1 := by rw [eq, kst_eq]
    rw [q02]
    refine ⟨by omega, EX12_era fun _ => SX12_era_0 ⟨o_166, fun s1 e1 => ?_⟩⟩
    have eL1 : Lay s1 := by
      rw [e1, eq]
      exact (hLp.kstO 2 o_0 (by decide)).kstO 0 o_166 (by decide)
    have e68 : s1 166 68 = σ 0 2 := by rw [e1, kst_kj (by decide), eq, kst_k (by decide), p166]; exact h68
    have e167 : s1 167 = σ 167 := by rw [e1, kst_k (by decide), eq, kst_k (by decide), p167]
    have e205 : s1 205 = σ 205 := by rw [e1, kst_k (by decide), eq, kst_k (by decide), p205]
    refine ⟨fun _ => ?_, fun c2 => absurd (by omega) c2⟩
    have key : ∀ c : Int, ∀ s : kS, 0 ≤ c → c ≤ 480 → off [205] s1 s → Lay s → (∀ x, s 205 x = if 480 * σ 0 2 ≤ x ∧ x < 480 * σ 0 2 + c then σ 167 (x - 480 * σ 0 2) else σ 205 x) → LX12_era_17 d kN (fun b s' => σ 0 2 + 1 - 1 = b ∧ Inv s') 166 c s := by
      refine up_to (e := 480) ?_
      intro c ih s c0 c480 ho hLs hx
      have f68 : s 166 68 = σ 0 2 := by rw [ho 166 (by decide), e68]
      refine SX12_era_17 ⟨fun z => ⟨o_166, by omega, fun u eu => ?_⟩, fun z => ?_⟩
      · rw [show c = 480 by omega] at hx
        have u68 : u 166 68 = σ 0 2 + 1 := by rw [eu, kst_eq, f68]
        rw [u68]
        refine ⟨by omega, by omega, ?_⟩
        have huk : ∀ k, k ≠ 0 → k ≠ 166 → k ≠ 205 → u k = p k := fun k k0 k1 k2 => by
          rw [eu, kst_k k1, ho k (by simp only [List.mem_cons, List.not_mem_nil, or_false]; exact k2), e1, kst_k k1, eq, kst_k k0]
        have u205 : u 205 = s 205 := by rw [eu, kst_k (by decide)]
        have u02 : u 0 2 = σ 0 2 + 1 := by rw [eu, kst_k (by decide), ho 0 (by decide), e1, kst_k (by decide), q02]
        have u0j : ∀ j, j ≠ 2 → u 0 j = σ 0 j := fun j hj => by
          rw [eu, kst_k (by decide), ho 0 (by decide), e1, kst_k (by decide), eq, kst_kj hj, p0]
        have eLu : Lay u := by rw [eu]; exact hLs.kstO 68 o_166 (by decide)
        have oo : ∀ k, k ≠ 0 → k ∉ [75, 76, 77, 78, 79, 80, 81, 82, 83, 84, 85, 86, 87, 88, 89, 90, 91, 92, 93, 94, 95, 96, 166, 205] → u k = σ k := fun k k0 hk => by
          simp only [List.mem_cons, List.not_mem_nil, or_false] at hk
          rw [huk k k0 (by omega) (by omega)]
          exact hop k (by omega)
        have hof : FrB [75, 76, 77, 78, 79, 80, 81, 82, 83, 84, 85, 86, 87, 88, 89, 90, 91, 92, 93, 94, 95, 96, 205] [68, -2] σ u := by
          refine ⟨fun k hs k0 hk => oo k k0 ?_, fun j hj hn => ?_, fun j hj hn => ?_⟩
          · intro hk2
            simp only [List.mem_cons, List.not_mem_nil, or_false] at hk hk2
            have : k = 166 := by omega
            exact hs (by rw [this]; unfold scr; omega)
          · simp only [List.mem_cons, List.not_mem_nil, or_false] at hn
            exact u0j j (by omega)
          · simp only [List.mem_cons, List.not_mem_nil, or_false] at hn
            unfold esf at hj
            rw [eu, kst_kj (by omega), ho 166 (by decide), e1, kst_kj (by omega), eq, kst_k (by decide), p166]
        refine ⟨eLu, hI.2.1.offU oo (u0j 6 (by decide)) (by decide), Ess.upd hof hI.2.2 (c2 := fun _ => ?_)⟩
        unfold cEra
        rw [u02]
        refine ⟨by omega, u68, fun f c w f0 f1 w0 w1 w2 w3 => ?_⟩
        rw [u205, hx, huk _ (by omega) (by omega) (by omega)]
        by_cases cf : f = σ 0 2
        · have t1 := ht c w w0 w1 w2 w3
          have t2 : told p (73 + 6 * σ 0 2) c w = p (75 + 6 * f + w) c := by
            unfold told
            rw [show 73 + 6 * σ 0 2 + 2 + w = 75 + 6 * f + w by omega]
          rw [if_pos (by omega), ← t2, t1, hI.2.2.1.eq.1 c w w0 w1 w2 w3]
          have hb := hI.2.2.1.eq.2 c w w0 w1 w2 w3
          refine ⟨?_, hb⟩
          unfold landM
          rw [show 480 * f + 120 * w + c - 480 * σ 0 2 = 120 * w + c by omega]
        · rw [if_neg (by omega), hop _ (by omega)]
          exact hE.2.2 f c w f0 (by omega) w0 w1 w2 w3
      · rw [f68, ly_166_1 hLs, ly_166_65 hLs]
        refine ⟨o_166, by omega, by omega, a_167, by omega, a_205, by omega, fun u eu => ⟨by omega, ih (by omega) u (by omega) (by omega) (by rw [eu]; exact ho.kst (by decide)) (by rw [eu]; exact hLs.kstA a_205) (fun x => ?_)⟩⟩
        rw [eu, kst_ap, ho 167 (by decide), e167, hx x]
        by_cases ex : x = 480 * σ 0 2 + c
        · rw [if_pos ⟨rfl, ex⟩, if_pos (by omega), ex, show 480 * σ 0 2 + c - 480 * σ 0 2 = c by omega]
        · rw [if_neg (fun z => ex z.2)]
          by_cases cx : 480 * σ 0 2 ≤ x ∧ x < 480 * σ 0 2 + c
          · rw [if_pos cx, if_pos (by omega)]
          · rw [if_neg cx, if_neg (by omega)]
    exact key 0 s1 (by omega) (by omega) off.rfl' eL1 (fun x => by rw [if_neg (by omega), e205])
  · refine EX12_era fun _ => SX12_era_0 ⟨o_166, fun s1 e1 => ?_⟩
    have hk1 : Keep σ s1 := by rw [e1]; exact hI.thrown
    have e68 : s1 166 68 = σ 0 2 := by rw [e1, kst_kj (by decide)]; exact h68
    exact ⟨fun c2 => absurd (by omega) c2, fun _ => ⟨rfl, hI.keep hk1⟩⟩
