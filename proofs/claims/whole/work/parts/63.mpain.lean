/-! the model: painOf, layPains, layWay -/
def landM (σ : kS) (c w : Int) : Int := σ 167 (120 * w + c)
def GM (σ : kS) (g : Int) : Prop := (0 ≤ tn σ g ∧ tn σ g ≤ 120) ∧ (∀ i, 0 ≤ i → i < tn σ g → (-128 ≤ σ 170 (120 * g + i) ∧ σ 170 (120 * g + i) ≤ 127) ∧ σ 170 (120 * g + i) ≠ 0) ∧ ∃ x, gText (tb σ g) (tn σ g) = .inr x
theorem cGoer.gm {σ : kS} (h : cGoer σ) {g : Int} (hg : 0 ≤ g ∧ g < σ 0 6) : GM σ g := by
  have h9 := h.2.2.1 g hg.1 hg.2
  obtain ⟨pE, e⟩ := h9.2.2.2.1
  exact ⟨h9.2.1, h9.2.2.1, _, e⟩
theorem M_painOf {d : Nat} (hd : 36 ≤ d) {σ : kS} {g load wet c k : Int} {Q : Int → kS → Prop} (hL : Lay σ) (hg : 0 ≤ g ∧ g < 6) (hG : GM σ g) (hw : wet = 0 ∨ wet = 1) (hH : LandB (landM σ)) (hn : stp c k ≠ -1) (h : ∀ s, off [166, 172] σ s → (∀ j, j ≠ 12 → ¬ (16 ≤ j ∧ j ≤ 22) → j ≠ 25 → s 166 j = σ 166 j) → Lay s → Q (pnP (tb σ g) (tn σ g) (landM σ) load wet c k) s) : Ci d MX12_painOf [(2, 166), (0, g), (0, load), (0, wet), (0, c), (0, k)] kN σ Q := by
  obtain ⟨d, rfl⟩ : ∃ e, d = e + 1 := ⟨d - 1, by omega⟩
  have kl167 := kl_167
  have kl172 := kl_172
  have kl171 := kl_171
  have kl170 := kl_170
  have hs := stp_cell hn
  have b1 := hH.at hs.1
  have b2 := hH.at hs.2.2.1
  have m0 : ∀ x, σ 167 x = landM σ x 0 := fun x => by unfold landM; rw [show 120 * 0 + x = x by omega]
  have m1 : ∀ x, σ 167 (120 + x) = landM σ x 1 := fun x => by unfold landM; rw [show 120 * 1 + x = 120 + x by omega]
  have m2 : ∀ x, σ 167 (240 + x) = landM σ x 2 := fun x => by unfold landM; rw [show 120 * 2 + x = 240 + x by omega]
  have m3 : ∀ x, σ 167 (360 + x) = landM σ x 3 := fun x => by unfold landM; rw [show 120 * 3 + x = 360 + x by omega]
  refine EX12_painOf fun _ _ _ _ _ _ => SX12_painOf_0 (M_step (by omega) hs.1 hs.2.1 ⟨o_166, ?_⟩)
  rw [ly_166_1 hL, m0, m0]
  refine ⟨a_167, by omega, by omega, by omega, J_max (by omega) ?_⟩
  rw [ly_166_7 hL]
  refine ⟨a_172, by omega, fun s3 e3 => ⟨by omega, J_max (by omega) ?_⟩⟩
  have l3 : s3 166 = σ 166 ∧ s3 167 = σ 167 := ⟨by rw [e3, kst_k (by decide)], by rw [e3, kst_k (by decide)]⟩
  rw [l3.1, ly_166_7 hL]
  refine ⟨a_172, by omega, fun s5 e5 => ?_⟩
  have l5 : s5 166 = σ 166 ∧ s5 167 = σ 167 := ⟨by rw [e5, kst_k (by decide), l3.1], by rw [e5, kst_k (by decide), l3.2]⟩
  rw [l5.1, ly_166_1 hL, ly_166_7 hL, l5.2, m1]
  refine ⟨by omega, a_167, by omega, a_172, by omega, fun s6 e6 => ?_⟩
  have l6 : s6 166 = σ 166 ∧ s6 167 = σ 167 := ⟨by rw [e6, kst_k (by decide), l5.1], by rw [e6, kst_k (by decide), l5.2]⟩
  rw [l6.1, ly_166_1 hL, ly_166_7 hL, l6.2, m2]
  refine ⟨by omega, a_167, by omega, a_172, by omega, fun s7 e7 => ?_⟩
  have l7 : s7 166 = σ 166 ∧ s7 167 = σ 167 := ⟨by rw [e7, kst_k (by decide), l6.1], by rw [e7, kst_k (by decide), l6.2]⟩
  rw [l7.1, ly_166_1 hL, ly_166_7 hL, l7.2, m3]
  refine ⟨by omega, a_167, by omega, a_172, by omega, fun s8 e8 => ?_⟩
  have l8 : s8 166 = σ 166 := by rw [e8, kst_k (by decide), l7.1]
  rw [l8, ly_166_7 hL]
  refine wet_br (fun v => kst s8 172 115 v) hw a_172 (by omega) (fun s9 e9 => ?_)
  have e9 : s9 = kst s8 172 115 wet := e9
  have l9 : s9 166 = σ 166 := by rw [e9, kst_k (by decide), l8]
  rw [l9, ly_166_7 hL]
  refine ⟨a_172, by omega, fun s10 e10 => ?_⟩
  have l10 : s10 166 = σ 166 := by rw [e10, kst_k (by decide), l9]
  rw [l10, ly_166_7 hL]
  refine ⟨hs.2.1.1, a_172, by omega, fun s11 e11 => ?_⟩
  have l11 : s11 166 = σ 166 := by rw [e11, kst_k (by decide), l10]
  have ho11 : off [172] σ s11 := by
    rw [e11, e10, e9, e8, e7, e6, e5, e3]
    exact ((((((((off.rfl').kst (by decide)).kst (by decide)).kst (by decide)).kst (by decide)).kst (by decide)).kst (by decide)).kst (by decide)).kst (by decide)
  have hL11 : Lay s11 := by
    rw [e11, e10, e9, e8, e7, e6, e5, e3]
    exact (((((((hL.kstA a_172).kstA a_172).kstA a_172).kstA a_172).kstA a_172).kstA a_172).kstA a_172).kstA a_172
  have n172 : ∀ x, x ≠ 172 → s11 x = σ x := fun x hx => ho11 x (by simpa using hx)
  rw [l11, ly_166_5 hL, ly_166_6 hL, n172 171 (by decide)]
  have eb : mby s11 170 (120 * g) = tb σ g := by
    unfold tb mby
    rw [n172 170 (by decide)]
  have hlet : ∀ j, 0 ≤ j → j ≤ 7 → mL s11 j = pL (landM σ) load wet c k j := by
    intro j j0 j7
    show s11 172 (gAsc j) = _
    rw [e11, e10, e9, e8, e7, e6, e5, e3]
    unfold pL
    rcases (show j = 0 ∨ j = 1 ∨ j = 2 ∨ j = 3 ∨ j = 4 ∨ j = 5 ∨ j = 6 ∨ j = 7 by omega) with rfl | rfl | rfl | rfl | rfl | rfl | rfl | rfl
    · rw [show gAsc 0 = 117 by decide, kst_kj (by decide), kst_kj (by decide), kst_kj (by decide), kst_kj (by decide), kst_kj (by decide), kst_kj (by decide), kst_kj (by decide), kst_eq]
      rfl
    · rw [show gAsc 1 = 100 by decide, kst_kj (by decide), kst_kj (by decide), kst_kj (by decide), kst_kj (by decide), kst_kj (by decide), kst_kj (by decide), kst_eq]
      rfl
    · rw [show gAsc 2 = 119 by decide, kst_kj (by decide), kst_kj (by decide), kst_kj (by decide), kst_kj (by decide), kst_kj (by decide), kst_eq]
      rfl
    · rw [show gAsc 3 = 102 by decide, kst_kj (by decide), kst_kj (by decide), kst_kj (by decide), kst_kj (by decide), kst_eq]
      rfl
    · rw [show gAsc 4 = 109 by decide, kst_kj (by decide), kst_kj (by decide), kst_kj (by decide), kst_eq]
      rfl
    · rw [show gAsc 5 = 115 by decide, kst_kj (by decide), kst_kj (by decide), kst_eq]
      rfl
    · rw [show gAsc 6 = 103 by decide, kst_kj (by decide), kst_eq]
      rfl
    · rw [show gAsc 7 = 116 by decide, kst_eq]
      rfl
  obtain ⟨g1, g2, x, g3⟩ := hG
  have g1 : 0 ≤ σ 171 g ∧ σ 171 g ≤ 120 := g1
  refine ⟨by omega, a_171, by omega, M_goThrough (by omega) hL11 a_170 (by omega) (by omega) (fun i i0 i1 => ?_) (fun s12 y hy hs12 h19 h22 => ?_) (fun s12 pf hy => ?_)⟩
  · rw [n172 170 (by decide)]
    exact g2 i i0 i1
  · refine J_min (by omega) (J_max (by omega) ?_)
    have ex : max 1 (min 10000 (s12 166 22)) = pnP (tb σ g) (tn σ g) (landM σ) load wet c k := by
      rw [h22, eb, gWorth_cong hlet]
      rfl
    rw [ex]
    refine h s12 ((ho11.mono (by simp)).trans (hs12.1.mono (by simp))) (fun j j1 j2 j3 => ?_) hs12.2.2
    rw [hs12.2.1 j j1 j2 j3, l11]
  · rw [eb] at hy
    have : gText (tb σ g) (σ 171 g) = .inr x := g3
    rw [this] at hy
    cases hy
/-- what layPains leaves -/
def MPl (σ s : kS) (g load wet : Int) : Prop := off [166, 172, 177] σ s ∧ (∀ j, j ≠ 12 → ¬ (16 ≤ j ∧ j ≤ 22) → j ≠ 25 → s 166 j = σ 166 j) ∧ Lay s ∧ TEq (s 177) (tolT (tb σ g) (tn σ g) (landM σ) load wet)
theorem M_layPains {d : Nat} (hd : 37 ≤ d) {σ : kS} {g load wet : Int} {Q : kS → Prop} (hL : Lay σ) (hg : 0 ≤ g ∧ g < 6) (hG : GM σ g) (hw : wet = 0 ∨ wet = 1) (hH : LandB (landM σ)) (h : ∀ s, MPl σ s g load wet → Q s) : Cv d MX12_layPains [(2, 166), (0, g), (0, load), (0, wet)] kN σ Q := by
  obtain ⟨d, rfl⟩ : ∃ e, d = e + 1 := ⟨d - 1, by omega⟩
  have kl177 := kl_177
  have cong : ∀ s, off [166, 172, 177] σ s → GM s g ∧ tb s g = tb σ g ∧ tn s g = tn σ g ∧ landM s = landM σ := fun s ho => by
    have e1 : tb s g = tb σ g := by
      unfold tb mby
      rw [ho 170 (by decide)]
    have e2 : tn s g = tn σ g := by unfold tn; rw [ho 171 (by decide)]
    refine ⟨?_, e1, e2, ?_⟩
    · unfold GM
      rw [e1, e2, ho 170 (by decide)]
      exact hG
    · funext c w
      unfold landM
      rw [ho 167 (by decide)]
  have key13 : ∀ c : Int, 0 ≤ c → c < 120 → (∀ s, off [166, 172, 177] σ s → (∀ j, j ≠ 12 → ¬ (16 ≤ j ∧ j ≤ 22) → j ≠ 25 → s 166 j = σ 166 j) → Lay s → (∀ z k, 0 ≤ z → z < c + 1 → 0 ≤ k → k < 8 → stp z k ≠ -1 → s 177 (z * 8 + k) = pnP (tb σ g) (tn σ g) (landM σ) load wet z k) → LX12_layPains_3 d kN Q 166 g load wet (c + 1) s) → ∀ k : Int, ∀ s : kS, 0 ≤ k → k ≤ 8 → off [166, 172, 177] σ s → (∀ j, j ≠ 12 → ¬ (16 ≤ j ∧ j ≤ 22) → j ≠ 25 → s 166 j = σ 166 j) → Lay s → (∀ z j, 0 ≤ z → z < 120 → 0 ≤ j → j < 8 → (z < c ∨ (z = c ∧ j < k)) → stp z j ≠ -1 → s 177 (z * 8 + j) = pnP (tb σ g) (tn σ g) (landM σ) load wet z j) → LX12_layPains_13 d kN Q 166 g load wet c k s := by
    intro c c0 c1 hcont
    refine up_to (e := 8) ?_
    intro k ih s k0 k8 ho h166 hLs hp
    refine SX12_layPains_13 ⟨fun e => ⟨by omega, hcont s ho h166 hLs (fun z j z0 z1 j0 j1 hz => hp z j z0 (by omega) j0 j1 (by omega) hz)⟩, fun e => M_step (by omega) ⟨c0, c1⟩ ⟨k0, by omega⟩ ?_⟩
    refine ⟨fun e1 => ⟨by omega, ih (by omega) s (by omega) (by omega) ho h166 hLs (fun z j z0 z1 j0 j1 hz hs => ?_)⟩, fun e1 => ⟨o_166, by omega, by omega, ?_⟩⟩
    · by_cases ez : z = c ∧ j = k
      · rw [ez.1, ez.2] at hs
        exact absurd e1 hs
      · exact hp z j z0 z1 j0 j1 (by omega) hs
    · obtain ⟨q1, q2, q3, q4⟩ := cong s ho
      refine M_painOf (by omega) hLs hg q1 hw (by rw [q4]; exact hH) e1 (fun s1 ho1 h1 hL1 => ?_)
      rw [q2, q3, q4, ly_166_26 hLs]
      refine ⟨a_177, by omega, fun s2 e2 => ⟨by omega, ih (by omega) s2 (by omega) (by omega) ?_ (fun j j1 j2 j3 => ?_) (by rw [e2]; exact hL1.kstA a_177) (fun z j z0 z1 j0 j1 hz hs => ?_)⟩⟩
      · rw [e2]
        exact (ho.trans (ho1.mono (by simp))).kst (by decide)
      · rw [e2, kst_k (by decide), h1 j j1 j2 j3]
        exact h166 j j1 j2 j3
      · rw [e2, kst_ap, ho1 177 (by decide)]
        by_cases ez : z = c ∧ j = k
        · rw [if_pos ⟨rfl, by omega⟩, ez.1, ez.2]
        · rw [if_neg (fun q => ez (by omega))]
          exact hp z j z0 z1 j0 j1 (by omega) hs
  have key3 : ∀ c : Int, ∀ s : kS, 0 ≤ c → c ≤ 120 → off [166, 172, 177] σ s → (∀ j, j ≠ 12 → ¬ (16 ≤ j ∧ j ≤ 22) → j ≠ 25 → s 166 j = σ 166 j) → Lay s → (∀ z k, 0 ≤ z → z < c → 0 ≤ k → k < 8 → stp z k ≠ -1 → s 177 (z * 8 + k) = pnP (tb σ g) (tn σ g) (landM σ) load wet z k) → LX12_layPains_3 d kN Q 166 g load wet c s := by
    refine up_to (e := 120) ?_
    intro c ih s c0 c1 ho h166 hLs hp
    refine SX12_layPains_3 ⟨fun e => h s ⟨ho, h166, hLs, fun z k z0 z1 k0 k1 hk => ?_⟩, fun e => key13 c c0 (by omega) (fun s' => ih (by omega) s' (by omega) (by omega)) 0 s (by omega) (by omega) ho h166 hLs (fun z j z0 z1 j0 j1 hz => hp z j z0 (by omega) j0 j1)⟩
    rw [tolT_at ⟨k0, k1⟩]
    exact hp z k z0 (by omega) k0 k1 hk
  exact EX12_layPains fun _ _ _ _ => SX12_layPains_0 (key3 0 σ (by omega) (by omega) off.rfl' (fun _ _ _ _ => rfl) hL (fun z k z0 z1 => by omega))
/-! the way of weights T, once for both -/
def IsWL (T : Int → Int) (c g : Int) (l : List Int) : Prop := ∃ (S f : Int → Int) (n : Int), ID 1000 T g S ∧ IsWay (good 1000 T S) g f n ∧ f 0 = c ∧ (∀ j, 0 ≤ j → j ≤ n → 0 ≤ f j ∧ f j < 120) ∧ l = seg f 0 (n + 1)
theorem good_S {U : Int} {t S S' : Int → Int} {c k : Int} (h : ∀ z, 0 ≤ z → z < 120 → S z = S' z) (hc : 0 ≤ c ∧ c < 120) : good U t S c k ↔ good U t S' c k := by
  unfold good
  by_cases hn : stp c k = -1
  · exact ⟨fun q => absurd hn q.1, fun q => absurd hn q.1⟩
  · have hs := (stp_cell hn).2.2.1
    rw [h c hc.1 hc.2, h _ hs.1 hs.2]
theorem IsWL.uniq {T : Int → Int} {c g : Int} {l l' : List Int} (ht : TolOK T) (h : IsWL T c g l) (h' : IsWL T c g l') : l = l' := by
  obtain ⟨S, f, n, a1, a2, a3, a4, a5⟩ := h
  obtain ⟨S', f', n', b1, b2, b3, b4, b5⟩ := h'
  have hS : ∀ z, 0 ≤ z → z < 120 → S z = S' z := fun z z0 z1 => Int.le_antisymm (ID.le (by decide) ht a1 b1 z z0 z1) (ID.le (by decide) ht b1 a1 z z0 z1)
  have h1 : IsWay (good 1000 T S') g f n := ⟨a2.1, a2.2.1, fun j j0 j1 => ⟨(a2.2.2 j j0 j1).1, (a2.2.2 j j0 j1).2.cong (fun k _ _ => good_S hS (a4 j j0 (by omega)))⟩⟩
  have h2 := h1.uniq b2 (by rw [a3, b3])
  rw [a5, b5, ← h2.1]
  apply seg_cong
  intro i i0 i1
  exact h2.2 _ (by omega) (by omega)
noncomputable def wayP (T : Int → Int) (c g : Int) : List Int := Classical.epsilon (IsWL T c g)
noncomputable def sumP (T : Int → Int) (g : Int) : Int → Int := Classical.epsilon (fun S => ID 1000 T g S)
theorem wayP_eq {T : Int → Int} {c g : Int} {l : List Int} (ht : TolOK T) (h : IsWL T c g l) : wayP T c g = l := (Classical.epsilon_spec (p := IsWL T c g) ⟨l, h⟩).uniq ht h
theorem sumP_eq {T S : Int → Int} {g : Int} (ht : TolOK T) (h : ID 1000 T g S) : ∀ c, 0 ≤ c → c < 120 → S c = sumP T g c := fun c c0 c1 => by
  have h2 : ID 1000 T g (sumP T g) := Classical.epsilon_spec (p := fun S => ID 1000 T g S) ⟨S, h⟩
  exact Int.le_antisymm (ID.le (by decide) ht h h2 c c0 c1) (ID.le (by decide) ht h2 h c c0 c1)
/-- the class's -/
theorem Laid.wl {σ s : kS} {c g : Int} {T : Int → Int} (h : Laid σ s c g) (ht : TolOK T) (hT : TEq (σ 28) T) (hg : 0 ≤ g ∧ g < 120) : IsWL T c g (rowL s 36) ∧ ∀ z, 0 ≤ z → z < 120 → s 29 z / 128 = sumP T g z / 1000 := by
  obtain ⟨h1, h2, h3, h4, h5, h6, h7, h8, h9⟩ := h
  have hT' : TEq T (σ 28) := fun c k c0 c1 k0 k1 hn => (hT c k c0 c1 k0 k1 hn).symm
  have ht28 : TolOK (σ 28) := TolOK.tcong hT' ht
  have hI := h4.conv ht28 hg
  have hI' := hI.tcong hT
  have hf : ∀ j, 0 ≤ j → j ≤ s 36 1 - 1 → 0 ≤ s 37 j ∧ s 37 j < 120 := fun j j0 j1 => h6.2 j j0 (by omega)
  have hW : IsWay (good 1000 (σ 28) (conv (s 29))) g (s 37) (s 36 1 - 1) := ⟨h9.1, h9.2.1, fun j j0 j1 => ⟨(h9.2.2 j j0 j1).1, (h9.2.2 j j0 j1).2.cong (fun k _ _ => conv_good ht28 hg h4 (hf j j0 (by omega)).1 (hf j j0 (by omega)).2)⟩⟩
  refine ⟨⟨conv (s 29), s 37, s 36 1 - 1, hI', hW.tcong hT hf, h8, hf, ?_⟩, fun z z0 z1 => ?_⟩
  · rw [rowL_seg, show s 36 1 - 1 + 1 = s 36 1 by omega]
    rfl
  · have := ID.half ht28 hg h4 hI z z0 z1
    rw [← this, sumP_eq ht hI' z z0 z1]
/-- the model's -/
theorem Gone.wl {σ s : kS} {c g : Int} {T : Int → Int} (h : Gone σ s c g) (ht : TolOK T) (hT : TEq (σ 177) T) : IsWL T c g (seg (s 180) 0 (s 166 30)) ∧ ∀ z, 0 ≤ z → z < 120 → s 178 z = sumP T g z := by
  obtain ⟨h1, h2, h3, h4, h5, h6, h7, h8, h9⟩ := h
  have hI' := h4.tcong hT
  have hf : ∀ j, 0 ≤ j → j ≤ s 166 30 - 1 → 0 ≤ s 180 j ∧ s 180 j < 120 := fun j j0 j1 => h7 j j0 (by omega)
  refine ⟨⟨s 178, s 180, s 166 30 - 1, hI', h9.tcong hT hf, h8, hf, by rw [show s 166 30 - 1 + 1 = s 166 30 by omega]⟩, fun z z0 z1 => sumP_eq ht hI' z z0 z1⟩
theorem nodup_seg {f : Int → Int} : ∀ (m : Nat), (∀ i j : Nat, i < m → j < m → f (0 + i) = f (0 + j) → i = j) → ((List.range m).map fun i : Nat => f (0 + i)).Nodup := by
  intro m
  induction m with
  | zero => intro _; exact List.nodup_nil
  | succ m ih =>
    intro h
    rw [List.range_succ, List.map_append, List.map_singleton, List.nodup_append]
    refine ⟨ih (fun i j hi hj e => h i j (by omega) (by omega) e), by simp, ?_⟩
    intro x hx y hy e
    rw [List.mem_singleton] at hy
    obtain ⟨i, hi, rfl⟩ := List.mem_map.mp hx
    have hi := List.mem_range.mp hi
    have := h i m (by omega) (by omega) (by rw [e, hy])
    omega
/-- what there is to know of a way -/
theorem IsWL.facts {T : Int → Int} {c g : Int} {l : List Int} (ht : TolOK T) (hc : 0 ≤ c ∧ c < 120) (h : IsWL T c g l) : 1 ≤ l.length ∧ l.length ≤ 120 ∧ (∀ x ∈ l, 0 ≤ x ∧ x < 120) ∧ l.Nodup := by
  obtain ⟨S, f, n, a1, a2, a3, a4, a5⟩ := h
  have hn := a2.1
  have hdec : ∀ m : Nat, ∀ j : Int, 0 ≤ j → j + m ≤ n → rank S (f (j + m)) + m ≤ rank S (f j) := by
    intro m
    induction m with
    | zero => intro j j0 j1; simp
    | succ m ih =>
      intro j j0 j1
      have h1 := ih j j0 (by omega)
      have h2 := (a2.2.2 (j + m) (by omega) (by omega)).2
      obtain ⟨k, hk, hg, -, he⟩ := h2
      have hcell := a4 (j + m) (by omega) (by omega)
      have hlt := ID_lt ht hcell.1 hcell.2 hk hg
      have hs := (stp_cell hg.1).2.2.1
      have h3 := rank_lt hs hlt
      rw [← he] at h3
      have e : j + ((m + 1 : Nat) : Int) = j + m + 1 := by omega
      rw [e]
      omega
  have hlen : (l.length : Int) = n + 1 := by rw [a5, seg_len]; omega
  have hr0 := rank_b (S := S) (a4 0 (by omega) (by omega))
  have hrn := rank_b (S := S) (a4 n (by omega) (by omega))
  have h0n := hdec n.toNat 0 (by omega) (by omega)
  rw [show (0 : Int) + (n.toNat : Int) = n by omega] at h0n
  refine ⟨by omega, by omega, fun x hx => ?_, ?_⟩
  · rw [a5] at hx
    obtain ⟨i, i0, i1, rfl⟩ := mem_seg.mp hx
    exact a4 _ (by omega) (by omega)
  · rw [a5]
    unfold seg
    refine nodup_seg _ ?_
    intro i j hi hj hij
    rcases (show i < j ∨ i = j ∨ j < i by omega) with q | q | q
    · have := hdec (j - i) i (by omega) (by omega)
      rw [show (i : Int) + ((j - i : Nat) : Int) = j by omega] at this
      rw [show (0 : Int) + (i : Int) = i by omega, show (0 : Int) + (j : Int) = j by omega] at hij
      rw [hij] at this
      omega
    · exact q
    · have := hdec (i - j) j (by omega) (by omega)
      rw [show (j : Int) + ((i - j : Nat) : Int) = i by omega] at this
      rw [show (0 : Int) + (i : Int) = i by omega, show (0 : Int) + (j : Int) = j by omega] at hij
      rw [hij] at this
      omega
