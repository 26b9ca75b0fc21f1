/-! near, against -/
theorem line_cell {σ : kS} (hC : cLine σ) {l : Int} (hl : 0 ≤ l ∧ l < σ 0 11) {i : Int} (hi : 0 ≤ i ∧ i < σ (146 + 2 * l) 1) : 0 ≤ σ (147 + 2 * l) i ∧ σ (147 + 2 * l) i < 120 := by
  have := (hC.2.2 l hl.1 hl.2).1.2 i hi.1 hi.2
  rw [show 146 + 2 * l + 1 = 147 + 2 * l by omega] at this
  exact this
theorem M_farFrom {d : Nat} (hd : 4 ≤ d) {σ : kS} {l x y c : Int} {Q : Int → kS → Prop} (hL : Lay σ) (hC : cLine σ) (hl : 0 ≤ l ∧ l < σ 0 11) (hc : 0 ≤ c ∧ c < 120) (hx : ∀ z ∈ rowL σ (146 + 2 * l), inLand x y z) (hb : (-12 ≤ x ∧ x ≤ 12) ∧ -12 ≤ y ∧ y ≤ 12) (h : ∀ v, 0 ≤ v → (∀ far, 0 ≤ far → far < 120 → (v ≤ far ↔ ∃ z ∈ rowL σ (146 + 2 * l), nearXY (c % 12 - x) (c / 12 - y) far z)) → Q v σ) : Ci d MX12_farFrom [(2, 166), (0, l), (0, x), (0, y), (0, c)] kN σ Q := by
  obtain ⟨d, rfl⟩ : ∃ e, d = e + 1 := ⟨d - 1, by omega⟩
  have k182 := kl_182
  have hn := hC.1
  obtain ⟨b1, b2, b3, b4, b5⟩ := hC.2.2 l hl.1 hl.2
  have hla := line_at hL (i := l) (by omega)
  have hsz := b1.1.2
  have hmem : ∀ z, z ∈ rowL σ (146 + 2 * l) ↔ ∃ j, 0 ≤ j ∧ j < σ (146 + 2 * l) 1 ∧ σ (147 + 2 * l) j = z := fun z => by
    have := mem_rowL (σ := σ) (r := 146 + 2 * l) (x := z)
    rw [show 146 + 2 * l + 1 = 147 + 2 * l by omega] at this
    exact this
  have key : ∀ i best : Int, 0 ≤ i → i ≤ σ (146 + 2 * l) 1 → (0 ≤ best ∧ best ≤ 120) → (∀ far, 0 ≤ far → far < 120 → (best ≤ far ↔ ∃ j, 0 ≤ j ∧ j < i ∧ nearXY (c % 12 - x) (c / 12 - y) far (σ (147 + 2 * l) j))) → LX12_farFrom_7 d kN Q 166 l x y c best i σ := by
    refine up_to (e := σ (146 + 2 * l) 1) ?_
    intro i ih best i0 i1 hbb hf
    refine SX12_farFrom_7 ⟨o_166, ?_⟩
    rw [ly_166_32 hL, b3]
    refine ⟨a_182, by omega, fun e => h best hbb.1 (fun far f0 f1 => (hf far f0 f1).trans ?_), fun e => M_cellOf (by omega) hL (by omega) (by omega) ?_⟩
    · constructor
      · rintro ⟨j, j0, j1, hj⟩
        exact ⟨_, (hmem _).mpr ⟨j, j0, by omega, rfl⟩, hj⟩
      · rintro ⟨z, hz, hj⟩
        obtain ⟨j, j0, j1, rfl⟩ := (hmem z).mp hz
        exact ⟨j, j0, by omega, hj⟩
    · rw [← b4 i i0 (by omega)]
      have hcell := line_cell hC hl (i := i) ⟨i0, by omega⟩
      have hin := hx _ ((hmem _).mpr ⟨i, i0, by omega, rfl⟩)
      unfold inLand at hin
      refine ⟨by omega, by omega, by omega, M_apart (by omega) (by omega) hc.1 (J_min (by omega) ⟨by omega, ih (by omega) _ (by omega) (by omega) ?_ ?_⟩)⟩
      · have := apart_nn (a := σ (147 + 2 * l) i + x + 12 * y) (b := c)
        omega
      · intro far f0 f1
        have ha := apart_le (a := σ (147 + 2 * l) i + x + 12 * y) (b := c) (k := far)
        have e1 : (σ (147 + 2 * l) i + x + 12 * y) % 12 = σ (147 + 2 * l) i % 12 + x := by omega
        have e2 : (σ (147 + 2 * l) i + x + 12 * y) / 12 = σ (147 + 2 * l) i / 12 + y := by omega
        rw [e1, e2] at ha
        have hno : apart (σ (147 + 2 * l) i + x + 12 * y) c ≤ far ↔ nearXY (c % 12 - x) (c / 12 - y) far (σ (147 + 2 * l) i) := by
          rw [ha]
          unfold nearXY
          omega
        have hfi := hf far f0 f1
        constructor
        · intro hm
          by_cases q : best ≤ far
          · obtain ⟨j, j0, j1, hj⟩ := hfi.mp q
            exact ⟨j, j0, by omega, hj⟩
          · exact ⟨i, i0, by omega, hno.mp (by omega)⟩
        · rintro ⟨j, j0, j1, hj⟩
          by_cases ej : j = i
          · rw [ej] at hj
            have := hno.mpr hj
            omega
          · have := hfi.mpr ⟨j, j0, by omega, hj⟩
            omega
  refine EX12_farFrom fun _ _ _ _ _ => SX12_farFrom_0 (key 0 120 (by omega) (by omega) (by omega) (fun far f0 f1 => ⟨fun q => by omega, fun ⟨j, j0, j1, _⟩ => by omega⟩))
theorem M_isInLand {d : Nat} (hd : 4 ≤ d) {σ : kS} {l x y : Int} {Q : Int → kS → Prop} (hL : Lay σ) (hC : cLine σ) (hl : 0 ≤ l ∧ l < σ 0 11) (hb : (-12 ≤ x ∧ x ≤ 12) ∧ -12 ≤ y ∧ y ≤ 12) (h1 : (∀ z ∈ rowL σ (146 + 2 * l), inLand x y z) → Q 1 σ) (h0 : ¬ (∀ z ∈ rowL σ (146 + 2 * l), inLand x y z) → Q 0 σ) : Ci d MX12_isInLand [(2, 166), (0, l), (0, x), (0, y)] kN σ Q := by
  obtain ⟨d, rfl⟩ : ∃ e, d = e + 1 := ⟨d - 1, by omega⟩
  have k182 := kl_182
  have hn := hC.1
  obtain ⟨b1, b2, b3, b4, b5⟩ := hC.2.2 l hl.1 hl.2
  have hla := line_at hL (i := l) (by omega)
  have hsz := b1.1.2
  have hmem : ∀ z, z ∈ rowL σ (146 + 2 * l) ↔ ∃ j, 0 ≤ j ∧ j < σ (146 + 2 * l) 1 ∧ σ (147 + 2 * l) j = z := fun z => by
    have := mem_rowL (σ := σ) (r := 146 + 2 * l) (x := z)
    rw [show 146 + 2 * l + 1 = 147 + 2 * l by omega] at this
    exact this
  have key : ∀ i : Int, 0 ≤ i → i ≤ σ (146 + 2 * l) 1 → (∀ j, 0 ≤ j → j < i → inLand x y (σ (147 + 2 * l) j)) → LX12_isInLand_3 d kN Q 166 l x y i σ := by
    refine up_to (e := σ (146 + 2 * l) 1) ?_
    intro i ih i0 i1 hf
    refine SX12_isInLand_3 ⟨o_166, ?_⟩
    rw [ly_166_32 hL, b3]
    refine ⟨a_182, by omega, fun e => h1 (fun z hz => ?_), fun e => M_cellOf (by omega) hL (by omega) (by omega) ?_⟩
    · obtain ⟨j, j0, j1, rfl⟩ := (hmem z).mp hz
      exact hf j j0 (by omega)
    · rw [← b4 i i0 (by omega)]
      have hcell := line_cell hC hl (i := i) ⟨i0, by omega⟩
      refine ⟨hcell.1, by omega, M_cellOf (by omega) hL (by omega) (by omega) ?_⟩
      rw [← b4 i i0 (by omega)]
      refine ⟨hcell.1, by omega, M_isPlace (by omega) (fun q => ⟨fun _ => ⟨by omega, ih (by omega) (by omega) (by omega) (fun j j0 j1 => ?_)⟩, fun e => by omega⟩) (fun q => ⟨fun e => absurd rfl e, fun _ => h0 (fun hall => q ?_)⟩)⟩
      · by_cases ej : j = i
        · rw [ej]; exact q
        · exact hf j j0 (by omega)
      · exact hall _ ((hmem _).mpr ⟨i, i0, by omega, rfl⟩)
  exact EX12_isInLand fun _ _ _ _ => SX12_isInLand_0 (key 0 (by omega) (by omega) (fun j j0 j1 => by omega))
def nearLn (σ : kS) (l x y far w : Int) : Int := nearS (σ 49) (σ 51) (σ 53) (σ 48 1) (rowL σ (146 + 2 * l)) x y far w
theorem nearLn_fr {σ s : kS} (h : Fr σ s) {l : Int} (hl : 0 ≤ l ∧ l < 10) {x y far w : Int} : nearLn s l x y far w = nearLn σ l x y far w := by
  unfold nearLn
  rw [rowL_line h hl, h.1 48 (by unfold scr; omega), h.1 49 (by unfold scr; omega), h.1 51 (by unfold scr; omega), h.1 53 (by unfold scr; omega)]
theorem M_nearOf {d : Nat} (hd : 5 ≤ d) {σ : kS} {l x y far w : Int} {Q : Int → kS → Prop} (hL : Lay σ) (hC : cLine σ) (hF : cFind σ) (hl : 0 ≤ l ∧ l < σ 0 11) (hf : 0 ≤ far ∧ far < 120) (hx : ∀ z ∈ rowL σ (146 + 2 * l), inLand x y z) (hb : (-12 ≤ x ∧ x ≤ 12) ∧ -12 ≤ y ∧ y ≤ 12) (h : Q (nearLn σ l x y far w) σ) : Ci d MX12_nearOf [(2, 166), (0, l), (0, x), (0, y), (0, far), (0, w)] kN σ Q := by
  obtain ⟨d, rfl⟩ : ∃ e, d = e + 1 := ⟨d - 1, by omega⟩
  have k184 := kl_184
  have k185 := kl_185
  have k186 := kl_186
  have k49 : klen (48 + 1) = 30 := kl_49
  obtain ⟨⟨f1, f2, f3, f4, f5, f6⟩, h38, hsame⟩ := hF
  have hsz := f1.1.2
  unfold nearLn nearS at h
  generalize hG : nearF (σ 49) (σ 51) (σ 53) (rowL σ (146 + 2 * l)) x y far w = G at h
  have gv : ∀ i, G i = if kand (kishr w (σ 51 i)) 1 = 1 ∧ isNearL (rowL σ (146 + 2 * l)) (σ 49 i % 12 - x) (σ 49 i / 12 - y) far = true then σ 53 i else 0 := fun i => by rw [← hG]; rfl
  have key : ∀ i sum : Int, 0 ≤ i → i ≤ σ 48 1 → sum = sm G i.toNat → LX12_nearOf_6 d kN Q 166 l x y far w sum i σ := by
    refine up_to (e := σ 48 1) ?_
    intro i ih sum i0 i1 hs
    have hss := sm_s (f := G) i0
    have hbb := sm_b (f := G) (B := 9) (n := i.toNat) (fun j j0 j1 => by
      have := f6 j j0 (by omega)
      rw [gv]
      split <;> omega)
    rw [k_toNat i0] at hbb
    refine SX12_nearOf_6 ⟨o_166, ?_⟩
    rw [ly_166_36 hL, h38]
    refine ⟨fun e => ?_, fun e => ⟨a_185, by omega, ?_⟩⟩
    · rw [show i = σ 48 1 by omega] at hs
      rw [hs]
      exact h
    · have hse := hsame i i0 (by omega)
      have hci := f1.2 i i0 (by omega)
      have h6 := f6 i i0 (by omega)
      have gi := gv i
      rw [← hse.2.1]
      have no : ¬ (kand (kishr w (σ 51 i)) 1 = 1 ∧ isNearL (rowL σ (146 + 2 * l)) (σ 49 i % 12 - x) (σ 49 i / 12 - y) far = true) → (-2147483648 ≤ sum + 0 ∧ sum + 0 ≤ 2147483647) ∧ ((-2147483648 ≤ i + 1 ∧ i + 1 ≤ 2147483647) ∧ (LX12_nearOf_6 d kN Q 166 l x y far w (sum + 0) (i + 1) σ)) := fun q => ⟨by omega, by omega, ih (by omega) _ (by omega) (by omega) (by rw [hss, gi, if_neg q]; omega)⟩
      refine M_has (by omega) (fun q => ⟨fun e => by omega, fun _ => ?_⟩) (fun q => ⟨fun _ => no (fun z => q z.1), fun e => absurd rfl e⟩)
      rw [ly_166_35 hL, ← hse.1]
      refine ⟨a_184, by omega, M_farFrom (by omega) hL hC hl hci hx hb (fun v _ hv => ?_)⟩
      rw [ly_166_37 hL, ← hse.2.2]
      have hvf := hv far hf.1 hf.2
      rw [← isNearL_iff] at hvf
      refine ⟨fun q2 => no (fun z => by have := hvf.mpr z.2; omega), fun q2 => ⟨a_186, by omega, by omega, by omega, ih (by omega) _ (by omega) (by omega) ?_⟩⟩
      rw [hss, gi, if_pos ⟨q, hvf.mp (by omega)⟩, hs]
  exact EX12_nearOf fun _ _ _ _ _ _ => SX12_nearOf_0 (key 0 0 (by omega) (by omega) rfl)
def isSr (σ : kS) (l f w : Int) : Prop := (0 ≤ l ∧ l < σ 0 11) ∧ (0 ≤ f ∧ f ≤ 5) ∧ 0 ≤ w ∧ w ≤ 15
theorem M_isNear {d : Nat} (hd : 2 ≤ d) {σ : kS} {l f w : Int} {Q : Int → kS → Prop} (hC : cLine σ) (h1 : isSr σ l f w → Q 1 σ) (h0 : ¬ isSr σ l f w → Q 0 σ) : Ci d MX12_isNear [(2, 166), (0, l), (0, f), (0, w)] kN σ Q := by
  obtain ⟨d, rfl⟩ : ∃ e, d = e + 1 := ⟨d - 1, by omega⟩
  have e := hC.2.1
  unfold isSr at h1 h0
  exact EX12_isNear fun _ _ _ _ => SX12_isNear_0 ⟨o_166, M_isLine (by omega) (fun c1 => ⟨fun e => by omega, fun _ => M_isIn (by omega) (fun c2 => ⟨fun e => by omega, fun _ => M_isIn (by omega) (fun c3 => ⟨fun e => by omega, fun _ => h1 ⟨by omega, c2, c3⟩⟩) (fun c3 => ⟨fun _ => h0 (fun z => c3 z.2.2), fun e => absurd rfl e⟩)⟩) (fun c2 => ⟨fun _ => h0 (fun z => c2 z.2.1), fun e => absurd rfl e⟩)⟩) (fun c1 => ⟨fun _ => h0 (fun z => c1 (by omega)), fun e => absurd rfl e⟩)⟩
theorem inLand0 {σ : kS} (hC : cLine σ) {l : Int} (hl : 0 ≤ l ∧ l < σ 0 11) : ∀ z ∈ rowL σ (146 + 2 * l), inLand 0 0 z := fun z hz => by
  obtain ⟨j, j0, j1, hj⟩ := mem_rowL.mp hz
  have := (hC.2.2 l hl.1 hl.2).1.2 j j0 j1
  unfold inLand
  omega
noncomputable def nearA (σ : kS) (l far w : Int) : Int := cif (isSr σ l far w) (nearLn σ l 0 0 far w) (-1)
theorem nearA_fr {σ s : kS} (hI : Inv σ) (h : Fr σ s) {l far w : Int} : nearA s l far w = nearA σ l far w := by
  have hn := hI.2.2.2.2.2.2.2.2.1.1
  unfold nearA isSr
  rw [h.e0]
  by_cases c : (0 ≤ l ∧ l < σ 0 11) ∧ (0 ≤ far ∧ far ≤ 5) ∧ 0 ≤ w ∧ w ≤ 15
  · rw [cif_pos c, cif_pos c, nearLn_fr h (by omega)]
  · rw [cif_neg c, cif_neg c]
theorem O_near {l far w : Int} : Op MX11_near MX12_near [(0, l), (0, far), (0, w)] := by
  refine Op.of (fun σ => nearA σ l far w) (fun σ s hI hk => nearA_fr hI hk.1) (fun d σ Q hd hI h => ?_) (fun d σ Q hd hI h => ?_)
  · obtain ⟨d, rfl⟩ : ∃ e, d = e + 1 := ⟨d - 1, by omega⟩
    have hs := h σ hI.self
    have hC := hI.2.2.2.2.2.2.2.2.1
    have hn := hC.1
    have k21 := kl_21
    unfold nearA at hs
    refine EX11_near fun _ _ _ _ => SX11_near_0 ⟨o_0, X_isSearch (by omega) (fun c1 => ⟨fun e => by omega, fun _ => ?_⟩) (fun c1 => ⟨fun _ => ?_, fun e => absurd rfl e⟩)⟩
    · have hla := line_at hI.1 (i := l) (by omega)
      have hl := hC.2.2 l c1.1.1 c1.1.2
      rw [cif_pos (show isSr σ l far w from c1)] at hs
      rw [ly_0_10 hI.1, hla.1, ly_0_16 hI.1]
      exact ⟨a_21, by omega, o_47, Finds_nearMoved (by omega) hI.1 hI.2.2.2.2.2.2.2.2.2.1.1 hl.1 (by omega) (by omega) hs⟩
    · rw [cif_neg (show ¬ isSr σ l far w from c1)] at hs
      exact hs
  · obtain ⟨d, rfl⟩ : ∃ e, d = e + 1 := ⟨d - 1, by omega⟩
    refine EX12_near fun _ _ _ _ => SX12_near_0 ⟨o_166, fun s1 e1 => ?_⟩
    have hk1 : Keep σ s1 := by rw [e1]; exact hI.thrown
    have hI1 := hI.keep hk1
    have hs := h s1 hk1
    rw [← nearA_fr hI hk1.1] at hs
    have hC := hI1.2.2.2.2.2.2.2.2.1
    unfold nearA at hs
    refine M_isNear (by omega) hC (fun c1 => ⟨fun e => by omega, fun _ => ?_⟩) (fun c1 => ⟨fun _ => ?_, fun e => absurd rfl e⟩)
    · rw [cif_pos c1] at hs
      exact M_nearOf (by omega) hI1.1 hC hI1.2.2.2.2.2.2.2.2.2.1 c1.1 (by have := c1.2.1; omega) (inLand0 hC c1.1) (by omega) hs
    · rw [cif_neg c1] at hs
      exact hs
