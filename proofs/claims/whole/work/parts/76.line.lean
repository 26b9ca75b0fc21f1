/-! lines: line, lineAt, lineOfWay, goOn -/
theorem M_cellOf {d : Nat} (hd : 1 ≤ d) {σ : kS} {l i : Int} {Q : Int → kS → Prop} (hL : Lay σ) (hl : 0 ≤ l ∧ l < 10) (hi : 0 ≤ i ∧ i < 140) (h : Q (σ 183 (140 * l + i)) σ) : Ci d MX12_cellOf [(2, 166), (0, l), (0, i)] kN σ Q := by
  obtain ⟨d, rfl⟩ : ∃ e, d = e + 1 := ⟨d - 1, by omega⟩
  have k183 := kl_183
  refine EX12_cellOf fun _ _ _ => SX12_cellOf_0 ⟨o_166, ?_⟩
  rw [ly_166_33 hL]
  exact ⟨by omega, by omega, a_183, by omega, h⟩
noncomputable def lineA (σ : kS) (l i : Int) : Int := cif (0 ≤ l ∧ l < σ 0 11) (if i = -1 then σ (146 + 2 * l) 1 else rowAt σ (146 + 2 * l) i) (-1)
theorem O_line {l i : Int} : Op MX11_line MX12_line [(0, l), (0, i)] := by
  refine Op.of (fun σ => lineA σ l i) (fun σ s hI hk => ?_) (fun d σ Q hd hI h => ?_) (fun d σ Q hd hI h => ?_)
  · show lineA s l i = lineA σ l i
    have hn := hI.2.2.2.2.2.2.2.2.1.1
    unfold lineA
    rw [hk.1.e0]
    by_cases c : 0 ≤ l ∧ l < σ 0 11
    · rw [cif_pos c, cif_pos c]
      unfold rowAt
      rw [hk.1.1 (146 + 2 * l) (by unfold scr; omega), hk.1.1 (146 + 2 * l + 1) (by unfold scr; omega)]
    · rw [cif_neg c, cif_neg c]
  · obtain ⟨d, rfl⟩ : ∃ e, d = e + 1 := ⟨d - 1, by omega⟩
    have hs := h σ hI.self
    have hC := hI.2.2.2.2.2.2.2.2.1
    have hn := hC.1
    have k21 := kl_21
    refine EX11_line fun _ _ _ => SX11_line_0 ⟨o_0, X_isLine (by omega) (fun c1 => ⟨fun _ => ?_, fun e => by omega⟩) (fun c1 => ⟨fun e => absurd rfl e, fun _ => ?_⟩)⟩
    · have hla := line_at hI.1 (i := l) (by omega)
      have hl := hC.2.2 l c1.1 c1.2
      unfold lineA at hs
      rw [cif_pos c1] at hs
      rw [ly_0_10 hI.1, hla.1]
      refine ⟨fun c => ⟨a_21, by omega, hla.2.1, Row_at (by omega) hI.1 hl.1.1 ?_⟩, fun c => ⟨a_21, by omega, hla.2.1, ?_⟩⟩
      · rw [if_neg c] at hs
        exact hs
      · rw [if_pos (Classical.not_not.mp c)] at hs
        exact hs
    · unfold lineA at hs
      rw [cif_neg c1] at hs
      exact hs
  · obtain ⟨d, rfl⟩ : ∃ e, d = e + 1 := ⟨d - 1, by omega⟩
    have k182 := kl_182
    refine EX12_line fun _ _ _ => SX12_line_0 ⟨o_166, fun s1 e1 => ?_⟩
    have hk1 : Keep σ s1 := by rw [e1]; exact hI.thrown
    have hI1 := hI.keep hk1
    have hs := h s1 hk1
    have hn0 := hI.2.2.2.2.2.2.2.2.1.1
    have hC := hI1.2.2.2.2.2.2.2.2.1
    have hn := hC.1
    have h34 := hC.2.1
    have hs : Q (lineA s1 l i) s1 := by
      have e : lineA s1 l i = lineA σ l i := by
        unfold lineA
        rw [hk1.1.e0]
        by_cases c : 0 ≤ l ∧ l < σ 0 11
        · rw [cif_pos c, cif_pos c]
          unfold rowAt
          rw [hk1.1.1 (146 + 2 * l) (by unfold scr; omega), hk1.1.1 (146 + 2 * l + 1) (by unfold scr; omega)]
        · rw [cif_neg c, cif_neg c]
      rw [e]
      exact hs
    unfold lineA at hs
    refine M_isLine (by omega) (fun c1 => ⟨fun _ => ?_, fun e => by omega⟩) (fun c1 => ⟨fun e => absurd rfl e, fun _ => ?_⟩)
    · have c1' : 0 ≤ l ∧ l < s1 0 11 := by omega
      have hl := hC.2.2 l c1'.1 c1'.2
      have hla := line_at hI1.1 (i := l) (by omega)
      have h128 := hl.1.1.2
      rw [cif_pos c1'] at hs
      rw [ly_166_32 hI1.1, hl.2.2.1]
      refine ⟨fun c => ⟨a_182, by omega, by omega, M_isIn (by omega) (fun c2 => ⟨fun e => by omega, fun _ => M_cellOf (by omega) hI1.1 (by omega) (by omega) ?_⟩) (fun c2 => ⟨fun _ => ?_, fun e => absurd rfl e⟩)⟩, fun c => ⟨a_182, by omega, ?_⟩⟩
      · rw [if_neg c] at hs
        unfold rowAt at hs
        rw [if_pos (by omega), show 146 + 2 * l + 1 = 147 + 2 * l by omega, hl.2.2.2.1 i (by omega) (by omega)] at hs
        exact hs
      · rw [if_neg c] at hs
        unfold rowAt at hs
        rw [if_neg (by omega)] at hs
        exact hs
      · rw [if_pos (Classical.not_not.mp c)] at hs
        exact hs
    · rw [cif_neg (fun z => c1 (by omega))] at hs
      exact hs
/-- the class keeps a row as a line -/
theorem X_keepLine {d : Nat} (hd : 3 ≤ d) {σ : kS} {r : Int} {Q : Int → kS → Prop} (hL : Lay σ) (hn : 0 ≤ σ 0 11 ∧ σ 0 11 < 10) (hr : RowOK σ r) (hne : 0 < r ∧ r ≤ 60) (h : Q (σ 0 11) (kst (rowTake σ (146 + 2 * σ 0 11) r) 0 11 (σ 0 11 + 1))) : Ci d MX11_keepLine [(2, 0), (2, r)] kN σ Q := by
  obtain ⟨d, rfl⟩ : ∃ e, d = e + 1 := ⟨d - 1, by omega⟩
  have k21 := kl_21
  have hla := line_at hL (i := σ 0 11) hn
  refine EX11_keepLine fun _ => SX11_keepLine_0 ⟨o_0, fun _ => ?_, fun c => absurd hn.2 c⟩
  rw [ly_0_10 hL, hla.1]
  refine ⟨a_21, hn.imp id (fun h => by omega), hla.2.1, Row_take (by omega) hL hla.2.1 hr (by omega) ?_⟩
  have e0 : rowTake σ (146 + 2 * σ 0 11) r 0 = σ 0 := rowTake_off 0 (by simp only [List.mem_cons, List.not_mem_nil, or_false]; omega)
  rw [e0]
  refine ⟨by omega, fun s2 e2 => ?_⟩
  have e3 : s2 0 11 = σ 0 11 + 1 := by rw [e2, kst_eq]
  rw [e3, show σ 0 11 + 1 - 1 = σ 0 11 by omega, e2]
  exact ⟨by omega, h⟩
/-- the model's line so far -/
def ML (p t : kS) (f : Int → Int) (m : Int) : Prop := off [181, 182, 183] p t ∧ Lay t ∧ t 182 (p 166 34) = m ∧ (∀ l, l ≠ p 166 34 → t 182 l = p 182 l) ∧ (∀ i, 0 ≤ i → i < m → t 183 (140 * p 166 34 + i) = f i) ∧ ∀ q, q < 140 * p 166 34 → t 183 q = p 183 q
theorem ML.start {p : kS} {f : Int → Int} (hL : Lay p) : ML p (kst p 182 (p 166 34) 0) f 0 :=
  ⟨off.rfl'.kst (by decide), hL.kstA a_182, kst_eq, fun l hl => by rw [kst_kj hl], fun i i0 i1 => by omega, fun q _ => by rw [kst_k (by decide)]⟩
theorem ML.hops {p t s : kS} {f : Int → Int} {m : Int} (h : ML p t f m) (ho : off [181] t s) (hL : Lay s) : ML p s f m := by
  obtain ⟨h1, h2, h3, h4, h5, h6⟩ := h
  have e2 : s 182 = t 182 := ho 182 (by decide)
  have e3 : s 183 = t 183 := ho 183 (by decide)
  refine ⟨fun k hk => ?_, hL, by rw [e2]; exact h3, by rw [e2]; exact h4, by rw [e3]; exact h5, by rw [e3]; exact h6⟩
  simp only [List.mem_cons, List.not_mem_nil, or_false] at hk
  rw [ho k (by simp only [List.mem_cons, List.not_mem_nil, or_false]; omega), h1 k (by simp only [List.mem_cons, List.not_mem_nil, or_false]; omega)]
theorem M_addCell {d : Nat} (hd : 1 ≤ d) {p t : kS} {f : Int → Int} {m c : Int} {Q : kS → Prop} (h : ML p t f m) (hn : 0 ≤ p 166 34 ∧ p 166 34 < 10) (hm : 0 ≤ m ∧ m < 140) (hc : f m = c) (hQ : ∀ s, ML p s f (m + 1) → Q s) : Cv d MX12_addCell [(2, 166), (0, c)] kN t Q := by
  obtain ⟨d, rfl⟩ : ∃ e, d = e + 1 := ⟨d - 1, by omega⟩
  have k182 := kl_182
  have k183 := kl_183
  obtain ⟨h1, h2, h3, h4, h5, h6⟩ := h
  have e166 : t 166 = p 166 := h1 166 (by decide)
  refine EX12_addCell fun _ _ => SX12_addCell_0 ⟨o_166, ?_⟩
  rw [ly_166_32 h2, ly_166_33 h2, e166, h3]
  refine ⟨by omega, a_182, by omega, by omega, a_183, by omega, fun s1 e1 => ?_⟩
  have eL1 : Lay s1 := by rw [e1]; exact h2.kstA a_183
  have f166 : s1 166 = p 166 := by rw [e1, kst_k (by decide), e166]
  have f182 : s1 182 = t 182 := by rw [e1, kst_k (by decide)]
  rw [ly_166_32 eL1, f166, f182, h3]
  refine ⟨a_182, by omega, by omega, fun s2 e2 => hQ s2 ⟨?_, by rw [e2]; exact eL1.kstA a_182, by rw [e2, kst_eq], fun l hl => ?_, fun i i0 i1 => ?_, fun q hq => ?_⟩⟩
  · rw [e2, e1]
    exact (h1.kst (by decide)).kst (by decide)
  · rw [e2, kst_kj hl, f182]
    exact h4 l hl
  · rw [e2, kst_k (by decide), e1, kst_ap]
    by_cases ei : i = m
    · rw [if_pos ⟨rfl, by omega⟩, ei, hc]
    · rw [if_neg (fun z => ei (by omega))]
      exact h5 i i0 (by omega)
  · rw [e2, kst_k (by decide), e1, kst_kj (by omega)]
    exact h6 q hq
theorem M_added {d : Nat} (hd : 1 ≤ d) {σ : kS} {Q : Int → kS → Prop} (hn : 0 ≤ σ 166 34 ∧ σ 166 34 < 10) (h : Q (σ 166 34) (kst σ 166 34 (σ 166 34 + 1))) : Ci d MX12_added [(2, 166)] kN σ Q := by
  obtain ⟨d, rfl⟩ : ∃ e, d = e + 1 := ⟨d - 1, by omega⟩
  refine EX12_added fun _ => SX12_added_0 ⟨o_166, by omega, fun s1 e1 => ?_⟩
  have e2 : s1 166 34 = σ 166 34 + 1 := by rw [e1, kst_eq]
  rw [e2, show σ 166 34 + 1 - 1 = σ 166 34 by omega, e1]
  exact ⟨by omega, h⟩
/-- a new line, on both sides -/
theorem Line_done {σ p t : kS} {f : Int → Int} {r m : Int} (hI : Inv σ) (hr : r = 36 ∨ r = 43 ∨ r = 45) (hro : RowOK σ r) (hm : σ r 1 = m) (h1 : 1 ≤ m ∧ m ≤ 128) (hf : ∀ i, 0 ≤ i → i < m → σ (r + 1) i = f i) (hc : ∀ i, 0 ≤ i → i < m → 0 ≤ f i ∧ f i < 120) (hadj : ∀ i, 1 ≤ i → i < m → ∃ d, (0 ≤ d ∧ d < 8) ∧ stp (f (i - 1)) d = f i) (hn : σ 0 11 < 10) (hp : off [166, 172, 177, 178, 179, 180, 181] (kst (rowTake σ (146 + 2 * σ 0 11) r) 0 11 (σ 0 11 + 1)) p) (hpj : ∀ j, esf j → p 166 j = σ 166 j) (hML : ML p t f m) : Inv (kst t 166 34 (σ 0 11 + 1)) := by
  obtain ⟨m1, m2, m3, m4, m5, m6⟩ := hML
  have hC := hI.2.2.2.2.2.2.2.2.1
  have hn0 := hC.1
  have h34 : p 166 34 = σ 0 11 := by rw [hpj 34 (by unfold esf; omega)]; exact hC.2.1
  rw [h34] at m3 m4 m5 m6
  have hla := line_at hI.1 (i := σ 0 11) ⟨hn0.1, hn⟩
  have tL := rowTake_L (σ := σ) (r := 146 + 2 * σ 0 11) (q := r) hro (by omega) (by omega) (by rw [hla.2.2]; omega)
  generalize hs : kst t 166 34 (σ 0 11 + 1) = s
  have hk : ∀ k, k ≠ 0 → k ≠ 166 → k ≠ 172 → ¬ (177 ≤ k ∧ k ≤ 183) → s k = rowTake σ (146 + 2 * σ 0 11) r k := fun k k0 k1 k2 k3 => by
    rw [← hs, kst_k k1, m1 k (by simp only [List.mem_cons, List.not_mem_nil, or_false]; omega), hp k (by simp only [List.mem_cons, List.not_mem_nil, or_false]; omega), kst_k k0]
  have hkk : ∀ k, k ≠ 0 → k ≠ 166 → k ≠ 172 → ¬ (177 ≤ k ∧ k ≤ 183) → k ≠ 146 + 2 * σ 0 11 → k ≠ 147 + 2 * σ 0 11 → s k = σ k := fun k k0 k1 k2 k3 k4 k5 => by
    rw [hk k k0 k1 k2 k3, rowTake_off k (by simp only [List.mem_cons, List.not_mem_nil, or_false]; omega)]
  have p0 : p 0 = kst (rowTake σ (146 + 2 * σ 0 11) r) 0 11 (σ 0 11 + 1) 0 := hp 0 (by decide)
  have s0 : s 0 = kst (rowTake σ (146 + 2 * σ 0 11) r) 0 11 (σ 0 11 + 1) 0 := by rw [← hs, kst_k (by decide), m1 0 (by decide), p0]
  have s011 : s 0 11 = σ 0 11 + 1 := by rw [s0, kst_eq]
  have s0j : ∀ j, j ≠ 11 → s 0 j = σ 0 j := fun j hj => by
    rw [s0, kst_kj hj, rowTake_off 0 (by simp only [List.mem_cons, List.not_mem_nil, or_false]; omega)]
  have sj : ∀ j, j ≠ 34 → esf j → s 166 j = σ 166 j := fun j hj he => by
    rw [← hs, kst_kj hj, m1 166 (by decide)]
    exact hpj j he
  have eLs : Lay s := by rw [← hs]; exact m2.kstO 34 o_166 (by decide)
  have oo : ∀ k, k ≠ 0 → k ∉ [146, 147, 148, 149, 150, 151, 152, 153, 154, 155, 156, 157, 158, 159, 160, 161, 162, 163, 164, 165, 166, 172, 177, 178, 179, 180, 181, 182, 183] → s k = σ k := fun k k0 hkn => by
    simp only [List.mem_cons, List.not_mem_nil, or_false] at hkn
    exact hkk k k0 (by omega) (by omega) (by omega) (by omega) (by omega)
  have hof : FrB [146, 147, 148, 149, 150, 151, 152, 153, 154, 155, 156, 157, 158, 159, 160, 161, 162, 163, 164, 165, 182, 183] [34, -11] σ s := by
    refine ⟨fun k hsc k0 hkn => ?_, fun j hj hnn => ?_, fun j hj hnn => ?_⟩
    · simp only [List.mem_cons, List.not_mem_nil, or_false] at hkn
      unfold scr at hsc
      exact hkk k k0 (by omega) (by omega) (by omega) (by omega) (by omega)
    · simp only [List.mem_cons, List.not_mem_nil, or_false] at hnn
      exact s0j j (by omega)
    · simp only [List.mem_cons, List.not_mem_nil, or_false] at hnn
      exact sj j (by omega) hj
  have hr1 : s (146 + 2 * σ 0 11) 1 = m := by rw [hk _ (by omega) (by omega) (by omega) (by omega), tL.2, hm]
  have hr2 : ∀ i, 0 ≤ i → i < m → s (147 + 2 * σ 0 11) i = f i := fun i i0 i1 => by
    rw [hk _ (by omega) (by omega) (by omega) (by omega)]
    unfold rowTake
    rw [kst_k (by omega), show 147 + 2 * σ 0 11 = 146 + 2 * σ 0 11 + 1 by omega, kcpy_b, if_pos (by rw [hla.2.2]; omega), ← hf i i0 i1]
    congr 1
    omega
  have g182 : ∀ l, l ≠ σ 0 11 → s 182 l = σ 182 l := fun l hl => by
    rw [← hs, kst_k (by decide), m4 l hl, hp 182 (by decide), kst_k (by decide), rowTake_off 182 (by simp only [List.mem_cons, List.not_mem_nil, or_false]; omega)]
  have g183 : ∀ q, q < 140 * σ 0 11 → s 183 q = σ 183 q := fun q hq => by
    rw [← hs, kst_k (by decide), m6 q hq, hp 183 (by decide), kst_k (by decide), rowTake_off 183 (by simp only [List.mem_cons, List.not_mem_nil, or_false]; omega)]
  refine ⟨eLs, hI.2.1.offU oo (s0j 6 (by decide)) (by decide), Ess.upd hof hI.2.2 (c7 := fun _ => ?_) (c9 := fun _ => ?_)⟩
  · unfold cLine
    rw [s011]
    refine ⟨by omega, by rw [← hs, kst_eq], fun l l0 l1 => ?_⟩
    by_cases el : l = σ 0 11
    · rw [el, hr1]
      refine ⟨⟨⟨hla.2.1, by rw [hr1]; omega, by rw [hr1, hla.2.2]; omega⟩, fun i i0 i1 => ?_⟩, h1.1, by rw [← hs, kst_k (by decide)]; exact m3, fun i i0 i1 => ?_, fun i i0 i1 => ?_⟩
      · rw [hr1] at i1
        rw [show 146 + 2 * σ 0 11 + 1 = 147 + 2 * σ 0 11 by omega, hr2 i i0 i1]
        exact hc i i0 i1
      · rw [hr2 i i0 i1, ← hs, kst_k (by decide), m5 i i0 i1]
      · rw [hr2 i (by omega) i1, hr2 (i - 1) (by omega) (by omega)]
        exact hadj i i0 i1
    · have e1 : s (146 + 2 * l) = σ (146 + 2 * l) := hkk _ (by omega) (by omega) (by omega) (by omega) (by omega) (by omega)
      have e2 : s (147 + 2 * l) = σ (147 + 2 * l) := hkk _ (by omega) (by omega) (by omega) (by omega) (by omega) (by omega)
      obtain ⟨b1, b2, b3, b4, b5⟩ := hC.2.2 l l0 (by omega)
      have h128 := b1.1.2
      have hlb := line_at hI.1 (i := l) (by omega)
      have e3 : s (146 + 2 * l + 1) = σ (146 + 2 * l + 1) := by rw [show 146 + 2 * l + 1 = 147 + 2 * l by omega]; exact e2
      rw [e1, e2, g182 l el]
      exact ⟨b1.cong e1 e3, b2, b3, fun i i0 i1 => by rw [g183 _ (by omega)]; exact b4 i i0 i1, b5⟩
  · have hK := hI.2.2.2.2.2.2.2.2.2.2.1
    unfold cKnown
    rw [s011, oo 22 (by decide) (by decide), oo 23 (by decide) (by decide), oo 187 (by decide) (by decide), sj 41 (by decide) (by unfold esf; omega)]
    exact ⟨hK.1.cong (oo 22 (by decide) (by decide)), hK.2.1, fun i i0 i1 => by have := hK.2.2 i i0 i1; omega⟩
theorem O_lineAt {c : Int} : Op MX11_lineAt MX12_lineAt [(0, c)] := by
  intro d σ hd hI
  obtain ⟨d, rfl⟩ : ∃ e, d = e + 1 := ⟨d - 1, by omega⟩
  have hC := hI.2.2.2.2.2.2.2.2.1
  have hn0 := hC.1
  have h34 := hC.2.1
  have k182 := kl_182
  have hno : ¬ (isCel c ∧ σ 0 11 < 10) → Ci (d + 1) MX12_lineAt [(2, 166), (0, c)] kN σ (fun b s' => -1 = b ∧ Inv s') := fun hc => by
    refine EX12_lineAt fun _ _ => SX12_lineAt_0 ⟨o_166, fun s1 e1 => ?_⟩
    have hk1 : Keep σ s1 := by rw [e1]; exact hI.thrown
    have hI1 := hI.keep hk1
    have e34 : s1 166 34 = σ 0 11 := by rw [e1, kst_kj (by decide)]; exact h34
    exact ⟨fun _ => ⟨rfl, hI1⟩, fun c1 => M_isCell (by omega) (fun c2 => absurd ⟨c2, by omega⟩ hc) (fun _ => ⟨fun e => absurd rfl e, fun _ => ⟨rfl, hI1⟩⟩)⟩
  refine EX11_lineAt fun _ _ => SX11_lineAt_0 ⟨o_0, fun q => hno (fun z => by omega), fun q => X_isCell (by omega) (fun c1 => ⟨fun _ => ?_, fun e => by omega⟩) (fun c1 => ⟨fun e => absurd rfl e, fun _ => hno (fun z => c1 z.1)⟩)⟩
  rw [ly_0_15 hI.1]
  refine ⟨o_40, Sight_hopStraight (by omega) hI.1 hI.2.1.2.1.2.2.1.2.1 (fun s ho hLs hr hl => ?_)⟩
  rw [if_pos rfl] at hl
  have hks : Keep σ s := by
    obtain ⟨b1, ⟨b2, b3, b4, b5, b6, b7⟩, b8⟩ := hI.2.1
    have ne : ∀ k, k ≠ 43 → k ≠ 44 → s k = σ k := fun k h1 h2 => ho k (by simp only [List.mem_cons, List.not_mem_nil, or_false]; omega)
    exact ⟨Fr.offX ho (by decide), hLs, ⟨by unfold Bes; rw [ne 27 (by decide) (by decide)]; exact b1, ⟨b2.cong (ne 36 (by decide) (by decide)), b3.cong (ne 38 (by decide) (by decide)), hr, b5.cong (ne 45 (by decide) (by decide)), b6.cong (ne 57 (by decide) (by decide)), b7.cong (ne 59 (by decide) (by decide))⟩, b8.cong (ne 0 (by decide) (by decide)) (ne 35 (by decide) (by decide)) (ne 170 (by decide) (by decide)) (ne 171 (by decide) (by decide)) (fun j _ _ => by rw [ne 26 (by decide) (by decide)])⟩⟩
  have hIs := hI.keep hks
  have e0 : s 0 = σ 0 := hks.1.e0
  have hm : s 43 1 = 1 := by
    have := congrArg List.length hl
    rw [rowL_len] at this
    have h2 := hr.2.1
    simp only [List.length_cons, List.length_nil] at this
    omega
  have hv : s 44 0 = c := by
    have := rowL_getD (σ := s) (r := 43) (i := 0) (by omega)
    rw [hl] at this
    exact this.symm
  rw [ly_0_15 hLs, ly_40_2 hLs]
  refine ⟨o_40, X_keepLine (by omega) hLs (by rw [e0]; omega) hr (by omega) ?_⟩
  generalize hp : kst (rowTake s (146 + 2 * s 0 11) 43) 0 11 (s 0 11 + 1) = p
  have hla := line_at hLs (i := s 0 11) (by rw [e0]; omega)
  have hLp : Lay p := by
    rw [← hp]
    refine Lay.kstO 11 (Lay_rowOff hLs hla.2.1 rowTake_off (fun j hj => ?_)) o_0 (by decide)
    unfold rowTake
    rw [kst_kj hj, kcpy_k (by omega)]
  have hb10 : 0 ≤ s 0 11 ∧ s 0 11 < 10 := by rw [e0]; omega
  have p166 : p 166 = s 166 := by rw [← hp, kst_k (by decide), rowTake_off 166 (by simp only [List.mem_cons, List.not_mem_nil, or_false]; omega)]
  have s34 : s 166 34 = σ 0 11 := by rw [hks.1.2 34 (by unfold esf; omega)]; exact h34
  refine EX12_lineAt fun _ _ => SX12_lineAt_0 ⟨o_166, fun t1 e1 => ?_⟩
  have L1 : Lay t1 := by rw [e1]; exact hLp.kstO 0 o_166 (by decide)
  have g34 : t1 166 34 = σ 0 11 := by rw [e1, kst_kj (by decide), p166, s34]
  refine ⟨fun z => by omega, fun _ => M_isCell (by omega) (fun _ => ⟨fun _ => ?_, fun e => by omega⟩) (fun z => absurd c1 z)⟩
  rw [ly_166_32 L1, g34]
  refine ⟨a_182, by omega, fun t2 e2 => ?_⟩
  have hst : ML t1 t2 (fun _ => c) 0 := by
    rw [e2, ← g34]
    exact ML.start L1
  refine M_addCell (by omega) hst (by rw [g34]; omega) (by omega) rfl (fun t3 h3 => ?_)
  have q34 : t3 166 34 = σ 0 11 := by rw [h3.1 166 (by decide), g34]
  refine M_added (by omega) (by rw [q34]; omega) ?_
  rw [q34, e0]
  refine ⟨rfl, ?_⟩
  have := Line_done (σ := s) (p := t1) (t := t3) (f := fun _ => c) (r := 43) (m := 0 + 1) hIs (Or.inr (Or.inl rfl)) hr (by omega) (by omega) (fun i i0 i1 => by rw [show i = 0 by omega]; exact hv) (fun i _ _ => c1) (fun i i0 i1 => by omega) (by rw [e0]; omega) (by rw [hp, e1]; exact off.rfl'.kst (by decide)) (fun j hj => by rw [e1, kst_kj (by unfold esf at hj; omega), p166]) h3
  rw [e0] at this
  exact this
