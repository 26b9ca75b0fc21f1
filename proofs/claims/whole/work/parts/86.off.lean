/-! off, slip -/
theorem book_rows {σ : kS} (hL : Lay σ) {i : Int} (h : 0 ≤ i ∧ i < 5) : σ (121 + 5 * i) 0 = 122 + 5 * i ∧ σ (121 + 5 * i) 1 = 124 + 5 * i := by
  rcases (show i = 0 ∨ i = 1 ∨ i = 2 ∨ i = 3 ∨ i = 4 by omega) with rfl | rfl | rfl | rfl | rfl
  · exact ⟨ly_121_0 hL, ly_121_1 hL⟩
  · exact ⟨ly_126_0 hL, ly_126_1 hL⟩
  · exact ⟨ly_131_0 hL, ly_131_1 hL⟩
  · exact ⟨ly_136_0 hL, ly_136_1 hL⟩
  · exact ⟨ly_141_0 hL, ly_141_1 hL⟩
theorem tenths_b : ∀ l : List Int, 0 ≤ tenths l ∧ tenths l ≤ 14 * l.length := by
  intro l
  induction l with
  | nil => exact ⟨Int.le_refl 0, Int.le_refl 0⟩
  | cons a t ih =>
    cases t with
    | nil =>
      rw [show tenths [a] = 0 from rfl]
      simp only [List.length_cons]
      omega
    | cons b t =>
      rw [tenths]
      simp only [List.length_cons] at ih ⊢
      split <;> omega
theorem milesL_b {l : List Int} (h : l.length ≤ 120) : 0 ≤ milesL l ∧ milesL l ≤ 168 := by
  have := tenths_b l
  unfold milesL
  omega
def isStg (σ : kS) (b s : Int) : Prop := (0 ≤ b ∧ b < σ 0 8) ∧ 0 ≤ s ∧ s < σ (124 + 5 * b) 1
theorem isStg_fr {σ s : kS} (hI : Inv σ) (h : Fr σ s) {b t : Int} : isStg s b t ↔ isStg σ b t := by
  have hB := hI.2.2.2.2.2.2.2.1.1
  unfold isStg
  rw [h.e0]
  constructor
  · rintro ⟨h1, h2, h3⟩
    rw [h.1 (124 + 5 * b) (by unfold scr; omega)] at h3
    exact ⟨h1, h2, h3⟩
  · rintro ⟨h1, h2, h3⟩
    rw [h.1 (124 + 5 * b) (by unfold scr; omega)]
    exact ⟨h1, h2, h3⟩
theorem X_townAt {d : Nat} (hd : 2 ≤ d) {σ : kS} {b i : Int} {Q : Int → kS → Prop} (hL : Lay σ) (hB : cBook σ) (hb : 0 ≤ b ∧ b < 5) (h : Q (rowAt σ (122 + 5 * b) i) σ) : Ci d MX0_townAt [(2, 121 + 5 * b), (0, i)] kN σ Q := by
  obtain ⟨d, rfl⟩ : ∃ e, d = e + 1 := ⟨d - 1, by omega⟩
  have h1 := book_at hL hb
  have h2 := book_rows hL hb
  have hr := (hB.2.2.1 b hb.1 hb.2).1
  refine EX0_townAt fun _ _ => SX0_townAt_0 ⟨h1.2.1, ?_⟩
  rw [h2.1]
  exact ⟨hr.1, Row_at (by omega) hL hr h⟩
theorem X_milesTold {d : Nat} (hd : 2 ≤ d) {σ : kS} {b i : Int} {Q : Int → kS → Prop} (hL : Lay σ) (hB : cBook σ) (hb : 0 ≤ b ∧ b < 5) (h : Q (rowAt σ (124 + 5 * b) i) σ) : Ci d MX0_milesTold [(2, 121 + 5 * b), (0, i)] kN σ Q := by
  obtain ⟨d, rfl⟩ : ∃ e, d = e + 1 := ⟨d - 1, by omega⟩
  have h1 := book_at hL hb
  have h2 := book_rows hL hb
  have hr := (hB.2.2.1 b hb.1 hb.2).2
  refine EX0_milesTold fun _ _ => SX0_milesTold_0 ⟨h1.2.1, ?_⟩
  rw [h2.2]
  exact ⟨hr.1, Row_at (by omega) hL hr h⟩
theorem X_stages {d : Nat} (hd : 1 ≤ d) {σ : kS} {b : Int} {Q : Int → kS → Prop} (hL : Lay σ) (hB : cBook σ) (hb : 0 ≤ b ∧ b < 5) (h : Q (σ (124 + 5 * b) 1) σ) : Ci d MX0_stages [(2, 121 + 5 * b)] kN σ Q := by
  obtain ⟨d, rfl⟩ : ∃ e, d = e + 1 := ⟨d - 1, by omega⟩
  have h1 := book_at hL hb
  have h2 := book_rows hL hb
  have hr := (hB.2.2.1 b hb.1 hb.2).2
  refine EX0_stages fun _ => SX0_stages_0 ⟨h1.2.1, ?_⟩
  rw [h2.2]
  exact ⟨hr.1, h⟩
theorem X_isStage {d : Nat} (hd : 2 ≤ d) {σ : kS} {b s : Int} {Q : Int → kS → Prop} (hL : Lay σ) (hB : cBook σ) (h1 : isStg σ b s → Q 1 σ) (h0 : ¬ isStg σ b s → Q 0 σ) : Ci d MX11_isStage [(2, 0), (0, b), (0, s)] kN σ Q := by
  obtain ⟨d, rfl⟩ : ∃ e, d = e + 1 := ⟨d - 1, by omega⟩
  have k18 := kl_18
  have hn := hB.1
  unfold isStg at h1 h0
  refine EX11_isStage fun _ _ _ => SX11_isStage_0 ⟨fun q => h0 (fun z => by omega), fun q => ⟨o_0, fun q2 => h0 (fun z => by omega), fun q2 => ⟨fun q3 => h0 (fun z => by omega), fun q3 => ?_⟩⟩⟩
  have hb := book_at hL (i := b) (by omega)
  rw [ly_0_7 hL, hb.1]
  exact ⟨a_18, by omega, hb.2.1, X_stages (by omega) hL hB (by omega) ⟨fun q4 => h0 (fun z => by omega), fun q4 => h1 (by omega)⟩⟩
theorem M_isStage {d : Nat} (hd : 2 ≤ d) {σ : kS} {b s : Int} {Q : Int → kS → Prop} (hL : Lay σ) (hB : cBook σ) (h1 : isStg σ b s → Q 1 σ) (h0 : ¬ isStg σ b s → Q 0 σ) : Ci d MX12_isStage [(2, 166), (0, b), (0, s)] kN σ Q := by
  obtain ⟨d, rfl⟩ : ∃ e, d = e + 1 := ⟨d - 1, by omega⟩
  have k173 := kl_173
  have hn := hB.1
  have h15 := hB.2.1
  unfold isStg at h1 h0
  refine EX12_isStage fun _ _ _ => SX12_isStage_0 ⟨o_166, by omega, M_isIn (by omega) (fun c1 => ⟨fun e => by omega, fun _ => ?_⟩) (fun c1 => ⟨fun _ => h0 (fun z => c1 (by omega)), fun e => absurd rfl e⟩)⟩
  obtain ⟨p1, p2, p3, p4, p5⟩ := hB.2.2.2 b (by omega) (by omega)
  rw [ly_166_8 hL, p3]
  exact ⟨a_173, by omega, by omega, M_isIn (by omega) (fun c2 => ⟨fun e => by omega, fun _ => h1 (by omega)⟩) (fun c2 => ⟨fun _ => h0 (fun z => c2 (by omega)), fun e => absurd rfl e⟩)⟩
noncomputable def trueM (σ : kS) (T : Int → Int) (b s : Int) : Int := milesL (wayP T (σ 20 (σ (123 + 5 * b) s)) (σ 20 (σ (123 + 5 * b) (s + 1))))
theorem trueM_fr {σ s : kS} (h : Fr σ s) {T : Int → Int} {b t : Int} (hb : 0 ≤ b ∧ b < 5) : trueM s T b t = trueM σ T b t := by
  unfold trueM
  rw [h.1 20 (by unfold scr; omega), h.1 (123 + 5 * b) (by unfold scr; omega)]
/-- the stage's numbers -/
theorem stg_facts {σ : kS} (hI : Inv σ) {b s : Int} (h : isStg σ b s) : (0 ≤ b ∧ b < 4) ∧ (0 ≤ s ∧ s < 59) ∧ (rowAt σ (122 + 5 * b) s = σ (123 + 5 * b) s ∧ rowAt σ (122 + 5 * b) (s + 1) = σ (123 + 5 * b) (s + 1) ∧ rowAt σ (124 + 5 * b) s = σ (125 + 5 * b) s) ∧ ((0 ≤ σ (123 + 5 * b) s ∧ σ (123 + 5 * b) s < σ 19 1) ∧ 0 ≤ σ (123 + 5 * b) (s + 1) ∧ σ (123 + 5 * b) (s + 1) < σ 19 1) ∧ (σ (123 + 5 * b) s = σ 174 (60 * b + s) ∧ σ (123 + 5 * b) (s + 1) = σ 175 (60 * b + s) ∧ σ (125 + 5 * b) s = σ 176 (60 * b + s) ∧ 0 ≤ σ (125 + 5 * b) s ∧ σ (125 + 5 * b) s ≤ 99) := by
  have hB := hI.2.2.2.2.2.2.2.1
  obtain ⟨h1, h2, h3⟩ := h
  have hn := hB.1
  obtain ⟨p1, p2, p3, p4, p5⟩ := hB.2.2.2 b h1.1 h1.2
  have e1 : rowAt σ (122 + 5 * b) s = σ (123 + 5 * b) s := by rw [rowAt_in (by omega), show 122 + 5 * b + 1 = 123 + 5 * b by omega]
  have e2 : rowAt σ (122 + 5 * b) (s + 1) = σ (123 + 5 * b) (s + 1) := by rw [rowAt_in (by omega), show 122 + 5 * b + 1 = 123 + 5 * b by omega]
  have e3 : rowAt σ (124 + 5 * b) s = σ (125 + 5 * b) s := by rw [rowAt_in (by omega), show 124 + 5 * b + 1 = 125 + 5 * b by omega]
  exact ⟨by omega, by omega, ⟨e1, e2, e3⟩, ⟨p5 s h2 (by omega), p5 (s + 1) (by omega) (by omega)⟩, p4 s h2 h3⟩
theorem town_cell {σ : kS} (hI : Inv σ) {t : Int} (h : 0 ≤ t ∧ t < σ 19 1) : rowAt σ 19 t = σ 20 t ∧ σ 20 t = σ 168 t ∧ isCel (σ 20 t) ∧ t < 8 := by
  have hT := hI.2.2.2.2.1
  have k20 : klen (19 + 1) = 8 := kl_20
  have hsz := hT.1.1.2
  exact ⟨rowAt_in h, hT.2.2.1 t h.1 h.2, hT.1.2 t h.1 h.2, by omega⟩
theorem X_milesOfStage {d : Nat} (hd : 6 ≤ d) {σ : kS} {T : Int → Int} {b s : Int} {Q : Int → kS → Prop} (hI : Inv σ) (ht : TolOK T) (hT : TEq (σ 28) T) (hs : isStg σ b s) (h : ∀ u, Keep σ u → off [26, 29, 31, 36, 37] σ u → 0 ≤ trueM σ T b s ∧ trueM σ T b s ≤ 168 → Q (trueM σ T b s) u) : Ci d MX11_milesOfStage [(2, 0), (2, 121 + 5 * b), (0, s)] kN σ Q := by
  obtain ⟨d, rfl⟩ : ∃ e, d = e + 1 := ⟨d - 1, by omega⟩
  have hB := hI.2.2.2.2.2.2.2.1
  have hTn := hI.2.2.2.2.1
  obtain ⟨f1, f2, f3, f4, f5⟩ := stg_facts hI hs
  have hb := book_at hI.1 (i := b) (by omega)
  have t1 := town_cell hI f4.1
  have t2 := town_cell hI f4.2
  refine EX11_milesOfStage fun _ _ => SX11_milesOfStage_0 ⟨o_0, hb.2.1, X_townAt (by omega) hI.1 hB (by omega) ?_⟩
  rw [f3.1, ly_0_9 hI.1]
  refine ⟨o_19, Row_at (by omega) hI.1 hTn.1.1 ⟨by omega, X_townAt (by omega) hI.1 hB (by omega) ?_⟩⟩
  rw [f3.2.1, ly_0_9 hI.1]
  refine ⟨o_19, Row_at (by omega) hI.1 hTn.1.1 ?_⟩
  rw [t1.1, t2.1, ly_0_14 hI.1]
  refine ⟨o_26, X_layT (by omega) hI t1.2.2.1 t2.2.2.1 ht hT (fun u hu ho => ?_)⟩
  have hLu := hu.1.2.1
  have hf := hu.2.2.1.facts ht t1.2.2.1
  rw [ly_0_14 hLu, ly_26_13 hLu]
  refine ⟨o_26, o_36, Row_miles (by omega) hLu hu.2.1.1 ?_⟩
  have hv : milesL (rowL u 36) = trueM σ T b s := by
    unfold trueM
    rw [hu.2.2.2.1]
  have hbd := milesL_b hf.2.1
  rw [hv] at hbd ⊢
  exact h u hu.1 ho hbd
theorem M_trueMiles {d : Nat} (hd : 8 ≤ d) {σ : kS} {T : Int → Int} {b s : Int} {Q : Int → kS → Prop} (hI : Inv σ) (ht : TolOK T) (hT : TEq (σ 177) T) (hs : isStg σ b s) (h : ∀ u, Keep σ u → off [166, 178, 180] σ u → 0 ≤ trueM σ T b s ∧ trueM σ T b s ≤ 168 → Q (trueM σ T b s) u) : Ci d MX12_trueMiles [(2, 166), (0, b), (0, s)] kN σ Q := by
  obtain ⟨d, rfl⟩ : ∃ e, d = e + 1 := ⟨d - 1, by omega⟩
  have k174 := kl_174
  have k175 := kl_175
  have k168 := kl_168
  have k180 := kl_180
  obtain ⟨f1, f2, f3, f4, f5⟩ := stg_facts hI hs
  have t1 := town_cell hI f4.1
  have t2 := town_cell hI f4.2
  refine EX12_trueMiles fun _ _ _ => SX12_trueMiles_0 ⟨o_166, by omega, by omega, ?_⟩
  rw [ly_166_9 hI.1, ly_166_10 hI.1, ly_166_2 hI.1, ← f5.1, ← f5.2.1, ← t1.2.1, ← t2.2.1]
  refine ⟨a_174, by omega, a_168, by omega, a_175, by omega, by omega, M_goT (by omega) hI.1 t1.2.2.1 t2.2.2.1 ht hT (fun u hu hj ho => ?_)⟩
  have hk := hu.keep hI
  have hn := hu.2.2.2.1
  have hf := hu.2.2.2.2.2.1.facts ht t1.2.2.1
  have hadj := hu.2.2.2.2.2.1.adj (by omega)
  rw [ly_166_29 hk.2.1]
  refine M_miles (by omega) a_180 (by omega) (fun i i0 i1 => ?_) ?_
  · rw [Int.zero_add, Int.zero_add]
    have := hu.2.2.2.2.1 i (by omega) i1
    exact ⟨hadj i i0 i1, by omega⟩
  · have hv : milesL (seg (u 180) 0 (u 166 30)) = trueM σ T b s := by
      unfold trueM
      rw [hu.2.2.2.2.2.2.1]
    have hbd := milesL_b hf.2.1
    rw [hv] at hbd ⊢
    exact h u hk ho hbd
def slipV (told real by' : Int) : Int := if told - real ≤ by' ∧ real - told ≤ by' then 0 else if 99 < real then 3 else if told / 10 = real % 10 ∧ told % 10 = real / 10 then 1 else if told / 10 = real / 10 ∨ told % 10 = real % 10 then 2 else 3
theorem X_slipOf {d n : Nat} (hd : 2 ≤ d) {σ : kS} {told real b : Int} {Q : Int → kS → Prop} (h0 : 0 ≤ told ∧ told ≤ 99) (h1 : 0 ≤ real ∧ real ≤ 168) (h : Q (slipV told real b) σ) : Ci d MX11_slipOf [(0, told), (0, real), (0, b)] n σ Q := by
  obtain ⟨d, rfl⟩ : ∃ e, d = e + 1 := ⟨d - 1, by omega⟩
  unfold slipV at h
  refine EX11_slipOf fun _ _ _ _ => SX11_slipOf_0 ⟨by omega, J_abs (by omega) (by omega) ⟨fun q => ⟨fun q2 => ⟨h0.1, h1.1, ?_⟩, fun q2 => ?_⟩, fun q => ?_⟩⟩
  · rw [if_neg (by omega), if_neg (by omega)] at h
    refine ⟨fun q3 => ⟨fun q4 => ?_, fun q4 => ⟨fun q5 => ?_, fun q5 => ?_⟩⟩, fun q3 => ⟨fun q4 => ⟨fun q5 => ?_, fun q5 => ⟨fun q6 => ?_, fun q6 => ?_⟩⟩, fun q4 => ?_⟩⟩
    · rw [if_neg (fun z => q3 z.1), if_pos (Or.inl q4)] at h
      exact h
    · rw [if_neg (fun z => q3 z.1), if_neg (fun z => z.elim q4 q5)] at h
      exact h
    · rw [if_neg (fun z => q3 z.1), if_pos (Or.inr (Classical.not_not.mp q5))] at h
      exact h
    · rw [if_neg (fun z => q4 z.2), if_pos (Or.inl q5)] at h
      exact h
    · rw [if_neg (fun z => q4 z.2), if_neg (fun z => z.elim q5 q6)] at h
      exact h
    · rw [if_neg (fun z => q4 z.2), if_pos (Or.inr (Classical.not_not.mp q6))] at h
      exact h
    · rw [if_pos ⟨Classical.not_not.mp q3, Classical.not_not.mp q4⟩] at h
      exact h
  · rw [if_neg (by omega), if_pos (by omega)] at h
    exact h
  · rw [if_pos (by omega)] at h
    exact h
theorem M_slipOf {d : Nat} (hd : 10 ≤ d) {σ : kS} {T : Int → Int} {b s k : Int} {Q : Int → kS → Prop} (hI : Inv σ) (ht : TolOK T) (hT : TEq (σ 177) T) (hs : isStg σ b s) (hk : 0 ≤ k) (h : ∀ u, Keep σ u → off [166, 178, 180] σ u → Q (slipV (σ (125 + 5 * b) s) (trueM σ T b s) k) u) : Ci d MX12_slipOf [(2, 166), (0, b), (0, s), (0, k)] kN σ Q := by
  obtain ⟨d, rfl⟩ : ∃ e, d = e + 1 := ⟨d - 1, by omega⟩
  have k176 := kl_176
  obtain ⟨f1, f2, f3, f4, f5⟩ := stg_facts hI hs
  refine EX12_slipOf fun _ _ _ _ => SX12_slipOf_0 ⟨o_166, M_trueMiles (by omega) hI ht hT hs (fun u hu ho hb => ?_)⟩
  have h := h u hu ho
  have e176 : u 176 = σ 176 := ho 176 (by decide)
  rw [ly_166_11 hu.2.1, e176, ← f5.2.2.1]
  generalize σ (125 + 5 * b) s = told at *
  generalize trueM σ T b s = real at *
  unfold slipV at h
  refine ⟨by omega, by omega, a_176, by omega, by omega, J_abs (by omega) (by omega) ⟨fun q => ⟨fun q2 => ⟨hb.1, by omega, by omega, ?_⟩, fun q2 => ?_⟩, fun q => ?_⟩⟩
  · rw [if_neg (by omega), if_neg (by omega)] at h
    refine ⟨fun q3 => ⟨by omega, fun q4 => ⟨fun q5 => ?_, fun q5 => ?_⟩, fun q4 => ⟨fun q5 => ?_, fun q5 => ?_⟩⟩, fun q3 => ?_⟩
    · rw [if_neg (by omega), if_neg (by omega)] at h
      exact h
    · rw [if_neg (by omega), if_pos (by omega)] at h
      exact h
    · rw [if_neg (by omega), if_pos (by omega)] at h
      exact h
    · exact absurd q (by omega)
    · rw [if_pos (by omega)] at h
      exact h
  · rw [if_neg (by omega), if_pos (by omega)] at h
    exact h
  · rw [if_pos (by omega)] at h
    exact h
noncomputable def offA (σ : kS) (b s g load wet : Int) : Int := cif (isStg σ b s ∧ isMan σ g load) (σ (125 + 5 * b) s - trueM σ (tolN σ g load wet) b s) (-100000)
theorem told_fr {σ s : kS} (h : Fr σ s) {b : Int} (hb : 0 ≤ b ∧ b < 5) : s (125 + 5 * b) = σ (125 + 5 * b) := h.1 _ (by unfold scr; omega)
theorem offA_fr {σ s : kS} (hI : Inv σ) (h : Fr σ s) {b t g load wet : Int} : offA s b t g load wet = offA σ b t g load wet := by
  have hB := hI.2.2.2.2.2.2.2.1.1
  unfold offA
  rw [isMan_fr h, tolN_fr h]
  by_cases c : isStg σ b t ∧ isMan σ g load
  · have hb : 0 ≤ b ∧ b < 5 := by have := c.1.1; omega
    rw [cif_pos c, cif_pos ⟨(isStg_fr hI h).mpr c.1, c.2⟩, trueM_fr h hb, told_fr h hb]
  · rw [cif_neg c, cif_neg (fun z => c ⟨(isStg_fr hI h).mp z.1, z.2⟩)]
theorem O_off {b s g load wet : Int} (hw : wet = 0 ∨ wet = 1) : Op MX11_off MX12_off [(0, b), (0, s), (0, g), (0, load), (0, wet)] := by
  refine Op.of (fun σ => offA σ b s g load wet) (fun σ s hI hk => offA_fr hI hk.1) (fun d σ Q hd hI h => ?_) (fun d σ Q hd hI h => ?_)
  · obtain ⟨d, rfl⟩ : ∃ e, d = e + 1 := ⟨d - 1, by omega⟩
    have k17 := kl_17
    have k18 := kl_18
    have hB := hI.2.2.2.2.2.2.2.1
    have hg6 := hI.2.2.2.2.2.2.1.1
    have hno : ¬ (isStg σ b s ∧ isMan σ g load) → Q (-100000) σ := fun z => by
      have hs := h σ hI.self
      unfold offA at hs
      rw [cif_neg z] at hs
      exact hs
    refine EX11_off fun _ _ _ _ _ _ => SX11_off_0 ⟨o_0, X_isStage (by omega) hI.1 hB (fun c1 => ⟨fun e => by omega, fun _ => X_isManner (by omega) (fun c2 => ⟨fun _ => ?_, fun e => by omega⟩) (fun c2 => ⟨fun e => absurd rfl e, fun _ => hno (fun z => c2 z.2)⟩)⟩) (fun c1 => ⟨fun _ => hno (fun z => c1 z.1), fun e => absurd rfl e⟩)⟩
    have hgo := goer_at hI.1 (i := g) (by omega)
    have hF := stg_facts hI c1
    rw [ly_0_5 hI.1, ly_0_14 hI.1, hgo.1, ly_0_0 hI.1]
    refine ⟨a_17, by omega, o_26, X_fitK (by omega) hI c2 hw (fun s3 hk3 hT3 _ => ?_)⟩
    have hI3 := hI.keep hk3
    have c1' : isStg s3 b s := (isStg_fr hI hk3.1).mpr c1
    have hF3 := stg_facts hI3 c1'
    have hb := book_at hI3.1 (i := b) (by omega)
    rw [ly_0_7 hI3.1, hb.1]
    refine ⟨a_18, by omega, hb.2.1, X_milesTold (by omega) hI3.1 hI3.2.2.2.2.2.2.2.1 (by omega) ?_⟩
    rw [ly_0_7 hI3.1, hb.1]
    refine ⟨a_18, by omega, X_milesOfStage (by omega) hI3 tolH_ok hT3 c1' (fun u hu _ hbd => ?_)⟩
    have hgo2 := h u (hk3.trans hu)
    unfold offA at hgo2
    rw [cif_pos ⟨c1, c2⟩, ← trueM_fr hk3.1 (by omega), ← told_fr hk3.1 (by omega)] at hgo2
    rw [hF3.2.2.1.2.2]
    have h5 := hF3.2.2.2.2
    exact ⟨by omega, hgo2⟩
  · obtain ⟨d, rfl⟩ : ∃ e, d = e + 1 := ⟨d - 1, by omega⟩
    have k176 := kl_176
    refine EX12_off fun _ _ _ _ _ _ => SX12_off_0 ⟨o_166, fun s1 e1 => ?_⟩
    have hk1 : Keep σ s1 := by rw [e1]; exact hI.thrown
    have hI1 := hI.keep hk1
    have hh : ∀ u, Keep s1 u → Q (offA s1 b s g load wet) u := fun u hu => by
      rw [offA_fr hI hk1.1]
      exact h u (hk1.trans hu)
    have hB := hI1.2.2.2.2.2.2.2.1
    have hno : ¬ (isStg s1 b s ∧ isMan s1 g load) → Q (-100000) s1 := fun z => by
      have hs := hh s1 hI1.self
      unfold offA at hs
      rw [cif_neg z] at hs
      exact hs
    refine M_isStage (by omega) hI1.1 hB (fun c1 => ⟨fun e => by omega, fun _ => MI_isMan (by omega) hI1 (fun c2 => ⟨fun _ => ?_, fun e => by omega⟩) (fun c2 => ⟨fun e => absurd rfl e, fun _ => hno (fun z => c2 z.2)⟩)⟩) (fun c1 => ⟨fun _ => hno (fun z => c1 z.1), fun e => absurd rfl e⟩)
    have hF := stg_facts hI1 c1
    refine MI_layPains (by omega) hI1 c2 hw (fun s4 hk4 hT4 ho4 => ?_)
    have hI4 := hI1.keep hk4
    have e176 : s4 176 = s1 176 := ho4 176 (by decide)
    rw [ly_166_11 hI4.1, e176, ← hF.2.2.2.2.2.2.1]
    refine ⟨by omega, by omega, a_176, by omega, M_trueMiles (by omega) hI4 tolH_ok hT4 ((isStg_fr hI1 hk4.1).mpr c1) (fun u hu _ hbd => ?_)⟩
    have hgo2 := hh u (hk4.trans hu)
    unfold offA at hgo2
    rw [cif_pos ⟨c1, c2⟩, ← trueM_fr hk4.1 (by omega)] at hgo2
    have h5 := hF.2.2.2.2
    exact ⟨by omega, hgo2⟩
noncomputable def slA (σ : kS) (b s g load wet k : Int) : Int := cif (isStg σ b s ∧ isMan σ g load ∧ 0 ≤ k ∧ k ≤ 20) (slipV (σ (125 + 5 * b) s) (trueM σ (tolN σ g load wet) b s) k) (-1)
theorem slA_fr {σ s : kS} (hI : Inv σ) (h : Fr σ s) {b t g load wet k : Int} : slA s b t g load wet k = slA σ b t g load wet k := by
  have hB := hI.2.2.2.2.2.2.2.1.1
  unfold slA
  rw [isMan_fr h, tolN_fr h]
  by_cases c : isStg σ b t ∧ isMan σ g load ∧ 0 ≤ k ∧ k ≤ 20
  · have hb : 0 ≤ b ∧ b < 5 := by have := c.1.1; omega
    rw [cif_pos c, cif_pos ⟨(isStg_fr hI h).mpr c.1, c.2⟩, trueM_fr h hb, told_fr h hb]
  · rw [cif_neg c, cif_neg (fun z => c ⟨(isStg_fr hI h).mp z.1, z.2⟩)]
theorem O_slip {b s g load wet k : Int} (hw : wet = 0 ∨ wet = 1) : Op MX11_slip MX12_slip [(0, b), (0, s), (0, g), (0, load), (0, wet), (0, k)] := by
  refine Op.of (fun σ => slA σ b s g load wet k) (fun σ s hI hk => slA_fr hI hk.1) (fun d σ Q hd hI h => ?_) (fun d σ Q hd hI h => ?_)
  · obtain ⟨d, rfl⟩ : ∃ e, d = e + 1 := ⟨d - 1, by omega⟩
    have k17 := kl_17
    have k18 := kl_18
    have hB := hI.2.2.2.2.2.2.2.1
    have hg6 := hI.2.2.2.2.2.2.1.1
    have hno : ¬ (isStg σ b s ∧ isMan σ g load ∧ 0 ≤ k ∧ k ≤ 20) → Q (-1) σ := fun z => by
      have hs := h σ hI.self
      unfold slA at hs
      rw [cif_neg z] at hs
      exact hs
    refine EX11_slip fun _ _ _ _ _ _ _ => SX11_slip_0 ⟨o_0, X_isStage (by omega) hI.1 hB (fun c1 => ⟨fun e => by omega, fun _ => X_isManner (by omega) (fun c2 => ⟨fun e => by omega, fun _ => X_isBy (by omega) (fun c3 => ⟨fun _ => ?_, fun e => by omega⟩) (fun c3 => ⟨fun e => absurd rfl e, fun _ => hno (fun z => c3 z.2.2)⟩)⟩) (fun c2 => ⟨fun _ => hno (fun z => c2 z.2.1), fun e => absurd rfl e⟩)⟩) (fun c1 => ⟨fun _ => hno (fun z => c1 z.1), fun e => absurd rfl e⟩)⟩
    have hgo := goer_at hI.1 (i := g) (by omega)
    have hF := stg_facts hI c1
    rw [ly_0_5 hI.1, ly_0_14 hI.1, hgo.1, ly_0_0 hI.1]
    refine ⟨a_17, by omega, o_26, X_fitK (by omega) hI c2 hw (fun s3 hk3 hT3 _ => ?_)⟩
    have hI3 := hI.keep hk3
    have c1' : isStg s3 b s := (isStg_fr hI hk3.1).mpr c1
    have hF3 := stg_facts hI3 c1'
    have hb := book_at hI3.1 (i := b) (by omega)
    rw [ly_0_7 hI3.1, hb.1]
    refine ⟨a_18, by omega, hb.2.1, X_milesTold (by omega) hI3.1 hI3.2.2.2.2.2.2.2.1 (by omega) ?_⟩
    rw [ly_0_7 hI3.1, hb.1]
    refine ⟨a_18, by omega, X_milesOfStage (by omega) hI3 tolH_ok hT3 c1' (fun u hu _ hbd => ?_)⟩
    have hgo2 := h u (hk3.trans hu)
    unfold slA at hgo2
    rw [cif_pos ⟨c1, c2, c3⟩, ← trueM_fr hk3.1 (by omega), ← told_fr hk3.1 (by omega)] at hgo2
    rw [hF3.2.2.1.2.2]
    exact X_slipOf (by omega) hF3.2.2.2.2.2.2.2 hbd hgo2
  · obtain ⟨d, rfl⟩ : ∃ e, d = e + 1 := ⟨d - 1, by omega⟩
    refine EX12_slip fun _ _ _ _ _ _ _ => SX12_slip_0 ⟨o_166, fun s1 e1 => ?_⟩
    have hk1 : Keep σ s1 := by rw [e1]; exact hI.thrown
    have hI1 := hI.keep hk1
    have hh : ∀ u, Keep s1 u → Q (slA s1 b s g load wet k) u := fun u hu => by
      rw [slA_fr hI hk1.1]
      exact h u (hk1.trans hu)
    have hB := hI1.2.2.2.2.2.2.2.1
    have hno : ¬ (isStg s1 b s ∧ isMan s1 g load ∧ 0 ≤ k ∧ k ≤ 20) → Q (-1) s1 := fun z => by
      have hs := hh s1 hI1.self
      unfold slA at hs
      rw [cif_neg z] at hs
      exact hs
    refine M_isStage (by omega) hI1.1 hB (fun c1 => ⟨fun e => by omega, fun _ => MI_isMan (by omega) hI1 (fun c2 => ⟨fun e => by omega, fun _ => M_isIn (by omega) (fun c3 => ⟨fun _ => ?_, fun e => by omega⟩) (fun c3 => ⟨fun e => absurd rfl e, fun _ => hno (fun z => c3 z.2.2)⟩)⟩) (fun c2 => ⟨fun _ => hno (fun z => c2 z.2.1), fun e => absurd rfl e⟩)⟩) (fun c1 => ⟨fun _ => hno (fun z => c1 z.1), fun e => absurd rfl e⟩)
    have hF := stg_facts hI1 c1
    refine MI_layPains (by omega) hI1 c2 hw (fun s4 hk4 hT4 ho4 => ?_)
    refine M_slipOf (by omega) (hI1.keep hk4) tolH_ok hT4 ((isStg_fr hI1 hk4.1).mpr c1) c3.1 (fun u hu _ => ?_)
    have hgo2 := hh u (hk4.trans hu)
    unfold slA at hgo2
    rw [cif_pos ⟨c1, c2, c3⟩, ← trueM_fr hk4.1 (by omega), ← told_fr hk4.1 (by omega)] at hgo2
    exact hgo2
