/-! meets, older, alike -/
def plA (x y x2 y2 c : Int) : Int := if (x ≤ c % 12 ∧ c % 12 ≤ x2) ∧ y ≤ c / 12 ∧ c / 12 ≤ y2 then (if (c % 12 = x ∨ c % 12 = x2) ∨ c / 12 = y ∨ c / 12 = y2 then 2 else 1) else 0
def plF (σ : kS) (f c : Int) : Int := plA (σ 196 f) (σ 197 f) (σ 198 f) (σ 199 f) c
theorem plA_0 {x y x2 y2 c : Int} (h : ¬ ((x ≤ c % 12 ∧ c % 12 ≤ x2) ∧ y ≤ c / 12 ∧ c / 12 ≤ y2)) : plA x y x2 y2 c = 0 := if_neg h
theorem plA_2 {x y x2 y2 c : Int} (h : (x ≤ c % 12 ∧ c % 12 ≤ x2) ∧ y ≤ c / 12 ∧ c / 12 ≤ y2) (h2 : (c % 12 = x ∨ c % 12 = x2) ∨ c / 12 = y ∨ c / 12 = y2) : plA x y x2 y2 c = 2 := (if_pos h).trans (if_pos h2)
theorem plA_1 {x y x2 y2 c : Int} (h : (x ≤ c % 12 ∧ c % 12 ≤ x2) ∧ y ≤ c / 12 ∧ c / 12 ≤ y2) (h2 : ¬ ((c % 12 = x ∨ c % 12 = x2) ∨ c / 12 = y ∨ c / 12 = y2)) : plA x y x2 y2 c = 1 := (if_pos h).trans (if_neg h2)
theorem X_placeIn {d : Nat} (hd : 2 ≤ d) {σ : kS} {f c : Int} {Q : Int → kS → Prop} (hL : Lay σ) (hF : cField σ) (hf : 0 ≤ f ∧ f < σ 166 54) (hc : 0 ≤ c ∧ c < 120) (h : Q (plF σ f c) σ) : Ci d MX11_placeIn [(2, 0), (0, f), (0, c)] kN σ Q := by
  obtain ⟨d, rfl⟩ : ∃ e, d = e + 1 := ⟨d - 1, by omega⟩
  obtain ⟨f1, f2, f3, f4⟩ := hF
  have h4 := f4 f hf.1 hf.2
  have hv : ∀ k, 0 ≤ k → k < 4 → rowAt σ 24 (f * 4 + k) = σ 25 (4 * f + k) := fun k k0 k1 => by
    rw [rowAt_in (by omega), show f * 4 + k = 4 * f + k by omega]
    rfl
  have v0 : rowAt σ 24 (f * 4) = σ 196 f := by
    have := hv 0 (by omega) (by omega)
    rw [Int.add_zero, Int.add_zero, h4.1.1] at this
    exact this
  have v1 : rowAt σ 24 (f * 4 + 1) = σ 197 f := (hv 1 (by omega) (by omega)).trans h4.1.2.1
  have v2 : rowAt σ 24 (f * 4 + 2) = σ 198 f := (hv 2 (by omega) (by omega)).trans h4.1.2.2.1
  have v3 : rowAt σ 24 (f * 4 + 3) = σ 199 f := (hv 3 (by omega) (by omega)).trans h4.1.2.2.2
  unfold plF at h
  refine EX11_placeIn fun _ _ _ => SX11_placeIn_0 ⟨hc.1, o_0, by omega, ?_⟩
  rw [ly_0_13 hL]
  refine ⟨o_24, Row_at (by omega) hL f1 ⟨by omega, ?_⟩⟩
  rw [ly_0_13 hL]
  refine ⟨o_24, Row_at (by omega) hL f1 ⟨by omega, ?_⟩⟩
  rw [ly_0_13 hL]
  refine ⟨o_24, Row_at (by omega) hL f1 ⟨by omega, ?_⟩⟩
  rw [ly_0_13 hL]
  refine ⟨o_24, Row_at (by omega) hL f1 ?_⟩
  rw [v0, v1, v2, v3]
  have z0 : ¬ ((σ 196 f ≤ c % 12 ∧ c % 12 ≤ σ 198 f) ∧ σ 197 f ≤ c / 12 ∧ c / 12 ≤ σ 199 f) → Q 0 σ := fun z => by
    rw [plA_0 z] at h
    exact h
  refine ⟨fun q => z0 (fun z => by omega), fun q1 => ⟨fun q => z0 (fun z => by omega), fun q2 => ⟨fun q => z0 (fun z => by omega), fun q3 => ⟨fun q4 => ?_, fun q => z0 (fun z => by omega)⟩⟩⟩⟩
  have hin : (σ 196 f ≤ c % 12 ∧ c % 12 ≤ σ 198 f) ∧ σ 197 f ≤ c / 12 ∧ c / 12 ≤ σ 199 f := by omega
  have z2 : (c % 12 = σ 196 f ∨ c % 12 = σ 198 f) ∨ c / 12 = σ 197 f ∨ c / 12 = σ 199 f → Q 2 σ := fun z => by
    rw [plA_2 hin z] at h
    exact h
  refine ⟨fun q => z2 (Or.inl (Or.inl q)), fun p1 => ⟨fun q => z2 (Or.inl (Or.inr q)), fun p2 => ⟨fun q => z2 (Or.inr (Or.inl q)), fun p3 => ⟨fun p4 => ?_, fun q => z2 (Or.inr (Or.inr (Classical.not_not.mp q)))⟩⟩⟩⟩
  rw [plA_1 hin (by omega)] at h
  exact h
theorem M_lies {d : Nat} (hd : 3 ≤ d) {σ : kS} {f c : Int} {Q : Int → kS → Prop} (hL : Lay σ) (hF : cField σ) (hf : 0 ≤ f ∧ f < σ 166 54) (hc : 0 ≤ c ∧ c < 120) (h : ∀ v, (v = 0 ∧ plF σ f c = 0) ∨ (v = 1 ∧ plF σ f c = 2) ∨ (v = 2 ∧ plF σ f c = 1) → Q v σ) : Ci d MX12_lies [(2, 166), (0, f), (0, c)] kN σ Q := by
  obtain ⟨d, rfl⟩ : ∃ e, d = e + 1 := ⟨d - 1, by omega⟩
  have k196 := kl_196
  have k197 := kl_197
  have k198 := kl_198
  have k199 := kl_199
  obtain ⟨f1, f2, f3, f4⟩ := hF
  unfold plF at h
  refine EX12_lies fun _ _ _ => SX12_lies_0 ⟨hc.1, o_166, ?_⟩
  rw [ly_166_50 hL, ly_166_52 hL]
  refine ⟨a_196, by omega, a_198, by omega, M_isIn (by omega) (fun c1 => ⟨fun e => by omega, fun _ => ?_⟩) (fun c1 => ⟨fun _ => h 0 (Or.inl ⟨rfl, plA_0 (fun z => c1 z.1)⟩), fun e => absurd rfl e⟩)⟩
  rw [ly_166_51 hL, ly_166_53 hL]
  refine ⟨a_197, by omega, a_199, by omega, M_isIn (by omega) (fun c2 => ⟨fun _ => ?_, fun e => by omega⟩) (fun c2 => ⟨fun e => absurd rfl e, fun _ => h 0 (Or.inl ⟨rfl, plA_0 (fun z => c2 z.2)⟩)⟩)⟩
  rw [ly_166_50 hL, ly_166_52 hL, ly_166_51 hL, ly_166_53 hL]
  exact ⟨a_196, by omega, fun q => h 1 (Or.inr (Or.inl ⟨rfl, plA_2 ⟨c1, c2⟩ (Or.inl (Or.inl q))⟩)), fun q1 => ⟨a_198, by omega, fun q => h 1 (Or.inr (Or.inl ⟨rfl, plA_2 ⟨c1, c2⟩ (Or.inl (Or.inr q))⟩)), fun q2 => ⟨a_197, by omega, fun q => h 1 (Or.inr (Or.inl ⟨rfl, plA_2 ⟨c1, c2⟩ (Or.inr (Or.inl q))⟩)), fun q3 => ⟨a_199, by omega, fun q => h 2 (Or.inr (Or.inr ⟨rfl, plA_1 ⟨c1, c2⟩ (by omega)⟩)), fun q => h 1 (Or.inr (Or.inl ⟨rfl, plA_2 ⟨c1, c2⟩ (Or.inr (Or.inr (Classical.not_not.mp q)))⟩))⟩⟩⟩⟩
/-- what a field's meeting makes of a row -/
def meetL (p : Int → Int) : List Int → Int → Int → Int → Int
  | [], c, f, _ => c + 2 * f
  | z :: t, c, f, r => if p z = 2 then meetL p t c (if 3 ≤ r + 1 then 1 else f) (r + 1) else meetL p t (if p z = 1 then 1 else c) f 0
theorem kor_01 : kor 0 1 = 1 ∧ kor 1 1 = 1 ∧ kor 2 1 = 3 ∧ kor 3 1 = 3 ∧ kor 0 2 = 2 ∧ kor 1 2 = 3 ∧ kor 2 2 = 2 ∧ kor 3 2 = 3 := by decide
theorem meetL_b (p : Int → Int) : ∀ (l : List Int) (c f r : Int), (c = 0 ∨ c = 1) → (f = 0 ∨ f = 1) → 0 ≤ meetL p l c f r ∧ meetL p l c f r ≤ 3 := by
  intro l
  induction l with
  | nil =>
    intro c f r hc hf
    rw [meetL]
    omega
  | cons z t ih =>
    intro c f r hc hf
    rw [meetL]
    split
    · exact ih _ _ _ hc (by split <;> omega)
    · exact ih _ _ _ (by split <;> omega) hf
def mtA (σ : kS) (l f : Int) : Int := meetL (plF σ f) (rowL σ (146 + 2 * l)) 0 0 0
theorem mtA_b {σ : kS} {l f : Int} : 0 ≤ mtA σ l f ∧ mtA σ l f ≤ 3 := meetL_b _ _ _ _ _ (Or.inl rfl) (Or.inl rfl)
theorem mtA_fr {σ s : kS} (h : Fr σ s) {l f : Int} (hl : 0 ≤ l ∧ l < 10) : mtA s l f = mtA σ l f := by
  have e : plF s f = plF σ f := by
    funext c
    unfold plF
    rw [h.1 196 (by unfold scr; omega), h.1 197 (by unfold scr; omega), h.1 198 (by unfold scr; omega), h.1 199 (by unfold scr; omega)]
  unfold mtA
  rw [e, rowL_line h hl]
theorem X_meeting {d : Nat} (hd : 3 ≤ d) {σ : kS} {l f : Int} {Q : Int → kS → Prop} (hL : Lay σ) (hC : cLine σ) (hF : cField σ) (hl : 0 ≤ l ∧ l < σ 0 11) (hf : 0 ≤ f ∧ f < σ 166 54) (h : Q (mtA σ l f) σ) : Ci d MX11_meeting [(2, 0), (2, 146 + 2 * l), (0, f)] kN σ Q := by
  obtain ⟨d, rfl⟩ : ∃ e, d = e + 1 := ⟨d - 1, by omega⟩
  have hr := (hC.2.2 l hl.1 hl.2).1
  have hn := hC.1
  have hla := line_at hL (i := l) (by omega)
  have hsz := hr.1.2
  have hrl : rowL σ (146 + 2 * l) = seg (σ (147 + 2 * l)) 0 (σ (146 + 2 * l) 1) := by
    rw [rowL_seg, show 146 + 2 * l + 1 = 147 + 2 * l by omega]
  have k1 := kor_01
  unfold mtA at h
  rw [hrl] at h
  have key : ∀ i c g r : Int, 0 ≤ i → i ≤ σ (146 + 2 * l) 1 → (c = 0 ∨ c = 1) → (g = 0 ∨ g = 1) → (0 ≤ r ∧ r ≤ i) → meetL (plF σ f) (seg (σ (147 + 2 * l)) i (σ (146 + 2 * l) 1 - i)) c g r = meetL (plF σ f) (seg (σ (147 + 2 * l)) 0 (σ (146 + 2 * l) 1)) 0 0 0 → LX11_meeting_8 d kN Q 0 (146 + 2 * l) f (c + 2 * g) r i σ := by
    refine up_to (e := σ (146 + 2 * l) 1) ?_
    intro i ih c g r i0 i1 hc hg hrr hq
    refine SX11_meeting_8 ⟨hr.1.1, fun e => ?_, fun e => ?_⟩
    · rw [seg_nil (by omega), meetL] at hq
      rw [hq]
      exact h
    · have hcell := line_cell hC hl (i := i) ⟨i0, by omega⟩
      rw [seg_cons (by omega), meetL, show σ (146 + 2 * l) 1 - i - 1 = σ (146 + 2 * l) 1 - (i + 1) by omega] at hq
      refine Row_atI (by omega) hL hr.1 ⟨i0, by omega⟩ ⟨o_0, ?_⟩
      rw [show 146 + 2 * l + 1 = 147 + 2 * l by omega]
      refine X_placeIn (by omega) hL hF hf hcell ⟨fun p1 => ⟨fun p2 => ⟨by omega, ?_⟩, fun p2 => ⟨by omega, fun p3 => ⟨by omega, ?_⟩, fun p3 => ⟨by omega, ?_⟩⟩⟩, fun p1 => ⟨fun p2 => ⟨by omega, ?_⟩, fun p2 => absurd (show plF σ f (σ (147 + 2 * l) i) = 2 from Classical.not_not.mp p2) (by rw [Classical.not_not.mp p1]; decide)⟩⟩
      · rw [if_neg p2, if_neg p1] at hq
        exact ih (by omega) c g 0 (by omega) (by omega) hc hg (by omega) hq
      · rw [if_pos (Classical.not_not.mp p2), if_neg (by omega)] at hq
        exact ih (by omega) c g (r + 1) (by omega) (by omega) hc hg (by omega) hq
      · rw [if_pos (Classical.not_not.mp p2), if_pos (by omega)] at hq
        have e2 : kor (c + 2 * g) 2 = c + 2 * 1 := by
          rcases hc with rfl | rfl <;> rcases hg with rfl | rfl <;> decide
        rw [e2]
        exact ih (by omega) c 1 (r + 1) (by omega) (by omega) hc (Or.inr rfl) (by omega) hq
      · rw [if_neg p2, if_pos (Classical.not_not.mp p1)] at hq
        have e2 : kor (c + 2 * g) 1 = 1 + 2 * g := by
          rcases hc with rfl | rfl <;> rcases hg with rfl | rfl <;> decide
        rw [e2]
        exact ih (by omega) 1 g 0 (by omega) (by omega) (Or.inr rfl) hg (by omega) hq
  exact EX11_meeting fun _ _ => SX11_meeting_0 (key 0 0 0 0 (by omega) hsz.1 (Or.inl rfl) (Or.inl rfl) (by omega) (by rw [Int.sub_zero]))
theorem M_meetsOf {d : Nat} (hd : 4 ≤ d) {σ : kS} {l f : Int} {Q : Int → kS → Prop} (hL : Lay σ) (hC : cLine σ) (hF : cField σ) (hl : 0 ≤ l ∧ l < σ 0 11) (hf : 0 ≤ f ∧ f < σ 166 54) (h : Q (mtA σ l f) σ) : Ci d MX12_meetsOf [(2, 166), (0, l), (0, f)] kN σ Q := by
  obtain ⟨d, rfl⟩ : ∃ e, d = e + 1 := ⟨d - 1, by omega⟩
  have k182 := kl_182
  obtain ⟨b1, b2, b3, b4, b5⟩ := hC.2.2 l hl.1 hl.2
  have hn := hC.1
  have hla := line_at hL (i := l) (by omega)
  have hsz := b1.1.2
  have hrl : rowL σ (146 + 2 * l) = seg (σ (147 + 2 * l)) 0 (σ (146 + 2 * l) 1) := by
    rw [rowL_seg, show 146 + 2 * l + 1 = 147 + 2 * l by omega]
  unfold mtA at h
  rw [hrl] at h
  have key : ∀ i c g r : Int, 0 ≤ i → i ≤ σ (146 + 2 * l) 1 → (c = 0 ∨ c = 1) → (g = 0 ∨ g = 1) → (0 ≤ r ∧ r ≤ i) → (3 ≤ r → g = 1) → meetL (plF σ f) (seg (σ (147 + 2 * l)) i (σ (146 + 2 * l) 1 - i)) c g r = meetL (plF σ f) (seg (σ (147 + 2 * l)) 0 (σ (146 + 2 * l) 1)) 0 0 0 → LX12_meetsOf_11 d kN Q 166 l f c g r i σ := by
    refine up_to (e := σ (146 + 2 * l) 1) ?_
    intro i ih c g r i0 i1 hc hg hrr h3 hq
    refine SX12_meetsOf_11 ⟨o_166, ?_⟩
    rw [ly_166_32 hL, b3]
    refine ⟨a_182, by omega, fun e => ?_, fun e => M_cellOf (by omega) hL (by omega) (by omega) ?_⟩
    · rw [seg_nil (by omega), meetL] at hq
      rw [← hq] at h
      exact ⟨fun p => ⟨fun q => by rw [p, q] at h; exact h, fun q => by rw [p, show g = 1 by omega] at h; exact h⟩, fun p => ⟨fun q => by rw [q, show c = 1 by omega] at h; exact h, fun q => by rw [show c = 1 by omega, show g = 1 by omega] at h; exact h⟩⟩
    · have hcell := line_cell hC hl (i := i) ⟨i0, by omega⟩
      rw [seg_cons (by omega), meetL, show σ (146 + 2 * l) 1 - i - 1 = σ (146 + 2 * l) 1 - (i + 1) by omega] at hq
      rw [← b4 i i0 (by omega)]
      have nx : ∀ c' g' r' : Int, (c' = 0 ∨ c' = 1) → (g' = 0 ∨ g' = 1) → (0 ≤ r' ∧ r' ≤ i + 1) → (3 ≤ r' → g' = 1) → (if plF σ f (σ (147 + 2 * l) i) = 2 then meetL (plF σ f) (seg (σ (147 + 2 * l)) (i + 1) (σ (146 + 2 * l) 1 - (i + 1))) c (if 3 ≤ r + 1 then 1 else g) (r + 1) else meetL (plF σ f) (seg (σ (147 + 2 * l)) (i + 1) (σ (146 + 2 * l) 1 - (i + 1))) (if plF σ f (σ (147 + 2 * l) i) = 1 then 1 else c) g 0) = meetL (plF σ f) (seg (σ (147 + 2 * l)) (i + 1) (σ (146 + 2 * l) 1 - (i + 1))) c' g' r' → (-2147483648 ≤ i + 1 ∧ i + 1 ≤ 2147483647) ∧ LX12_meetsOf_11 d kN Q 166 l f c' g' r' (i + 1) σ := fun c' g' r' q1 q2 q3 q4 q5 => ⟨by omega, ih (by omega) c' g' r' (by omega) (by omega) q1 q2 q3 q4 (q5.symm.trans hq)⟩
      refine M_lies (by omega) hL hF hf hcell (fun v hv => ?_)
      rcases hv with ⟨rfl, hv⟩ | ⟨rfl, hv⟩ | ⟨rfl, hv⟩
      · refine ⟨fun p1 => ⟨fun _ => ⟨fun p2 => nx 1 1 0 (Or.inr rfl) (Or.inr rfl) (by omega) (by omega) ?_, fun p2 => nx 1 0 0 (Or.inr rfl) (Or.inl rfl) (by omega) (by omega) ?_⟩, fun q => absurd (by decide) q⟩, fun p1 => ⟨fun _ => ⟨fun _ => ⟨fun p2 => nx 0 1 0 (Or.inl rfl) (Or.inr rfl) (by omega) (by omega) ?_, fun p2 => nx 0 0 0 (Or.inl rfl) (Or.inl rfl) (by omega) (by omega) ?_⟩, fun q => absurd (by decide) q⟩, fun q => absurd (by decide) q⟩⟩
        · rw [if_neg (by rw [hv]; decide), if_neg (by rw [hv]; decide), show c = 1 by omega, show g = 1 by omega]
        · rw [if_neg (by rw [hv]; decide), if_neg (by rw [hv]; decide), show c = 1 by omega, show g = 0 by omega]
        · rw [if_neg (by rw [hv]; decide), if_neg (by rw [hv]; decide), show c = 0 by omega, show g = 1 by omega]
        · rw [if_neg (by rw [hv]; decide), if_neg (by rw [hv]; decide), show c = 0 by omega, show g = 0 by omega]
      · have hsame : ∀ c' : Int, c' = c → (if plF σ f (σ (147 + 2 * l) i) = 2 then meetL (plF σ f) (seg (σ (147 + 2 * l)) (i + 1) (σ (146 + 2 * l) 1 - (i + 1))) c (if 3 ≤ r + 1 then 1 else g) (r + 1) else meetL (plF σ f) (seg (σ (147 + 2 * l)) (i + 1) (σ (146 + 2 * l) 1 - (i + 1))) (if plF σ f (σ (147 + 2 * l) i) = 1 then 1 else c) g 0) = meetL (plF σ f) (seg (σ (147 + 2 * l)) (i + 1) (σ (146 + 2 * l) 1 - (i + 1))) c' (if 3 ≤ r + 1 then 1 else g) (r + 1) := fun c' hc' => by rw [if_pos hv, hc']
        have part : ∀ c' : Int, c' = c → (¬ g = 0 → (-2147483648 ≤ i + 1 ∧ i + 1 ≤ 2147483647) ∧ LX12_meetsOf_11 d kN Q 166 l f c' 1 (r + 1) (i + 1) σ) ∧ (¬ (¬ g = 0) → (¬ (r + 1) = 3 → (-2147483648 ≤ i + 1 ∧ i + 1 ≤ 2147483647) ∧ LX12_meetsOf_11 d kN Q 166 l f c' 0 (r + 1) (i + 1) σ) ∧ (¬ (¬ (r + 1) = 3) → (-2147483648 ≤ i + 1 ∧ i + 1 ≤ 2147483647) ∧ LX12_meetsOf_11 d kN Q 166 l f c' 1 (r + 1) (i + 1) σ)) := fun c' hc' => by
          have hss := hsame c' hc'
          refine ⟨fun p2 => nx c' 1 (r + 1) (by omega) (Or.inr rfl) (by omega) (fun _ => rfl) (hss.trans ?_), fun p2 => ⟨fun p3 => nx c' 0 (r + 1) (by omega) (Or.inl rfl) (by omega) (by omega) (hss.trans ?_), fun p3 => nx c' 1 (r + 1) (by omega) (Or.inr rfl) (by omega) (fun _ => rfl) (hss.trans ?_)⟩⟩
          · rw [show (if 3 ≤ r + 1 then (1 : Int) else g) = 1 by split <;> omega]
          · rw [if_neg (by omega), show g = 0 by omega]
          · rw [if_pos (by omega)]
        exact ⟨fun p1 => ⟨fun q => absurd rfl q, fun _ => ⟨by omega, part 1 (by omega)⟩⟩, fun p1 => ⟨fun _ => ⟨fun q => absurd rfl q, fun _ => ⟨by omega, part 0 (by omega)⟩⟩, fun q => absurd (by decide) q⟩⟩
      · have part : (¬ g = 0 → (-2147483648 ≤ i + 1 ∧ i + 1 ≤ 2147483647) ∧ LX12_meetsOf_11 d kN Q 166 l f 1 1 0 (i + 1) σ) ∧ (¬ (¬ g = 0) → (-2147483648 ≤ i + 1 ∧ i + 1 ≤ 2147483647) ∧ LX12_meetsOf_11 d kN Q 166 l f 1 0 0 (i + 1) σ) := by
          refine ⟨fun p2 => nx 1 1 0 (Or.inr rfl) (Or.inr rfl) (by omega) (by omega) ?_, fun p2 => nx 1 0 0 (Or.inr rfl) (Or.inl rfl) (by omega) (by omega) ?_⟩
          · rw [if_neg (by rw [hv]; decide), if_pos hv, show g = 1 by omega]
          · rw [if_neg (by rw [hv]; decide), if_pos hv, show g = 0 by omega]
        exact ⟨fun p1 => ⟨fun _ => part, fun q => absurd (by decide) q⟩, fun p1 => ⟨fun q => absurd rfl q, fun _ => ⟨fun _ => part, fun q => absurd (by decide) q⟩⟩⟩
  exact EX12_meetsOf fun _ _ _ => SX12_meetsOf_0 (key 0 0 0 0 (by omega) hsz.1 (Or.inl rfl) (Or.inl rfl) (by omega) (by omega) (by rw [Int.sub_zero]))
noncomputable def meA (σ : kS) (l f : Int) : Int := cif ((0 ≤ l ∧ l < σ 0 11) ∧ 0 ≤ f ∧ f < σ 166 54) (mtA σ l f) (-1)
theorem meA_fr {σ s : kS} (hI : Inv σ) (h : Fr σ s) {l f : Int} : meA s l f = meA σ l f := by
  have hn := hI.2.2.2.2.2.2.2.2.1.1
  unfold meA
  rw [h.e0, h.2 54 (by unfold esf; omega)]
  by_cases c : (0 ≤ l ∧ l < σ 0 11) ∧ 0 ≤ f ∧ f < σ 166 54
  · rw [cif_pos c, cif_pos c, mtA_fr h (by omega)]
  · rw [cif_neg c, cif_neg c]
theorem O_meets {l f : Int} : Op MX11_meets MX12_meets [(0, l), (0, f)] := by
  refine Op.of (fun σ => meA σ l f) (fun σ s hI hk => meA_fr hI hk.1) (fun d σ Q hd hI h => ?_) (fun d σ Q hd hI h => ?_)
  · obtain ⟨d, rfl⟩ : ∃ e, d = e + 1 := ⟨d - 1, by omega⟩
    have hs := h σ hI.self
    have hC := hI.2.2.2.2.2.2.2.2.1
    have hF := hI.2.2.2.2.2.2.2.2.2.2.2.2.1
    have hn := hC.1
    have k21 := kl_21
    have f2 := hF.2.1
    have f3 := hF.2.2.1
    unfold meA at hs
    have hno : ¬ ((0 ≤ l ∧ l < σ 0 11) ∧ 0 ≤ f ∧ f < σ 166 54) → Q (-1) σ := fun z => by
      rw [cif_neg z] at hs
      exact hs
    refine EX11_meets fun _ _ _ => SX11_meets_0 ⟨o_0, X_isLine (by omega) (fun c1 => ⟨fun e => by omega, fun _ => ⟨fun q => hno (fun z => by omega), fun q => ?_⟩⟩) (fun c1 => ⟨fun _ => hno (fun z => c1 z.1), fun e => absurd rfl e⟩)⟩
    have hla := line_at hI.1 (i := l) (by omega)
    rw [ly_0_13 hI.1, ly_0_10 hI.1, hla.1]
    refine ⟨o_24, by omega, fun q2 => ⟨a_21, by omega, X_meeting (by omega) hI.1 hC hF c1 (by omega) ?_⟩, fun q2 => hno (fun z => by omega)⟩
    rw [cif_pos (show (0 ≤ l ∧ l < σ 0 11) ∧ 0 ≤ f ∧ f < σ 166 54 by omega)] at hs
    exact hs
  · obtain ⟨d, rfl⟩ : ∃ e, d = e + 1 := ⟨d - 1, by omega⟩
    refine EX12_meets fun _ _ _ => SX12_meets_0 ⟨o_166, fun s1 e1 => ?_⟩
    have hk1 : Keep σ s1 := by rw [e1]; exact hI.thrown
    have hI1 := hI.keep hk1
    have hs := h s1 hk1
    rw [← meA_fr hI hk1.1] at hs
    have hC := hI1.2.2.2.2.2.2.2.2.1
    have hF := hI1.2.2.2.2.2.2.2.2.2.2.2.2.1
    have h34 := hC.2.1
    have f3 := hF.2.2.1
    unfold meA at hs
    have hno : ¬ ((0 ≤ l ∧ l < s1 0 11) ∧ 0 ≤ f ∧ f < s1 166 54) → Q (-1) s1 := fun z => by
      rw [cif_neg z] at hs
      exact hs
    refine M_isLine (by omega) (fun c1 => ⟨fun e => by omega, fun _ => ⟨by omega, M_isIn (by omega) (fun c2 => ⟨fun e => by omega, fun _ => M_meetsOf (by omega) hI1.1 hC hF (by omega) (by omega) ?_⟩) (fun c2 => ⟨fun _ => hno (fun z => by omega), fun e => absurd rfl e⟩)⟩⟩) (fun c1 => ⟨fun _ => hno (fun z => by omega), fun e => absurd rfl e⟩)
    rw [cif_pos (show (0 ≤ l ∧ l < s1 0 11) ∧ 0 ≤ f ∧ f < s1 166 54 by omega)] at hs
    exact hs
def oldV (m : Int) : Int := if m = 1 ∨ m = 3 then 1 else if m = 2 then -1 else 0
theorem oldV_bits : ∀ m : Fin 4, (kand (m : Int) 1 = 0 ↔ (m : Int) = 0 ∨ (m : Int) = 2) ∧ (kand (m : Int) 2 = 0 ↔ (m : Int) = 0 ∨ (m : Int) = 1) ∧ (kand (kishr (m : Int) 0) 1 = 1 ↔ (m : Int) = 1 ∨ (m : Int) = 3) := by decide
theorem oldV_k {m : Int} (h : 0 ≤ m ∧ m ≤ 3) : (kand m 1 = 0 ↔ m = 0 ∨ m = 2) ∧ (kand m 2 = 0 ↔ m = 0 ∨ m = 1) ∧ (kand (kishr m 0) 1 = 1 ↔ m = 1 ∨ m = 3) := by
  have := oldV_bits ⟨m.toNat, by omega⟩
  have e : ((m.toNat : Nat) : Int) = m := k_toNat h.1
  simp only [e] at this
  exact this
theorem sm_pm {f : Int → Int} {n : Nat} (h : ∀ i, -1 ≤ f i ∧ f i ≤ 1) : -(n : Int) ≤ sm f n ∧ sm f n ≤ n := by
  induction n with
  | zero => rw [sm]; omega
  | succ n ih =>
    rw [sm]
    have := h n
    omega
theorem oldV_pm {m : Int} : -1 ≤ oldV m ∧ oldV m ≤ 1 := by
  unfold oldV
  split
  · omega
  · split <;> omega
noncomputable def olA (σ : kS) (l : Int) : Int := cif (0 ≤ l ∧ l < σ 0 11) (sm (fun f => oldV (mtA σ l f)) (σ 166 54).toNat) (-100000)
theorem olA_fr {σ s : kS} (hI : Inv σ) (h : Fr σ s) {l : Int} : olA s l = olA σ l := by
  have hn := hI.2.2.2.2.2.2.2.2.1.1
  unfold olA
  rw [h.e0, h.2 54 (by unfold esf; omega)]
  by_cases c : 0 ≤ l ∧ l < σ 0 11
  · rw [cif_pos c, cif_pos c]
    exact sm_cong (fun f _ _ => by rw [mtA_fr h (by omega)])
  · rw [cif_neg c, cif_neg c]
theorem O_older {l : Int} : Op MX11_older MX12_older [(0, l)] := by
  refine Op.of (fun σ => olA σ l) (fun σ s hI hk => olA_fr hI hk.1) (fun d σ Q hd hI h => ?_) (fun d σ Q hd hI h => ?_)
  · obtain ⟨d, rfl⟩ : ∃ e, d = e + 1 := ⟨d - 1, by omega⟩
    have hs := h σ hI.self
    have hC := hI.2.2.2.2.2.2.2.2.1
    have hF := hI.2.2.2.2.2.2.2.2.2.2.2.2.1
    have hn := hC.1
    have k21 := kl_21
    have f2 := hF.2.1
    have f3 := hF.2.2.1
    unfold olA at hs
    refine EX11_older fun _ _ => SX11_older_0 ⟨o_0, X_isLine (by omega) (fun c1 => ⟨fun _ => ?_, fun e => by omega⟩) (fun c1 => ⟨fun e => absurd rfl e, fun _ => ?_⟩)⟩
    · rw [cif_pos c1] at hs
      have hla := line_at hI.1 (i := l) (by omega)
      have key : ∀ f a : Int, 0 ≤ f → f ≤ σ 166 54 → a = sm (fun f => oldV (mtA σ l f)) f.toNat → LX11_older_16 d kN Q 0 l a f σ := by
        refine up_to (e := σ 166 54) ?_
        intro f ih a f0 f1 ha
        have hss := sm_s (f := fun f => oldV (mtA σ l f)) f0
        have hbb := sm_pm (f := fun f => oldV (mtA σ l f)) (n := f.toNat) (fun _ => oldV_pm)
        rw [k_toNat f0] at hbb
        refine SX11_older_16 ⟨o_0, ?_⟩
        rw [ly_0_13 hI.1, ly_0_10 hI.1, hla.1]
        refine ⟨o_24, by omega, fun q => ?_, fun q => ⟨a_21, by omega, X_meeting (by omega) hI.1 hC hF c1 (by omega) ?_⟩⟩
        · rw [show f = σ 166 54 by omega] at ha
          rw [ha]
          exact hs
        · have hb := oldV_k (m := mtA σ l f) mtA_b
          have hm := mtA_b (σ := σ) (l := l) (f := f)
          refine ⟨fun q1 => ⟨fun q2 => ⟨by omega, ih (by omega) a (by omega) (by omega) ?_⟩, fun q2 => ⟨by omega, by omega, ih (by omega) _ (by omega) (by omega) ?_⟩⟩, fun q1 => ⟨by omega, by omega, ih (by omega) _ (by omega) (by omega) ?_⟩⟩
          · have e : oldV (mtA σ l f) = 0 := by
              have := hb.1.mp q1
              have := hb.2.1.mp q2
              unfold oldV
              rw [if_neg (by omega), if_neg (by omega)]
            rw [hss, ha, e]
            omega
          · have e : oldV (mtA σ l f) = -1 := by
              have := hb.1.mp q1
              have : ¬ (mtA σ l f = 0 ∨ mtA σ l f = 1) := fun z => q2 (hb.2.1.mpr z)
              unfold oldV
              rw [if_neg (by omega), if_pos (by omega)]
            rw [hss, ha, e]
          · have e : oldV (mtA σ l f) = 1 := by
              have : ¬ (mtA σ l f = 0 ∨ mtA σ l f = 2) := fun z => q1 (hb.1.mpr z)
              unfold oldV
              rw [if_pos (by omega)]
            rw [hss, ha, e]
      exact key 0 0 (by omega) (by omega) rfl
    · rw [cif_neg c1] at hs
      exact hs
  · obtain ⟨d, rfl⟩ : ∃ e, d = e + 1 := ⟨d - 1, by omega⟩
    refine EX12_older fun _ _ => SX12_older_0 ⟨o_166, fun s1 e1 => ?_⟩
    have hk1 : Keep σ s1 := by rw [e1]; exact hI.thrown
    have hI1 := hI.keep hk1
    have hs := h s1 hk1
    rw [← olA_fr hI hk1.1] at hs
    have hC := hI1.2.2.2.2.2.2.2.2.1
    have hF := hI1.2.2.2.2.2.2.2.2.2.2.2.2.1
    have h34 := hC.2.1
    have f3 := hF.2.2.1
    unfold olA at hs
    refine M_isLine (by omega) (fun c1 => ⟨fun _ => ?_, fun e => by omega⟩) (fun c1 => ⟨fun e => absurd rfl e, fun _ => ?_⟩)
    · have c1' : 0 ≤ l ∧ l < s1 0 11 := by omega
      rw [cif_pos c1'] at hs
      have key : ∀ f a : Int, 0 ≤ f → f ≤ s1 166 54 → a = sm (fun f => oldV (mtA s1 l f)) f.toNat → LX12_older_21 d kN Q 166 l a f s1 := by
        refine up_to (e := s1 166 54) ?_
        intro f ih a f0 f1 ha
        have hss := sm_s (f := fun f => oldV (mtA s1 l f)) f0
        have hbb := sm_pm (f := fun f => oldV (mtA s1 l f)) (n := f.toNat) (fun _ => oldV_pm)
        rw [k_toNat f0] at hbb
        have hb := oldV_k (m := mtA s1 l f) mtA_b
        have hm := mtA_b (σ := s1) (l := l) (f := f)
        refine SX12_older_21 ⟨o_166, fun q => ?_, fun q => M_meetsOf (by omega) hI1.1 hC hF c1' (by omega) (M_has (by omega) (fun q1 => ⟨fun e => by omega, fun _ => ⟨by omega, by omega, ih (by omega) _ (by omega) (by omega) ?_⟩⟩) (fun q1 => ⟨fun _ => M_meetsOf (by omega) hI1.1 hC hF c1' (by omega) ⟨fun q2 => ⟨by omega, by omega, ih (by omega) _ (by omega) (by omega) ?_⟩, fun q2 => ⟨by omega, by omega, ih (by omega) _ (by omega) (by omega) ?_⟩⟩, fun e => absurd rfl e⟩))⟩
        · rw [show f = s1 166 54 by omega] at ha
          rw [ha]
          exact hs
        · have e : oldV (mtA s1 l f) = 1 := by
            have := hb.2.2.mp q1
            unfold oldV
            rw [if_pos this]
          rw [hss, ha, e]
        · have e : oldV (mtA s1 l f) = 0 := by
            unfold oldV
            rw [if_neg (fun z => q1 (hb.2.2.mpr z)), if_neg q2]
          rw [hss, ha, e]
        · have e : oldV (mtA s1 l f) = -1 := by
            unfold oldV
            rw [if_neg (fun z => q1 (hb.2.2.mpr z)), if_pos (Classical.not_not.mp q2)]
          rw [hss, ha, e]
      exact key 0 0 (by omega) (by omega) rfl
    · rw [cif_neg (fun z => c1 (by omega))] at hs
      exact hs
