/-! operations: draw, field -/
theorem M_draw {d : Nat} (hd : 4 ≤ d) {σ : kS} {x y x2 y2 w v : Int} {Q : Int → kS → Prop} (hL : Lay σ) (h0 : ¬ (isBox x y x2 y2 ∧ (0 ≤ w ∧ w < 4) ∧ 0 ≤ v ∧ v ≤ (if w = 0 then 99 else 1)) → Q 0 (kst σ 166 0 0)) (h1 : isBox x y x2 y2 → (0 ≤ w ∧ w < 4) → 0 ≤ v → v ≤ (if w = 0 then 99 else 1) → ∀ s, off [167] (kst σ 166 0 0) s → Lay s → (∀ q, s 167 q = if (120 * w ≤ q ∧ q < 120 * w + 120) ∧ (x ≤ (q - 120 * w) % 12 ∧ (q - 120 * w) % 12 ≤ x2) ∧ y ≤ (q - 120 * w) / 12 ∧ (q - 120 * w) / 12 ≤ y2 then v else σ 167 q) → Q 1 s) : Ci d MX12_draw [(2, 166), (0, x), (0, y), (0, x2), (0, y2), (0, w), (0, v)] kN σ Q := by
  obtain ⟨d, rfl⟩ : ∃ e, d = e + 1 := ⟨d - 1, by omega⟩
  have k167 := kl_167
  refine EX12_draw fun _ _ _ _ _ _ _ => SX12_draw_0 ⟨o_166, fun s1 e1 => ?_⟩
  have eL : Lay s1 := by rw [e1]; exact hL.kstO 0 o_166 (by decide)
  have e167 : s1 167 = σ 167 := by rw [e1, kst_k (by decide)]
  rw [← e1] at h0 h1
  have go : isBox x y x2 y2 → (0 ≤ w ∧ w < 4) → 0 ≤ v → v ≤ (if w = 0 then 99 else 1) → LX12_draw_68 d kN Q 166 y x2 y2 w v x s1 := by
    intro hb hw v0 v1
    have hbb := hb
    unfold isBox at hbb
    have key68 : ∀ i : Int, ∀ s : kS, x ≤ i → i ≤ x2 + 1 → off [167] s1 s → Lay s → (∀ q, s 167 q = if (120 * w ≤ q ∧ q < 120 * w + 120) ∧ (x ≤ (q - 120 * w) % 12 ∧ (q - 120 * w) % 12 < i) ∧ y ≤ (q - 120 * w) / 12 ∧ (q - 120 * w) / 12 ≤ y2 then v else σ 167 q) → LX12_draw_68 d kN Q 166 y x2 y2 w v i s := by
      refine up_to (e := x2 + 1) ?_
      intro i ih s i0 i1 ho hLs hs
      refine SX12_draw_68 ⟨fun e => ?_, fun e => ?_⟩
      · refine h1 hb hw v0 v1 s ho hLs (fun q => ?_)
        rw [hs q]
        by_cases c : (120 * w ≤ q ∧ q < 120 * w + 120) ∧ (x ≤ (q - 120 * w) % 12 ∧ (q - 120 * w) % 12 < i) ∧ y ≤ (q - 120 * w) / 12 ∧ (q - 120 * w) / 12 ≤ y2
        · rw [if_pos c, if_pos ⟨c.1, ⟨c.2.1.1, by omega⟩, c.2.2⟩]
        · rw [if_neg c, if_neg (fun z => c ⟨z.1, ⟨z.2.1.1, by omega⟩, z.2.2⟩)]
      · have key77 : ∀ j : Int, ∀ u : kS, y ≤ j → j ≤ y2 + 1 → off [167] s1 u → Lay u → (∀ q, u 167 q = if (120 * w ≤ q ∧ q < 120 * w + 120) ∧ (((x ≤ (q - 120 * w) % 12 ∧ (q - 120 * w) % 12 < i) ∧ y ≤ (q - 120 * w) / 12 ∧ (q - 120 * w) / 12 ≤ y2) ∨ ((q - 120 * w) % 12 = i ∧ y ≤ (q - 120 * w) / 12 ∧ (q - 120 * w) / 12 < j)) then v else σ 167 q) → LX12_draw_77 d kN Q 166 y x2 y2 w v i j u := by
          refine up_to (e := y2 + 1) ?_
          intro j ihj u j0 j1 hou hLu hu
          refine SX12_draw_77 ⟨fun e2 => ⟨by omega, ih (by omega) u (by omega) (by omega) hou hLu (fun q => ?_)⟩, fun e2 => ?_⟩
          · rw [hu q]
            by_cases c : (120 * w ≤ q ∧ q < 120 * w + 120) ∧ (x ≤ (q - 120 * w) % 12 ∧ (q - 120 * w) % 12 < i + 1) ∧ y ≤ (q - 120 * w) / 12 ∧ (q - 120 * w) / 12 ≤ y2
            · rw [if_pos c, if_pos (by omega)]
            · rw [if_neg c, if_neg (by omega)]
          · rw [ly_166_1 hLu]
            refine ⟨o_166, by omega, by omega, by omega, by omega, a_167, by omega, fun u2 eu => ⟨by omega, ihj (by omega) u2 (by omega) (by omega) (by rw [eu]; exact hou.kst (by decide)) (by rw [eu]; exact hLu.kstA a_167) (fun q => ?_)⟩⟩
            rw [eu, kst_ap, hu q]
            by_cases eq : q = 120 * w + 12 * j + i
            · rw [if_pos ⟨rfl, eq⟩, if_pos (by omega)]
            · rw [if_neg (fun z => eq z.2)]
              by_cases c : (120 * w ≤ q ∧ q < 120 * w + 120) ∧ (((x ≤ (q - 120 * w) % 12 ∧ (q - 120 * w) % 12 < i) ∧ y ≤ (q - 120 * w) / 12 ∧ (q - 120 * w) / 12 ≤ y2) ∨ ((q - 120 * w) % 12 = i ∧ y ≤ (q - 120 * w) / 12 ∧ (q - 120 * w) / 12 < j))
              · rw [if_pos c, if_pos (by omega)]
              · rw [if_neg c, if_neg (by omega)]
        refine key77 y s (by omega) (by omega) ho hLs (fun q => ?_)
        rw [hs q]
        by_cases c : (120 * w ≤ q ∧ q < 120 * w + 120) ∧ (x ≤ (q - 120 * w) % 12 ∧ (q - 120 * w) % 12 < i) ∧ y ≤ (q - 120 * w) / 12 ∧ (q - 120 * w) / 12 ≤ y2
        · rw [if_pos c, if_pos (by omega)]
        · rw [if_neg c, if_neg (by omega)]
    refine key68 x s1 (by omega) (by omega) off.rfl' eL (fun q => ?_)
    rw [if_neg (by omega), e167]
  have b0 : ¬ isBox x y x2 y2 → Q 0 s1 := fun z => h0 (fun q => z q.1)
  refine M_isPlace (by omega) (fun c1 => ⟨fun e => by omega, fun _ => M_isPlace (by omega) (fun c2 => ⟨fun e => by omega, fun _ => ⟨fun c3 => b0 (fun z => by unfold isBox at z; omega), fun c3 => ⟨fun c4 => b0 (fun z => by unfold isBox at z; omega), fun c4 => M_isIn (by omega) (fun c5 => ⟨fun e => by omega, fun _ => ⟨fun c6 => M_isIn (by omega) (fun c7 => ⟨fun _ => go (by unfold isBox; omega) (by omega) c7.1 (by rw [if_neg c6]; omega), fun e => by omega⟩) (fun c7 => ⟨fun e => absurd rfl e, fun _ => h0 (fun z => c7 (by have := z.2.2; rw [if_neg c6] at this; omega))⟩), fun c6 => M_isIn (by omega) (fun c7 => ⟨fun _ => go (by unfold isBox; omega) (by omega) c7.1 (by rw [if_pos (Classical.not_not.mp c6)]; omega), fun e => by omega⟩) (fun c7 => ⟨fun e => absurd rfl e, fun _ => h0 (fun z => c7 (by have := z.2.2; rw [if_pos (Classical.not_not.mp c6)] at this; omega))⟩)⟩⟩) (fun c5 => ⟨fun _ => h0 (fun z => c5 (by have := z.2.1; omega)), fun e => absurd rfl e⟩)⟩⟩⟩) (fun c2 => ⟨fun _ => b0 (fun z => c2 (by unfold isBox at z; omega)), fun e => absurd rfl e⟩)⟩) (fun c1 => ⟨fun _ => b0 (fun z => c1 (by unfold isBox at z; omega)), fun e => absurd rfl e⟩)
theorem X_draw {d : Nat} (hd : 4 ≤ d) {σ : kS} {x y x2 y2 w v : Int} {Q : Int → kS → Prop} (hL : Lay σ) (h0 : ¬ (isBox x y x2 y2 ∧ (0 ≤ w ∧ w < 4) ∧ 0 ≤ v ∧ v ≤ (if w = 0 then 99 else 1)) → Q 0 σ) (h1 : isBox x y x2 y2 → (0 ≤ w ∧ w < 4) → 0 ≤ v → v ≤ (if w = 0 then 99 else 1) → ∀ s, off [3 + w] σ s → Lay s → (∀ q, s (3 + w) q = if (0 ≤ q ∧ q < 120) ∧ (x ≤ q % 12 ∧ q % 12 ≤ x2) ∧ y ≤ q / 12 ∧ q / 12 ≤ y2 then v else σ (3 + w) q) → Q 1 s) : Ci d MX11_draw [(2, 0), (0, x), (0, y), (0, x2), (0, y2), (0, w), (0, v)] kN σ Q := by
  obtain ⟨d, rfl⟩ : ∃ e, d = e + 1 := ⟨d - 1, by omega⟩
  have go : isBox x y x2 y2 → (0 ≤ w ∧ w < 4) → 0 ≤ v → v ≤ (if w = 0 then 99 else 1) → LX11_draw_47 d kN Q 0 x x2 y2 w v y σ := by
    intro hb hw v0 v1
    have hbb := hb
    unfold isBox at hbb
    have hA : isA 20 kN (3 + w) := by
      have : w = 0 ∨ w = 1 ∨ w = 2 ∨ w = 3 := by omega
      rcases this with rfl | rfl | rfl | rfl
      · exact a_3
      · exact a_4
      · exact a_5
      · exact a_6
    have key47 : ∀ j : Int, ∀ s : kS, y ≤ j → j ≤ y2 + 1 → off [3 + w] σ s → Lay s → (∀ q, s (3 + w) q = if (0 ≤ q ∧ q < 120) ∧ (x ≤ q % 12 ∧ q % 12 ≤ x2) ∧ y ≤ q / 12 ∧ q / 12 < j then v else σ (3 + w) q) → LX11_draw_47 d kN Q 0 x x2 y2 w v j s := by
      refine up_to (e := y2 + 1) ?_
      intro j ih s j0 j1 ho hLs hs
      refine SX11_draw_47 ⟨fun e => ?_, fun e => ?_⟩
      · refine h1 hb hw v0 v1 s ho hLs (fun q => ?_)
        rw [hs q]
        by_cases c : (0 ≤ q ∧ q < 120) ∧ (x ≤ q % 12 ∧ q % 12 ≤ x2) ∧ y ≤ q / 12 ∧ q / 12 < j
        · rw [if_pos c, if_pos (by omega)]
        · rw [if_neg c, if_neg (by omega)]
      · have key57 : ∀ i : Int, ∀ u : kS, x ≤ i → i ≤ x2 + 1 → off [3 + w] σ u → Lay u → (∀ q, u (3 + w) q = if (0 ≤ q ∧ q < 120) ∧ (((x ≤ q % 12 ∧ q % 12 ≤ x2) ∧ y ≤ q / 12 ∧ q / 12 < j) ∨ (q / 12 = j ∧ x ≤ q % 12 ∧ q % 12 < i)) then v else σ (3 + w) q) → LX11_draw_57 d kN Q 0 x x2 y2 w v j i u := by
          refine up_to (e := x2 + 1) ?_
          intro i ihi u i0 i1 hou hLu hu
          refine SX11_draw_57 ⟨fun e2 => ⟨by omega, ih (by omega) u (by omega) (by omega) hou hLu (fun q => ?_)⟩, fun e2 => ?_⟩
          · rw [hu q]
            by_cases c : (0 ≤ q ∧ q < 120) ∧ (x ≤ q % 12 ∧ q % 12 ≤ x2) ∧ y ≤ q / 12 ∧ q / 12 < j + 1
            · rw [if_pos c, if_pos (by omega)]
            · rw [if_neg c, if_neg (by omega)]
          · rw [ly_0_0 hLu]
            refine ⟨o_0, by omega, by omega, o_1, Land_put (by omega) hLu o_1 (by omega) hw ?_⟩
            rw [show (1 : Int) + 2 + w = 3 + w by omega]
            refine ⟨by omega, ihi (by omega) _ (by omega) (by omega) (hou.kst (by simp)) (hLu.kstA hA) (fun q => ?_)⟩
            rw [kst_ap, hu q]
            by_cases eq : q = j * 12 + i
            · rw [if_pos ⟨rfl, eq⟩, if_pos (by omega)]
            · rw [if_neg (fun z => eq z.2)]
              by_cases c : (0 ≤ q ∧ q < 120) ∧ (((x ≤ q % 12 ∧ q % 12 ≤ x2) ∧ y ≤ q / 12 ∧ q / 12 < j) ∨ (q / 12 = j ∧ x ≤ q % 12 ∧ q % 12 < i))
              · rw [if_pos c, if_pos (by omega)]
              · rw [if_neg c, if_neg (by omega)]
        refine key57 x s (by omega) (by omega) ho hLs (fun q => ?_)
        rw [hs q]
        by_cases c : (0 ≤ q ∧ q < 120) ∧ (x ≤ q % 12 ∧ q % 12 ≤ x2) ∧ y ≤ q / 12 ∧ q / 12 < j
        · rw [if_pos c, if_pos (by omega)]
        · rw [if_neg c, if_neg (by omega)]
    exact key47 y σ (by omega) (by omega) off.rfl' hL (fun q => by rw [if_neg (by omega)])
  refine EX11_draw fun _ _ _ _ _ _ _ => SX11_draw_0 (X_isBox (by omega) (fun c1 => ⟨fun e => by omega, fun _ => X_isLayer (by omega) (fun c2 => ⟨fun _ => ⟨fun c3 => h0 (fun z => by omega), fun c3 => ⟨fun c4 => ⟨fun c5 => go c1 c2 (by omega) (by rw [if_neg c4]; exact c5), fun c5 => h0 (fun z => by have := z.2.2.2; rw [if_neg c4] at this; omega)⟩, fun c4 => ⟨fun c5 => go c1 c2 (by omega) (by rw [if_pos (Classical.not_not.mp c4)]; exact c5), fun c5 => h0 (fun z => by have := z.2.2.2; rw [if_pos (Classical.not_not.mp c4)] at this; omega)⟩⟩⟩, fun e => by omega⟩) (fun c2 => ⟨fun e => absurd rfl e, fun _ => h0 (fun z => c2 z.2.1)⟩)⟩) (fun c1 => ⟨fun _ => h0 (fun z => c1 z.1), fun e => absurd rfl e⟩))
theorem O_draw {x y x2 y2 w v : Int} : Op MX11_draw MX12_draw [(0, x), (0, y), (0, x2), (0, y2), (0, w), (0, v)] := by
  intro d σ hd hI
  refine X_draw (by omega) hI.1 (fun h => M_draw (by omega) hI.1 (fun _ => ⟨rfl, hI.keep hI.thrown⟩) (fun p1 p2 p3 p4 => absurd ⟨p1, p2, p3, p4⟩ h)) (fun p1 p2 p3 p4 p hop hLp hp => M_draw (by omega) hLp (fun h => absurd ⟨p1, p2, p3, p4⟩ h) (fun _ _ _ _ s hos hLs hs => ⟨rfl, ?_⟩))
  have hb := p1
  unfold isBox at hb
  have hpo : ∀ k, k ≠ 3 + w → p k = σ k := fun k hk => hop k (by simp only [List.mem_cons, List.not_mem_nil, or_false]; exact hk)
  have oo : off [3, 4, 5, 6, 166, 167] σ s := fun k hk => by
    simp only [List.mem_cons, List.not_mem_nil, or_false] at hk
    rw [hos k (by simp only [List.mem_cons, List.not_mem_nil, or_false]; omega), kst_k (by omega), hpo k (by omega)]
  have ho : FrB [3, 4, 5, 6, 167] [] σ s := by
    refine FrB.off (s := kst p 166 0 0) ?_ hos (fun k hk => by simp only [List.mem_cons, List.not_mem_nil, or_false] at hk ⊢; omega)
    refine FrB.kstM (FrB.rf.off hop (fun k hk => ?_)) (Or.inr (by unfold esf; omega))
    simp only [List.mem_cons, List.not_mem_nil, or_false] at hk ⊢
    omega
  refine ⟨hLs, hI.2.1.offU (fun k _ hk => oo k hk) (by rw [oo 0 (by decide)]) (by decide), Ess.upd ho hI.2.2 (c1 := fun _ => ?_)⟩
  intro c w' c0 c1 w0 w1
  have hc := hI.2.2.1 c w' c0 c1 w0 w1
  have e3 : s (3 + w') = p (3 + w') := by rw [hos _ (by simp only [List.mem_cons, List.not_mem_nil, or_false]; omega), kst_k (by omega)]
  rw [e3, hs, hpo 167 (by omega)]
  by_cases ew : w' = w
  · rw [ew, hp]
    rw [ew] at hc
    by_cases q : (0 ≤ c ∧ c < 120) ∧ (x ≤ c % 12 ∧ c % 12 ≤ x2) ∧ y ≤ c / 12 ∧ c / 12 ≤ y2
    · rw [if_pos q, if_pos (by omega)]
      exact ⟨rfl, p3, p4⟩
    · rw [if_neg q, if_neg (by omega)]
      exact hc
  · rw [hpo _ (by omega), if_neg (by omega)]
    exact hc
/-! field -/
theorem O_field {x y x2 y2 : Int} : Op MX11_field MX12_field [(0, x), (0, y), (0, x2), (0, y2)] := by
  intro d σ hd hI
  obtain ⟨d, rfl⟩ : ∃ e, d = e + 1 := ⟨d - 1, by omega⟩
  have hF := hI.2.2.2.2.2.2.2.2.2.2.2.2.1
  obtain ⟨f1, f2, f3, f4⟩ := hF
  have k25 : klen (24 + 1) = 32 := kl_25
  have k196 := kl_196
  have k197 := kl_197
  have k198 := kl_198
  have k199 := kl_199
  have h24 := f1.2
  have hno : ¬ (isBox x y x2 y2 ∧ σ 166 54 < 8) → Ci (d + 1) MX12_field [(2, 166), (0, x), (0, y), (0, x2), (0, y2)] kN σ (fun b s' => -1 = b ∧ Inv s') := fun hc => by
    refine EX12_field fun _ _ _ _ _ => SX12_field_0 ⟨o_166, fun s1 e1 => ?_⟩
    have hk1 : Keep σ s1 := by rw [e1]; exact hI.thrown
    have hI1 := hI.keep hk1
    have e54 : s1 166 54 = σ 166 54 := by rw [e1, kst_kj (by decide)]
    exact ⟨fun _ => ⟨rfl, hI1⟩, fun c1 => M_isPlace (by omega) (fun c2 => ⟨fun e => by omega, fun _ => M_isPlace (by omega) (fun c3 => ⟨fun e => by omega, fun _ => ⟨fun _ => ⟨rfl, hI1⟩, fun c4 => ⟨fun c5 => absurd ⟨by unfold isBox; omega, by omega⟩ hc, fun _ => ⟨rfl, hI1⟩⟩⟩⟩) (fun _ => ⟨fun _ => ⟨rfl, hI1⟩, fun e => absurd rfl e⟩)⟩) (fun _ => ⟨fun _ => ⟨rfl, hI1⟩, fun e => absurd rfl e⟩)⟩
  refine EX11_field fun _ _ _ _ _ => SX11_field_0 (X_isBox (by omega) (fun c1 => ⟨fun e => by omega, fun _ => ?_⟩) (fun c1 => ⟨fun _ => hno (fun z => c1 z.1), fun e => absurd rfl e⟩))
  rw [ly_0_13 hI.1]
  refine ⟨o_0, o_24, by omega, fun c2 => ?_, fun c2 => hno (fun z => by omega)⟩
  have hp : ∀ (z : kS) (v : Int), Lay z → RowOK z 24 → z 24 1 < 32 → Lay (rowPush z 24 v) ∧ RowOK (rowPush z 24 v) 24 ∧ rowPush z 24 v 24 1 = z 24 1 + 1 := fun z v hLz hr hlt => ⟨(hLz.kstA a_25).kstO 1 o_24 (by decide), ⟨o_24, by rw [rowPush_0]; have := hr.2; omega, by rw [rowPush_0]; omega⟩, rowPush_0⟩
  have q1 := hp σ x hI.1 f1 (by omega)
  generalize e1 : rowPush σ 24 x = s1 at q1
  have q2 := hp s1 y q1.1 q1.2.1 (by omega)
  generalize e2 : rowPush s1 24 y = s2 at q2
  have q3 := hp s2 x2 q2.1 q2.2.1 (by omega)
  generalize e3 : rowPush s2 24 x2 = s3 at q3
  have q4 := hp s3 y2 q3.1 q3.2.1 (by omega)
  generalize e4 : rowPush s3 24 y2 = s4 at q4
  refine Row_add (by omega) hI.1 f1 (fun _ => ?_) (fun z => by omega)
  rw [e1, ly_0_13 q1.1]
  refine ⟨o_24, Row_add (by omega) q1.1 q1.2.1 (fun _ => ?_) (fun z => by omega)⟩
  rw [e2, ly_0_13 q2.1]
  refine ⟨o_24, Row_add (by omega) q2.1 q2.2.1 (fun _ => ?_) (fun z => by omega)⟩
  rw [e3, ly_0_13 q3.1]
  refine ⟨o_24, Row_add (by omega) q3.1 q3.2.1 (fun _ => ?_) (fun z => by omega)⟩
  rw [e4, ly_0_13 q4.1]
  have n4 : s4 24 1 = 4 * σ 166 54 + 4 := by omega
  rw [n4]
  refine ⟨o_24, by omega, by omega, ?_⟩
  have o4 : off [24, 25] σ s4 := by
    rw [← e4, ← e3, ← e2, ← e1]
    exact rowPush_off (rowPush_off (rowPush_off (rowPush_off off.rfl' (by decide) (by decide)) (by decide) (by decide)) (by decide) (by decide)) (by decide) (by decide)
  have w25 : ∀ k, s4 25 k = if k = σ 24 1 + 3 then y2 else if k = σ 24 1 + 2 then x2 else if k = σ 24 1 + 1 then y else if k = σ 24 1 then x else σ 25 k := fun k => by
    have r1 : s1 25 k = if k = σ 24 1 then x else σ 25 k := by rw [← e1]; exact rowPush_at
    have r2 : s2 25 k = if k = s1 24 1 then y else s1 25 k := by rw [← e2]; exact rowPush_at
    have r3 : s3 25 k = if k = s2 24 1 then x2 else s2 25 k := by rw [← e3]; exact rowPush_at
    have r4 : s4 25 k = if k = s3 24 1 then y2 else s3 25 k := by rw [← e4]; exact rowPush_at
    rw [r4, r3, r2, r1, q3.2.2, q2.2.2, q1.2.2, show σ 24 1 + 1 + 1 = σ 24 1 + 2 by omega, show σ 24 1 + 2 + 1 = σ 24 1 + 3 by omega]
  have p166 : s4 166 = σ 166 := o4 166 (by decide)
  refine EX12_field fun _ _ _ _ _ => SX12_field_0 ⟨o_166, fun t1 et1 => ?_⟩
  have L1 : Lay t1 := by rw [et1]; exact q4.1.kstO 0 o_166 (by decide)
  have g1 : t1 166 54 = σ 166 54 := by rw [et1, kst_kj (by decide), p166]
  have hbx := c1
  unfold isBox at hbx
  refine ⟨fun e => by omega, fun _ => M_isPlace (by omega) (fun _ => ⟨fun e => by omega, fun _ => M_isPlace (by omega) (fun _ => ⟨fun e => by omega, fun _ => ⟨fun e => by omega, fun _ => ⟨fun _ => ?_, fun e => by omega⟩⟩⟩) (fun z => absurd (by omega) z)⟩) (fun z => absurd (by omega) z)⟩
  rw [ly_166_50 L1, g1]
  refine ⟨a_196, by omega, fun t2 et2 => ?_⟩
  have L2 : Lay t2 := by rw [et2]; exact L1.kstA a_196
  have g2 : t2 166 54 = σ 166 54 := by rw [et2, kst_k (by decide), g1]
  rw [ly_166_51 L2, g2]
  refine ⟨a_197, by omega, fun t3 et3 => ?_⟩
  have L3 : Lay t3 := by rw [et3]; exact L2.kstA a_197
  have g3 : t3 166 54 = σ 166 54 := by rw [et3, kst_k (by decide), g2]
  rw [ly_166_52 L3, g3]
  refine ⟨a_198, by omega, fun t4 et4 => ?_⟩
  have L4 : Lay t4 := by rw [et4]; exact L3.kstA a_198
  have g4 : t4 166 54 = σ 166 54 := by rw [et4, kst_k (by decide), g3]
  rw [ly_166_53 L4, g4]
  refine ⟨a_199, by omega, fun t5 et5 => ?_⟩
  have L5 : Lay t5 := by rw [et5]; exact L4.kstA a_199
  have g5 : t5 166 54 = σ 166 54 := by rw [et5, kst_k (by decide), g4]
  rw [g5]
  refine ⟨by omega, fun s hs => ?_⟩
  have e6 : s 166 54 = σ 166 54 + 1 := by rw [hs, kst_eq]
  rw [e6]
  refine ⟨by omega, by omega, ?_⟩
  have eLs : Lay s := by rw [hs]; exact L5.kstO 54 o_166 (by decide)
  have o5 : off [196, 197, 198, 199, 166] s4 s := by
    rw [hs, et5, et4, et3, et2, et1]
    exact (((((off.rfl'.kst (by decide)).kst (by decide)).kst (by decide)).kst (by decide)).kst (by decide)).kst (by decide)
  have oo : off [24, 25, 196, 197, 198, 199, 166] σ s := fun k hk => by
    simp only [List.mem_cons, List.not_mem_nil, or_false] at hk
    rw [o5 k (by simp only [List.mem_cons, List.not_mem_nil, or_false]; omega), o4 k (by simp only [List.mem_cons, List.not_mem_nil, or_false]; omega)]
  have ho : FrB [24, 25, 196, 197, 198, 199] [54] σ s := by
    have hb : FrB [24, 25, 196, 197, 198, 199] [54] σ s4 := FrB.rf.off o4 (fun k hk => by simp only [List.mem_cons, List.not_mem_nil, or_false] at hk ⊢; omega)
    rw [hs, et5, et4, et3, et2, et1]
    exact (((((hb.kstM (Or.inr (by unfold esf; omega))).ks (by decide) (by decide) (Or.inl (by decide))).ks (by decide) (by decide) (Or.inl (by decide))).ks (by decide) (by decide) (Or.inl (by decide))).ks (by decide) (by decide) (Or.inl (by decide))).kstM (Or.inl (by decide))
  have u : ∀ (r v : Int) (z z' : kS) (k : Int), z' = kst z r (σ 166 54) v → z r = σ r → z' r k = if k = σ 166 54 then v else σ r k := fun r v z z' k e1 e2 => by
    rw [e1, kst_ap, e2]
    by_cases ck : k = σ 166 54
    · rw [if_pos ck, if_pos ⟨rfl, ck⟩]
    · rw [if_neg ck, if_neg (fun z => ck z.2)]
  have w196 : ∀ k, s 196 k = if k = σ 166 54 then x else σ 196 k := fun k => by
    rw [hs, kst_k (by decide), et5, kst_k (by decide), et4, kst_k (by decide), et3, kst_k (by decide)]
    exact u 196 x t1 t2 k et2 (by rw [et1, kst_k (by decide), o4 196 (by decide)])
  have w197 : ∀ k, s 197 k = if k = σ 166 54 then y else σ 197 k := fun k => by
    rw [hs, kst_k (by decide), et5, kst_k (by decide), et4, kst_k (by decide)]
    exact u 197 y t2 t3 k et3 (by rw [et2, kst_k (by decide), et1, kst_k (by decide), o4 197 (by decide)])
  have w198 : ∀ k, s 198 k = if k = σ 166 54 then x2 else σ 198 k := fun k => by
    rw [hs, kst_k (by decide), et5, kst_k (by decide)]
    exact u 198 x2 t3 t4 k et4 (by rw [et3, kst_k (by decide), et2, kst_k (by decide), et1, kst_k (by decide), o4 198 (by decide)])
  have w199 : ∀ k, s 199 k = if k = σ 166 54 then y2 else σ 199 k := fun k => by
    rw [hs, kst_k (by decide)]
    exact u 199 y2 t4 t5 k et5 (by rw [et4, kst_k (by decide), et3, kst_k (by decide), et2, kst_k (by decide), et1, kst_k (by decide), o4 199 (by decide)])
  have m24 : s 24 1 = 4 * σ 166 54 + 4 := by rw [o5 24 (by decide), n4]
  have m25 : s 25 = s4 25 := o5 25 (by decide)
  refine ⟨eLs, hI.2.1.offU (fun k _ hk => oo k hk) (by rw [oo 0 (by decide)]) (by decide), Ess.upd ho hI.2.2 (c11 := fun _ => ?_)⟩
  unfold cField
  rw [m24, e6, m25]
  refine ⟨⟨o_24, by omega, by omega⟩, by omega, by omega, fun f f0 f5 => ?_⟩
  rw [w25, w25, w25, w25, w196, w197, w198, w199, f2]
  by_cases cf : f = σ 166 54
  · rw [if_pos cf, if_pos cf, if_pos cf, if_pos cf, cf]
    refine ⟨⟨?_, ?_, ?_, ?_⟩, c1⟩
    · rw [if_neg (by omega), if_neg (by omega), if_neg (by omega), if_pos rfl]
    · rw [if_neg (by omega), if_neg (by omega), if_pos rfl]
    · rw [if_neg (by omega), if_pos rfl]
    · rw [if_pos rfl]
  · rw [if_neg cf, if_neg cf, if_neg cf, if_neg cf]
    refine ⟨⟨?_, ?_, ?_, ?_⟩, (f4 f f0 (by omega)).2⟩
    · rw [if_neg (by omega), if_neg (by omega), if_neg (by omega), if_neg (by omega)]
      exact (f4 f f0 (by omega)).1.1
    · rw [if_neg (by omega), if_neg (by omega), if_neg (by omega), if_neg (by omega)]
      exact (f4 f f0 (by omega)).1.2.1
    · rw [if_neg (by omega), if_neg (by omega), if_neg (by omega), if_neg (by omega)]
      exact (f4 f f0 (by omega)).1.2.2.1
    · rw [if_neg (by omega), if_neg (by omega), if_neg (by omega), if_neg (by omega)]
      exact (f4 f f0 (by omega)).1.2.2.2
