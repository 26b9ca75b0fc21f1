/-! about: miles, turns, the longest run -/
theorem stp_inj {c i k : Int} (hi : 0 ≤ i ∧ i < 8) (hk : 0 ≤ k ∧ k < 8) (hn : stp c k ≠ -1) (h : stp c i = stp c k) : i = k := by
  have h1 := stp_cell hn
  have h2 := stp_cell (c := c) (d := i) (by rw [h]; exact hn)
  rw [h] at h2
  have e1 : dx i = dx k := by omega
  have e2 : dy i = dy k := by omega
  have q1 := dxy hi
  have q2 := dxy hk
  omega
theorem M_directionOf {d n : Nat} (hd : 4 ≤ d) {σ : kS} {c to k : Int} {Q : Int → kS → Prop} (hk : 0 ≤ k ∧ k < 8) (hs : stp c k = to) (hn : stp c k ≠ -1) (h : Q k σ) : Ci d MX12_directionOf [(0, c), (0, to)] n σ Q := by
  obtain ⟨d, rfl⟩ : ∃ e, d = e + 1 := ⟨d - 1, by omega⟩
  have hc := (stp_cell hn).1
  have key : ∀ i : Int, 0 ≤ i → i ≤ k → LX12_directionOf_2 d n Q c to i σ := by
    refine up_to (e := k) ?_
    intro i ih i0 i1
    refine SX12_directionOf_2 (M_step (by omega) hc (by omega) ⟨fun e => ?_, fun e => ⟨by omega, ih ?_ (by omega) ?_⟩⟩)
    · have := stp_inj (c := c) (i := i) (k := k) (by omega) hk hn (by rw [hs]; exact e)
      rw [this]
      exact h
    · by_cases e2 : i = k
      · exact absurd (by rw [e2]; exact hs) e
      · omega
    · by_cases e2 : i = k
      · exact absurd (by rw [e2]; exact hs) e
      · omega
  exact EX12_directionOf fun _ _ _ => SX12_directionOf_0 (key 0 (by omega) hk.1)
theorem stp_even {c k : Int} (hk : 0 ≤ k ∧ k < 8) (hn : stp c k ≠ -1) : (stp c k % 12 = c % 12 ∨ stp c k / 12 = c / 12) ↔ k % 2 = 0 := by
  have h := stp_cell hn
  have := dxy hk
  omega
theorem stp_veers {a i j : Int} (hi : 0 ≤ i ∧ i < 8) (hj : 0 ≤ j ∧ j < 8) (h1 : stp a i ≠ -1) (h2 : stp (stp a i) j ≠ -1) : veers a (stp a i) (stp (stp a i) j) ↔ i ≠ j := by
  have q1 := stp_cell h1
  have q2 := stp_cell h2
  have e1 := dxy hi
  have e2 := dxy hj
  unfold veers
  omega
theorem M_miles {d : Nat} (hd : 6 ≤ d) {σ : kS} {A B m : Int} {Q : Int → kS → Prop} (hA : isA 20 kN A) (hB : 0 ≤ B ∧ 0 ≤ m ∧ m ≤ 200 ∧ B + m ≤ klen A ∧ klen A ≤ 2000) (hadj : ∀ i, 1 ≤ i → i < m → (∃ k, (0 ≤ k ∧ k < 8) ∧ stp (σ A (B + (i - 1))) k = σ A (B + i)) ∧ σ A (B + i) ≠ -1) (h : Q (milesL (seg (σ A) B m)) σ) : Ci d MX12_milesOfRow [(2, 166), (2, A), (0, B), (0, m)] kN σ Q := by
  obtain ⟨d, rfl⟩ : ∃ e, d = e + 1 := ⟨d - 1, by omega⟩
  have key : ∀ i : Int, ∀ a : Int, 1 ≤ i → 0 ≤ a → a ≤ 14 * i → a + tenths (seg (σ A) (B + (i - 1)) (m - (i - 1))) = tenths (seg (σ A) B m) → LX12_milesOfRow_6 d kN Q A B m a i σ := by
    refine up_to (e := m) ?_
    intro i ih a hi ha ha2 hq
    refine SX12_milesOfRow_6 ⟨fun c => ⟨ha, ?_⟩, fun c => ?_⟩
    · unfold milesL at h
      rw [← hq] at h
      have : tenths (seg (σ A) (B + (i - 1)) (m - (i - 1))) = 0 := by
        by_cases e : m - (i - 1) ≤ 0
        · rw [seg_nil e]; rfl
        · rw [seg_cons (by omega), seg_nil (by omega)]; rfl
      rwa [this, Int.add_zero] at h
    · obtain ⟨⟨k, hk, hs⟩, hne⟩ := hadj i hi (by omega)
      have e2 : seg (σ A) (B + (i - 1)) (m - (i - 1)) = σ A (B + (i - 1)) :: σ A (B + i) :: seg (σ A) (B + i + 1) (m - i - 1) := by
        rw [seg_cons (by omega), show B + (i - 1) + 1 = B + i by omega, seg_cons (by omega), show m - (i - 1) - 1 - 1 = m - i - 1 by omega]
      have e3 : seg (σ A) (B + (i + 1 - 1)) (m - (i + 1 - 1)) = σ A (B + i) :: seg (σ A) (B + i + 1) (m - i - 1) := by
        rw [show B + (i + 1 - 1) = B + i by omega, show m - (i + 1 - 1) = m - i by omega, seg_cons (by omega)]
      rw [e2, tenths, ← e3] at hq
      have hn : stp (σ A (B + (i - 1))) k ≠ -1 := by rw [hs]; exact hne
      have hev := stp_even hk hn
      rw [hs] at hev
      rw [show B + i - 1 = B + (i - 1) by omega]
      refine ⟨by omega, by omega, hA, by omega, by omega, M_directionOf (by omega) hk hs hn ⟨hk.1, fun c1 => ?_, fun c1 => ?_⟩⟩
      · rw [if_neg (fun z => c1 (hev.mp z))] at hq
        exact ⟨by omega, by omega, ih (by omega) _ (by omega) (by omega) (by omega) (by omega)⟩
      · rw [if_pos (hev.mpr (Classical.not_not.mp c1))] at hq
        exact ⟨by omega, by omega, ih (by omega) _ (by omega) (by omega) (by omega) (by omega)⟩
  exact EX12_milesOfRow fun _ _ _ => SX12_milesOfRow_0 (key 1 0 (by omega) (by omega) (by omega) (by rw [Int.zero_add, show (1 : Int) - 1 = 0 from rfl, Int.add_zero, Int.sub_zero]))
theorem M_turnsOf {d : Nat} (hd : 6 ≤ d) {σ : kS} {l runs : Int} {Q : Int → kS → Prop} (hL : Lay σ) (hC : cLine σ) (hl : 0 ≤ l ∧ l < σ 0 11) (hr : runs = 0 ∨ runs = 1) (h : Q (if runs = 0 then turnsL (rowL σ (146 + 2 * l)) else longestL (rowL σ (146 + 2 * l))) σ) : Ci d MX12_turnsOf [(2, 166), (0, l), (0, runs)] kN σ Q := by
  obtain ⟨d, rfl⟩ : ∃ e, d = e + 1 := ⟨d - 1, by omega⟩
  have k182 := kl_182
  have hn := hC.1
  obtain ⟨b1, b2, b3, b4, b5⟩ := hC.2.2 l hl.1 hl.2
  have hla := line_at hL (i := l) (by omega)
  have hsz := b1.1.2
  have hrl : rowL σ (146 + 2 * l) = seg (σ (147 + 2 * l)) 0 (σ (146 + 2 * l) 1) := by
    rw [rowL_seg, show 146 + 2 * l + 1 = 147 + 2 * l by omega]
  have hcell : ∀ i, 0 ≤ i → i < σ (146 + 2 * l) 1 → 0 ≤ σ (147 + 2 * l) i ∧ σ (147 + 2 * l) i < 120 := fun i i0 i1 => by
    have := b1.2 i i0 i1
    rw [show 146 + 2 * l + 1 = 147 + 2 * l by omega] at this
    exact this
  rw [hrl] at h
  generalize σ (146 + 2 * l) 1 = m at *
  generalize hF : σ (147 + 2 * l) = F at *
  have key : ∀ i : Int, ∀ turns run most before : Int, 2 ≤ i → (0 ≤ turns ∧ turns ≤ i) → (0 ≤ run ∧ run ≤ i) → ((0 ≤ before ∧ before < 8) ∧ stp (F (i - 2)) before = F (i - 1)) → i ≤ m → turns + turnsL (seg F (i - 2) (m - (i - 2))) = turnsL (seg F 0 m) → runL most run (seg F (i - 2) (m - (i - 2))) = longestL (seg F 0 m) → LX12_turnsOf_14 d kN Q 166 l runs turns run most before i σ := by
    refine up_to (e := m) ?_
    intro i ih turns run most before i2 ht hrn hb im h1 h2
    refine SX12_turnsOf_14 ⟨o_166, ?_⟩
    rw [ly_166_32 hL, b3]
    refine ⟨a_182, by omega, fun e => ?_, fun e => ⟨by omega, M_cellOf (by omega) hL (by omega) (by omega) (M_cellOf (by omega) hL (by omega) (by omega) ?_)⟩⟩
    · have hs := seg_short (f := F) (b := i - 2) (n := m - (i - 2)) (by omega)
      have z1 : turnsL (seg F (i - 2) (m - (i - 2))) = 0 := by
        rcases hs with e | ⟨x, e⟩ | ⟨x, y, e⟩ <;> rw [e] <;> rfl
      have z2 : runL most run (seg F (i - 2) (m - (i - 2))) = most := by
        rcases hs with e | ⟨x, e⟩ | ⟨x, y, e⟩ <;> rw [e] <;> rfl
      rw [z1, Int.add_zero] at h1
      rw [z2] at h2
      refine ⟨fun q => ?_, fun q => ?_⟩
      · rw [if_pos q, ← h1] at h
        exact h
      · rw [if_neg q, ← h2] at h
        exact h
    · rw [← b4 (i - 1) (by omega) (by omega), ← b4 i (by omega) (by omega)]
      obtain ⟨k, hk, hs⟩ := b5 i (by omega) (by omega)
      have hci := hcell i (by omega) (by omega)
      have hci1 := hcell (i - 1) (by omega) (by omega)
      have hnn : stp (F (i - 1)) k ≠ -1 := by rw [hs]; omega
      have hv : veers (F (i - 2)) (F (i - 1)) (F i) ↔ before ≠ k := by
        have := stp_veers (a := F (i - 2)) hb.1 hk (by rw [hb.2]; omega) (by rw [hb.2]; exact hnn)
        rw [hb.2, hs] at this
        exact this
      rw [seg3 (by omega), turnsL, ← seg2 (by omega)] at h1
      rw [seg3 (by omega), runL, ← seg2 (by omega)] at h2
      have hb' : (0 ≤ k ∧ k < 8) ∧ stp (F (i + 1 - 2)) k = F (i + 1 - 1) := ⟨hk, by rw [show i + 1 - 2 = i - 1 by omega, show i + 1 - 1 = i by omega]; exact hs⟩
      refine M_directionOf (by omega) hk hs hnn ⟨fun q => by omega, fun _ => ⟨fun q => ⟨by omega, fun q2 => absurd q q2, fun _ => ⟨by omega, J_max (by omega) ⟨by omega, ?_⟩⟩⟩, fun q => ⟨by omega, fun _ => J_max (by omega) ⟨by omega, ?_⟩, fun q2 => absurd q q2⟩⟩⟩
      · rw [if_neg (fun z => hv.mp z q)] at h1 h2
        exact ih (by omega) _ _ _ _ (by omega) (by omega) (by omega) hb' (by omega) (by omega) h2
      · rw [if_pos (hv.mpr q)] at h1 h2
        exact ih (by omega) _ _ _ _ (by omega) (by omega) (by omega) hb' (by omega) (by omega) h2
  refine EX12_turnsOf fun _ _ _ => SX12_turnsOf_0 (SX12_turnsOf_14 ⟨o_166, ?_⟩)
  rw [ly_166_32 hL, b3]
  refine ⟨a_182, by omega, fun e => ?_, fun e => ⟨by omega, M_cellOf (by omega) hL (by omega) (by omega) (M_cellOf (by omega) hL (by omega) (by omega) ?_)⟩⟩
  · have e1 : seg F 0 m = [F 0] := by rw [seg_cons (by omega), seg_nil (by omega)]
    rw [e1] at h
    exact ⟨fun q => by rw [if_pos q] at h; exact h, fun q => by rw [if_neg q] at h; exact h⟩
  · rw [← b4 (1 - 1) (by omega) (by omega), ← b4 1 (by omega) (by omega)]
    obtain ⟨k, hk, hs⟩ := b5 1 (by omega) (by omega)
    have hci := hcell 1 (by omega) (by omega)
    have hnn : stp (F (1 - 1)) k ≠ -1 := by rw [hs]; omega
    refine M_directionOf (by omega) hk hs hnn ⟨fun _ => ⟨by omega, fun _ => J_max (by omega) ⟨by omega, ?_⟩, fun q => by omega⟩, fun q => absurd rfl q⟩
    refine key (1 + 1) (0 + 0) 1 (max 0 1) k (by omega) (by omega) (by omega) ⟨hk, hs⟩ (by omega) ?_ ?_
    · show 0 + turnsL (seg F 0 (m - 0)) = _
      rw [Int.sub_zero, Int.zero_add]
    · show runL (max 0 1) 1 (seg F 0 (m - 0)) = _
      rw [Int.sub_zero, seg_cons (by omega), seg_cons (by omega)]
      rfl
noncomputable def aboA (σ : kS) (l w : Int) : Int := cif (0 ≤ l ∧ l < σ 0 11) (if w = 0 then milesL (rowL σ (146 + 2 * l)) else if w = 1 then turnsL (rowL σ (146 + 2 * l)) else if w = 2 then longestL (rowL σ (146 + 2 * l)) else -1) (-1)
theorem rowL_line {σ s : kS} (h : Fr σ s) {l : Int} (hl : 0 ≤ l ∧ l < 10) : rowL s (146 + 2 * l) = rowL σ (146 + 2 * l) := rowL_cong (h.1 _ (by unfold scr; omega)) (h.1 _ (by unfold scr; omega))
theorem aboA_fr {σ s : kS} (hI : Inv σ) (h : Fr σ s) {l w : Int} : aboA s l w = aboA σ l w := by
  have hn := hI.2.2.2.2.2.2.2.2.1.1
  unfold aboA
  rw [h.e0]
  by_cases c : 0 ≤ l ∧ l < σ 0 11
  · rw [cif_pos c, cif_pos c, rowL_line h (by omega)]
  · rw [cif_neg c, cif_neg c]
theorem O_about {l w : Int} : Op MX11_about MX12_about [(0, l), (0, w)] := by
  refine Op.of (fun σ => aboA σ l w) (fun σ s hI hk => aboA_fr hI hk.1) (fun d σ Q hd hI h => ?_) (fun d σ Q hd hI h => ?_)
  · obtain ⟨d, rfl⟩ : ∃ e, d = e + 1 := ⟨d - 1, by omega⟩
    have hs := h σ hI.self
    have hC := hI.2.2.2.2.2.2.2.2.1
    have hn := hC.1
    have k21 := kl_21
    refine EX11_about fun _ _ _ => SX11_about_0 ⟨o_0, X_isLine (by omega) (fun c1 => ⟨fun _ => ?_, fun e => by omega⟩) (fun c1 => ⟨fun e => absurd rfl e, fun _ => ?_⟩)⟩
    · have hla := line_at hI.1 (i := l) (by omega)
      have hl := hC.2.2 l c1.1 c1.2
      unfold aboA at hs
      rw [cif_pos c1] at hs
      rw [ly_0_10 hI.1, hla.1]
      refine ⟨fun c => ?_, fun c => ⟨a_21, by omega, hla.2.1, Row_miles (by omega) hI.1 hl.1 ?_⟩, fun c => ⟨a_21, by omega, hla.2.1, Row_turns (by omega) hI.1 hl.1 ?_⟩, fun c => ⟨a_21, by omega, hla.2.1, Row_longestRun (by omega) hI.1 hl.1 ?_⟩⟩
      · rw [if_neg (show ¬ w = 0 by omega), if_neg (show ¬ w = 1 by omega), if_neg (show ¬ w = 2 by omega)] at hs
        exact hs
      · rw [if_pos c] at hs
        exact hs
      · rw [if_neg (show ¬ w = 0 by omega), if_pos c] at hs
        exact hs
      · rw [if_neg (show ¬ w = 0 by omega), if_neg (show ¬ w = 1 by omega), if_pos c] at hs
        exact hs
    · unfold aboA at hs
      rw [cif_neg c1] at hs
      exact hs
  · obtain ⟨d, rfl⟩ : ∃ e, d = e + 1 := ⟨d - 1, by omega⟩
    have k182 := kl_182
    have k183 := kl_183
    refine EX12_about fun _ _ _ => SX12_about_0 ⟨o_166, fun s1 e1 => ?_⟩
    have hk1 : Keep σ s1 := by rw [e1]; exact hI.thrown
    have hI1 := hI.keep hk1
    have hs := h s1 hk1
    rw [← aboA_fr hI hk1.1] at hs
    have hC := hI1.2.2.2.2.2.2.2.2.1
    have hn := hC.1
    have h34 := hC.2.1
    unfold aboA at hs
    refine M_isLine (by omega) (fun c1 => ⟨fun e => by omega, fun _ => ?_⟩) (fun c1 => ⟨fun _ => ?_, fun e => absurd rfl e⟩)
    · have c1' : 0 ≤ l ∧ l < s1 0 11 := by omega
      obtain ⟨b1, b2, b3, b4, b5⟩ := hC.2.2 l c1'.1 c1'.2
      have hla := line_at hI1.1 (i := l) (by omega)
      have hsz := b1.1.2
      rw [cif_pos c1'] at hs
      refine M_isIn (by omega) (fun c2 => ⟨fun _ => ⟨fun c3 => ⟨fun c4 => M_turnsOf (by omega) hI1.1 hC c1' (Or.inl rfl) ?_, fun c4 => M_turnsOf (by omega) hI1.1 hC c1' (Or.inr rfl) ?_⟩, fun c3 => ?_⟩, fun e => by omega⟩) (fun c2 => ⟨fun e => absurd rfl e, fun _ => ?_⟩)
      · rw [if_neg c3, if_pos (show w = 1 by omega)] at hs
        exact hs
      · rw [if_neg c3, if_neg (show ¬ w = 1 by omega), if_pos (Classical.not_not.mp c4)] at hs
        exact hs
      · rw [ly_166_32 hI1.1, ly_166_33 hI1.1, b3]
        have hcell : ∀ i, 0 ≤ i → i < s1 (146 + 2 * l) 1 → s1 (147 + 2 * l) i ≠ -1 := fun i i0 i1 => by
          have := b1.2 i i0 i1
          rw [show 146 + 2 * l + 1 = 147 + 2 * l by omega] at this
          omega
        refine ⟨by omega, a_182, by omega, M_miles (by omega) a_183 (by omega) (fun i i0 i1 => ?_) ?_⟩
        · rw [← b4 (i - 1) (by omega) (by omega), ← b4 i (by omega) i1]
          exact ⟨b5 i i0 i1, hcell i (by omega) i1⟩
        · rw [if_pos (Classical.not_not.mp c3), rowL_seg] at hs
          have e : seg (s1 183) (140 * l) (s1 (146 + 2 * l) 1) = seg (s1 (146 + 2 * l + 1)) 0 (s1 (146 + 2 * l) 1) := seg_cong (fun i i0 i1 => by
            rw [Int.zero_add, show 146 + 2 * l + 1 = 147 + 2 * l by omega, b4 i i0 i1])
          rw [e]
          exact hs
      · rw [if_neg (show ¬ w = 0 by omega), if_neg (show ¬ w = 1 by omega), if_neg (show ¬ w = 2 by omega)] at hs
        exact hs
    · rw [cif_neg (fun z => c1 (by omega))] at hs
      exact hs
