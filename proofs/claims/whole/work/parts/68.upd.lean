/-! changes of the essential cells: what else stays -/
def FrB (L J : List Int) (σ s : kS) : Prop := (∀ k, ¬ scr k → k ≠ 0 → k ∉ L → s k = σ k) ∧ (∀ j, j = 2 ∨ j = 6 ∨ j = 8 ∨ j = 11 → -j ∉ J → s 0 j = σ 0 j) ∧ ∀ j, esf j → j ∉ J → s 166 j = σ 166 j
theorem FrB.rf {L J : List Int} {σ : kS} : FrB L J σ σ := ⟨fun _ _ _ _ => rfl, fun _ _ _ => rfl, fun _ _ _ => rfl⟩
theorem FrB.ks {L J : List Int} {σ s : kS} {k j v : Int} (h : FrB L J σ s) (h0 : k ≠ 0) (h6 : k ≠ 166) (hk : k ∈ L ∨ scr k) : FrB L J σ (kst s k j v) := by
  refine ⟨fun q hs hq hl => ?_, fun q hq hn => ?_, fun q hq hn => ?_⟩
  · rw [kst_k (show q ≠ k from fun e => hk.elim (fun z => hl (e ▸ z)) (fun z => hs (e ▸ z)))]
    exact h.1 q hs hq hl
  · rw [kst_k (Ne.symm h0)]
    exact h.2.1 q hq hn
  · rw [kst_k (Ne.symm h6)]
    exact h.2.2 q hq hn
theorem FrB.kst0 {L J : List Int} {σ s : kS} {j v : Int} (h : FrB L J σ s) (hj : -j ∈ J) : FrB L J σ (kst s 0 j v) := by
  refine ⟨fun q hs hq hl => ?_, fun q hq hn => ?_, fun q hq hn => ?_⟩
  · rw [kst_k hq]
    exact h.1 q hs hq hl
  · rw [kst_kj (show q ≠ j from fun e => hn (e ▸ hj))]
    exact h.2.1 q hq hn
  · rw [kst_k (show (166 : Int) ≠ 0 by decide)]
    exact h.2.2 q hq hn
theorem FrB.kstM {L J : List Int} {σ s : kS} {j v : Int} (h : FrB L J σ s) (hj : j ∈ J ∨ ¬ esf j) : FrB L J σ (kst s 166 j v) := by
  refine ⟨fun q hs hq hl => ?_, fun q hq hn => ?_, fun q hq hn => ?_⟩
  · rw [kst_k (show q ≠ 166 from fun e => hs (by unfold scr; omega))]
    exact h.1 q hs hq hl
  · rw [kst_k (show (0 : Int) ≠ 166 by decide)]
    exact h.2.1 q hq hn
  · rw [kst_kj (show q ≠ j from fun e => hj.elim (fun z => hn (e ▸ z)) (fun z => z (e ▸ hq)))]
    exact h.2.2 q hq hn
theorem FrB.off {L J M : List Int} {σ s u : kS} (h : FrB L J σ s) (ho : off M s u) (hm : ∀ k ∈ M, (k ∈ L ∨ scr k) ∧ k ≠ 0 ∧ k ≠ 166) : FrB L J σ u := by
  refine ⟨fun q hs hq hl => ?_, fun q hq hn => ?_, fun q hq hn => ?_⟩
  · rw [ho q (fun z => (hm q z).1.elim hl hs)]
    exact h.1 q hs hq hl
  · rw [ho 0 (fun z => (hm 0 z).2.1 rfl)]
    exact h.2.1 q hq hn
  · rw [ho 166 (fun z => (hm 166 z).2.2 rfl)]
    exact h.2.2 q hq hn
theorem FrB.fr {L J : List Int} {σ s u : kS} (h : FrB L J σ s) (hf : Fr s u) : FrB L J σ u := by
  refine ⟨fun q hs hq hl => ?_, fun q hq hn => ?_, fun q hq hn => ?_⟩
  · rw [hf.1 q hs]
    exact h.1 q hs hq hl
  · rw [hf.e0]
    exact h.2.1 q hq hn
  · rw [hf.2 q hq]
    exact h.2.2 q hq hn
theorem anyno {L : List Int} {p : Int → Prop} [DecidablePred p] (h : ¬ L.any (fun k => decide (p k)) = true) : ∀ k, p k → k ∉ L := fun k hk hm => h (List.any_eq_true.mpr ⟨k, hm, decide_eq_true hk⟩)
theorem Ess.upd {L J : List Int} {σ s : kS} (hf : FrB L J σ s) (hE : Ess σ)
    (c1 : L.any (fun k => decide ((3 ≤ k ∧ k ≤ 6) ∨ k = 167)) = true → cLand s := by exact fun h => absurd h (by decide))
    (c2 : L.any (fun k => decide ((75 ≤ k ∧ k ≤ 96) ∨ k = 205)) = true ∨ J.any (fun j => decide (j = 68 ∨ j = -2)) = true → cEra s := by exact fun h => absurd h (by decide))
    (c3 : L.any (fun k => decide (k = 19 ∨ k = 20 ∨ k = 168)) = true ∨ J.any (fun j => decide (j = 3)) = true → cTown s := by exact fun h => absurd h (by decide))
    (c4 : L.any (fun k => decide (k = 8 ∨ k = 9 ∨ k = 169)) = true ∨ J.any (fun j => decide (j = 13)) = true → cTape s := by exact fun h => absurd h (by decide))
    (c5 : L.any (fun k => decide ((97 ≤ k ∧ k ≤ 120) ∨ k = 170 ∨ k = 171 ∨ k = 189)) = true ∨ J.any (fun j => decide (j = 14 ∨ j = -6)) = true → cGoer s := by exact fun h => absurd h (by decide))
    (c6 : L.any (fun k => decide ((121 ≤ k ∧ k ≤ 145) ∨ k = 19 ∨ (173 ≤ k ∧ k ≤ 176))) = true ∨ J.any (fun j => decide (j = 15 ∨ j = -8)) = true → cBook s := by exact fun h => absurd h (by decide))
    (c7 : L.any (fun k => decide ((146 ≤ k ∧ k ≤ 165) ∨ k = 182 ∨ k = 183)) = true ∨ J.any (fun j => decide (j = 34 ∨ j = -11)) = true → cLine s := by exact fun h => absurd h (by decide))
    (c8 : L.any (fun k => decide ((48 ≤ k ∧ k ≤ 53) ∨ (184 ≤ k ∧ k ≤ 186))) = true ∨ J.any (fun j => decide (j = 38)) = true → cFind s := by exact fun h => absurd h (by decide))
    (c9 : L.any (fun k => decide (k = 22 ∨ k = 23 ∨ k = 187)) = true ∨ J.any (fun j => decide (j = 41 ∨ j = -11)) = true → cKnown s := by exact fun h => absurd h (by decide))
    (c10 : L.any (fun k => decide (k = 55 ∨ k = 56 ∨ k = 194)) = true ∨ J.any (fun j => decide (j = 49)) = true → cPit s := by exact fun h => absurd h (by decide))
    (c11 : L.any (fun k => decide (k = 24 ∨ k = 25 ∨ (196 ≤ k ∧ k ≤ 199))) = true ∨ J.any (fun j => decide (j = 54)) = true → cField s := by exact fun h => absurd h (by decide))
    (c12 : L.any (fun k => decide (k = 61 ∨ k = 62 ∨ k = 203)) = true ∨ J.any (fun j => decide (61 ≤ j ∧ j ≤ 63)) = true → cFeet s := by exact fun h => absurd h (by decide)) : Ess s := by
  obtain ⟨a1, a2, a3, a4, a5, a6, a7, a8, a9, a10, a11, a12⟩ := hE
  have e : ∀ k, ¬ scr k → k ≠ 0 → k ∉ L → s k = σ k := hf.1
  refine ⟨?_, ?_, ?_, ?_, ?_, ?_, ?_, ?_, ?_, ?_, ?_, ?_⟩
  · refine (Classical.em _).elim c1 (fun q => ?_)
    have q := anyno q
    intro c w h0 h1 h2 h3
    rw [e (3 + w) (by unfold scr; omega) (by omega) (q _ (by omega)), e 167 (by unfold scr; omega) (by omega) (q _ (by omega))]
    exact a1 c w h0 h1 h2 h3
  · refine (Classical.em _).elim c2 (fun q => ?_)
    have q1 := anyno (fun z => q (Or.inl z))
    have q2 := anyno (fun z => q (Or.inr z))
    unfold cEra
    rw [hf.2.2 68 (by unfold esf; omega) (q2 _ (by omega)), hf.2.1 2 (by omega) (q2 _ (by omega))]
    refine ⟨a2.1, a2.2.1, fun f c w e0 e1 => ?_⟩
    have := a2.1
    intro h0 h1 h2 h3
    rw [e (75 + 6 * f + w) (by unfold scr; omega) (by omega) (q1 _ (by omega)), e 205 (by unfold scr; omega) (by omega) (q1 _ (by omega))]
    exact a2.2.2 f c w e0 e1 h0 h1 h2 h3
  · refine (Classical.em _).elim c3 (fun q => ?_)
    have q1 := anyno (fun z => q (Or.inl z))
    have q2 := anyno (fun z => q (Or.inr z))
    unfold cTown
    have e19 : s 19 = σ 19 := e 19 (by unfold scr; omega) (by omega) (q1 _ (by omega))
    have e20 : s 20 = σ 20 := e 20 (by unfold scr; omega) (by omega) (q1 _ (by omega))
    rw [e19, e20, e 168 (by unfold scr; omega) (by omega) (q1 _ (by omega)), hf.2.2 3 (by unfold esf; omega) (q2 _ (by omega))]
    exact ⟨a3.1.cong e19 e20, a3.2⟩
  · refine (Classical.em _).elim c4 (fun q => ?_)
    have q1 := anyno (fun z => q (Or.inl z))
    have q2 := anyno (fun z => q (Or.inr z))
    unfold cTape
    have e8 : s 8 = σ 8 := e 8 (by unfold scr; omega) (by omega) (q1 _ (by omega))
    rw [e8, e 9 (by unfold scr; omega) (by omega) (q1 _ (by omega)), e 169 (by unfold scr; omega) (by omega) (q1 _ (by omega)), hf.2.2 13 (by unfold esf; omega) (q2 _ (by omega))]
    exact ⟨a4.1.cong e8, a4.2⟩
  · refine (Classical.em _).elim c5 (fun q => ?_)
    have q1 := anyno (fun z => q (Or.inl z))
    have q2 := anyno (fun z => q (Or.inr z))
    unfold cGoer
    have e170 : s 170 = σ 170 := e 170 (by unfold scr; omega) (by omega) (q1 _ (by omega))
    have e171 : s 171 = σ 171 := e 171 (by unfold scr; omega) (by omega) (q1 _ (by omega))
    have ht : ∀ g, tb s g = tb σ g ∧ tn s g = tn σ g := fun g => by
      refine ⟨?_, by unfold tn; rw [e171]⟩
      unfold tb mby
      rw [e170]
    rw [hf.2.1 6 (by omega) (q2 _ (by omega)), hf.2.2 14 (by unfold esf; omega) (q2 _ (by omega)), e171, e170, e 189 (by unfold scr; omega) (by omega) (q1 _ (by omega))]
    refine ⟨a5.1, a5.2.1, fun g g0 g1 => ?_, fun g g0 g1 => ?_⟩
    · have := a5.1
      rw [e (97 + 4 * g) (by unfold scr; omega) (by omega) (q1 _ (by omega)), e (97 + 4 * g + 1) (by unfold scr; omega) (by omega) (q1 _ (by omega)), (ht g).1, (ht g).2]
      exact a5.2.2.1 g g0 g1
    · have := a5.1
      rw [e (97 + 4 * g) (by unfold scr; omega) (by omega) (q1 _ (by omega))]
      exact a5.2.2.2 g g0 g1
  · refine (Classical.em _).elim c6 (fun q => ?_)
    have q1 := anyno (fun z => q (Or.inl z))
    have q2 := anyno (fun z => q (Or.inr z))
    have e' : ∀ k, (121 ≤ k ∧ k ≤ 145) ∨ k = 19 ∨ (173 ≤ k ∧ k ≤ 176) → s k = σ k := fun k hk => e k (by unfold scr; omega) (by omega) (q1 _ hk)
    unfold cBook
    rw [hf.2.1 8 (by omega) (q2 _ (by omega)), hf.2.2 15 (by unfold esf; omega) (q2 _ (by omega)), e' 173 (by omega), e' 174 (by omega), e' 175 (by omega), e' 176 (by omega), e' 19 (by omega)]
    refine ⟨a6.1, a6.2.1, fun i i0 i1 => ?_, fun i i0 i1 => ?_⟩
    · have := a6.2.2.1 i i0 i1
      exact ⟨this.1.cong (e' _ (by omega)), this.2.cong (e' _ (by omega))⟩
    · have := a6.1
      rw [e' (122 + 5 * i) (by omega), e' (123 + 5 * i) (by omega), e' (124 + 5 * i) (by omega), e' (125 + 5 * i) (by omega)]
      exact a6.2.2.2 i i0 i1
  · refine (Classical.em _).elim c7 (fun q => ?_)
    have q1 := anyno (fun z => q (Or.inl z))
    have q2 := anyno (fun z => q (Or.inr z))
    have e' : ∀ k, (146 ≤ k ∧ k ≤ 165) ∨ k = 182 ∨ k = 183 → s k = σ k := fun k hk => e k (by unfold scr; omega) (by omega) (q1 _ hk)
    unfold cLine
    rw [hf.2.1 11 (by omega) (q2 _ (by omega)), hf.2.2 34 (by unfold esf; omega) (q2 _ (by omega)), e' 182 (by omega), e' 183 (by omega)]
    refine ⟨a7.1, a7.2.1, fun l l0 l1 => ?_⟩
    have := a7.1
    have e1 : s (146 + 2 * l) = σ (146 + 2 * l) := e' _ (by omega)
    have e2 : s (147 + 2 * l) = σ (147 + 2 * l) := e' _ (by omega)
    have e3 : s (146 + 2 * l + 1) = σ (146 + 2 * l + 1) := e' _ (by omega)
    rw [e1, e2]
    have h9 := a7.2.2 l l0 l1
    exact ⟨h9.1.cong e1 e3, h9.2⟩
  · refine (Classical.em _).elim c8 (fun q => ?_)
    have q1 := anyno (fun z => q (Or.inl z))
    have q2 := anyno (fun z => q (Or.inr z))
    have e' : ∀ k, (48 ≤ k ∧ k ≤ 53) ∨ (184 ≤ k ∧ k ≤ 186) → s k = σ k := fun k hk => e k (by unfold scr; omega) (by omega) (q1 _ hk)
    unfold cFind FindsOK
    rw [e' 48 (by omega), e' 49 (by omega), e' 50 (by omega), e' 52 (by omega), e' 51 (by omega), e' 53 (by omega), e' 184 (by omega), e' 185 (by omega), e' 186 (by omega), hf.2.2 38 (by unfold esf; omega) (q2 _ (by omega))]
    obtain ⟨⟨p1, p2, p3, p4⟩, p5⟩ := a8
    exact ⟨⟨p1.cong (e' 48 (by omega)) (e' 49 (by omega)), p2.cong (e' 50 (by omega)), p3.cong (e' 52 (by omega)), p4⟩, p5⟩
  · refine (Classical.em _).elim c9 (fun q => ?_)
    have q1 := anyno (fun z => q (Or.inl z))
    have q2 := anyno (fun z => q (Or.inr z))
    unfold cKnown
    have e22 : s 22 = σ 22 := e 22 (by unfold scr; omega) (by omega) (q1 _ (by omega))
    rw [e22, hf.2.1 11 (by omega) (q2 _ (by omega)), e 23 (by unfold scr; omega) (by omega) (q1 _ (by omega)), e 187 (by unfold scr; omega) (by omega) (q1 _ (by omega)), hf.2.2 41 (by unfold esf; omega) (q2 _ (by omega))]
    exact ⟨a9.1.cong e22, a9.2⟩
  · refine (Classical.em _).elim c10 (fun q => ?_)
    have q1 := anyno (fun z => q (Or.inl z))
    have q2 := anyno (fun z => q (Or.inr z))
    unfold cPit
    have e55 : s 55 = σ 55 := e 55 (by unfold scr; omega) (by omega) (q1 _ (by omega))
    have e56 : s 56 = σ 56 := e 56 (by unfold scr; omega) (by omega) (q1 _ (by omega))
    rw [e55, e56, e 194 (by unfold scr; omega) (by omega) (q1 _ (by omega)), hf.2.2 49 (by unfold esf; omega) (q2 _ (by omega))]
    exact ⟨a10.1.cong e55 e56, a10.2⟩
  · refine (Classical.em _).elim c11 (fun q => ?_)
    have q1 := anyno (fun z => q (Or.inl z))
    have q2 := anyno (fun z => q (Or.inr z))
    have e' : ∀ k, k = 24 ∨ k = 25 ∨ (196 ≤ k ∧ k ≤ 199) → s k = σ k := fun k hk => e k (by unfold scr; omega) (by omega) (q1 _ hk)
    unfold cField
    rw [e' 24 (by omega), e' 25 (by omega), e' 196 (by omega), e' 197 (by omega), e' 198 (by omega), e' 199 (by omega), hf.2.2 54 (by unfold esf; omega) (q2 _ (by omega))]
    exact ⟨a11.1.cong (e' 24 (by omega)), a11.2⟩
  · refine (Classical.em _).elim c12 (fun q => ?_)
    have q1 := anyno (fun z => q (Or.inl z))
    have q2 := anyno (fun z => q (Or.inr z))
    unfold cFeet
    rw [e 61 (by unfold scr; omega) (by omega) (q1 _ (by omega)), e 62 (by unfold scr; omega) (by omega) (q1 _ (by omega)), e 203 (by unfold scr; omega) (by omega) (q1 _ (by omega)), hf.2.2 61 (by unfold esf; omega) (q2 _ (by omega)), hf.2.2 62 (by unfold esf; omega) (q2 _ (by omega)), hf.2.2 63 (by unfold esf; omega) (q2 _ (by omega))]
    exact a12
/-- the scratch pieces, where nothing of them is touched -/
theorem Scr.upd {σ s : kS} (h : Scr σ) (h0 : s 0 6 = σ 0 6) (hr : ∀ k, k = 27 ∨ k = 36 ∨ k = 38 ∨ k = 43 ∨ k = 45 ∨ k = 57 ∨ k = 59 ∨ k = 35 ∨ k = 170 ∨ k = 171 → s k = σ k) (h26 : s 26 = σ 26) : Scr s := by
  obtain ⟨b1, ⟨b2, b3, b4, b5, b6, b7⟩, b8, b9⟩ := h
  have ht : ∀ g, tb s g = tb σ g ∧ tn s g = tn σ g := fun g => by
    refine ⟨?_, ?_⟩
    · unfold tb mby
      rw [hr 170 (by omega)]
    · unfold tn
      rw [hr 171 (by omega)]
  refine ⟨by unfold Bes; rw [hr 27 (by omega)]; exact b1, ⟨b2.cong (hr 36 (by omega)), b3.cong (hr 38 (by omega)), b4.cong (hr 43 (by omega)), b5.cong (hr 45 (by omega)), b6.cong (hr 57 (by omega)), b7.cong (hr 59 (by omega))⟩, ?_⟩
  unfold cKind
  rw [h0, hr 35 (by omega), h26]
  refine ⟨b8, b9.imp (fun h => h) (fun ⟨g, q1, q2, q3, q4⟩ => ⟨g, q1, q2, q3, fun k k0 k1 => ?_⟩)⟩
  rw [(ht g).1, (ht g).2]
  exact q4 k k0 k1
/-- the same, over cells that are named -/
theorem Scr.offU {σ s : kS} {M : List Int} (h : Scr σ) (ho : ∀ k, k ≠ 0 → k ∉ M → s k = σ k) (h0 : s 0 6 = σ 0 6) (hm : M.all (fun k => decide (¬ (k = 26 ∨ k = 27 ∨ k = 36 ∨ k = 38 ∨ k = 43 ∨ k = 45 ∨ k = 57 ∨ k = 59 ∨ k = 35 ∨ k = 170 ∨ k = 171))) = true) : Scr s := by
  have hk : ∀ k, (k = 26 ∨ k = 27 ∨ k = 36 ∨ k = 38 ∨ k = 43 ∨ k = 45 ∨ k = 57 ∨ k = 59 ∨ k = 35 ∨ k = 170 ∨ k = 171) → s k = σ k := fun k hk => ho k (by omega) (fun hkl => absurd hk (of_decide_eq_true (List.all_eq_true.mp hm k hkl)))
  exact h.upd h0 (fun k q => hk k (by omega)) (hk 26 (by omega))
theorem O_end {n : Int} : Op MX11_end MX12_end [(0, n)] := by
  intro d σ hd hI
  obtain ⟨d, rfl⟩ : ∃ e, d = e + 1 := ⟨d - 1, by omega⟩
  have ht := hI.2.2.2.2.2.1
  have h0 := ht.1.2
  refine EX11_end fun _ _ => SX11_end_0 ⟨o_0, ?_⟩
  rw [ly_0_3 hI.1]
  refine ⟨o_8, Row_cut (by omega) o_8 (fun n0 n1 => ⟨by omega, ?_⟩) (fun c => ⟨by omega, ?_⟩)⟩
  · refine EX12_end fun _ _ => SX12_end_0 ⟨o_166, fun s1 e1 => ?_⟩
    have e13 : s1 166 13 = σ 8 1 := by
      rw [e1, kst_kj (by decide), kst_k (by decide)]
      exact ht.2.1
    refine ⟨fun c => by omega, fun c => ⟨fun c2 s2 e2 => ⟨rfl, ?_⟩, fun c2 => by omega⟩⟩
    have ho : FrB [8] [13] σ s2 := by
      rw [e2, e1]
      exact ((FrB.rf.ks (by decide) (by decide) (Or.inl (by decide))).kstM (Or.inr (by unfold esf; omega))).kstM (Or.inl (by decide))
    have oo : ∀ k, k ≠ 0 → k ∉ [8, 166] → s2 k = σ k := fun k _ hk => by
      rw [e2, e1, kst_k (by intro e; exact hk (by rw [e]; decide)), kst_k (by intro e; exact hk (by rw [e]; decide)), kst_k (by intro e; exact hk (by rw [e]; decide))]
    have e0 : s2 0 = σ 0 := by rw [e2, e1, kst_k (by decide), kst_k (by decide), kst_k (by decide)]
    have eL : Lay s2 := by
      rw [e2, e1]
      exact ((hI.1.kstO 1 o_8 (by decide)).kstO 0 o_166 (by decide)).kstO 13 o_166 (by decide)
    refine ⟨eL, hI.2.1.offU oo (by rw [e0]) (by decide), Ess.upd ho hI.2.2 (c4 := fun _ => ?_)⟩
    have e8 : s2 8 1 = n := by rw [e2, e1, kst_k (by decide), kst_k (by decide), kst_eq]
    unfold cTape
    rw [oo 9 (by decide) (by decide), oo 169 (by decide) (by decide), e8]
    have e166 : s2 166 13 = n := by rw [e2, kst_eq]
    exact ⟨⟨o_8, by omega, by omega⟩, e166, fun i i0 i1 => ht.2.2 i i0 (by omega)⟩
  · refine EX12_end fun _ _ => SX12_end_0 ⟨o_166, fun s1 e1 => ?_⟩
    have e13 : s1 166 13 = σ 8 1 := by
      rw [e1, kst_kj (by decide)]
      exact ht.2.1
    have hk1 : Keep σ s1 := by rw [e1]; exact hI.thrown
    exact ⟨fun _ => ⟨rfl, hI.keep hk1⟩, fun c1 => ⟨fun c2 => by omega, fun _ => ⟨rfl, hI.keep hk1⟩⟩⟩
