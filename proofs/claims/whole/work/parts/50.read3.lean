/-! GoerReader: clauses, reads -/
/-- a reference that may change -/
theorem Lay.kstR {σ : kS} {k j v : Int} (h : Lay σ) (hn : layL.all (fun q => decide (¬ (q.1 = k ∧ q.2.1 = j))) = true) : Lay (kst σ k j v) := fun q hq => by
  have h1 := List.all_eq_true.mp hn q hq
  rw [kst_ap, if_neg (of_decide_eq_true h1)]
  exact h q hq
theorem gTail_adv {b : Int → Int} {n m p p' : Int} {o os : List Int} (p0 : 0 ≤ p) (e : gTail b n m p o = .inr (p', os)) : (p < p' ∧ p' ≤ n ∧ sk b n p' = p') ∧ (os.length : Int) ≤ o.length + (p' - p) + 1 := by
  unfold gTail at e
  by_cases c : gat b n p = 63
  · rw [if_pos c] at e
    have hin := gat_in c (by decide)
    have hk := sk_next (b := b) p0 hin.2
    obtain ⟨p1, o1, e1, e2⟩ := gThen_r e
    have h2 := (gSum_adv (b := b) (n := n) (k := 6) _ (by omega) hk.2.1 hk.2.2).2 p1 o1 e1
    cases e2
    refine ⟨⟨by omega, h2.1.2⟩, ?_⟩
    simp only [List.length_append, List.length_cons, List.length_nil]
    omega
  · rw [if_neg c] at e
    cases e
theorem gCondG_adv {b : Int → Int} {n p p' : Int} {os os' : List Int} {k : Nat} (p0 : 0 ≤ p) (pn : p ≤ n) (ho : ∀ o ∈ os, okO o) (e : gCondG b n k p os = .inr (p', os')) : (p ≤ p' ∧ p' ≤ n ∧ sk b n p' = p') ∧ (os'.length : Int) ≤ os.length + (p' - p) ∧ ∀ o ∈ os', okO o := by
  obtain ⟨p2, o2, e2, e3⟩ := gThen_r e
  obtain ⟨p1, o1, e1, e4⟩ := gThen_r e2
  have g1 := (gComp_adv gSum_adv (p0 := p - os.length) p0 pn (by omega) ho).2 p1 o1 e1
  have g2 := (gChain_adv (by decide) gUn_adv 120 p1 o1 (p - os.length) (by omega) g1.1.2.1 g1.1.2.2 g1.2.1 g1.2.2).2 p2 o2 e4
  have g3 := (gChain_adv (by decide) gTru_adv 120 p2 o2 (p - os.length) (by omega) g2.1.2.1 g2.1.2.2 g2.2.1 g2.2.2).2 p' os' e3
  exact ⟨⟨by omega, g3.1.2⟩, by omega, g3.2.2⟩
theorem gClause_adv {b : Int → Int} {n m p p' : Int} {os : List Int} (p0 : 0 ≤ p) (e : gClause b n m p = .inr (p', os)) : (p < p' ∧ p' ≤ n ∧ sk b n p' = p') ∧ (os.length : Int) ≤ p' - p := by
  unfold gClause at e
  by_cases c1 : gat b n p = 121
  · rw [if_pos c1] at e
    have hin := gat_in c1 (by decide)
    have hk := sk_next (b := b) p0 hin.2
    by_cases c2 : gat b n (sk b n (p + 1)) = 58
    · rw [if_pos c2] at e
      have hin2 := gat_in c2 (by decide)
      have hk2 := sk_next (b := b) (p := sk b n (p + 1)) (by omega) hin2.2
      by_cases c3 : gat b n (sk b n (sk b n (p + 1) + 1)) = 33 ∨ gat b n (sk b n (sk b n (p + 1) + 1)) = 40
      · rw [if_pos c3] at e
        obtain ⟨p1, o1, e1, e2⟩ := gThen_r e
        have h2 := (gCond_adv (b := b) (n := n) (k := 6) _ (by omega) hk2.2.1 hk2.2.2).2 p1 o1 e1
        have h3 := gTail_adv (by omega) e2
        exact ⟨⟨by omega, h3.1.2⟩, by omega⟩
      · rw [if_neg c3] at e
        obtain ⟨p1, o1, e1, e2⟩ := gThen_r e
        have h2 := (gSum_adv (b := b) (n := n) (k := 6) _ (by omega) hk2.2.1 hk2.2.2).2 p1 o1 e1
        split at e2
        · obtain ⟨p3, o3, e3, e4⟩ := gThen_r e2
          have h3 := gCondG_adv (by omega) h2.1.2.1 h2.2.2 e3
          have h4 := gTail_adv (by omega) e4
          exact ⟨⟨by omega, h4.1.2⟩, by omega⟩
        · cases e2
          refine ⟨⟨by omega, h2.1.2⟩, ?_⟩
          simp only [List.length_append, List.length_singleton]
          omega
    · rw [if_neg c2] at e
      cases e
  · rw [if_neg c1] at e
    cases e
theorem X4_clause {d : Nat} (hd : 27 ≤ d) {σ : kS} (hB : RB σ) {s : kS} {p : Int} {D : List Int} {Q : Int → kS → Prop} (hs : RS σ s p D) (p0 : 0 ≤ p) (hl : (D.length : Int) ≤ p) (h1 : ∀ s' p' os, gClause (σ 9) (σ 8 1) D.length p = .inr (p', os) → RS σ s' p' (D ++ os) → Q 1 s') (h0 : ∀ s' q D', gClause (σ 9) (σ 8 1) D.length p = .inl q → RS σ s' q D' → Q 0 s') : Ci d MX4_clause [(2, 10)] kN s Q := by
  obtain ⟨d, rfl⟩ : ∃ e, d = e + 1 := ⟨d - 1, by omega⟩
  have hn := hB.n
  unfold gClause at h1 h0
  refine EX4_clause fun _ => SX4_clause_0 ⟨o_10, X4_takes (by omega) hB (by decide) hs (fun c s1 hs1 => ⟨fun e => by omega, fun _ => ?_⟩) (fun c => ⟨fun _ => ?_, fun e => absurd rfl e⟩)⟩
  · rw [if_pos c] at h1 h0
    have hin := gat_in c (by decide)
    have hk := sk_next (b := σ 9) (n := σ 8 1) p0 hin.2
    refine X4_takes (by omega) hB (by decide) hs1 (fun c2 s2 hs2 => ⟨fun _ => ?_, fun e => by omega⟩) (fun c2 => ⟨fun e => absurd rfl e, fun _ => ?_⟩)
    · rw [if_pos c2] at h1 h0
      have hin2 := gat_in c2 (by decide)
      have hk2 := sk_next (b := σ 9) (n := σ 8 1) (p := sk (σ 9) (σ 8 1) (p + 1)) (by omega) hin2.2
      obtain ⟨e1, e8, e9, hr, hat⟩ := hs2.at1 hB
      have e2 : s2 10 2 = sk (σ 9) (σ 8 1) (sk (σ 9) (σ 8 1) (p + 1) + 1) := hs2.2.2.2.2.1
      have hcd := (X4_uc hB 6 0 (by omega) (by omega) d (by omega)).2.2
      have hca := gCond_adv (b := σ 9) (n := σ 8 1) (k := 6) _ (by omega) hk2.2.1 hk2.2.2
      have hsa := gSum_adv (b := σ 9) (n := σ 8 1) (k := 6) _ (by omega) hk2.2.1 hk2.2.2
      rw [e1, e2]
      refine ⟨o_8, Row_at (by omega) hs2.2.2.2.1 hr ?_⟩
      rw [hat]
      refine ⟨fun c3 => ?_, fun c3 => ?_⟩
      · rw [if_pos (Or.inl c3)] at h1 h0
        refine hcd s2 _ D _ hs2 (by omega) hk2.2.1 hk2.2.2 (by omega) (fun s3 p3 o3 e hs3 => ⟨fun e => by omega, fun _ => ?_⟩) (fun s3 q D' e hs3 => ⟨fun _ => ?_, fun e => absurd rfl e⟩)
        · have h2 := hca.2 p3 o3 e
          rw [e] at h1 h0
          exact tail_part (by omega) hB hs3 (by omega) h2.1.2.1 (by rw [List.length_append]; omega) h1 h0
        · refine h0 s3 q D' ?_ hs3
          rw [e]
          rfl
      · rw [e1, e2]
        refine ⟨o_8, Row_at (by omega) hs2.2.2.2.1 hr ?_⟩
        rw [hat]
        refine ⟨fun c4 => ?_, fun c4 => ?_⟩
        · rw [if_pos (Or.inr c4)] at h1 h0
          refine hcd s2 _ D _ hs2 (by omega) hk2.2.1 hk2.2.2 (by omega) (fun s3 p3 o3 e hs3 => ⟨fun e => by omega, fun _ => ?_⟩) (fun s3 q D' e hs3 => ⟨fun _ => ?_, fun e => absurd rfl e⟩)
          · have h2 := hca.2 p3 o3 e
            rw [e] at h1 h0
            exact tail_part (by omega) hB hs3 (by omega) h2.1.2.1 (by rw [List.length_append]; omega) h1 h0
          · refine h0 s3 q D' ?_ hs3
            rw [e]
            rfl
        · rw [if_neg (by omega)] at h1 h0
          refine X4_sum hB 6 0 (by omega) (by omega) d (by omega) s2 _ D _ hs2 (by omega) hk2.2.1 hk2.2.2 (by omega) (fun s3 p3 o3 e hs3 => ⟨fun _ => ?_, fun e => by omega⟩) (fun s3 q D' e hs3 => ⟨fun e => absurd rfl e, fun _ => ?_⟩)
          · have h2 := hsa.2 p3 o3 e
            rw [e] at h1 h0
            obtain ⟨f1, f8, f9, hr3, hat3⟩ := hs3.at1 hB
            have f2 : s3 10 2 = p3 := hs3.2.2.2.2.1
            have hlen : ((D ++ o3).length : Int) = D.length + o3.length := by rw [List.length_append]; omega
            rw [f1, f2]
            refine ⟨o_8, Row_at (by omega) hs3.2.2.2.1 hr3 ?_⟩
            rw [hat3]
            refine X4_isComparison (by omega) (fun c5 => ⟨fun _ => ?_, fun e => by omega⟩) (fun c5 => ⟨fun e => absurd rfl e, fun _ => ?_⟩)
            · have k1 : ∀ s' p' os, gThen (gCondG (σ 9) (σ 8 1) 6 p3 o3) (gTail (σ 9) (σ 8 1) D.length) = .inr (p', os) → RS σ s' p' (D ++ os) → Q 1 s' := fun s' p' os e hh => h1 s' p' os (by show (if _ then _ else _) = _; rw [if_pos c5]; exact e) hh
              have k0 : ∀ s' q D', gThen (gCondG (σ 9) (σ 8 1) 6 p3 o3) (gTail (σ 9) (σ 8 1) D.length) = .inl q → RS σ s' q D' → Q 0 s' := fun s' q D' e hh => h0 s' q D' (by show (if _ then _ else _) = _; rw [if_pos c5]; exact e) hh
              refine X4_cond1 hB (by omega) s3 p3 D o3 _ hs3 (by omega) h2.1.2.1 (by omega) h2.2.2 (fun s4 p4 o4 e hs4 => ⟨fun e => by omega, fun _ => ?_⟩) (fun s4 q D' e hs4 => ⟨fun _ => ?_, fun e => absurd rfl e⟩)
              · have h5 := gCondG_adv (by omega) h2.1.2.1 h2.2.2 e
                rw [e] at k1 k0
                exact tail_part (by omega) hB hs4 (by omega) h5.1.2.1 (by rw [List.length_append]; omega) k1 k0
              · refine k0 s4 q D' ?_ hs4
                rw [e]
                rfl
            · rw [ly_10_0 hs3.2.2.2.1]
              refine ⟨o_11, Draft_add (by omega) hs3 (by omega) (fun s4 hs4 => h1 s4 p3 _ ?_ hs4.assoc)⟩
              show (if _ then _ else _) = _
              rw [if_neg c5]
          · refine h0 s3 q D' ?_ hs3
            rw [e]
            rfl
    · rw [if_neg c2] at h0
      exact h0 s1 _ D rfl hs1
  · rw [if_neg c] at h0
    exact h0 s p D rfl hs
theorem reads_loop {d : Nat} (hd : 27 ≤ d) {σ : kS} (hB : RB σ) {Q : Int → kS → Prop} : ∀ (f : Nat) (i : Int), 0 ≤ i → i + f = 120 → ∀ (s : kS) (p : Int) (D : List Int), RS σ s p D → 0 ≤ p → (D.length : Int) ≤ p → (∀ s' p' os, gGoer (σ 9) (σ 8 1) f p D = .inr (p', os) → RS σ s' p' os → Q 1 s') → (∀ s' q D', gGoer (σ 9) (σ 8 1) f p D = .inl q → RS σ s' q D' → Q 0 s') → LX4_reads_24 d kN Q 10 i s := by
  intro f
  have hn := hB.n
  induction f with
  | zero =>
    intro i i0 hi s p D hs p0 hl h1 h0
    exact SX4_reads_24 ⟨fun _ => h0 s p D rfl hs, fun e => by omega⟩
  | succ f ih =>
    intro i i0 hi s p D hs p0 hl h1 h0
    unfold gGoer at h1 h0
    refine SX4_reads_24 ⟨fun e => by omega, fun _ => ⟨o_10, X4_clause hd hB hs p0 hl (fun s1 p' o e hs1 => ⟨fun _ => ?_, fun e => by omega⟩) (fun s1 q D' e hs1 => ⟨fun e => absurd rfl e, fun _ => ?_⟩)⟩⟩
    · have h2 := gClause_adv p0 e
      rw [e] at h1 h0
      obtain ⟨f1, f8, f9, hr3, hat3⟩ := hs1.at1 hB
      have f2 : s1 10 2 = p' := hs1.2.2.2.2.1
      have hlen : ((D ++ o).length : Int) = D.length + o.length := by rw [List.length_append]; omega
      rw [f1, f2, f8]
      refine ⟨o_8, fun c => ?_, fun c => h1 s1 p' _ ?_ hs1⟩
      · have k1 : ∀ s' q os, (if gat (σ 9) (σ 8 1) p' = 59 then gGoer (σ 9) (σ 8 1) f (sk (σ 9) (σ 8 1) (p' + 1)) (D ++ o) else .inl p') = .inr (q, os) → RS σ s' q os → Q 1 s' := fun s' q os e hh => h1 s' q os (by show (if _ then _ else _) = _; rw [if_neg (by omega)]; exact e) hh
        have k0 : ∀ s' q D', (if gat (σ 9) (σ 8 1) p' = 59 then gGoer (σ 9) (σ 8 1) f (sk (σ 9) (σ 8 1) (p' + 1)) (D ++ o) else .inl p') = .inl q → RS σ s' q D' → Q 0 s' := fun s' q D' e hh => h0 s' q D' (by show (if _ then _ else _) = _; rw [if_neg (by omega)]; exact e) hh
        refine X4_takes (by omega) hB (by decide) hs1 (fun c2 s2 hs2 => ⟨fun _ => ⟨by omega, ?_⟩, fun e => by omega⟩) (fun c2 => ⟨fun e => absurd rfl e, fun _ => ?_⟩)
        · rw [if_pos c2] at k1 k0
          have hk := sk_next (b := σ 9) (n := σ 8 1) (p := p') (by omega) c
          exact ih (i + 1) (by omega) (by omega) s2 _ (D ++ o) hs2 (by omega) (by omega) k1 k0
        · rw [if_neg c2] at k0
          exact k0 s1 p' _ rfl hs1
      · show (if _ then _ else _) = _
        rw [if_pos (by omega)]
    · refine h0 s1 q D' ?_ hs1
      rw [e]
      rfl
/-- what is read of the tape -/
theorem X4_reads {d : Nat} (hd : 28 ≤ d) {σ : kS} (hL : Lay σ) (hr : RowOK σ 8) (hb : ∀ i, 0 ≤ i → i < σ 8 1 → 1 ≤ σ 9 i ∧ σ 9 i ≤ 255) {Q : Int → kS → Prop} (h1 : ∀ s p os, gText (σ 9) (σ 8 1) = .inr (p, os) → off [10, 11, 12] σ s → Lay s → (∀ j, j ≠ 2 → s 11 j = σ 11 j) → (0 ≤ s 11 2 ∧ s 11 2 ≤ 120) → seg (s 12) 0 (s 11 2) = os → Q 1 s) (h0 : ∀ s, gText (σ 9) (σ 8 1) = .inl (s 10 2) → off [10, 11, 12] σ s → Lay s → (∀ j, j ≠ 2 → s 11 j = σ 11 j) → Q 0 s) : Ci d MX4_reads [(2, 10), (2, 8)] kN σ Q := by
  obtain ⟨d, rfl⟩ : ∃ e, d = e + 1 := ⟨d - 1, by omega⟩
  refine EX4_reads fun _ => SX4_reads_0 ⟨o_10, fun s1 e1 s2 e2 => ?_⟩
  have hL1 : Lay s1 := by rw [e1]; exact hL.kstR (by decide +kernel)
  have g8 : s1 8 = σ 8 := by rw [e1, kst_k (by decide)]
  have g9 : s1 9 = σ 9 := by rw [e1, kst_k (by decide)]
  have hB : RB s1 := ⟨by rw [e1, kst_eq], ⟨o_8, by rw [g8]; exact hr.2⟩, by rw [g8, g9]; exact hb⟩
  have hL2 : Lay s2 := by rw [e2]; exact hL1.kstO 2 o_10 (by decide)
  rw [ly_10_0 hL2]
  refine ⟨o_11, fun s3 e3 => ?_⟩
  have hn := hB.n
  have hRS : RS s1 s3 0 [] := by
    refine ⟨by rw [e3, e2]; exact (off.rfl'.kst (by decide)).kst (by decide), fun j hj => by rw [e3, kst_k (by decide), e2, kst_kj hj], fun j hj => by rw [e3, kst_kj hj, e2, kst_k (by decide)], by rw [e3]; exact hL2.kstO 2 o_11 (by decide), by rw [e3, kst_k (by decide), e2, kst_eq], by rw [e3, kst_eq]; omega, by rw [e3, kst_eq]; exact seg_nil (Int.le_refl 0)⟩
  have fin : ∀ s p D, RS s1 s p D → off [10, 11, 12] σ s ∧ Lay s ∧ (∀ j, j ≠ 2 → s 11 j = σ 11 j) := fun s p D h => ⟨(off.rfl'.kst (a := 10) (j := 1) (v := 8) (by decide)).trans (by rw [← e1]; exact h.1), h.2.2.2.1, fun j hj => by rw [h.2.2.1 j hj, e1, kst_k (by decide)]⟩
  refine X4_skipBlanks (by omega) hB (Int.le_refl 0) hn.1 hRS (fun s4 hs4 => ?_)
  have hk := sk_facts (b := s1 9) (n := s1 8 1) 0 hn.1
  refine reads_loop (by omega) hB 120 0 (by omega) (by omega) s4 _ [] hs4 (by omega) (by simpa using hk.1) (fun s' p' os e hs' => ?_) (fun s' q D' e hs' => ?_)
  · have := fin s' p' os hs'
    rw [g8, g9] at e
    exact h1 s' p' os e this.1 this.2.1 this.2.2 hs'.2.2.2.2.2.1 hs'.2.2.2.2.2.2
  · have := fin s' q D' hs'
    rw [g8, g9] at e
    exact h0 s' (by rw [hs'.2.2.2.2.1]; exact e) this.1 this.2.1 this.2.2
