/-! lines: lineOfWay, goOn -/
theorem seg_inj {f g : Int → Int} {n m : Int} (hn : 0 ≤ n) (hm : 0 ≤ m) (h : seg f 0 n = seg g 0 m) : n = m ∧ ∀ i, 0 ≤ i → i < n → f i = g i := by
  have hl := congrArg List.length h
  rw [seg_len, seg_len] at hl
  have e : n = m := by omega
  refine ⟨e, fun i i0 i1 => ?_⟩
  rw [← seg_getD (f := f) (n := n) ⟨i0, i1⟩, h, seg_getD (by omega)]
theorem IsWL.adj {T F : Int → Int} {c g m : Int} (hm : 0 ≤ m) (h : IsWL T c g (seg F 0 m)) : ∀ i, 1 ≤ i → i < m → ∃ d, (0 ≤ d ∧ d < 8) ∧ stp (F (i - 1)) d = F i := by
  obtain ⟨S, f, n, a1, a2, a3, a4, a5⟩ := h
  have hi := seg_inj hm (by have := a2.1; omega) a5
  intro i i0 i1
  obtain ⟨k, hk, _, _, he⟩ := (a2.2.2 (i - 1) (by omega) (by omega)).2
  refine ⟨k, hk, ?_⟩
  rw [hi.2 (i - 1) (by omega) (by omega), hi.2 i (by omega) i1, ← he, show i - 1 + 1 = i by omega]
theorem landM_cg {σ s : kS} (h : s 167 = σ 167) : landM s = landM σ := by
  funext c w
  unfold landM
  rw [h]
theorem O_lineOfWay {g load wet a b : Int} (hw : wet = 0 ∨ wet = 1) : Op MX11_lineOfWay MX12_lineOfWay [(0, g), (0, load), (0, wet), (0, a), (0, b)] := by
  intro d σ hd hI
  obtain ⟨d, rfl⟩ : ∃ e, d = e + 1 := ⟨d - 1, by omega⟩
  have hC := hI.2.2.2.2.2.2.2.2.1
  have hn0 := hC.1
  have h34 := hC.2.1
  have hG14 := hI.2.2.2.2.2.2.1.2.1
  have hg6 := hI.2.2.2.2.2.2.1.1
  have k182 := kl_182
  have k180 := kl_180
  have k37 : klen (36 + 1) = 120 := kl_37
  have hno : ¬ (isWy σ g load a b ∧ σ 0 11 < 10) → Ci (d + 1) MX12_lineOfWay [(2, 166), (0, g), (0, load), (0, wet), (0, a), (0, b)] kN σ (fun b s' => -1 = b ∧ Inv s') := fun hc => by
    refine EX12_lineOfWay fun _ _ _ _ _ _ => SX12_lineOfWay_0 ⟨o_166, fun s1 e1 => ?_⟩
    have hk1 : Keep σ s1 := by rw [e1]; exact hI.thrown
    have hI1 := hI.keep hk1
    have e34 : s1 166 34 = σ 0 11 := by rw [e1, kst_kj (by decide)]; exact h34
    exact ⟨fun _ => ⟨rfl, hI1⟩, fun c1 => MI_isWay (by omega) hI1 (fun c2 => absurd ⟨by rw [isWy_fr hk1.1] at c2; exact c2, by omega⟩ hc) (fun _ => ⟨fun e => absurd rfl e, fun _ => ⟨rfl, hI1⟩⟩)⟩
  refine EX11_lineOfWay fun _ _ _ _ _ _ => SX11_lineOfWay_0 ⟨o_0, fun q => hno (fun z => by omega), fun q => ?_⟩
  rw [ly_0_0 hI.1]
  refine XI_goes (by omega) hI hw (fun cw s hs => ⟨fun _ => ?_, fun e => by omega⟩) (fun cw => ⟨fun e => absurd rfl e, fun _ => hno (fun z => cw z.1)⟩)
  have hks := hs.1
  have hIs := hI.keep hks
  have hLs := hks.2.1
  have e0 : s 0 = σ 0 := hks.1.e0
  have hr := hs.2.1.1
  have hsz := hr.1.2
  have hs1 := hs.2.1.2
  have hb10 : 0 ≤ s 0 11 ∧ s 0 11 < 10 := by rw [e0]; omega
  rw [ly_0_14 hLs, ly_26_13 hLs]
  refine ⟨o_26, X_keepLine (by omega) hLs hb10 hr.1 (by omega) ?_⟩
  generalize hp : kst (rowTake s (146 + 2 * s 0 11) 36) 0 11 (s 0 11 + 1) = p
  have hla := line_at hLs (i := s 0 11) hb10
  have hLp : Lay p := by
    rw [← hp]
    refine Lay.kstO 11 (Lay_rowOff hLs hla.2.1 rowTake_off (fun j hj => ?_)) o_0 (by decide)
    unfold rowTake
    rw [kst_kj hj, kcpy_k (by omega)]
  have pk : ∀ k, k ≠ 0 → k ≠ 146 + 2 * s 0 11 → k ≠ 147 + 2 * s 0 11 → p k = s k := fun k h1 h2 h3 => by
    rw [← hp, kst_k h1, rowTake_off k (by simp only [List.mem_cons, List.not_mem_nil, or_false]; omega)]
  have p166 : p 166 = s 166 := pk 166 (by decide) (by omega) (by omega)
  have s34 : s 166 34 = σ 0 11 := by rw [hks.1.2 34 (by unfold esf; omega)]; exact h34
  refine EX12_lineOfWay fun _ _ _ _ _ _ => SX12_lineOfWay_0 ⟨o_166, fun t1 e1 => ?_⟩
  have L1 : Lay t1 := by rw [e1]; exact hLp.kstO 0 o_166 (by decide)
  have g34 : t1 166 34 = σ 0 11 := by rw [e1, kst_kj (by decide), p166, s34]
  have g14 : t1 166 14 = σ 0 6 := by rw [e1, kst_kj (by decide), p166, hks.1.2 14 (by unfold esf; omega)]; exact hG14
  have tk : ∀ k, k ≠ 0 → k ≠ 166 → k ≠ 146 + 2 * s 0 11 → k ≠ 147 + 2 * s 0 11 → t1 k = s k := fun k h1 h2 h3 h4 => by
    rw [e1, kst_k h2, pk k h1 h3 h4]
  have f170 : t1 170 = s 170 := tk 170 (by omega) (by omega) (by omega) (by omega)
  have f171 : t1 171 = s 171 := tk 171 (by omega) (by omega) (by omega) (by omega)
  have f167 : t1 167 = s 167 := tk 167 (by omega) (by omega) (by omega) (by omega)
  refine ⟨fun z => by omega, fun _ => M_isWay (by omega) (fun _ => ⟨fun _ => ?_, fun e => by omega⟩) (fun z => absurd (by rw [g14]; exact cw) z)⟩
  have hgm := hIs.2.2.2.2.2.2.1.gm (g := g) (by rw [e0]; exact cw.1.1)
  refine M_layWayH (by omega) L1 ⟨cw.1.1.1, by have := cw.1.1.2; omega⟩ (hgm.cong f170 f171) hw (fun c w _ _ _ _ => by rw [landM_cg f167, landM_fr hks.1]) hI.2.2.1.eq.2 cw.2.1 cw.2.2 (fun t2 h2 => ?_)
  rw [tolH_cg f170 f171, tolH_fr hks.1] at h2
  have q34 : t2 166 34 = σ 0 11 := by rw [h2.2.1 34 (by decide) (by decide) (by decide) (by decide), g34]
  rw [ly_166_32 h2.2.2.1, q34]
  refine ⟨a_182, by omega, fun t3 e3 => ?_⟩
  have hst : ML t2 t3 (t2 180) 0 := by
    rw [e3, ← q34]
    exact ML.start h2.2.2.1
  have hn := h2.2.2.2.1
  have hsame : seg (t2 180) 0 (t2 166 30) = seg (s 37) 0 (s 36 1) := by
    have hrl : rowL s 36 = seg (s 37) 0 (s 36 1) := rowL_seg
    rw [h2.2.2.2.2.2.2.1, ← hrl, hs.2.2.2.1]
    rfl
  have hinj := seg_inj (by omega) (by omega) hsame
  have key : ∀ i : Int, ∀ t : kS, 0 ≤ i → i ≤ t2 166 30 → ML t2 t (t2 180) i → LX12_lineOfWay_53 d kN (fun b s' => s 0 11 = b ∧ Inv s') 166 i t := by
    refine up_to (e := t2 166 30) ?_
    intro i ih t i0 i1 hml
    have t166 : t 166 = t2 166 := hml.1 166 (by decide)
    have t180 : t 180 = t2 180 := hml.1 180 (by decide)
    refine SX12_lineOfWay_53 ?_
    rw [ly_166_29 hml.2.1, t166, t180]
    refine ⟨o_166, fun z => ?_, fun z => ⟨a_180, by omega, M_addCell (by omega) hml (by rw [q34]; omega) (by omega) rfl (fun t' h' => ⟨by omega, ih (by omega) t' (by omega) (by omega) h'⟩)⟩⟩
    have ei : i = t2 166 30 := by omega
    rw [ei] at hml
    refine M_added (by omega) (by rw [t166, q34]; omega) ?_
    rw [t166, q34, e0]
    refine ⟨rfl, ?_⟩
    have hres := Line_done (σ := s) (p := t2) (t := t) (f := t2 180) (r := 36) (m := t2 166 30) hIs (Or.inl rfl) hr.1 hinj.1.symm (by omega) (fun i i0 i1 => (hinj.2 i i0 i1).symm) (fun i i0 i1 => h2.2.2.2.2.1 i i0 i1) (h2.2.2.2.2.2.1.adj (by omega)) hb10.2 (by
      rw [hp]
      intro k hk
      simp only [List.mem_cons, List.not_mem_nil, or_false] at hk
      rw [h2.1 k (by simp only [List.mem_cons, List.not_mem_nil, or_false]; omega), e1, kst_k (by omega)]) (fun j hj => by
      unfold esf at hj
      rw [h2.2.1 j (by omega) (by omega) (by omega) (by omega), e1, kst_kj (by omega), p166]) hml
    rw [e0] at hres
    exact hres
  exact key 0 t3 (by omega) (by omega) hst
theorem O_goOn {k : Int} : Op MX11_goOn MX12_goOn [(0, k)] := by
  intro d σ hd hI
  obtain ⟨d, rfl⟩ : ∃ e, d = e + 1 := ⟨d - 1, by omega⟩
  have hC := hI.2.2.2.2.2.2.2.2.1
  have hn0 := hC.1
  have h34 := hC.2.1
  have k21 := kl_21
  have k182 := kl_182
  have k183 := kl_183
  have hno : ¬ (0 < σ 0 11 ∧ σ (146 + 2 * (σ 0 11 - 1)) 1 < 60 ∧ stp (σ (147 + 2 * (σ 0 11 - 1)) (σ (146 + 2 * (σ 0 11 - 1)) 1 - 1)) k ≠ -1) → Ci (d + 1) MX12_goOn [(2, 166), (0, k)] kN σ (fun b s' => -1 = b ∧ Inv s') := fun hc => by
    refine EX12_goOn fun _ _ => SX12_goOn_0 ⟨o_166, fun s1 e1 => ?_⟩
    have hk1 : Keep σ s1 := by rw [e1]; exact hI.thrown
    have hI1 := hI.keep hk1
    have e34 : s1 166 34 = σ 0 11 := by rw [e1, kst_kj (by decide)]; exact h34
    have e182 : s1 182 = σ 182 := by rw [e1, kst_k (by decide)]
    have e183 : s1 183 = σ 183 := by rw [e1, kst_k (by decide)]
    refine ⟨fun _ => ⟨rfl, hI1⟩, fun c1 => M_isIn (by omega) (fun c2 => ⟨fun e => by omega, fun _ => ?_⟩) (fun _ => ⟨fun _ => ⟨rfl, hI1⟩, fun e => absurd rfl e⟩)⟩
    obtain ⟨b1, b2, b3, b4, b5⟩ := hC.2.2 (σ 0 11 - 1) (by omega) (by omega)
    have hla := line_at hI.1 (i := σ 0 11 - 1) (by omega)
    have hsz := b1.1.2
    have b4' := b4 (σ (146 + 2 * (σ 0 11 - 1)) 1 - 1) (by omega) (by omega)
    have hcell := b1.2 (σ (146 + 2 * (σ 0 11 - 1)) 1 - 1) (by omega) (by omega)
    rw [show 146 + 2 * (σ 0 11 - 1) + 1 = 147 + 2 * (σ 0 11 - 1) by omega] at hcell
    rw [ly_166_32 hI1.1, ly_166_33 hI1.1, e34, e182, e183, b3]
    refine ⟨by omega, a_182, by omega, fun c3 => ⟨by omega, by omega, by omega, a_183, by omega, ?_⟩, fun _ => ⟨rfl, hI1⟩⟩
    rw [show 140 * (σ 0 11 - 1) + σ (146 + 2 * (σ 0 11 - 1)) 1 - 1 = 140 * (σ 0 11 - 1) + (σ (146 + 2 * (σ 0 11 - 1)) 1 - 1) by omega, ← b4']
    exact M_step (by omega) hcell (by omega) ⟨fun c4 => absurd ⟨by omega, c3, c4⟩ hc, fun _ => ⟨rfl, hI1⟩⟩
  refine EX11_goOn fun _ _ => SX11_goOn_0 ⟨o_0, by omega, X_isLine (by omega) (fun c1 => ⟨fun _ => ?_, fun e => by omega⟩) (fun c1 => ⟨fun e => absurd rfl e, fun _ => hno (fun z => c1 (by omega))⟩)⟩
  obtain ⟨b1, b2, b3, b4, b5⟩ := hC.2.2 (σ 0 11 - 1) (by omega) (by omega)
  have hla := line_at hI.1 (i := σ 0 11 - 1) (by omega)
  have hsz := b1.1.2
  have hlast : rowAt σ (146 + 2 * (σ 0 11 - 1)) (σ (146 + 2 * (σ 0 11 - 1)) 1 - 1) = σ (147 + 2 * (σ 0 11 - 1)) (σ (146 + 2 * (σ 0 11 - 1)) 1 - 1) := by
    rw [rowAt_in (by omega), show 146 + 2 * (σ 0 11 - 1) + 1 = 147 + 2 * (σ 0 11 - 1) by omega]
  rw [ly_0_10 hI.1, hla.1]
  refine ⟨by omega, a_21, by omega, hla.2.1, Row_last (by omega) hI.1 b1.1 (X_stepFrom (by omega) ?_)⟩
  rw [hlast]
  refine ⟨fun c2 => hno (fun z => z.2.2 c2), fun c2 => ⟨fun c3 => hno (fun z => by omega), fun c3 => Row_add (by omega) hI.1 b1.1 (fun c4 => ⟨fun _ => ?_, fun e => by omega⟩) (fun c4 => by have := hla.2.2; omega)⟩⟩
  rw [rowPush_0]
  have hcell := b1.2 (σ (146 + 2 * (σ 0 11 - 1)) 1 - 1) (by omega) (by omega)
  rw [show 146 + 2 * (σ 0 11 - 1) + 1 = 147 + 2 * (σ 0 11 - 1) by omega] at hcell
  have b4' := b4 (σ (146 + 2 * (σ 0 11 - 1)) 1 - 1) (by omega) (by omega)
  have hst := stp_cell c2
  generalize hv : stp (σ (147 + 2 * (σ 0 11 - 1)) (σ (146 + 2 * (σ 0 11 - 1)) 1 - 1)) k = v at *
  generalize hm : σ (146 + 2 * (σ 0 11 - 1)) 1 = m at *
  generalize hl : σ 0 11 - 1 = l at *
  have hlr : 0 ≤ l ∧ l < 10 := by omega
  generalize hp : rowPush σ (146 + 2 * l) v = p
  have po : off [146 + 2 * l, 147 + 2 * l] σ p := by
    rw [← hp]
    exact rowPush_off off.rfl' (by simp) (by simp only [List.mem_cons, List.not_mem_nil, or_false]; omega)
  have pk : ∀ q, q ≠ 146 + 2 * l → q ≠ 147 + 2 * l → p q = σ q := fun q h1 h2 => po q (by simp only [List.mem_cons, List.not_mem_nil, or_false]; omega)
  have Lp : Lay p := by
    rw [← hp]
    unfold rowPush
    exact (hI.1.kstA (row_arr hla.2.1)).kstO 1 hla.2.1 (by decide)
  have p1 : p (146 + 2 * l) 1 = m + 1 := by rw [← hp, rowPush_0, hm]
  have p2 : ∀ q, p (147 + 2 * l) q = if q = m then v else σ (147 + 2 * l) q := fun q => by
    rw [← hp, show 147 + 2 * l = 146 + 2 * l + 1 by omega, rowPush_at, hm]
  refine EX12_goOn fun _ _ => SX12_goOn_0 ⟨o_166, fun s1 e1 => ?_⟩
  have L1 : Lay s1 := by rw [e1]; exact Lp.kstO 0 o_166 (by decide)
  have e34 : s1 166 34 = l + 1 := by rw [e1, kst_kj (by decide), pk 166 (by omega) (by omega), h34]; omega
  have e182 : s1 182 = σ 182 := by rw [e1, kst_k (by decide), pk 182 (by omega) (by omega)]
  have e183 : s1 183 = σ 183 := by rw [e1, kst_k (by decide), pk 183 (by omega) (by omega)]
  refine ⟨fun z => by omega, fun _ => M_isIn (by omega) (fun _ => ⟨fun e => by omega, fun _ => ?_⟩) (fun z => absurd (by omega) z)⟩
  rw [ly_166_32 L1, ly_166_33 L1, e34, e182, e183, show l + 1 - 1 = l by omega, b3]
  refine ⟨by omega, a_182, by omega, fun _ => ⟨by omega, by omega, by omega, a_183, by omega, ?_⟩, fun z => absurd (by omega) z⟩
  rw [show 140 * l + m - 1 = 140 * l + (m - 1) by omega, ← b4']
  refine M_step (by omega) hcell (by omega) ⟨fun _ => ?_, fun z => absurd c2 (by rw [← hv]; exact z)⟩
  rw [hv, ly_166_33 L1]
  refine ⟨a_183, by omega, fun s2 e2 => ?_⟩
  have L2 : Lay s2 := by rw [e2]; exact L1.kstA a_183
  have f34 : s2 166 34 = l + 1 := by rw [e2, kst_k (by decide), e34]
  have f182 : s2 182 = σ 182 := by rw [e2, kst_k (by decide), e182]
  rw [ly_166_32 L2, f34, f182, show l + 1 - 1 = l by omega, b3]
  refine ⟨by omega, a_182, by omega, by omega, fun s hs => ?_⟩
  have eLs : Lay s := by rw [hs]; exact L2.kstA a_182
  have g34 : s 166 34 = l + 1 := by rw [hs, kst_k (by decide), f34]
  have g182 : s 182 l = m + 1 := by rw [hs, kst_eq]
  rw [ly_166_32 eLs, g34, show l + 1 - 1 = l by omega, g182]
  refine ⟨by omega, a_182, by omega, rfl, ?_⟩
  have hk : ∀ q, q ≠ 166 → q ≠ 182 → q ≠ 183 → s q = p q := fun q h1 h2 h3 => by rw [hs, kst_k h2, e2, kst_k h3, e1, kst_k h1]
  have oo : off [146, 147, 148, 149, 150, 151, 152, 153, 154, 155, 156, 157, 158, 159, 160, 161, 162, 163, 164, 165, 166, 182, 183] σ s := fun q hq => by
    simp only [List.mem_cons, List.not_mem_nil, or_false] at hq
    rw [hk q (by omega) (by omega) (by omega), pk q (by omega) (by omega)]
  have ho : FrB [146, 147, 148, 149, 150, 151, 152, 153, 154, 155, 156, 157, 158, 159, 160, 161, 162, 163, 164, 165, 182, 183] [] σ s := by
    have hb : FrB [146, 147, 148, 149, 150, 151, 152, 153, 154, 155, 156, 157, 158, 159, 160, 161, 162, 163, 164, 165, 182, 183] [] σ p := FrB.rf.off po (fun q hq => by simp only [List.mem_cons, List.not_mem_nil, or_false] at hq ⊢; omega)
    rw [hs, e2, e1]
    exact ((hb.kstM (Or.inr (by unfold esf; omega))).ks (by decide) (by decide) (Or.inl (by decide))).ks (by decide) (by decide) (Or.inl (by decide))
  refine ⟨eLs, hI.2.1.offU (fun q _ hq => oo q hq) (by rw [oo 0 (by decide)]) (by decide), Ess.upd ho hI.2.2 (c7 := fun _ => ?_)⟩
  unfold cLine
  rw [oo 0 (by decide), ho.2.2 34 (by unfold esf; omega) (by decide)]
  refine ⟨hn0, h34, fun f f0 f1 => ?_⟩
  have u182 : ∀ q, q ≠ l → s 182 q = σ 182 q := fun q hq => by rw [hs, kst_kj hq, f182]
  have u183 : ∀ q, s 183 q = if q = 140 * l + m then v else σ 183 q := fun q => by
    rw [hs, kst_k (by decide), e2, kst_ap, e183]
    by_cases cq : q = 140 * l + m
    · rw [if_pos cq, if_pos ⟨rfl, cq⟩]
    · rw [if_neg cq, if_neg (fun z => cq z.2)]
  by_cases ef : f = l
  · have r1 : s (146 + 2 * f) 1 = m + 1 := by rw [ef, hk _ (by omega) (by omega) (by omega), p1]
    have r2 : ∀ q, s (147 + 2 * f) q = if q = m then v else σ (147 + 2 * l) q := fun q => by rw [ef, hk _ (by omega) (by omega) (by omega), p2]
    rw [r1]
    refine ⟨⟨⟨by rw [ef]; exact hla.2.1, by rw [r1]; omega, by rw [r1, ef, hla.2.2]; omega⟩, fun i i0 i1 => ?_⟩, by omega, by rw [ef]; exact g182, fun i i0 i1 => ?_, fun i i0 i1 => ?_⟩
    · rw [r1] at i1
      rw [show 146 + 2 * f + 1 = 147 + 2 * f by omega, r2]
      by_cases ci : i = m
      · rw [if_pos ci]; exact hst.2.2.1
      · rw [if_neg ci]
        have := b1.2 i i0 (by omega)
        rw [show 146 + 2 * l + 1 = 147 + 2 * l by omega] at this
        exact this
    · rw [r2, u183, ef]
      by_cases ci : i = m
      · rw [if_pos ci, if_pos (by omega)]
      · rw [if_neg ci, if_neg (by omega)]
        exact b4 i i0 (by omega)
    · rw [r2, r2, if_neg (show ¬ i - 1 = m by omega)]
      by_cases ci : i = m
      · rw [if_pos ci, ci]
        exact ⟨k, hst.2.1, hv⟩
      · rw [if_neg ci]
        exact b5 i i0 (by omega)
  · have q1 : s (146 + 2 * f) = σ (146 + 2 * f) := by rw [hk _ (by omega) (by omega) (by omega), pk _ (by omega) (by omega)]
    have q2 : s (147 + 2 * f) = σ (147 + 2 * f) := by rw [hk _ (by omega) (by omega) (by omega), pk _ (by omega) (by omega)]
    obtain ⟨a1, a2, a3, a4, a5⟩ := hC.2.2 f f0 f1
    have hlf := line_at hI.1 (i := f) (by omega)
    have hsf := a1.1.2
    rw [q1, q2, u182 f ef]
    refine ⟨a1.cong q1 (by rw [show 146 + 2 * f + 1 = 147 + 2 * f by omega]; exact q2), a2, a3, fun i i0 i1 => ?_, a5⟩
    rw [u183, if_neg (by omega)]
    exact a4 i i0 i1
