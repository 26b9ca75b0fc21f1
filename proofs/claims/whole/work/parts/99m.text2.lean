/-! operation: text, of a goer -/
def Lg : List Int := [8, 97, 98, 99, 100, 101, 102, 103, 104, 105, 106, 107, 108, 109, 110, 111, 112, 113, 114, 115, 116, 117, 118, 119, 120, 170, 171, 189]
/-- the copying of a text in the model -/
theorem M_text78 {d : Nat} {s : kS} {g n : Int} {Q : Int → kS → Prop} (hL : Lay s) (h14 : s 166 14 = g) (hg : 0 ≤ g ∧ g < 6) (h13 : s 166 13 = n) (hn : 0 ≤ n ∧ n ≤ 120) (hb : ∀ i, 0 ≤ i → i < n → -128 ≤ s 169 i ∧ s 169 i ≤ 127) (h : ∀ u, off [166, 170, 171, 189] s u → (∀ j, j ≠ 13 → j ≠ 14 → u 166 j = s 166 j) → Lay u → u 166 13 = 0 → u 166 14 = g + 1 → (∀ i, 0 ≤ i → i < n → u 170 (120 * g + i) = s 169 i) → (∀ j, ¬ (120 * g ≤ j ∧ j < 120 * g + n) → u 170 j = s 170 j) → u 171 g = n → (∀ j, j ≠ g → u 171 j = s 171 j) → u 189 g = 1 → (∀ j, j ≠ g → u 189 j = s 189 j) → Q g u) : LX12_text_78 d kN Q 166 0 s := by
  have k169 := kl_169
  have k170 := kl_170
  have k171 := kl_171
  have k189 := kl_189
  have key : ∀ k : Int, ∀ u : kS, 0 ≤ k → k ≤ n → off [170] s u → Lay u → (∀ i, 0 ≤ i → i < k → u 170 (120 * g + i) = s 169 i) → (∀ j, ¬ (120 * g ≤ j ∧ j < 120 * g + k) → u 170 j = s 170 j) → LX12_text_78 d kN Q 166 k u := by
    refine up_to (e := n) ?_
    intro k ih u k0 k1 ho hLu hc hc2
    have u166 : u 166 = s 166 := ho 166 (by decide)
    refine SX12_text_78 ⟨o_166, ?_⟩
    rw [u166, h13, h14, ← u166]
    refine ⟨fun q => ?_, fun q => ⟨by omega, by omega, ?_⟩⟩
    · rw [ly_166_6 hLu]
      refine ⟨a_171, by omega, fun s1 e1 => ?_⟩
      have L1 : Lay s1 := by rw [e1]; exact hLu.kstA a_171
      have f1 : s1 166 14 = g := by rw [e1, kst_k (by decide), u166, h14]
      rw [ly_166_42 L1, f1]
      refine ⟨a_189, by omega, fun s2 e2 s3 e3 => ?_⟩
      have f3 : s3 166 14 = g := by rw [e3, kst_kj (by decide), e2, kst_k (by decide), f1]
      rw [f3]
      refine ⟨by omega, fun s4 e4 => ?_⟩
      have f4 : s4 166 14 = g + 1 := by rw [e4, kst_eq]
      have hkn : k = n := by omega
      rw [f4]
      refine ⟨by omega, ?_⟩
      rw [show g + 1 - 1 = g by omega]
      have o4 : off [166, 170, 171, 189] s s4 := by
        rw [e4, e3, e2, e1]
        exact ((((ho.mono (by simp)).kst (by simp)).kst (by simp)).kst (by simp)).kst (by simp)
      have s170 : s4 170 = u 170 := by rw [e4, kst_k (by decide), e3, kst_k (by decide), e2, kst_k (by decide), e1, kst_k (by decide)]
      refine h s4 o4 (fun j j1 j2 => by rw [e4, kst_kj j2, e3, kst_kj j1, e2, kst_k (by decide), e1, kst_k (by decide), u166]) ?_ ?_ f4 (fun i i0 i1 => by rw [s170]; exact hc i i0 (by omega)) (fun j hj => by rw [s170]; exact hc2 j (by omega)) ?_ (fun j hj => ?_) ?_ (fun j hj => ?_)
      · rw [e4, e3, e2]
        exact ((L1.kstA a_189).kstO 13 o_166 (by decide)).kstO 14 o_166 (by decide)
      · rw [e4, kst_kj (by decide), e3, kst_eq]
      · rw [e4, kst_k (by decide), e3, kst_k (by decide), e2, kst_k (by decide), e1, kst_eq]
      · rw [e4, kst_k (by decide), e3, kst_k (by decide), e2, kst_k (by decide), e1, kst_kj hj, ho 171 (by decide)]
      · rw [e4, kst_k (by decide), e3, kst_k (by decide), e2, kst_eq]
      · rw [e4, kst_k (by decide), e3, kst_k (by decide), e2, kst_kj hj, e1, kst_k (by decide), ho 189 (by decide)]
    · rw [ly_166_4 hLu, ly_166_5 hLu, ho 169 (by decide)]
      refine ⟨a_169, by omega, a_170, by omega, hb k k0 (by omega), fun s1 e1 => ⟨by omega, ih (by omega) s1 (by omega) (by omega) (by rw [e1]; exact ho.kst (by decide)) (by rw [e1]; exact hLu.kstA (c := 21) a_170) (fun i i0 i1 => ?_) (fun j hj => ?_)⟩⟩
      · rw [e1, kst_ap]
        by_cases ei : i = k
        · rw [if_pos ⟨rfl, by omega⟩, ei]
        · rw [if_neg (fun z => ei (by omega))]
          exact hc i i0 (by omega)
      · rw [e1, kst_kj (by omega)]
        exact hc2 j (by omega)
  exact key 0 s (by omega) hn.1 off.rfl' hL (fun i i0 i1 => by omega) (fun j hj => rfl)
theorem O_text0 {a : Int} (ha : a = 0) : Op MX11_text MX12_text [(0, a)] := by
  intro d σ hd hI
  obtain ⟨d, rfl⟩ : ∃ e, d = e + 1 := ⟨d - 1, by omega⟩
  subst ha
  have k17 := kl_17
  have k9 : klen (8 + 1) = 120 := kl_9
  have k12 : klen 12 = 120 := kl_12
  have hT := hI.2.2.2.2.2.1
  have htp := hT.tp
  have hG := hI.2.2.2.2.2.2.1
  have hc := hG.1
  have hT0 := hT.1.2
  refine EX11_text fun _ _ => SX11_text_0 ⟨fun q => absurd rfl q, fun _ => ⟨o_0, fun q3 => ⟨fun _ => M_textNo (by omega) hI ⟨fun _ => Or.inl (by omega), by decide⟩ (fun u hu => ⟨rfl, hI.keep hu⟩), fun z => absurd (show ¬ (0 : Int) = 1 by decide) z⟩, fun q3 => ?_⟩⟩
  rw [ly_0_4 hI.1, ly_0_3 hI.1]
  refine ⟨o_10, X4_reads (by omega) hI.1 hT.1 htp.2.2.2 (fun s1 p os hg ho hLs hj11 h112 hos => ⟨fun e => by omega, fun _ => ?_⟩) (fun s hg ho hLs _ => ⟨fun _ => ⟨fun _ => ?_, fun z => absurd (show ¬ (0 : Int) = 1 by decide) z⟩, fun e => absurd rfl e⟩)⟩
  · -- taken
    generalize eg : σ 0 6 = g at *
    have hgo := goer_at hLs (i := g) (by omega)
    have hga := gor_at (g := g) (by omega)
    have hgl := gor_ly hLs (g := g) (by omega)
    have e0 : s1 0 = σ 0 := ho 0 (by decide)
    rw [ly_0_5 hLs, ly_0_4 hLs, e0, eg, hgo.1, ly_10_0 hLs]
    refine ⟨a_17, by omega, o_10, hgo.2, ?_⟩
    obtain ⟨d, rfl⟩ : ∃ e, d = e + 1 := ⟨d - 1, by omega⟩
    refine EX3_take fun _ => SX3_take_0 ⟨o_11, hgo.2, ?_⟩
    rw [ly_11_0 hLs, hgl]
    refine ⟨a_12, hga.1, ⟨Nat.le_refl _, by omega, by omega, by omega, by omega⟩, fun s2 e2 s3 e3 => ?_⟩
    have f3 : ∀ k, k ≠ 98 + 4 * g → k ≠ 97 + 4 * g → s3 k = s1 k := fun k k1 k2 => by rw [e3, kst_k k2, e2, kcpy_k k1]
    have L2 : Lay s2 := by
      rw [e2]
      exact lay_offI hLs ((off.rfl' (L := [98 + 4 * g])).cpy (by simp)) (fun k hk => Or.inl (by simp only [List.mem_cons, List.not_mem_nil, or_false] at hk; rw [hk]; exact hga.1))
    have L3 : Lay s3 := by rw [e3]; exact L2.kstO 2 hgo.2 (by decide)
    rw [f3 0 (by omega) (by omega), e0, eg]
    refine ⟨by omega, fun s4 e4 => ?_⟩
    have L4 : Lay s4 := by rw [e4]; exact L3.kstO 6 o_0 (by decide)
    have s48 : s4 8 = σ 8 := by rw [e4, kst_k (by decide), f3 8 (by omega) (by omega), ho 8 (by decide)]
    rw [ly_0_3 L4]
    refine ⟨o_8, Row_cut (by omega) o_8 (fun _ _ => ?_) (fun z => by rw [s48] at z; omega)⟩
    generalize ev : kst s4 8 1 0 = v
    have Lv : Lay v := by rw [← ev]; exact L4.kstO 1 o_8 (by decide)
    have v06 : v 0 6 = g + 1 := by rw [← ev, kst_k (by decide), e4, kst_eq]
    have v0 : ∀ j, j ≠ 6 → v 0 j = σ 0 j := fun j hj => by rw [← ev, kst_k (by decide), e4, kst_kj hj, f3 0 (by omega) (by omega), e0]
    have vo : ∀ k, k ≠ 0 → k ≠ 8 → k ≠ 10 → k ≠ 11 → k ≠ 12 → k ≠ 98 + 4 * g → k ≠ 97 + 4 * g → v k = σ k := fun k k1 k2 k3 k4 k5 k6 k7 => by
      rw [← ev, kst_k k2, e4, kst_k k1, f3 k k6 k7, ho k (by simp only [List.mem_cons, List.not_mem_nil, or_false]; omega)]
    have vg : ∀ j, j ≠ 2 → v (97 + 4 * g) j = σ (97 + 4 * g) j := fun j hj => by
      rw [← ev, kst_k (by omega), e4, kst_k (by omega), e3, kst_kj hj, e2, kcpy_k (by omega), ho _ (by simp only [List.mem_cons, List.not_mem_nil, or_false]; omega)]
    have vg2 : v (97 + 4 * g) 2 = s1 11 2 := by
      rw [← ev, kst_k (by omega), e4, kst_k (by omega), e3, kst_eq, e2, kcpy_k (by omega)]
    have vor : ∀ j, 0 ≤ j → j < 120 → v (98 + 4 * g) j = s1 12 j := fun j j0 j1 => by
      rw [← ev, kst_k (by omega), e4, kst_k (by omega), e3, kst_k (by omega), e2, kcpy_b, if_pos (by omega), show 0 + (j - 0) = j by omega]
    have v166 : v 166 = σ 166 := vo 166 (by omega) (by omega) (by omega) (by omega) (by omega) (by omega) (by omega)
    have v169 : v 169 = σ 169 := vo 169 (by omega) (by omega) (by omega) (by omega) (by omega) (by omega) (by omega)
    rw [v06]
    refine ⟨by omega, ?_⟩
    refine EX12_text fun _ _ => SX12_text_0 ⟨o_166, fun t1 et1 => M_isIn (by omega) (fun c => ⟨fun e => by omega, fun _ => ⟨fun z => absurd rfl z, fun _ => ⟨fun z => ?_, fun z => ?_⟩⟩⟩) (fun c => by omega)⟩
    · have Lt : Lay t1 := by rw [et1]; exact Lv.kstO 0 o_166 (by decide)
      have t166 : ∀ j, j ≠ 0 → t1 166 j = σ 166 j := fun j hj => by rw [et1, kst_kj hj, v166]
      have to' : ∀ k, k ≠ 166 → t1 k = v k := fun k hk => by rw [et1, kst_k hk]
      have em : mby t1 169 0 = mby σ 169 0 := by
        funext i
        unfold mby
        rw [to' 169 (by decide), v169]
      have et : gText (mby t1 169 0) (t1 166 13) = gText (σ 9) (σ 8 1) := by
        rw [em, t166 13 (by decide), ← htp.2.2.1]
        exact (gText_cong htp.2.1).symm
      refine M_fault0 (by omega) Lt (by unfold tpOK; rw [t166 13 (by decide), to' 169 (by decide), v169]; exact htp.1) (fun x hx u hu => ⟨fun _ => ⟨fun _ => ?_, fun z => absurd (show ¬ (0 : Int) = 1 by decide) z⟩, fun z => absurd rfl z⟩) (fun pf hx hp u hu => ?_)
      · have u166 : ∀ j, j ≠ 0 → j ≠ 12 → ¬ (16 ≤ j ∧ j ≤ 22) → j ≠ 25 → u 166 j = σ 166 j := fun j j1 j2 j3 j4 => by rw [hu.2.1 j j1 j2 j3 j4, t166 j j1]
        have uk : ∀ k, k ≠ 166 → u k = v k := fun k hk => by rw [hu.1 k (by simp only [List.mem_cons, List.not_mem_nil, or_false]; exact hk), to' k hk]
        have u169 : u 169 = σ 169 := by rw [uk 169 (by decide), v169]
        have n120 := htp.1.1
        refine M_text78 (g := g) (n := σ 166 13) hu.2.2 (by rw [u166 14 (by decide) (by decide) (by decide) (by decide)]; exact hG.2.1.trans eg) (by omega) (u166 13 (by decide) (by decide) (by decide) (by decide)) n120 (fun i i0 i1 => by rw [u169]; exact (htp.1.2 i i0 i1).1) (fun w how hjw hLw w13 w14 w170 w170' w171 w171' w189 w189' => ⟨by omega, hLw, ?_⟩)
        have wv : ∀ k, k ≠ 166 → k ≠ 170 → k ≠ 171 → k ≠ 189 → w k = v k := fun k k1 k2 k3 k4 => by rw [how k (by simp only [List.mem_cons, List.not_mem_nil, or_false]; omega), uk k k1]
        have wσ : ∀ k, k ≠ 0 → k ≠ 8 → ¬ (10 ≤ k ∧ k ≤ 12) → k ≠ 98 + 4 * g → k ≠ 97 + 4 * g → k ≠ 166 → k ≠ 170 → k ≠ 171 → k ≠ 189 → w k = σ k := fun k k1 k2 k3 k4 k5 k6 k7 k8 k9 => by rw [wv k k6 k7 k8 k9, vo k k1 k2 (by omega) (by omega) (by omega) k4 k5]
        have w166 : ∀ j, j ≠ 0 → j ≠ 12 → ¬ (16 ≤ j ∧ j ≤ 22) → j ≠ 25 → j ≠ 13 → j ≠ 14 → w 166 j = σ 166 j := fun j j1 j2 j3 j4 j5 j6 => by rw [hjw j j5 j6, u166 j j1 j2 j3 j4]
        have u170 : u 170 = σ 170 := by rw [uk 170 (by decide), vo 170 (by omega) (by omega) (by omega) (by omega) (by omega) (by omega) (by omega)]
        have u171 : u 171 = σ 171 := by rw [uk 171 (by decide), vo 171 (by omega) (by omega) (by omega) (by omega) (by omega) (by omega) (by omega)]
        have u189 : u 189 = σ 189 := by rw [uk 189 (by decide), vo 189 (by omega) (by omega) (by omega) (by omega) (by omega) (by omega) (by omega)]
        rw [u169] at w170
        rw [u170] at w170'
        rw [u171] at w171'
        rw [u189] at w189'
        have w0 : w 0 = v 0 := wv 0 (by decide) (by decide) (by decide) (by decide)
        have w06 : w 0 6 = g + 1 := by rw [w0, v06]
        -- the texts of old
        have old : ∀ f, 0 ≤ f → f < g → (∀ i, 0 ≤ i → i < 120 → w 170 (120 * f + i) = σ 170 (120 * f + i)) ∧ w 171 f = σ 171 f := fun f f0 f1 => ⟨fun i i0 i1 => w170' _ (by omega), w171' f (by omega)⟩
        have oldT : ∀ f, 0 ≤ f → f < g → tn w f = tn σ f ∧ ∀ i, 0 ≤ i → i < tn σ f → tb w f i = tb σ f i := fun f f0 f1 => by
          have hgf := hG.2.2.1 f f0 (by omega)
          refine ⟨(old f f0 f1).2, fun i i0 i1 => ?_⟩
          have i1 : i < σ 171 f := i1
          show gby (w 170 (120 * f + i)) = gby (σ 170 (120 * f + i))
          rw [(old f f0 f1).1 i i0 (by omega)]
        have fr : FrB Lg [13, 14, -6] σ w := by
          unfold Lg
          refine ⟨fun k hs2 hk hl => ?_, fun j hj hn => ?_, fun j hj hn => ?_⟩
          · simp only [List.mem_cons, List.not_mem_nil, or_false] at hl
            unfold scr at hs2
            exact wσ k hk (by omega) (by omega) (by omega) (by omega) (by omega) (by omega) (by omega) (by omega)
          · simp only [List.mem_cons, List.not_mem_nil, or_false] at hn
            rw [w0]
            exact v0 j (by omega)
          · simp only [List.mem_cons, List.not_mem_nil, or_false] at hn
            unfold esf at hj
            exact w166 j (by omega) (by omega) (by omega) (by omega) (by omega) (by omega)
        refine ⟨?_, Ess.upd fr hI.2.2 (c4 := fun _ => ⟨⟨o_8, ?_⟩, ?_, fun i i0 i1 => ?_⟩) (c5 := fun _ => ?_)⟩
        · -- the scratch
          obtain ⟨b1, ⟨b2, b3, b4, b5, b6, b7⟩, b8, b9⟩ := hI.2.1
          have ne : ∀ k, 13 ≤ k → k ≤ 96 → w k = σ k := fun k k1 k2 => wσ k (by omega) (by omega) (by omega) (by omega) (by omega) (by omega) (by omega) (by omega) (by omega)
          refine ⟨by unfold Bes; rw [ne 27 (by decide) (by decide)]; exact b1, ⟨b2.cong (ne 36 (by decide) (by decide)), b3.cong (ne 38 (by decide) (by decide)), b4.cong (ne 43 (by decide) (by decide)), b5.cong (ne 45 (by decide) (by decide)), b6.cong (ne 57 (by decide) (by decide)), b7.cong (ne 59 (by decide) (by decide))⟩, ?_⟩
          unfold cKind
          rw [ne 26 (by decide) (by decide), ne 35 (by decide) (by decide)]
          refine ⟨b8, b9.imp (fun h => h) (fun ⟨f, q1, q2, q3, q4⟩ => ⟨f, by omega, q2, q3, fun k k0 k1 => ?_⟩)⟩
          have ho := oldT f q1.1 (by omega)
          rw [ho.1, kindP_cb ho.2]
          exact q4 k k0 k1
        · rw [wv 8 (by decide) (by decide) (by decide) (by decide), ← ev, kst_eq, k9]
          omega
        · rw [wv 8 (by decide) (by decide) (by decide) (by decide), ← ev, kst_eq, w13]
        · exfalso
          rw [wv 8 (by decide) (by decide) (by decide) (by decide), ← ev, kst_eq] at i1
          omega
        · refine ⟨by rw [w06]; omega, by rw [w14, w06], fun f f0 f1 => ?_, fun f f0 f1 => ?_⟩
          · rw [w06] at f1
            by_cases ef : f = g
            · subst ef
              have wg : w (97 + 4 * f) = v (97 + 4 * f) := wv _ (by omega) (by omega) (by omega) (by omega)
              have wo : w (97 + 4 * f + 1) = v (98 + 4 * f) := by rw [show 97 + 4 * f + 1 = 98 + 4 * f by omega]; exact wv _ (by omega) (by omega) (by omega) (by omega)
              have hwt := hG.2.2.2 f (by omega) (by omega)
              have hnb := htp.1.2
              rw [wg, wo, vg2, vg 3 (by decide), hwt, w171, w189]
              refine ⟨h112, n120, fun i i0 i1 => ?_, ⟨p, ?_⟩, by omega, rfl⟩
              · rw [w170 i i0 i1]
                exact hnb i i0 i1
              · have etn : tn w f = σ 166 13 := w171
                have etb : ∀ i, 0 ≤ i → i < σ 166 13 → tb w f i = mby σ 169 0 i := fun i i0 i1 => by
                  show gby (w 170 (120 * f + i)) = gby (σ 169 (0 + i))
                  rw [w170 i i0 i1, Int.zero_add]
                rw [etn, gText_cong etb, ← gText_cong htp.2.1, htp.2.2.1, hg, ← hos]
                have es : seg (s1 12) 0 (s1 11 2) = seg (v (98 + 4 * f)) 0 (s1 11 2) := seg_cong (fun i i0 i1 => by rw [Int.zero_add]; exact (vor i i0 (by omega)).symm)
                rw [es]
            · have hgf := hG.2.2.1 f f0 (by omega)
              have hoT := oldT f f0 (by omega)
              have wg : w (97 + 4 * f) = σ (97 + 4 * f) := wσ _ (by omega) (by omega) (by omega) (by omega) (by omega) (by omega) (by omega) (by omega) (by omega)
              have wo : w (97 + 4 * f + 1) = σ (97 + 4 * f + 1) := wσ _ (by omega) (by omega) (by omega) (by omega) (by omega) (by omega) (by omega) (by omega) (by omega)
              obtain ⟨y1, y2, y3, y4, y5, y6⟩ := hgf
              rw [wg, wo, hoT.1, gText_cong hoT.2, (old f f0 (by omega)).2, w189' f ef]
              exact ⟨y1, y2, fun i i0 i1 => by rw [(old f f0 (by omega)).1 i i0 (by omega)]; exact y3 i i0 i1, y4, y5, y6⟩
          · rw [w06] at f0
            have wg : w (97 + 4 * f) = σ (97 + 4 * f) := wσ _ (by omega) (by omega) (by omega) (by omega) (by omega) (by omega) (by omega) (by omega) (by omega)
            rw [wg]
            exact hG.2.2.2 f (by omega) f1
      · rw [et, hg] at hx
        cases hx
    · rw [et1, kst_kj (by decide), v166, hG.2.1, eg] at z
      omega
  · have hk := keep10 hI ho hLs
    have hIs := hI.keep hk
    refine M_textNo (by omega) hIs ⟨fun _ => Or.inr ⟨s 10 2, ?_⟩, by decide⟩ (fun u hu => ⟨rfl, hIs.keep hu⟩)
    rw [hk.1.1 9 (by unfold scr; omega), hk.1.1 8 (by unfold scr; omega)]
    exact hg
theorem O_text {a : Int} : Op MX11_text MX12_text [(0, a)] := by
  by_cases h0 : a = 0
  · exact O_text0 h0
  · by_cases h1 : a = 1
    · exact O_text1 h1
    · intro d σ hd hI
      obtain ⟨d, rfl⟩ : ∃ e, d = e + 1 := ⟨d - 1, by omega⟩
      exact EX11_text fun _ _ => SX11_text_0 ⟨fun _ => ⟨fun _ => M_textNo (by omega) hI ⟨fun z => absurd z h0, h1⟩ (fun u hu => ⟨rfl, hI.keep hu⟩), fun z => absurd h1 z⟩, fun z => absurd h0 z⟩
