/-! operation: lineOfSight -/
theorem M_addCell2 {d : Nat} (hd : 1 ≤ d) {p t : kS} {f : Int → Int} {m c : Int} {Q : kS → Prop} (h : ML p t f m) (hn : 0 ≤ p 166 34 ∧ p 166 34 < 10) (hm : 0 ≤ m ∧ m < 140) (hc : f m = c) (hQ : ∀ s, ML p s f (m + 1) → s 181 = t 181 → Q s) : Cv d MX12_addCell [(2, 166), (0, c)] kN t Q := by
  obtain ⟨d, rfl⟩ : ∃ e, d = e + 1 := ⟨d - 1, by omega⟩
  have k182 := kl_182
  have k183 := kl_183
  obtain ⟨h1, h2, h3, h4, h5, h6⟩ := h
  have e166 : t 166 = p 166 := h1 166 (by decide)
  refine EX12_addCell fun _ _ => SX12_addCell_0 ⟨o_166, ?_⟩
  rw [ly_166_32 h2, ly_166_33 h2, e166, h3]
  refine ⟨by omega, a_182, by omega, by omega, a_183, by omega, fun s1 e1 => ?_⟩
  have eL1 : Lay s1 := by rw [e1]; exact h2.kstA a_183
  have f166 : s1 166 = p 166 := by rw [e1, kst_k (by decide), e166]
  have f182 : s1 182 = t 182 := by rw [e1, kst_k (by decide)]
  rw [ly_166_32 eL1, f166, f182, h3]
  refine ⟨a_182, by omega, by omega, fun s2 e2 => hQ s2 ⟨?_, by rw [e2]; exact eL1.kstA a_182, by rw [e2, kst_eq], fun l hl => ?_, fun i i0 i1 => ?_, fun q hq => ?_⟩ (by rw [e2, kst_k (by decide), e1, kst_k (by decide)])⟩
  · rw [e2, e1]
    exact (h1.kst (by decide)).kst (by decide)
  · rw [e2, kst_kj hl, f182]
    exact h4 l hl
  · rw [e2, kst_k (by decide), e1, kst_ap]
    by_cases ei : i = m
    · rw [if_pos ⟨rfl, by omega⟩, ei, hc]
    · rw [if_neg (fun z => ei (by omega))]
      exact h5 i i0 (by omega)
  · rw [e2, kst_k (by decide), e1, kst_kj (by omega)]
    exact h6 q hq
theorem M_addHop2 {d : Nat} (hd : 4 ≤ d) {p t : kS} {f : Int → Int} {m a b : Int} {Q : kS → Prop} (h : ML p t f m) (hn : 0 ≤ p 166 34 ∧ p 166 34 < 10) (ha : 0 ≤ a ∧ a < 120) (hb : 0 ≤ b ∧ b < 120) (hm : 0 ≤ m ∧ m + apart a b ≤ 139) (hf : ∀ k, 1 ≤ k → k ≤ apart a b → f (m + k - 1) = btw a b k (apart a b)) (hQ : ∀ s, ML p s f (m + apart a b) → s 181 = t 181 → Q s) : Cv d MX12_addHop [(2, 166), (0, a), (0, b)] kN t Q := by
  obtain ⟨d, rfl⟩ : ∃ e, d = e + 1 := ⟨d - 1, by omega⟩
  have hap := apart_cells ha hb
  have hap0 := apart_nn (a := a) (b := b)
  have key : ∀ k : Int, ∀ s : kS, 1 ≤ k → k ≤ apart a b + 1 → ML p s f (m + (k - 1)) → s 181 = t 181 → LX12_addHop_2 d kN Q 166 a b k s := by
    refine up_to (e := apart a b + 1) ?_
    intro k ih s k1 kn hs h181
    refine SX12_addHop_2 (M_apart (by omega) ha.1 hb.1 ⟨fun q => ?_, fun q => M_onLine (by omega) ha hb (by omega) (by omega) ⟨o_166, M_addCell2 (by omega) hs hn (by omega) ?_ (fun s2 h2 h3 => ⟨by omega, ih (by omega) s2 (by omega) (by omega) ?_ (h3.trans h181)⟩)⟩⟩)
    · rw [show k - 1 = apart a b by omega] at hs
      exact hQ s hs h181
    · rw [show m + (k - 1) = m + k - 1 by omega]
      exact hf k k1 (by omega)
    · rw [show m + (k + 1 - 1) = m + (k - 1) + 1 by omega]
      exact h2
  exact EX12_addHop fun _ _ _ => SX12_addHop_0 (key 1 t (by omega) (by omega) (by rw [show m + (1 - 1) = m by omega]; exact h) rfl)
theorem LS_class {d : Nat} (hd : 5 ≤ d) {σ s : kS} {y : Nat → Int} {m : Nat} {R : Int → kS → Prop} (hI : Inv σ) (hks : Keep σ s) (hr : RowC s 43) (hm : s 43 1 = (m : Int) + 1) (hm11 : m ≤ 11) (hy : ∀ j : Nat, j ≤ m → s 44 (j : Int) = y j) (hn : σ 0 11 < 10) (hR : ∀ u, Keep σ u → RowOK u 45 → rowL u 45 = trL y m → R (u 0 11) (kst (rowTake u (146 + 2 * u 0 11) 45) 0 11 (u 0 11 + 1))) : isO 9 kN (s 0 15) ∧ (Cv d MX9_trace [(2, s 0 15)] kN s (fun s4 => isO 9 kN (s4 0 15) ∧ (Ci d MX11_keepLine [(2, 0), (2, s4 (s4 0 15) 3)] kN s4 R))) := by
  have hIs := hI.keep hks
  have hLs := hIs.1
  rw [ly_0_15 hLs]
  refine ⟨o_40, X_trace (by omega) hLs hr hm hm11 hIs.2.1.2.1.2.2.2.1 (fun u ho hLu h45 hrow => ?_)⟩
  have hku : Keep s u := by
    obtain ⟨b1, ⟨b2, b3, b4, b5, b6, b7⟩, b8⟩ := hIs.2.1
    have ne : ∀ k, ¬ (45 ≤ k ∧ k ≤ 46) → u k = s k := fun k h1 => ho k (by simp only [List.mem_cons, List.not_mem_nil, or_false]; omega)
    exact ⟨Fr.offX ho (by decide), hLu, ⟨by unfold Bes; rw [ne 27 (by decide)]; exact b1, ⟨b2.cong (ne 36 (by decide)), b3.cong (ne 38 (by decide)), b4.cong (ne 43 (by decide)), h45, b6.cong (ne 57 (by decide)), b7.cong (ne 59 (by decide))⟩, b8.cong (ne 0 (by decide)) (ne 35 (by decide)) (ne 170 (by decide)) (ne 171 (by decide)) (fun j _ _ => by rw [ne 26 (by decide)])⟩⟩
  have hk2 := hks.trans hku
  have h0 := hI.2.2.2.2.2.2.2.2.1.1
  rw [ly_0_15 hLu, ly_40_3 hLu]
  refine ⟨o_40, X_keepLine (by omega) hLu (by rw [hk2.1.e0]; omega) h45 (by omega) (hR u hk2 h45 ?_)⟩
  rw [hrow]
  exact trL_cong m hy
def Ff (W : List Int) (q : Int) : Int := W.getD q.toNat 0
/-- the model's line stands: both hold together again -/
theorem LS_done {u t1 t : kS} {y : Nat → Int} {m : Nat} (hI : Inv u) (hn : u 0 11 < 10) (h45 : RowOK u 45) (hrow : rowL u 45 = trL y m) (hm11 : m ≤ 11) (hy : ∀ j : Nat, j ≤ m → 0 ≤ y j ∧ y j < 120) (e1 : t1 = kst (kst (rowTake u (146 + 2 * u 0 11) 45) 0 11 (u 0 11 + 1)) 166 0 0) (hML : ML t1 t (Ff (trL y m)) (trL y m).length) : Inv (kst t 166 34 (u 0 11 + 1)) := by
  have hok := trL_ok m hy
  have hlen := trL_len m hy
  have h0 := hI.2.2.2.2.2.2.2.2.1.1
  have hsz : u 45 1 = ((trL y m).length : Int) := by
    have := congrArg List.length hrow
    rw [rowL_len] at this
    have := h45.2
    omega
  have hp166 : ∀ j, esf j → t1 166 j = u 166 j := fun j hj => by
    rw [e1, kst_kj (by unfold esf at hj; omega), kst_k (by decide), rowTake_off 166 (by simp only [List.mem_cons, List.not_mem_nil, or_false]; omega)]
  refine Line_done (σ := u) (p := t1) (t := t) (f := Ff (trL y m)) (r := 45) (m := (trL y m).length) hI (Or.inr (Or.inr rfl)) h45 hsz (by omega) (fun i i0 i1 => ?_) (fun i i0 i1 => hok.2.2.1 i.toNat (by omega)) (fun i i0 i1 => ?_) hn (by rw [e1]; exact off.rfl'.kst (by decide)) hp166 hML
  · have := rowL_getD (σ := u) (r := 45) (i := i) (by omega)
    rw [hrow] at this
    exact this.symm
  · have h4 := hok.2.2.2 (i - 1).toNat (by omega)
    rw [show (i - 1).toNat + 1 = i.toNat by omega] at h4
    exact h4
theorem Ff_hop {y : Nat → Int} {m j : Nat} (hj : j + 1 ≤ m) {k : Int} (hk : 1 ≤ k ∧ k ≤ apart (y j) (y (j + 1))) : Ff (trL y m) (((trL y j).length : Int) + k - 1) = btw (y j) (y (j + 1)) k (apart (y j) (y (j + 1))) := by
  obtain ⟨R, hR⟩ := trL_pre (y := y) (j := j + 1) m hj
  unfold Ff
  rw [hR, show (((trL y j).length : Int) + k - 1).toNat = (trL y j).length + (k - 1).toNat by omega]
  have hl : (trL y (j + 1)).length = (trL y j).length + (apart (y j) (y (j + 1))).toNat := by rw [trL, List.length_append, hopK_len]
  rw [gd_l _ _ _ (by omega), trL, gd_r, hopK_at (by omega), show (((k - 1).toNat : Nat) : Int) + 1 = k by omega]
theorem O_lineOfSight {f g far : Int} : Op MX11_lineOfSight MX12_lineOfSight [(0, f), (0, g), (0, far)] := by
  intro d σ hd hI
  obtain ⟨d, rfl⟩ : ∃ e, d = e + 1 := ⟨d - 1, by omega⟩
  have hC := hI.2.2.2.2.2.2.2.2.1
  have hn0 := hC.1
  have h34 := hC.2.1
  have k182 := kl_182
  have k183 := kl_183
  have hno : ¬ (σ 0 11 < 10 ∧ isCel f ∧ isCel g ∧ 0 ≤ far ∧ far ≤ 11) → Ci (d + 1) MX12_lineOfSight [(2, 166), (0, f), (0, g), (0, far)] kN σ (fun b s' => -1 = b ∧ Inv s') := fun hc => by
    refine EX12_lineOfSight fun _ _ _ _ => SX12_lineOfSight_0 ⟨o_166, fun s1 e1 => ?_⟩
    have hk1 : Keep σ s1 := by rw [e1]; exact hI.thrown
    have hI1 := hI.keep hk1
    have e34 : s1 166 34 = σ 0 11 := by rw [e1, kst_kj (by decide)]; exact h34
    exact ⟨fun _ => ⟨rfl, hI1⟩, fun c0 => M_isCell (by omega) (fun c1 => ⟨fun e => by omega, fun _ => M_isCell (by omega) (fun c2 => ⟨fun e => by omega, fun _ => M_isIn (by omega) (fun c3 => absurd ⟨by omega, c1, c2, c3⟩ hc) (fun _ => ⟨fun e => absurd rfl e, fun _ => ⟨rfl, hI1⟩⟩)⟩) (fun _ => ⟨fun _ => ⟨rfl, hI1⟩, fun e => absurd rfl e⟩)⟩) (fun _ => ⟨fun _ => ⟨rfl, hI1⟩, fun e => absurd rfl e⟩)⟩
  -- the model, behind the class
  have mdl : σ 0 11 < 10 → isCel f → isCel g → 0 ≤ far ∧ far ≤ 11 → ∀ (y : Nat → Int) (m : Nat), m ≤ 11 → (∀ j : Nat, j ≤ m → 0 ≤ y j ∧ y j < 120) → y 0 = f → ((far = 0 ∧ trL y m = [f] ++ hopK f g (apart f g).toNat) ∨ (1 ≤ far ∧ (m : Int) = hopT (σ 167) far g f ∧ ∀ j : Nat, j ≤ m → y j = hopAt (σ 167) far g f j)) → ∀ u, Keep σ u → RowOK u 45 → rowL u 45 = trL y m → Ci (d + 1) MX12_lineOfSight [(2, 166), (0, f), (0, g), (0, far)] kN (kst (rowTake u (146 + 2 * u 0 11) 45) 0 11 (u 0 11 + 1)) (fun b s' => u 0 11 = b ∧ Inv s') := by
    intro hn c1 c2 c3 y m hm11 hy hy0 hcase u hku h45 hrow
    have hIu := hI.keep hku
    have e0 := hku.1.e0
    have hb10 : 0 ≤ u 0 11 ∧ u 0 11 < 10 := by rw [e0]; omega
    have hla := line_at hIu.1 (i := u 0 11) hb10
    generalize hp : kst (rowTake u (146 + 2 * u 0 11) 45) 0 11 (u 0 11 + 1) = p
    have hLp : Lay p := by
      rw [← hp]
      refine Lay.kstO 11 (Lay_rowOff hIu.1 hla.2.1 rowTake_off (fun j hj => ?_)) o_0 (by decide)
      unfold rowTake
      rw [kst_kj hj, kcpy_k (by omega)]
    have pk : ∀ k, k ≠ 0 → k ≠ 146 + 2 * u 0 11 → k ≠ 147 + 2 * u 0 11 → p k = u k := fun k h1 h2 h3 => by
      rw [← hp, kst_k h1, rowTake_off k (by simp only [List.mem_cons, List.not_mem_nil, or_false]; omega)]
    have u34 : u 166 34 = σ 0 11 := by rw [hku.1.2 34 (by unfold esf; omega)]; exact h34
    have hok := trL_ok m hy
    have hlen := trL_len m hy
    refine EX12_lineOfSight fun _ _ _ _ => SX12_lineOfSight_0 ⟨o_166, fun t1 e1 => ?_⟩
    have L1 : Lay t1 := by rw [e1]; exact hLp.kstO 0 o_166 (by decide)
    have g34 : t1 166 34 = σ 0 11 := by rw [e1, kst_kj (by decide), pk 166 (by decide) (by omega) (by omega), u34]
    have e167 : t1 167 = σ 167 := by rw [e1, kst_k (by decide), pk 167 (by decide) (by omega) (by omega), hku.1.1 167 (by unfold scr; omega)]
    have fin : ∀ t, ML t1 t (Ff (trL y m)) (trL y m).length → Ci d MX12_added [(2, 166)] kN t (fun b s' => u 0 11 = b ∧ Inv s') := fun t ht => by
      have q34 : t 166 34 = σ 0 11 := by rw [ht.1 166 (by decide), g34]
      refine M_added (by omega) (by rw [q34]; omega) ?_
      have hdn := LS_done hIu hb10.2 h45 hrow hm11 hy (by rw [e1, ← hp]) ht
      rw [e0] at hdn
      rw [q34, e0]
      exact ⟨rfl, hdn⟩
    refine ⟨fun z => by omega, fun _ => M_isCell (by omega) (fun _ => ⟨fun e => by omega, fun _ => M_isCell (by omega) (fun _ => ⟨fun e => by omega, fun _ => M_isIn (by omega) (fun _ => ⟨fun _ => ?_, fun e => by omega⟩) (fun z => absurd c3 z)⟩) (fun z => absurd c2 z)⟩) (fun z => absurd c1 z)⟩
    rw [ly_166_32 L1, g34]
    refine ⟨a_182, by omega, fun t2 e2 => ?_⟩
    have hst : ML t1 t2 (Ff (trL y m)) 0 := by
      rw [e2, ← g34]
      exact ML.start L1
    have hF0 : Ff (trL y m) 0 = f := by
      obtain ⟨R, hR⟩ := trL_pre (y := y) (j := 0) m (by omega)
      unfold Ff
      rw [hR]
      show y 0 = f
      exact hy0
    refine M_addCell (by omega) hst (by rw [g34]; omega) (by omega) hF0 (fun t3 h3 => ⟨fun hf0 => ?_, fun hf0 => ?_⟩)
    · rcases hcase with ⟨z, _⟩ | ⟨hf1, hmT, hyH⟩
      · exact absurd z hf0
      · have hT : HD (σ 167) far g (hopT (σ 167) far g) := HD_ex hf1 c2
        have hHM : ∀ v : kS, v 167 = σ 167 → HM v := fun v hv c q0 q1 => by
          have := (hI.2.2.1.eq.2.at ⟨q0, q1⟩).1
          unfold landM at this
          rw [hv]
          rwa [show 120 * 0 + c = c by omega] at this
        have h3167 : t3 167 = σ 167 := by rw [h3.1 167 (by decide), e167]
        refine M_layHops (by omega) h3.2.1 (hHM t3 h3167) c2 hf1 (fun t4 ho4 hL4 hD hb => ?_)
        rw [h3167] at hD
        have hTe := hD.uniq hT
        have h4 : ML t1 t4 (Ff (trL y m)) (0 + 1) := h3.hops ho4 hL4
        have key : ∀ k j : Nat, j + k = m → ∀ v, ML t1 v (Ff (trL y m)) (trL y j).length → v 181 = t4 181 → hopT (σ 167) far g (y j) = hopT (σ 167) far g f - j → LX12_lineOfSight_79 d kN (fun b s' => u 0 11 = b ∧ Inv s') 166 g far (y j) v := by
          intro k
          induction k with
          | zero =>
            intro j hj v hv _ hTj
            have ej : j = m := by omega
            subst ej
            have e9 : y j = g := by
              by_cases q : y j = g
              · exact q
              · have hcj := hy j (by omega)
                obtain ⟨b, hbc, _, eb⟩ := hT.2.2.2 (y j) hcj.1 hcj.2 q
                have := hT.2.1 b hbc.1 hbc.2
                omega
            exact SX12_lineOfSight_79 ⟨fun _ => ⟨o_166, fin v hv⟩, fun z => absurd e9 z⟩
          | succ k ih =>
            intro j hj v hv h181 hTj
            have hcj := hy j (by omega)
            have hcj1 := hy (j + 1) (by omega)
            have hne : y j ≠ g := fun q => by
              have e8 : hopT (σ 167) far g g = 0 := hT.1
              rw [q, e8] at hTj
              omega
            have v167 : v 167 = σ 167 := by rw [hv.1 167 (by decide), e167]
            have v166 : v 166 34 = σ 0 11 := by rw [hv.1 166 (by decide), g34]
            obtain ⟨b, hbc, hhop, eb⟩ := hT.2.2.2 (y j) hcj.1 hcj.2 hne
            refine SX12_lineOfSight_79 ⟨fun z => absurd z hne, fun _ => ⟨o_166, M_nextHop (by omega) hv.2.1 (hHM v v167) hcj (fun z z0 z1 => ⟨by rw [h181]; exact hD.2.1 z z0 z1, by rw [h181]; have := hb z z0 z1; omega⟩) ⟨b, hbc, by rw [h181, hTe b hbc.1 hbc.2, hTe _ hcj.1 hcj.2]; omega, by rw [v167]; exact hhop⟩ (fun x hx => ?_)⟩⟩
            rw [v167, h181] at hx
            have hnx := hx.tcong hcj hTe
            have ex : x = y (j + 1) := by
              rw [hyH (j + 1) (by omega), hopAt, ← hyH j (by omega), nextP_eq hnx]
            have hTx := hnx.2.1.1
            rw [ex] at hTx ⊢
            have hap := apart_cells hcj hcj1
            have hap0 := apart_nn (a := y j) (b := y (j + 1))
            have hlj := trL_len (y := y) j (fun i hi => hy i (by omega))
            have hl1 : ((trL y (j + 1)).length : Int) = (trL y j).length + apart (y j) (y (j + 1)) := by
              rw [trL, List.length_append, hopK_len]
              omega
            have hokj := trL_ok (y := y) (j + 1) (fun i hi => hy i (by omega))
            refine M_addHop2 (by omega) hv (by rw [g34]; omega) hcj hcj1 (by omega) (fun q q1 q2 => Ff_hop (by omega) ⟨q1, q2⟩) (fun w hw hw181 => ?_)
            rw [← hl1] at hw
            have w34 : w 166 34 = σ 0 11 := by rw [hw.1 166 (by decide), g34]
            have w182 : w 182 (σ 0 11) = ((trL y (j + 1)).length : Int) := by
              have := hw.2.2.1
              rw [g34] at this
              exact this
            have w183 : w 183 (140 * σ 0 11 + ((trL y (j + 1)).length : Int) - 1) = y (j + 1) := by
              have := hw.2.2.2.2.1 (((trL y (j + 1)).length : Int) - 1) (by omega) (by omega)
              rw [g34] at this
              rw [show 140 * σ 0 11 + ((trL y (j + 1)).length : Int) - 1 = 140 * σ 0 11 + (((trL y (j + 1)).length : Int) - 1) by omega, this]
              obtain ⟨R, hR⟩ := trL_pre (y := y) (j := j + 1) m (by omega)
              unfold Ff
              rw [hR, show (((trL y (j + 1)).length : Int) - 1).toNat = (trL y (j + 1)).length - 1 by omega, gd_l _ _ _ (by omega)]
              exact hokj.2.1
            rw [ly_166_32 hw.2.1, ly_166_33 hw.2.1, w34, w182, w183]
            have hl2 := trL_len (y := y) (j + 1) (fun i hi => hy i (by omega))
            refine ⟨by omega, a_182, by omega, by omega, by omega, a_183, by omega, ih (j + 1) (by omega) w hw ?_ (by omega)⟩
            exact hw181.trans h181
        have hTf := hT.2.1 f c1.1 c1.2
        have hk0 := key m 0 (by omega) t4 h4 rfl (by rw [hy0]; omega)
        rw [hy0] at hk0
        exact hk0
    · rcases hcase with ⟨_, hW⟩ | ⟨z, _⟩
      · have hap0 := apart_nn (a := f) (b := g)
        have hap := apart_cells c1 c2
        have hl : ((trL y m).length : Int) = 0 + 1 + apart f g := by
          rw [hW, List.length_append, hopK_len]
          simp only [List.length_cons, List.length_nil]
          omega
        refine M_addHop (by omega) h3 (by rw [g34]; omega) c1 c2 (by omega) (fun k k1 k2 => ?_) (fun w hw => ?_)
        · unfold Ff
          rw [hW, show (0 + 1 + k - 1).toNat = [f].length + (k - 1).toNat by simp only [List.length_cons, List.length_nil]; omega, gd_r, hopK_at (by omega), show (((k - 1).toNat : Nat) : Int) + 1 = k by omega]
        · rw [← hl] at hw
          exact fin w hw
      · exact absurd z (by omega)
  refine EX11_lineOfSight fun _ _ _ _ => SX11_lineOfSight_0 ⟨o_0, fun q => hno (fun z => by omega), fun q => X_isCell (by omega) (fun c1 => ⟨fun e => by omega, fun _ => X_isCell (by omega) (fun c2 => ⟨fun _ => ⟨fun hf => ?_, fun hf => ?_⟩, fun e => by omega⟩) (fun c2 => ⟨fun e => absurd rfl e, fun _ => hno (fun z => c2 z.2.2.1)⟩)⟩) (fun c1 => ⟨fun _ => hno (fun z => c1 z.2.1), fun e => absurd rfl e⟩)⟩
  · refine X_looks (by omega) hI (fun z => ⟨fun e => absurd rfl e, fun _ => hno (fun w => z ⟨c1, c2, by omega, w.2.2.2.2⟩)⟩) (fun _ _ h1 h11 s ho hLs hr hn hrow => ⟨fun _ => ?_, fun e => by omega⟩)
    have hks := keep43 hI ho hLs hr.1
    have hT0 := (HD_ex (H := σ 167) (g := g) h1 c2).2.1 f c1.1 c1.2
    have hT11 := (HD_ex (H := σ 167) (g := g) h1 c2).le h1 c2 f c1.1 c1.2
    have hrw : ∀ j : Nat, j ≤ (hopT (σ 167) far g f).toNat → s 44 (j : Int) = hopAt (σ 167) far g f j := fun j hj => hrow (j : Int) (by omega) (by omega)
    refine LS_class (y := fun j => hopAt (σ 167) far g f j) (m := (hopT (σ 167) far g f).toNat) (by omega) hI hks hr (by omega) (by omega) hrw (by omega) (fun u hku h45 hrow' => mdl (by omega) c1 c2 ⟨by omega, h11⟩ (fun j => hopAt (σ 167) far g f j) (hopT (σ 167) far g f).toNat (by omega) (fun j hj => ?_) rfl (Or.inr ⟨h1, by omega, fun _ _ => rfl⟩) u hku h45 hrow')
    show 0 ≤ hopAt (σ 167) far g f j ∧ hopAt (σ 167) far g f j < 120
    rw [← hrw j hj]
    exact hr.2 (j : Int) (by omega) (by omega)
  · have hf0 : far = 0 := Classical.not_not.mp hf
    rw [ly_0_15 hI.1]
    refine ⟨o_40, Sight_hopStraight (by omega) hI.1 hI.2.1.2.1.2.2.1.2.1 (fun s ho hLs hr hl => ?_)⟩
    have hks : Keep σ s := keep43 hI (ho.mono (by simp)) hLs hr
    by_cases e : f = g
    · rw [if_pos e] at hl
      have hlen := congrArg List.length hl
      rw [rowL_len] at hlen
      have hlen : (s 43 1).toNat = 1 := hlen
      have h0 := rowL_getD (σ := s) (r := 43) (i := 0) (by omega)
      rw [hl] at h0
      have h0 : f = s 44 0 := h0
      refine LS_class (y := fun _ => f) (m := 0) (by omega) hI hks ⟨hr, fun i i0 i1 => ?_⟩ (by omega) (by omega) (fun j hj => ?_) (by omega) (fun u hku h45 hrow => mdl (by omega) c1 c2 (by omega) (fun _ => f) 0 (by omega) (fun _ _ => c1) rfl (Or.inl ⟨hf0, ?_⟩) u hku h45 hrow)
      · show 0 ≤ s 44 i ∧ s 44 i < 120
        rw [show i = 0 by omega, ← h0]
        exact c1
      · show s 44 (j : Int) = f
        rw [show (j : Int) = 0 by omega]
        exact h0.symm
      · rw [← e, apart_0.mpr rfl]
        rfl
    · rw [if_neg e] at hl
      have hlen := congrArg List.length hl
      rw [rowL_len] at hlen
      have hlen : (s 43 1).toNat = 2 := hlen
      have h0 := rowL_getD (σ := s) (r := 43) (i := 0) (by omega)
      have h1 := rowL_getD (σ := s) (r := 43) (i := 1) (by omega)
      rw [hl] at h0 h1
      have h0 : f = s 44 0 := h0
      have h1 : g = s 44 1 := h1
      refine LS_class (y := fun j => if j = 0 then f else g) (m := 1) (by omega) hI hks ⟨hr, fun i i0 i1 => ?_⟩ (by omega) (by omega) (fun j hj => ?_) (by omega) (fun u hku h45 hrow => mdl (by omega) c1 c2 (by omega) (fun j => if j = 0 then f else g) 1 (by omega) (fun j _ => ?_) rfl (Or.inl ⟨hf0, rfl⟩) u hku h45 hrow)
      · show 0 ≤ s 44 i ∧ s 44 i < 120
        by_cases e0 : i = 0
        · rw [e0, ← h0]; exact c1
        · rw [show i = 1 by omega, ← h1]; exact c2
      · show s 44 (j : Int) = if j = 0 then f else g
        by_cases e0 : j = 0
        · rw [if_pos e0, e0]; exact h0.symm
        · rw [if_neg e0, show j = 1 by omega]; exact h1.symm
      · show 0 ≤ (if j = 0 then f else g) ∧ (if j = 0 then f else g) < 120
        by_cases e0 : j = 0
        · rw [if_pos e0]; exact c1
        · rw [if_neg e0]; exact c2
