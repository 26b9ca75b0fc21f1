/-! operation: text -/
theorem gor_at {g : Int} (h : 0 ≤ g ∧ g < 6) : isA 20 kN (98 + 4 * g) ∧ klen (98 + 4 * g) = 120 := by
  rcases (show g = 0 ∨ g = 1 ∨ g = 2 ∨ g = 3 ∨ g = 4 ∨ g = 5 by omega) with rfl | rfl | rfl | rfl | rfl | rfl <;> exact ⟨isA_k (by decide +kernel), by decide +kernel⟩
theorem gor_ly {σ : kS} (hL : Lay σ) {g : Int} (h : 0 ≤ g ∧ g < 6) : σ (97 + 4 * g) 0 = 98 + 4 * g := by
  rcases (show g = 0 ∨ g = 1 ∨ g = 2 ∨ g = 3 ∨ g = 4 ∨ g = 5 by omega) with rfl | rfl | rfl | rfl | rfl | rfl
  · exact ly_97_0 hL
  · exact ly_101_0 hL
  · exact ly_105_0 hL
  · exact ly_109_0 hL
  · exact ly_113_0 hL
  · exact ly_117_0 hL
/-- a tape that is refused: the model's text -/
theorem M_textNo {d : Nat} (hd : 40 ≤ d) {a : Int} {s : kS} {Q : Int → kS → Prop} (hI : Inv s) (h : (a = 0 → s 0 6 = 6 ∨ ∃ pf, gText (s 9) (s 8 1) = .inl pf) ∧ a ≠ 1) (hq : ∀ u, Keep s u → Q (-1) u) : Ci d MX12_text [(2, 166), (0, a)] kN s Q := by
  obtain ⟨d, rfl⟩ : ∃ e, d = e + 1 := ⟨d - 1, by omega⟩
  have hk : ∀ s1, s1 = kst s 166 0 0 → Keep s s1 := fun s1 e1 => by rw [e1]; exact hI.thrown
  refine EX12_text fun _ _ => SX12_text_0 ⟨o_166, fun s1 e1 => ?_⟩
  have hk1 := hk s1 e1
  have hI1 := hI.keep hk1
  have htp := hI1.2.2.2.2.2.1.tp
  have h14 := hI1.2.2.2.2.2.2.1.2.1
  refine M_isIn (by omega) (fun c => ⟨fun e => by omega, fun _ => ⟨fun q => by omega, fun q => ⟨fun q2 => ?_, fun _ => hq s1 hk1⟩⟩⟩) (fun c => ⟨fun _ => hq s1 hk1, fun e => absurd rfl e⟩)
  have ha : a = 0 := Classical.not_not.mp q
  subst ha
  have eg : gText (mby s1 169 0) (s1 166 13) = gText (s 9) (s 8 1) := by
    rw [← gText_cong htp.2.1, htp.2.2.1, hk1.1.1 9 (by unfold scr; omega), hk1.1.1 8 (by unfold scr; omega)]
  rcases h.1 rfl with h6 | ⟨pf, hpf⟩
  · rw [h14, hk1.1.e0] at q2
    exact absurd h6 q2
  · refine M_fault0 (by omega) hI1.1 htp.1 (fun x hx u hu => ?_) (fun pf' hx hp u hu => ⟨fun e => by omega, fun _ => hq u (hk1.trans (hu.keep hI1))⟩)
    rw [eg, hpf] at hx
    cases hx
theorem O_text1 {a : Int} (ha : a = 1) : Op MX11_text MX12_text [(0, a)] := by
  intro d σ hd hI
  obtain ⟨d, rfl⟩ : ∃ e, d = e + 1 := ⟨d - 1, by omega⟩
  subst ha
  have k18 := kl_18
  have k9 : klen (8 + 1) = 120 := kl_9
  have hT := hI.2.2.2.2.2.1
  have htp := hT.tp
  have hb := hI.2.2.2.2.2.2.2.1
  have hc := hb.1
  have ht8 := towns_8 hI
  have hbo := book_at hI.1 (i := σ 0 8) (by omega)
  have hT0 := hT.1.2
  refine EX11_text fun _ _ => SX11_text_0 ⟨fun q => ⟨fun q2 => absurd rfl q2, fun q2 => ⟨o_0, fun q3 => ?_, fun q3 => ?_⟩⟩, fun q => by omega⟩
  · refine EX12_text fun _ _ => SX12_text_0 ⟨o_166, fun s1 e1 => M_isIn (by omega) (fun c => ⟨fun e => by omega, fun _ => ⟨fun _ => ⟨fun _ => ⟨rfl, by rw [e1]; exact hI.keep hI.thrown⟩, fun z => ?_⟩, fun z => absurd (show ¬ (1 : Int) = 0 by decide) z⟩⟩) (fun c => by omega)⟩
    have e15 : s1 166 15 = σ 0 8 := by rw [e1, kst_kj (by decide)]; exact hb.2.1
    rw [e15] at z
    omega
  · rw [ly_0_7 hI.1, ly_0_9 hI.1, ly_0_3 hI.1, hbo.1]
    have es : ∀ {s p st to}, BS σ s (σ 0 8) p st to → ∀ k, ¬ (121 + 5 * σ 0 8 ≤ k ∧ k ≤ 125 + 5 * σ 0 8) → s k = σ k := fun hs k k1 => hs.1 k (by simp only [List.mem_cons, List.not_mem_nil, or_false]; omega)
    have ebk : ∀ t : kS, t 169 = σ 169 → t 166 13 = σ 166 13 → bk (mby t 169 0) (t 166 13) (σ 19 1) = bk (σ 9) (σ 8 1) (σ 19 1) := fun t e1 e2 => by
      have em : mby t 169 0 = mby σ 169 0 := by
        funext i
        unfold mby
        rw [e1]
      rw [em, e2, ← htp.2.2.1]
      exact (bk_cong htp.2.1).symm
    refine ⟨a_18, by omega, o_19, hbo.2.1, X_readsB (by omega) hI (fun st to hbk s p hs => ⟨fun e => by omega, fun _ => ?_⟩) (fun pf hbk s st to hs => ⟨fun _ => ?_, fun e => absurd rfl e⟩)⟩
    · have hok := bk_ok (n := σ 8 1) (by omega) hbk
      have e0 : s 0 = σ 0 := es hs 0 (by omega)
      rw [e0]
      refine ⟨by omega, fun s2 e2 => ?_⟩
      have L2 : Lay s2 := by rw [e2]; exact hs.2.1.kstO 8 o_0 (by decide)
      have r8 : s2 8 1 = σ 8 1 := by rw [e2, kst_k (by decide), es hs 8 (by omega)]
      rw [ly_0_3 L2]
      refine ⟨o_8, Row_cut (by omega) o_8 (fun _ _ => ?_) (fun z => by omega)⟩
      generalize ev : kst s2 8 1 0 = v
      have Lv : Lay v := by rw [← ev]; exact L2.kstO 1 o_8 (by decide)
      have v08 : v 0 8 = σ 0 8 + 1 := by rw [← ev, kst_k (by decide), e2, kst_eq]
      have v0 : ∀ j, j ≠ 8 → v 0 j = σ 0 j := fun j hj => by rw [← ev, kst_k (by decide), e2, kst_kj hj, e0]
      have vo : ∀ k, k ≠ 0 → k ≠ 8 → v k = s k := fun k k1 k2 => by rw [← ev, kst_k k2, e2, kst_k k1]
      have v166 : v 166 = σ 166 := by rw [vo 166 (by decide) (by decide), es hs 166 (by omega)]
      have v169 : v 169 = σ 169 := by rw [vo 169 (by decide) (by decide), es hs 169 (by omega)]
      rw [v08]
      refine ⟨by omega, ?_⟩
      refine EX12_text fun _ _ => SX12_text_0 ⟨o_166, fun t1 et1 => M_isIn (by omega) (fun c => ⟨fun e => by omega, fun _ => ⟨fun _ => ⟨fun z => ?_, fun z => ?_⟩, fun z => absurd (show ¬ (1 : Int) = 0 by decide) z⟩⟩) (fun c => by omega)⟩
      · rw [et1, kst_kj (by decide), v166, hb.2.1] at z
        omega
      · have Lt : Lay t1 := by rw [et1]; exact Lv.kstO 0 o_166 (by decide)
        have t166 : ∀ j, j ≠ 0 → t1 166 j = σ 166 j := fun j hj => by rw [et1, kst_kj hj, v166]
        have to' : ∀ k, k ≠ 166 → t1 k = v k := fun k hk => by rw [et1, kst_k hk]
        refine M_fault1 (c := σ 0 8) (tw := σ 19 1) (by omega) Lt (by unfold tpOK; rw [t166 13 (by decide), to' 169 (by decide), v169]; exact htp.1) (by rw [t166 15 (by decide)]; exact hb.2.1) hc (by rw [t166 3 (by decide)]; exact ⟨hI.2.2.2.2.1.2.1, ht8⟩) (fun st' to2 hbk2 u hu hv => ⟨fun _ => ⟨fun z => absurd rfl z, fun _ w1 ew1 => ?_⟩, fun z => absurd rfl z⟩) (fun pf hbk2 hp u hu => ?_)
        · rw [ebk t1 (by rw [to' 169 (by decide), v169]) (t166 13 (by decide)), hbk] at hbk2
          cases hbk2
          have w15 : w1 166 15 = σ 0 8 := by
            rw [ew1, kst_kj (by decide), hu.2.1 15 (by decide) (by decide) (by decide) (by decide), t166 15 (by decide)]
            exact hb.2.1
          rw [w15]
          refine ⟨by omega, fun w ew => ?_⟩
          have w15' : w 166 15 = σ 0 8 + 1 := by rw [ew, kst_eq]
          rw [w15']
          have eu : ∀ k, k ≠ 166 → ¬ (173 ≤ k ∧ k ≤ 176) → u k = v k := fun k k1 k2 => by
            rw [hu.1 k (by simp only [List.mem_cons, List.not_mem_nil, or_false]; omega), to' k k1]
          have ewk : ∀ k, k ≠ 166 → w k = u k := fun k hk => by rw [ew, kst_k hk, ew1, kst_k hk]
          have ewv : ∀ k, k ≠ 166 → ¬ (173 ≤ k ∧ k ≤ 176) → w k = v k := fun k k1 k2 => by rw [ewk k k1, eu k k1 k2]
          have ewσ : ∀ k, k ≠ 0 → k ≠ 8 → k ≠ 166 → ¬ (121 ≤ k ∧ k ≤ 145) → ¬ (173 ≤ k ∧ k ≤ 176) → w k = σ k := fun k k1 k2 k3 k4 k5 => by rw [ewv k k3 k5, vo k k1 k2, es hs k (by omega)]
          have ewd : ∀ k, 121 ≤ k → k ≤ 145 → w k = s k := fun k k1 k2 => by rw [ewv k (by omega) (by omega), vo k (by omega) (by omega)]
          have ew166 : ∀ j, j ≠ 0 → j ≠ 12 → ¬ (16 ≤ j ∧ j ≤ 22) → j ≠ 25 → j ≠ 13 → j ≠ 15 → w 166 j = σ 166 j := fun j j1 j2 j3 j4 j5 j6 => by
            rw [ew, kst_kj j6, ew1, kst_kj j5, hu.2.1 j j1 j2 j3 j4, t166 j j1]
          have Lw : Lay w := by rw [ew, ew1]; exact (hu.2.2.1.kstO 13 o_166 (by decide)).kstO 15 o_166 (by decide)
          have w08 : w 0 8 = σ 0 8 + 1 := by rw [ewv 0 (by decide) (by omega), v08]
          have w19 : w 19 = σ 19 := ewσ 19 (by decide) (by decide) (by decide) (by omega) (by omega)
          have f : FrB [8, 121, 122, 123, 124, 125, 126, 127, 128, 129, 130, 131, 132, 133, 134, 135, 136, 137, 138, 139, 140, 141, 142, 143, 144, 145, 173, 174, 175, 176] [13, 15, -8] σ w := by
            refine ⟨fun k hs2 hk hl => ?_, fun j hj hn => ?_, fun j hj hn => ?_⟩
            · simp only [List.mem_cons, List.not_mem_nil, or_false] at hl
              unfold scr at hs2
              exact ewσ k hk (by omega) (by omega) (by omega) (by omega)
            · simp only [List.mem_cons, List.not_mem_nil, or_false] at hn
              rw [ewv 0 (by decide) (by omega)]
              exact v0 j (by omega)
            · simp only [List.mem_cons, List.not_mem_nil, or_false] at hn
              unfold esf at hj
              exact ew166 j (by omega) (by omega) (by omega) (by omega) (by omega) (by omega)
          refine ⟨by omega, rfl, Lw, hI.2.1.upd ?_ (fun k hk => ewσ k (by omega) (by omega) (by omega) (by omega) (by omega)) (ewσ 26 (by decide) (by decide) (by decide) (by omega) (by omega)), Ess.upd f hI.2.2 (c4 := fun _ => ⟨⟨o_8, ?_⟩, ?_, fun i i0 i1 => ?_⟩) (c6 := fun _ => ?_)⟩
          · rw [ewv 0 (by decide) (by omega)]
            exact v0 6 (by decide)
          · rw [ewv 8 (by decide) (by omega), ← ev, kst_eq, k9]
            omega
          · rw [ewv 8 (by decide) (by omega), ← ev, kst_eq, ew, kst_kj (by decide), ew1, kst_eq]
          · exfalso
            rw [ewv 8 (by decide) (by omega), ← ev, kst_eq] at i1
            omega
          · have hR : RowOK w (122 + 5 * σ 0 8) ∧ RowOK w (124 + 5 * σ 0 8) := ⟨hs.2.2.2.1.1.cong (ewd _ (by omega) (by omega)), hs.2.2.2.2.1.cong (ewd _ (by omega) (by omega))⟩
            have hdr := hb.draft (w := w) rfl w19 (fun i i0 i1 hi j j0 j1 => by rw [ewd j (by omega) (by omega), es hs j (by omega)]) hR (fun j hj => by rw [ewk 173 (by decide), hu.2.2.2.1 j hj, to' 173 (by decide), vo 173 (by decide) (by decide), es hs 173 (by omega)]) (fun j hj => by
              have := hu.2.2.2.2 j hj
              rw [to' 174 (by decide), to' 175 (by decide), to' 176 (by decide), vo 174 (by decide) (by decide), vo 175 (by decide) (by decide), vo 176 (by decide) (by decide), es hs 174 (by omega), es hs 175 (by omega), es hs 176 (by omega)] at this
              rw [ewk 174 (by decide), ewk 175 (by decide), ewk 176 (by decide)]
              exact this)
            have hnew : bkBody w (σ 0 8) := bkBody.new (n := σ 8 1) (tw := σ 19 1) (by omega) hok ⟨hR.1, by rw [← hs.2.2.2.1.2]; exact rowL_cong (ewd _ (by omega) (by omega)) (by rw [show (122 + 5 * σ 0 8 : Int) + 1 = 123 + 5 * σ 0 8 by omega]; exact ewd _ (by omega) (by omega))⟩ ⟨hR.2, by rw [← hs.2.2.2.2.2]; exact rowL_cong (ewd _ (by omega) (by omega)) (by rw [show (124 + 5 * σ 0 8 : Int) + 1 = 125 + 5 * σ 0 8 by omega]; exact ewd _ (by omega) (by omega))⟩ (by unfold BV; rw [ewk 173 (by decide), ewk 174 (by decide), ewk 175 (by decide), ewk 176 (by decide)]; exact hv) (by rw [w19])
            refine ⟨by rw [w08]; omega, by rw [w15', w08], hdr.1, fun i i0 i1 => ?_⟩
            rw [w08] at i1
            by_cases ei : i = σ 0 8
            · rw [ei]; exact hnew
            · exact hdr.2 i i0 (by omega)
        · rw [ebk t1 (by rw [to' 169 (by decide), v169]) (t166 13 (by decide)), hbk] at hbk2
          cases hbk2
    · -- refused
      have s166 : s 166 = σ 166 := es hs 166 (by omega)
      refine EX12_text fun _ _ => SX12_text_0 ⟨o_166, fun t1 et1 => M_isIn (by omega) (fun c => ⟨fun e => by omega, fun _ => ⟨fun _ => ⟨fun z => ?_, fun z => ?_⟩, fun z => absurd (show ¬ (1 : Int) = 0 by decide) z⟩⟩) (fun c => by omega)⟩
      · rw [et1, kst_kj (by decide), s166, hb.2.1] at z
        omega
      · have Lt : Lay t1 := by rw [et1]; exact hs.2.1.kstO 0 o_166 (by decide)
        have t166 : ∀ j, j ≠ 0 → t1 166 j = σ 166 j := fun j hj => by rw [et1, kst_kj hj, s166]
        have to' : ∀ k, k ≠ 166 → t1 k = s k := fun k hk => by rw [et1, kst_k hk]
        have t169 : t1 169 = σ 169 := by rw [to' 169 (by decide), es hs 169 (by omega)]
        refine M_fault1 (c := σ 0 8) (tw := σ 19 1) (by omega) Lt (by unfold tpOK; rw [t166 13 (by decide), t169]; exact htp.1) (by rw [t166 15 (by decide)]; exact hb.2.1) hc (by rw [t166 3 (by decide)]; exact ⟨hI.2.2.2.2.1.2.1, ht8⟩) (fun st' to2 hbk2 u hu hv => ?_) (fun pf' hbk2 hp u hu => ⟨fun z => by omega, fun _ => ⟨rfl, ?_⟩⟩)
        · rw [ebk t1 t169 (t166 13 (by decide)), hbk] at hbk2
          cases hbk2
        · have hfu : FB s u (σ 0 8) := by
            obtain ⟨u1, u2, u3, u4, u5⟩ := hu
            refine ⟨(show off [166, 173, 174, 175, 176] s t1 by rw [et1]; exact off.rfl'.kst (by decide)).trans u1, fun j j1 j2 j3 j4 => by rw [u2 j j1 j2 j3 j4, et1, kst_kj j1], u3, fun j hj => by rw [u4 j hj, to' 173 (by decide)], fun j hj => ?_⟩
            have := u5 j hj
            rw [to' 174 (by decide), to' 175 (by decide), to' 176 (by decide)] at this
            exact this
          have hf := fb_frb (bs_frb (by omega) hs) (fun k k0 k1 => by simp only [List.mem_cons, List.not_mem_nil, or_false]; omega) hfu
          have eu : ∀ k, k ≠ 166 → ¬ (173 ≤ k ∧ k ≤ 176) → u k = s k := fun k k1 k2 => hfu.1 k (by simp only [List.mem_cons, List.not_mem_nil, or_false]; omega)
          refine ⟨hfu.2.2.1, bs_scr hI (by omega) hs hfu, Ess.upd hf hI.2.2 (c6 := fun _ => ?_)⟩
          have hdr := hb.draft (w := u) rfl (by rw [eu 19 (by omega) (by omega), es hs 19 (by omega)]) (fun i i0 i1 hi j j0 j1 => by rw [eu j (by omega) (by omega), es hs j (by omega)]) ⟨hs.2.2.2.1.1.cong (eu _ (by omega) (by omega)), hs.2.2.2.2.1.cong (eu _ (by omega) (by omega))⟩ (fun j hj => by rw [hfu.2.2.2.1 j hj, es hs 173 (by omega)]) (fun j hj => by
            have := hfu.2.2.2.2 j hj
            rw [es hs 174 (by omega), es hs 175 (by omega), es hs 176 (by omega)] at this
            exact this)
          have e0 : u 0 = σ 0 := by rw [eu 0 (by omega) (by omega), es hs 0 (by omega)]
          exact ⟨by rw [e0]; exact hc, by rw [hfu.2.1 15 (by decide) (by decide) (by decide) (by decide), s166, e0]; exact hb.2.1, hdr.1, by rw [e0]; exact hdr.2⟩
