/-! operation: fault -/
def gF (r : gR) : Int := match r with | .inl p => p | .inr _ => -1
def bF (r : bR) : Int := match r with | .inl p => p | .inr _ => -1
theorem keep10 {σ s : kS} (hI : Inv σ) (ho : off [10, 11, 12] σ s) (hL : Lay s) : Keep σ s :=
  ⟨Fr.offX ho (by decide), hL, hI.2.1.offU (fun k _ hk => ho k hk) (by rw [ho 0 (by decide)]) (by decide)⟩
theorem FZ.keep {s u : kS} (hI : Inv s) (h : FZ s u) : Keep s u := M_keep hI h.1 h.2.2 (by decide) (fun j hj => by
  unfold esf at hj
  exact h.2.1 j (by omega) (by omega) (by omega) (by omega))
/-- what stands of one book -/
def bkBody (σ : kS) (i : Int) : Prop := (1 ≤ σ (124 + 5 * i) 1 ∧ σ (124 + 5 * i) 1 ≤ 59) ∧ σ (122 + 5 * i) 1 = σ (124 + 5 * i) 1 + 1 ∧ σ 173 i = σ (124 + 5 * i) 1 ∧ (∀ k, 0 ≤ k → k < σ (124 + 5 * i) 1 → σ (123 + 5 * i) k = σ 174 (60 * i + k) ∧ σ (123 + 5 * i) (k + 1) = σ 175 (60 * i + k) ∧ σ (125 + 5 * i) k = σ 176 (60 * i + k) ∧ 0 ≤ σ (125 + 5 * i) k ∧ σ (125 + 5 * i) k ≤ 99) ∧ ∀ k, 0 ≤ k → k ≤ σ (124 + 5 * i) 1 → 0 ≤ σ (123 + 5 * i) k ∧ σ (123 + 5 * i) k < σ 19 1
theorem cBook.draft {σ w : kS} {c : Int} (h : cBook σ) (hc : c = σ 0 8) (h19 : w 19 = σ 19) (ho : ∀ i, 0 ≤ i → i < 5 → i ≠ c → ∀ j, 121 + 5 * i ≤ j → j ≤ 125 + 5 * i → w j = σ j) (hR : RowOK w (122 + 5 * c) ∧ RowOK w (124 + 5 * c)) (h173 : ∀ j, j ≠ c → w 173 j = σ 173 j) (h174 : ∀ j, ¬ (60 * c ≤ j ∧ j < 60 * c + 60) → w 174 j = σ 174 j ∧ w 175 j = σ 175 j ∧ w 176 j = σ 176 j) : (∀ i, 0 ≤ i → i < 5 → RowOK w (122 + 5 * i) ∧ RowOK w (124 + 5 * i)) ∧ ∀ i, 0 ≤ i → i < c → bkBody w i := by
  obtain ⟨b1, b2, b3, b4⟩ := h
  refine ⟨fun i i0 i1 => ?_, fun i i0 i1 => ?_⟩
  · by_cases e : i = c
    · rw [e]; exact hR
    · have := b3 i i0 i1
      exact ⟨this.1.cong (ho i i0 i1 e _ (by omega) (by omega)), this.2.cong (ho i i0 i1 e _ (by omega) (by omega))⟩
  · have hb : bkBody σ i := b4 i i0 (by omega)
    have e2 := ho i i0 (by omega) (by omega) (122 + 5 * i) (by omega) (by omega)
    have e3 := ho i i0 (by omega) (by omega) (123 + 5 * i) (by omega) (by omega)
    have e4 := ho i i0 (by omega) (by omega) (124 + 5 * i) (by omega) (by omega)
    have e5 := ho i i0 (by omega) (by omega) (125 + 5 * i) (by omega) (by omega)
    obtain ⟨q1, q2, q3, q4, q5⟩ := hb
    unfold bkBody
    rw [e2, e3, e4, e5, h19, h173 i (by omega)]
    refine ⟨q1, q2, q3, fun k k0 k1 => ?_, q5⟩
    have h6 := h174 (60 * i + k) (by omega)
    rw [h6.1, h6.2.1, h6.2.2]
    exact q4 k k0 k1
/-- the book that was read last -/
theorem bkBody.new {w : kS} {c n tw : Int} {st to : List Int} (hn : n ≤ 120) (hok : 1 ≤ to.length ∧ bkOK n tw st to) (h1 : RowOK w (122 + 5 * c) ∧ rowL w (122 + 5 * c) = st) (h2 : RowOK w (124 + 5 * c) ∧ rowL w (124 + 5 * c) = to) (hv : BV w c st to) (htw : w 19 1 = tw) : bkBody w c := by
  obtain ⟨o1, ⟨o2, o3⟩, o4, o5⟩ := hok
  have a1 := congrArg List.length h1.2
  have a2 := congrArg List.length h2.2
  rw [rowL_len] at a1 a2
  have b1 := h1.1.2.1
  have b2 := h2.1.2.1
  have g1 : ∀ k : Int, 0 ≤ k → k < w (122 + 5 * c) 1 → st.getD k.toNat 0 = w (123 + 5 * c) k := fun k k0 k1 => by
    rw [← h1.2, rowL_seg, show (122 + 5 * c : Int) + 1 = 123 + 5 * c by omega]
    exact seg_getD ⟨k0, k1⟩
  have g2 : ∀ k : Int, 0 ≤ k → k < w (124 + 5 * c) 1 → to.getD k.toNat 0 = w (125 + 5 * c) k := fun k k0 k1 => by
    rw [← h2.2, rowL_seg, show (124 + 5 * c : Int) + 1 = 125 + 5 * c by omega]
    exact seg_getD ⟨k0, k1⟩
  unfold bkBody
  refine ⟨by omega, by omega, by rw [hv.1]; omega, fun k k0 k1 => ?_, fun k k0 k1 => ?_⟩
  · have h6 := hv.2 k k0 (by omega)
    rw [h6.1, h6.2.1, h6.2.2, g1 k k0 (by omega), g1 (k + 1) (by omega) (by omega), g2 k k0 k1]
    refine ⟨rfl, rfl, rfl, o5 _ ?_⟩
    rw [← h2.2]
    exact mem_rowL.mpr ⟨k, k0, k1, by rw [show (124 + 5 * c : Int) + 1 = 125 + 5 * c by omega]⟩
  · rw [htw]
    refine o4 _ ?_
    rw [← h1.2]
    exact mem_rowL.mpr ⟨k, k0, by omega, by rw [show (122 + 5 * c : Int) + 1 = 123 + 5 * c by omega]⟩
/-- the class reads a book into its draft -/
theorem X_readsB {d : Nat} (hd : 5 ≤ d) {σ : kS} {Q : Int → kS → Prop} (hI : Inv σ) (h1 : ∀ st to, bk (σ 9) (σ 8 1) (σ 19 1) = .inr (st, to) → ∀ s p, BS σ s (σ 0 8) p st to → Q 1 s) (h0 : ∀ pf, bk (σ 9) (σ 8 1) (σ 19 1) = .inl pf → ∀ s st to, BS σ s (σ 0 8) pf st to → Q 0 s) : Ci d MX0_reads [(2, 121 + 5 * σ 0 8), (2, 8), (0, σ 19 1)] kN σ Q := by
  have hb := hI.2.2.2.2.2.2.2.1
  have hc := hb.1
  exact X0_reads hd (by omega) hI.1 hI.2.2.2.2.2.1.1 hI.2.2.2.2.2.1.tp.2.2.2 (towns_8 hI) (hb.2.2.1 _ hc.1 (by omega)) h1 h0
theorem bs_frb {σ s : kS} {c p : Int} {st to : List Int} (hc : 0 ≤ c ∧ c < 5) (h : BS σ s c p st to) : FrB [121, 122, 123, 124, 125, 126, 127, 128, 129, 130, 131, 132, 133, 134, 135, 136, 137, 138, 139, 140, 141, 142, 143, 144, 145, 173, 174, 175, 176] [] σ s :=
  FrB.rf.off h.1 (fun k hk => by
    simp only [List.mem_cons, List.not_mem_nil, or_false] at hk ⊢
    omega)
theorem fb_frb {L J : List Int} {σ s u : kS} {c : Int} (hf : FrB L J σ s) (hL : ∀ k, 173 ≤ k → k ≤ 176 → k ∈ L) (h : FB s u c) : FrB L J σ u := by
  obtain ⟨u1, u2, u3, u4, u5⟩ := h
  refine ⟨fun k hs hk hl => ?_, fun j hj hn => ?_, fun j hj hn => ?_⟩
  · rw [u1 k (fun z => ?_)]
    · exact hf.1 k hs hk hl
    · simp only [List.mem_cons, List.not_mem_nil, or_false] at z
      rcases z with z | z
      · exact hs (by unfold scr; omega)
      · exact hl (hL k (by omega) (by omega))
  · rw [u1 0 (by decide)]
    exact hf.2.1 j hj hn
  · have hj' := hj
    unfold esf at hj'
    rw [u2 j (by omega) (by omega) (by omega) (by omega)]
    exact hf.2.2 j hj hn
theorem bs_scr {σ s u : kS} {c p : Int} {st to : List Int} (hI : Inv σ) (hc : 0 ≤ c ∧ c < 5) (h : BS σ s c p st to) (hu : FB s u c) : Scr u := by
  have e : ∀ k, ¬ (121 + 5 * c ≤ k ∧ k ≤ 125 + 5 * c) → k ≠ 166 → ¬ (173 ≤ k ∧ k ≤ 176) → u k = σ k := fun k k1 k2 k3 => by
    rw [hu.1 k (by simp only [List.mem_cons, List.not_mem_nil, or_false]; omega), h.1 k (by simp only [List.mem_cons, List.not_mem_nil, or_false]; omega)]
  exact hI.2.1.upd (by rw [e 0 (by omega) (by omega) (by omega)]) (fun k hk => e k (by omega) (by omega) (by omega)) (e 26 (by omega) (by omega) (by omega))
theorem O_fault {a : Int} : Op MX11_fault MX12_fault [(0, a)] := by
  intro d σ hd hI
  obtain ⟨d, rfl⟩ : ∃ e, d = e + 1 := ⟨d - 1, by omega⟩
  have k18 := kl_18
  have hT := hI.2.2.2.2.2.1
  have htp := hT.tp
  have hb := hI.2.2.2.2.2.2.2.1
  have hc := hb.1
  have ht8 := towns_8 hI
  refine EX11_fault fun _ _ => SX11_fault_0 ⟨fun q => ⟨fun q2 => ?_, fun q2 => ⟨o_0, ?_⟩⟩, fun q => ⟨o_0, ?_⟩⟩
  · refine EX12_fault fun _ _ => SX12_fault_0 ⟨o_166, fun s1 e1 => M_isIn (by omega) (fun c => by omega) (fun c => ⟨fun e => absurd rfl e, fun _ => ⟨rfl, by rw [e1]; exact hI.keep hI.thrown⟩⟩)⟩
  · have ha : a = 1 := Classical.not_not.mp q2
    subst ha
    have hbo := book_at hI.1 (i := σ 0 8) (by omega)
    rw [ly_0_7 hI.1, ly_0_9 hI.1, ly_0_3 hI.1, hbo.1]
    have fin : ∀ (v : Int) (s : kS) (p : Int) (st to : List Int), BS σ s (σ 0 8) p st to → bF (bk (σ 9) (σ 8 1) (σ 19 1)) = v → Ci (d + 1) MX12_fault [(2, 166), (0, 1)] kN s (fun b s' => v = b ∧ Inv s') := by
      intro v s p st to hs hv
      have es : ∀ k, ¬ (121 + 5 * σ 0 8 ≤ k ∧ k ≤ 125 + 5 * σ 0 8) → s k = σ k := fun k k1 => hs.1 k (by simp only [List.mem_cons, List.not_mem_nil, or_false]; omega)
      have e166 : s 166 = σ 166 := es 166 (by omega)
      have e169 : s 169 = σ 169 := es 169 (by omega)
      have em : mby s 169 0 = mby σ 169 0 := by
        funext i
        unfold mby
        rw [e169]
      have ebk : bk (mby σ 169 0) (s 166 13) (σ 19 1) = bk (σ 9) (σ 8 1) (σ 19 1) := by
        rw [e166, ← htp.2.2.1]
        exact (bk_cong htp.2.1).symm
      have inv : ∀ u, FB s u (σ 0 8) → Inv u := fun u hu => by
        have hf := fb_frb (bs_frb (by omega) hs) (fun k k0 k1 => by simp only [List.mem_cons, List.not_mem_nil, or_false]; omega) hu
        have eu : ∀ k, k ≠ 166 → ¬ (173 ≤ k ∧ k ≤ 176) → u k = s k := fun k k1 k2 => hu.1 k (by simp only [List.mem_cons, List.not_mem_nil, or_false]; omega)
        refine ⟨hu.2.2.1, bs_scr hI (by omega) hs hu, Ess.upd hf hI.2.2 (c6 := fun _ => ?_)⟩
        have hdr := hb.draft (w := u) rfl (by rw [eu 19 (by omega) (by omega), es 19 (by omega)]) (fun i i0 i1 hi j j0 j1 => by rw [eu j (by omega) (by omega), es j (by omega)]) ⟨hs.2.2.2.1.1.cong (eu _ (by omega) (by omega)), hs.2.2.2.2.1.cong (eu _ (by omega) (by omega))⟩ (fun j hj => by rw [hu.2.2.2.1 j hj, es 173 (by omega)]) (fun j hj => by
          have := hu.2.2.2.2 j hj
          rw [es 174 (by omega), es 175 (by omega), es 176 (by omega)] at this
          exact this)
        have e0 : u 0 = σ 0 := by rw [eu 0 (by omega) (by omega), es 0 (by omega)]
        exact ⟨by rw [e0]; exact hc, by rw [hu.2.1 15 (by decide) (by decide) (by decide) (by decide), e166, e0]; exact hb.2.1, hdr.1, by rw [e0]; exact hdr.2⟩
      refine M_fault1 (c := σ 0 8) (tw := σ 19 1) (by omega) hs.2.1 (by unfold tpOK; rw [e166, e169]; exact htp.1) (by rw [e166]; exact hb.2.1) hc (by rw [e166]; exact ⟨hI.2.2.2.2.1.2.1, ht8⟩) (fun st' to' hbk u hu _ => ⟨?_, inv u hu⟩) (fun pf hbk hp u hu => ⟨?_, inv u hu⟩)
      · rw [em, ebk] at hbk
        rw [← hv, hbk]
        rfl
      · rw [em, ebk] at hbk
        rw [← hv, hbk]
        rfl
    refine ⟨a_18, by omega, o_19, hbo.2.1, X_readsB (by omega) hI (fun st to hbk s p hs => ⟨fun e => by omega, fun _ => fin _ s p st to hs (by rw [hbk]; rfl)⟩) (fun pf hbk s st to hs => ⟨fun _ => ?_, fun e => absurd rfl e⟩)⟩
    have e0 : s 0 8 = σ 0 8 := by rw [hs.1 0 (by simp only [List.mem_cons, List.not_mem_nil, or_false]; omega)]
    have hbo2 := book_at hs.2.1 (i := σ 0 8) (by omega)
    rw [ly_0_7 hs.2.1, e0, hbo2.1, hs.2.2.1]
    exact ⟨a_18, by omega, hbo2.2.1, fin _ s pf st to hs (by rw [hbk]; rfl)⟩
  · have ha : a = 0 := Classical.not_not.mp q
    subst ha
    rw [ly_0_4 hI.1, ly_0_3 hI.1]
    have fin : ∀ (v : Int) (s : kS), Keep σ s → gF (gText (σ 9) (σ 8 1)) = v → Ci (d + 1) MX12_fault [(2, 166), (0, 0)] kN s (fun b s' => v = b ∧ Inv s') := by
      intro v s hk hv
      have hIs := hI.keep hk
      have htp2 := hIs.2.2.2.2.2.1.tp
      have eg : gText (mby s 169 0) (s 166 13) = gText (σ 9) (σ 8 1) := by
        rw [← gText_cong htp2.2.1, htp2.2.2.1, hk.1.1 9 (by unfold scr; omega), hk.1.1 8 (by unfold scr; omega)]
      refine M_fault0 (by omega) hIs.1 htp2.1 (fun x hx u hu => ⟨?_, hIs.keep (hu.keep hIs)⟩) (fun pf hx hp u hu => ⟨?_, hIs.keep (hu.keep hIs)⟩)
      · rw [eg] at hx
        rw [← hv, hx]
        rfl
      · rw [eg] at hx
        rw [← hv, hx]
        rfl
    refine ⟨o_10, X4_reads (by omega) hI.1 hT.1 htp.2.2.2 (fun s p os hg ho hLs _ _ _ => ⟨fun e => by omega, fun _ => fin _ s (keep10 hI ho hLs) (by rw [hg]; rfl)⟩) (fun s hg ho hLs _ => ⟨fun _ => ?_, fun e => absurd rfl e⟩)⟩
    rw [ly_0_4 hLs]
    exact ⟨o_10, fin _ s (keep10 hI ho hLs) (by rw [hg]; rfl)⟩
