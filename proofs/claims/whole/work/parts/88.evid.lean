/-! evidence, odds -/
noncomputable def wayW (σ : kS) (g a b : Int) : List Int := wayP (tolN σ g 0 0) (σ 20 a) (σ 20 b)
def canW (σ : kS) (W : List Int) (n : Int) : Prop := ∀ i, 0 ≤ i → i < n → ¬ sureF (σ 49) (σ 51) W i
noncomputable def evA (σ : kS) (g a b : Int) : Int := cif (canW σ (wayW σ g a b) (σ 48 1)) (σ (97 + 4 * g) 3 * (1 + sm (likeF (σ 49) (σ 51) (σ 53) (wayW σ g a b)) (σ 48 1).toNat)) 0
theorem wayW_fr {σ s : kS} (h : Fr σ s) {g a b : Int} : wayW s g a b = wayW σ g a b := by
  unfold wayW
  rw [tolN_fr h, h.1 20 (by unfold scr; omega)]
theorem evA_fr {σ s : kS} (h : Fr σ s) {g a b : Int} (hg : 0 ≤ g ∧ g < 6) : evA s g a b = evA σ g a b := by
  unfold evA canW
  rw [wayW_fr h, h.1 48 (by unfold scr; omega), h.1 49 (by unfold scr; omega), h.1 51 (by unfold scr; omega), h.1 53 (by unfold scr; omega), h.1 (97 + 4 * g) (by unfold scr; omega)]
def twoT (σ : kS) (a b : Int) : Prop := (0 ≤ a ∧ a < σ 19 1) ∧ (0 ≤ b ∧ b < σ 19 1) ∧ a ≠ b
theorem twoT_fr {σ s : kS} (h : Fr σ s) {a b : Int} : twoT s a b = twoT σ a b := by
  unfold twoT
  rw [h.1 19 (by unfold scr; omega)]
theorem like_b {σ : kS} (hI : Inv σ) {W : List Int} {k : Int} (hk : 0 ≤ k ∧ k ≤ σ 48 1) : 0 ≤ sm (likeF (σ 49) (σ 51) (σ 53) W) k.toNat ∧ sm (likeF (σ 49) (σ 51) (σ 53) W) k.toNat ≤ 9 * k := by
  have hF := hI.2.2.2.2.2.2.2.2.2.1.1.2.2.2.2.2
  have := sm_b (f := likeF (σ 49) (σ 51) (σ 53) W) (B := 9) (n := k.toNat) (fun i i0 i1 => by
    have := hF i i0 (by omega)
    unfold likeF
    split <;> omega)
  rw [k_toNat hk.1] at this
  exact this
theorem finds_30 {σ : kS} (hI : Inv σ) : 0 ≤ σ 48 1 ∧ σ 48 1 ≤ 30 := by
  have hF := hI.2.2.2.2.2.2.2.2.2.1.1.1.1.2
  have k49 : klen (48 + 1) = 30 := kl_49
  omega
theorem evA_b {σ : kS} (hI : Inv σ) {g a b : Int} (hg : 0 ≤ g ∧ g < σ 0 6) : 0 ≤ evA σ g a b ∧ evA σ g a b ≤ 9 * 271 := by
  have hw := (hI.2.2.2.2.2.2.1.2.2.1 g hg.1 hg.2).2.2.2.2.1
  have hn := finds_30 hI
  have hl := like_b hI (W := wayW σ g a b) (k := σ 48 1) (by omega)
  unfold evA
  by_cases c : canW σ (wayW σ g a b) (σ 48 1)
  · rw [cif_pos c]
    refine ⟨Int.mul_nonneg hw.1 (by omega), Int.mul_le_mul hw.2 (by omega) (by omega) (by omega)⟩
  · rw [cif_neg c]
    omega
theorem X_evidenceOf {d : Nat} (hd : 9 ≤ d) {σ : kS} {g a b : Int} {Q : Int → kS → Prop} (hI : Inv σ) (hg : 0 ≤ g ∧ g < σ 0 6) (ht : twoT σ a b) (h : ∀ s, Keep σ s → rowL s 36 = wayW σ g a b → RowC s 36 → Q (evA σ g a b) s) : Ci d MX11_evidenceOf [(2, 0), (0, g), (0, a), (0, b)] kN σ Q := by
  obtain ⟨d, rfl⟩ : ∃ e, d = e + 1 := ⟨d - 1, by omega⟩
  have k17 := kl_17
  have hTn := hI.2.2.2.2.1
  have hg6 := hI.2.2.2.2.2.2.1.1
  have t1 := town_cell hI ht.1
  have t2 := town_cell hI ht.2.1
  have hy : isWy σ g 0 (σ 20 a) (σ 20 b) := ⟨⟨hg, by omega⟩, t1.2.2.1, t2.2.2.1⟩
  refine EX11_evidenceOf fun _ _ _ _ => SX11_evidenceOf_0 ⟨o_0, ?_⟩
  rw [ly_0_9 hI.1]
  refine ⟨o_19, Row_at (by omega) hI.1 hTn.1.1 ?_⟩
  rw [t1.1, ly_0_9 hI.1]
  refine ⟨o_19, Row_at (by omega) hI.1 hTn.1.1 ?_⟩
  rw [t2.1, ly_0_0 hI.1]
  refine XI_goes (by omega) hI (Or.inl rfl) (fun _ s hs => ?_) (fun z => absurd hy z)
  have hLs := hs.1.2.1
  have hIs := hI.keep hs.1
  have hgo := goer_at hLs (i := g) (by omega)
  have hW : rowL s 36 = wayW σ g a b := hs.2.2.2.1
  have hq := h s hs.1 hW hs.2.1.1
  have hb := evA_b hI (a := a) (b := b) hg
  have e48 : s 48 = σ 48 := hs.1.1.1 48 (by unfold scr; omega)
  have e49 : s 49 = σ 49 := hs.1.1.1 49 (by unfold scr; omega)
  have e51 : s 51 = σ 51 := hs.1.1.1 51 (by unfold scr; omega)
  have e53 : s 53 = σ 53 := hs.1.1.1 53 (by unfold scr; omega)
  have eg : s (97 + 4 * g) = σ (97 + 4 * g) := hs.1.1.1 _ (by unfold scr; omega)
  rw [ly_0_5 hLs, hgo.1, ly_0_14 hLs, ly_0_16 hLs, ly_26_13 hLs, eg]
  refine ⟨a_17, by omega, hgo.2, o_26, o_47, Finds_speakFor (by omega) hLs hIs.2.2.2.2.2.2.2.2.2.1.1 hs.2.1.1 (fun hc => ?_) (fun hc => ?_)⟩
  · rw [e48, e49, e51, hW] at hc
    rw [e48, e49, e51, e53, hW]
    have e : evA σ g a b = σ (97 + 4 * g) 3 * (1 + sm (likeF (σ 49) (σ 51) (σ 53) (wayW σ g a b)) (σ 48 1).toNat) := cif_pos hc
    rw [e] at hq hb
    exact ⟨by omega, hq⟩
  · rw [e48, e49, e51, hW] at hc
    have e : evA σ g a b = 0 := cif_neg (fun z => by
      obtain ⟨i, i0, i1, i2⟩ := hc
      exact z i i0 i1 i2)
    rw [e] at hq
    rw [Int.mul_zero]
    exact ⟨by omega, hq⟩
/-! the model's worlds -/
def MWd (σ s : kS) (g a b : Int) : Prop := s 190 g = (wayW σ g a b).length ∧ ((wayW σ g a b).length ≤ 120 ∧ ∀ x ∈ wayW σ g a b, 0 ≤ x ∧ x < 120) ∧ (∀ i : Int, 0 ≤ i → i < (wayW σ g a b).length → s 191 (140 * g + i) = (wayW σ g a b).getD i.toNat 0) ∧ s 192 g = evA σ g a b
theorem mem_getD {W : List Int} {x : Int} : x ∈ W ↔ ∃ i : Int, 0 ≤ i ∧ i < W.length ∧ W.getD i.toNat 0 = x := by
  constructor
  · intro h
    obtain ⟨n, hn, e⟩ := List.getElem_of_mem h
    refine ⟨n, by omega, by omega, ?_⟩
    rw [show ((n : Int)).toNat = n by omega, List.getD_eq_getElem?_getD, List.getElem?_eq_getElem hn]
    exact e
  · rintro ⟨i, i0, i1, e⟩
    have hn : i.toNat < W.length := by omega
    rw [List.getD_eq_getElem?_getD, List.getElem?_eq_getElem hn] at e
    rw [← e]
    exact List.getElem_mem hn
theorem M_isByWay {d : Nat} (hd : 3 ≤ d) {s : kS} {W : List Int} {g c : Int} {Q : Int → kS → Prop} (hL : Lay s) (hg : 0 ≤ g ∧ g < 6) (h1 : s 190 g = W.length) (h2 : W.length ≤ 120 ∧ ∀ x ∈ W, 0 ≤ x ∧ x < 120) (h3 : ∀ i : Int, 0 ≤ i → i < W.length → s 191 (140 * g + i) = W.getD i.toNat 0) (hc : 0 ≤ c ∧ c < 120) (hq1 : isNearL W (c % 12) (c / 12) 1 = true → Q 1 s) (hq0 : isNearL W (c % 12) (c / 12) 1 = false → Q 0 s) : Ci d MX12_isByWay [(2, 166), (0, g), (0, c)] kN s Q := by
  obtain ⟨d, rfl⟩ : ∃ e, d = e + 1 := ⟨d - 1, by omega⟩
  have k190 := kl_190
  have k191 := kl_191
  have key : ∀ i : Int, 0 ≤ i → i ≤ W.length → (∀ j, 0 ≤ j → j < i → ¬ nearXY (c % 12) (c / 12) 1 (W.getD j.toNat 0)) → LX12_isByWay_2 d kN Q 166 g c i s := by
    refine up_to (e := W.length) ?_
    intro i ih i0 i1 hf
    refine SX12_isByWay_2 ⟨o_166, ?_⟩
    rw [ly_166_43 hL, ly_166_44 hL, h1]
    refine ⟨a_190, by omega, fun e => hq0 ?_, fun e => ⟨by omega, by omega, a_191, by omega, ?_⟩⟩
    · cases hn : isNearL W (c % 12) (c / 12) 1 with
      | false => rfl
      | true =>
        obtain ⟨z, hz, hz2⟩ := isNearL_iff.mp hn
        obtain ⟨j, j0, j1, rfl⟩ := mem_getD.mp hz
        exact absurd hz2 (hf j j0 (by omega))
    · rw [h3 i i0 (by omega)]
      have hm : W.getD i.toNat 0 ∈ W := mem_getD.mpr ⟨i, i0, by omega, rfl⟩
      have hx := h2.2 _ hm
      have ha := apart_le (a := W.getD i.toNat 0) (b := c) (k := 1)
      refine M_apart (by omega) hx.1 hc.1 ⟨fun q => ⟨by omega, ih (by omega) (by omega) (by omega) (fun j j0 j1 => ?_)⟩, fun q => hq1 (isNearL_iff.mpr ⟨_, hm, ?_⟩)⟩
      · by_cases ej : j = i
        · rw [ej]
          intro z
          unfold nearXY at z
          exact absurd (ha.mpr (by omega)) (by omega)
        · exact hf j j0 (by omega)
      · have := ha.mp (by omega)
        unfold nearXY
        omega
  exact EX12_isByWay fun _ _ _ => SX12_isByWay_0 (key 0 (by omega) (by omega) (fun j j0 j1 => by omega))
theorem M_isOnWay {d : Nat} (hd : 1 ≤ d) {s : kS} {W : List Int} {g c : Int} {Q : Int → kS → Prop} (hL : Lay s) (hg : 0 ≤ g ∧ g < 6) (h1 : s 190 g = W.length) (h2 : W.length ≤ 120) (h3 : ∀ i : Int, 0 ≤ i → i < W.length → s 191 (140 * g + i) = W.getD i.toNat 0) (hq1 : c ∈ W → Q 1 s) (hq0 : ¬ c ∈ W → Q 0 s) : Ci d MX12_isOnWay [(2, 166), (0, g), (0, c)] kN s Q := by
  obtain ⟨d, rfl⟩ : ∃ e, d = e + 1 := ⟨d - 1, by omega⟩
  have k190 := kl_190
  have k191 := kl_191
  have key : ∀ i : Int, 0 ≤ i → i ≤ W.length → (∀ j, 0 ≤ j → j < i → W.getD j.toNat 0 ≠ c) → LX12_isOnWay_2 d kN Q 166 g c i s := by
    refine up_to (e := W.length) ?_
    intro i ih i0 i1 hf
    refine SX12_isOnWay_2 ⟨o_166, ?_⟩
    rw [ly_166_43 hL, ly_166_44 hL, h1]
    refine ⟨a_190, by omega, fun e => hq0 (fun hm => ?_), fun e => ⟨by omega, by omega, a_191, by omega, ?_⟩⟩
    · obtain ⟨j, j0, j1, hj⟩ := mem_getD.mp hm
      exact hf j j0 (by omega) hj
    · rw [h3 i i0 (by omega)]
      refine ⟨fun q => ⟨by omega, ih (by omega) (by omega) (by omega) (fun j j0 j1 => ?_)⟩, fun q => hq1 (mem_getD.mpr ⟨i, i0, by omega, Classical.not_not.mp q⟩)⟩
      by_cases ej : j = i
      · rw [ej]; exact q
      · exact hf j j0 (by omega)
  exact EX12_isOnWay fun _ _ _ => SX12_isOnWay_0 (key 0 (by omega) (by omega) (fun j j0 j1 => by omega))
theorem M_layWorld {d : Nat} (hd : 42 ≤ d) {σ : kS} {g a b : Int} {Q : kS → Prop} (hI : Inv σ) (hg : 0 ≤ g ∧ g < σ 0 6) (ht : twoT σ a b) (h : ∀ s, Keep σ s → MWd σ s g a b → (∀ f, f ≠ g → s 190 f = σ 190 f ∧ s 192 f = σ 192 f) → (∀ q, ¬ (140 * g ≤ q ∧ q < 140 * g + 140) → s 191 q = σ 191 q) → Q s) : Cv d MX12_layWorld [(2, 166), (0, g), (0, a), (0, b)] kN σ Q := by
  obtain ⟨d, rfl⟩ : ∃ e, d = e + 1 := ⟨d - 1, by omega⟩
  have k168 := kl_168
  have k180 := kl_180
  have k190 := kl_190
  have k191 := kl_191
  have k192 := kl_192
  have k184 := kl_184
  have k185 := kl_185
  have k186 := kl_186
  have k189 := kl_189
  have hg6 := hI.2.2.2.2.2.2.1.1
  have hwt := hI.2.2.2.2.2.2.1.2.2.1 g hg.1 hg.2
  have t1 := town_cell hI ht.1
  have t2 := town_cell hI ht.2.1
  have a0 := ht.1
  have b0 := ht.2.1
  have hy : isWy σ g 0 (σ 20 a) (σ 20 b) := ⟨⟨hg, by omega⟩, t1.2.2.1, t2.2.2.1⟩
  refine EX12_layWorld fun _ _ _ _ => SX12_layWorld_0 ⟨o_166, ?_⟩
  rw [ly_166_2 hI.1, ← t1.2.1, ← t2.2.1]
  refine ⟨a_168, by omega, by omega, MI_layWay (by omega) hI (Or.inl rfl) hy (fun s1 h1 => ?_)⟩
  have hk1 := h1.keep hI
  have hn := h1.2.2.2.1
  have hW : seg (s1 180) 0 (s1 166 30) = wayW σ g a b := h1.2.2.2.2.2.2.1
  have hlen : ((wayW σ g a b).length : Int) = s1 166 30 := by rw [← hW, seg_len]; omega
  have hcells : ∀ x ∈ wayW σ g a b, 0 ≤ x ∧ x < 120 := fun x hx => by
    rw [← hW] at hx
    obtain ⟨i, i0, i1, e⟩ := mem_seg.mp hx
    rw [← e, Int.zero_add]
    exact h1.2.2.2.2.1 i i0 i1
  have hget : ∀ i, 0 ≤ i → i < s1 166 30 → (wayW σ g a b).getD i.toNat 0 = s1 180 i := fun i i0 i1 => by
    rw [← hW]
    exact seg_getD ⟨i0, i1⟩
  have hF := hI.2.2.2.2.2.2.2.2.2.1
  have hn30 := finds_30 hI
  rw [ly_166_43 h1.2.2.1]
  refine ⟨a_190, by omega, fun s2 e2 => ?_⟩
  have L2 : Lay s2 := by rw [e2]; exact h1.2.2.1.kstA a_190
  -- the finds
  have key76 : ∀ k likely can : Int, ∀ u : kS, 0 ≤ k → k ≤ σ 48 1 → off [190, 191] s1 u → Lay u → u 190 g = s1 166 30 → (∀ f, f ≠ g → u 190 f = σ 190 f) → (∀ i, 0 ≤ i → i < s1 166 30 → u 191 (140 * g + i) = s1 180 i) → (∀ q, ¬ (140 * g ≤ q ∧ q < 140 * g + 140) → u 191 q = σ 191 q) → likely = 1 + sm (likeF (σ 49) (σ 51) (σ 53) (wayW σ g a b)) k.toNat → ((can = 1 ∧ canW σ (wayW σ g a b) k) ∨ (can = 0 ∧ ¬ canW σ (wayW σ g a b) k)) → LX12_layWorld_76 d kN Q 166 g likely can k u := by
    refine up_to (e := σ 48 1) ?_
    intro k ih likely can u k0 k1 ho hLu u1 u2 u3 u4 hlk hcn
    have huk : ∀ q, q ≠ 166 → q ≠ 172 → q ≠ 177 → q ≠ 178 → q ≠ 180 → q ≠ 190 → q ≠ 191 → u q = σ q := fun q p1 p2 p3 p4 p5 p6 p7 => by
      rw [ho q (by simp only [List.mem_cons, List.not_mem_nil, or_false]; omega), h1.1 q (by simp only [List.mem_cons, List.not_mem_nil, or_false]; omega)]
    have u166 : u 166 = s1 166 := ho 166 (by decide)
    have u38 : u 166 38 = σ 48 1 := by
      rw [u166, hk1.1.2 38 (by unfold esf; omega)]
      exact hF.2.1
    have hss := sm_s (f := likeF (σ 49) (σ 51) (σ 53) (wayW σ g a b)) k0
    have hlb := like_b hI (W := wayW σ g a b) ⟨k0, k1⟩
    have fin : ∀ v (s : kS), s = kst u 192 g v → v = evA σ g a b → Q s := fun v s es ev => by
      have hos : off [166, 172, 177, 178, 180, 190, 191, 192] σ s := fun q hq => by
        simp only [List.mem_cons, List.not_mem_nil, or_false] at hq
        rw [es, kst_k (by omega), huk q (by omega) (by omega) (by omega) (by omega) (by omega) (by omega) (by omega)]
      have hLs : Lay s := by rw [es]; exact hLu.kstA a_192
      refine h s (M_keep hI hos hLs (by decide) (fun j hj => ?_)) ⟨?_, ⟨by omega, hcells⟩, fun i i0 i1 => ?_, by rw [es, kst_eq, ev]⟩ (fun f hf => ⟨?_, ?_⟩) (fun q hq => ?_)
      · rw [es, kst_k (by decide), u166]
        exact hk1.1.2 j hj
      · rw [es, kst_k (by decide), u1, hlen]
      · rw [es, kst_k (by decide), u3 i i0 (by omega), hget i i0 (by omega)]
      · rw [es, kst_k (by decide)]
        exact u2 f hf
      · rw [es, kst_kj hf, huk 192 (by decide) (by decide) (by decide) (by decide) (by decide) (by decide) (by decide)]
      · rw [es, kst_k (by decide)]
        exact u4 q hq
    refine SX12_layWorld_76 ⟨o_166, ?_⟩
    rw [u38, ly_166_45 hLu, ly_166_42 hLu, ly_166_36 hLu, ly_166_35 hLu]
    refine ⟨fun q => ?_, fun q => ?_⟩
    · have ek : k = σ 48 1 := by omega
      rw [ek] at hcn hlk
      refine ⟨fun qc => ⟨a_192, by omega, fun s es => fin 0 s es ?_⟩, fun qc => ⟨a_189, by omega, ?_⟩⟩
      · rcases hcn with ⟨hc, _⟩ | ⟨_, hc⟩
        · omega
        · exact (cif_neg hc).symm
      · rcases hcn with ⟨_, hc⟩ | ⟨hc, _⟩
        · have ev : evA σ g a b = σ (97 + 4 * g) 3 * (1 + sm (likeF (σ 49) (σ 51) (σ 53) (wayW σ g a b)) (σ 48 1).toNat) := cif_pos hc
          have e189 : u 189 g = σ (97 + 4 * g) 3 := by
            rw [huk 189 (by decide) (by decide) (by decide) (by decide) (by decide) (by decide) (by decide)]
            exact hwt.2.2.2.2.2
          have hb := evA_b hI (a := a) (b := b) hg
          rw [e189, hlk, ← ev]
          exact ⟨by omega, a_192, by omega, fun s es => fin _ s es rfl⟩
        · omega
    · have hfk := hF.2.2 k k0 (by omega)
      have hsk := hF.1.2.2.2.2.2 k k0 (by omega)
      have hck := hF.1.1.2 k k0 (by omega)
      have e184 : u 184 k = σ 49 k := by rw [huk 184 (by decide) (by decide) (by decide) (by decide) (by decide) (by decide) (by decide)]; exact hfk.1.symm
      have e185 : u 185 k = σ 51 k := by rw [huk 185 (by decide) (by decide) (by decide) (by decide) (by decide) (by decide) (by decide)]; exact hfk.2.1.symm
      have e186 : u 186 k = σ 53 k := by rw [huk 186 (by decide) (by decide) (by decide) (by decide) (by decide) (by decide) (by decide)]; exact hfk.2.2.symm
      have lk : likeF (σ 49) (σ 51) (σ 53) (wayW σ g a b) k = if σ 51 k = 1 ∧ isNearL (wayW σ g a b) (σ 49 k % 12) (σ 49 k / 12) 1 = true then σ 53 k else 0 := rfl
      have nx : ∀ l' c' : Int, l' = likely + likeF (σ 49) (σ 51) (σ 53) (wayW σ g a b) k → ((c' = 1 ∧ ¬ can = 0 ∧ ¬ sureF (σ 49) (σ 51) (wayW σ g a b) k) ∨ (c' = 0 ∧ (can = 0 ∨ sureF (σ 49) (σ 51) (wayW σ g a b) k))) → (-2147483648 ≤ k + 1 ∧ k + 1 ≤ 2147483647) ∧ LX12_layWorld_76 d kN Q 166 g l' c' (k + 1) u := fun l' c' hl' hc' => ⟨by omega, ih (by omega) l' c' u (by omega) (by omega) ho hLu u1 u2 u3 u4 (by rw [hss, hl', hlk]; omega) (by
        rcases hc' with ⟨rfl, q1, q2⟩ | ⟨rfl, q1⟩
        · refine Or.inl ⟨rfl, fun i i0 i1 => ?_⟩
          rcases hcn with ⟨_, hc⟩ | ⟨hc, _⟩
          · by_cases ei : i = k
            · rw [ei]; exact q2
            · exact hc i i0 (by omega)
          · omega
        · refine Or.inr ⟨rfl, fun z => ?_⟩
          rcases q1 with q1 | q1
          · rcases hcn with ⟨hc, _⟩ | ⟨_, hc⟩
            · omega
            · exact hc (fun i i0 i1 => z i i0 (by omega))
          · exact z k k0 (by omega) q1)⟩
      have nl : ¬ (σ 51 k = 1 ∧ isNearL (wayW σ g a b) (σ 49 k % 12) (σ 49 k / 12) 1 = true) → ∀ c' : Int, ((c' = 1 ∧ ¬ can = 0 ∧ ¬ sureF (σ 49) (σ 51) (wayW σ g a b) k) ∨ (c' = 0 ∧ (can = 0 ∨ sureF (σ 49) (σ 51) (wayW σ g a b) k))) → (-2147483648 ≤ likely + 0 ∧ likely + 0 ≤ 2147483647) ∧ ((-2147483648 ≤ k + 1 ∧ k + 1 ≤ 2147483647) ∧ LX12_layWorld_76 d kN Q 166 g (likely + 0) c' (k + 1) u) := fun hz c' hc' => ⟨by omega, nx _ _ (by rw [lk, if_neg hz]) hc'⟩
      rw [e185, e184]
      refine ⟨a_185, by omega, fun q2 => ?_, fun q2 => ⟨a_184, by omega, M_isByWay (W := wayW σ g a b) (by omega) hLu (by omega) (by rw [u1, hlen]) ⟨by omega, hcells⟩ (fun i i0 i1 => by rw [u3 i i0 (by omega), hget i i0 (by omega)]) hck (fun hnr => ⟨fun e => by omega, fun _ => ?_⟩) (fun hnr => ⟨fun _ => ?_, fun e => absurd rfl e⟩)⟩⟩
      · have hz : ¬ (σ 51 k = 1 ∧ isNearL (wayW σ g a b) (σ 49 k % 12) (σ 49 k / 12) 1 = true) := fun z => by omega
        have ns : ¬ sureF (σ 49) (σ 51) (wayW σ g a b) k := fun z => by have := z.1; omega
        exact ⟨fun qc => ⟨fun _ => nl hz 0 (Or.inr ⟨rfl, Or.inl qc⟩), fun p => absurd (Classical.not_not.mp p) (by omega)⟩, fun qc => ⟨fun _ => ⟨fun _ => nl hz 1 (Or.inl ⟨rfl, qc, ns⟩), fun p => absurd (Classical.not_not.mp p) (by omega)⟩, fun p => absurd (Classical.not_not.mp p) (by omega)⟩⟩
      · rw [ly_166_36 hLu, ly_166_37 hLu, e185, e186]
        have ns : ¬ sureF (σ 49) (σ 51) (wayW σ g a b) k := fun z => by
          have := z.2
          rw [hnr] at this
          exact absurd this (by decide)
        have yl : σ 51 k = 1 → ∀ c' : Int, ((c' = 1 ∧ ¬ can = 0 ∧ ¬ sureF (σ 49) (σ 51) (wayW σ g a b) k) ∨ (c' = 0 ∧ (can = 0 ∨ sureF (σ 49) (σ 51) (wayW σ g a b) k))) → isA 20 kN 186 ∧ (((0 : Int) ≤ k ∧ k < klen 186) ∧ ((-2147483648 ≤ likely + σ 53 k ∧ likely + σ 53 k ≤ 2147483647) ∧ ((-2147483648 ≤ k + 1 ∧ k + 1 ≤ 2147483647) ∧ LX12_layWorld_76 d kN Q 166 g (likely + σ 53 k) c' (k + 1) u))) := fun h1 c' hc' => ⟨a_186, by omega, by omega, nx _ _ (by rw [lk, if_pos ⟨h1, hnr⟩]) hc'⟩
        exact ⟨fun qc => ⟨a_185, by omega, fun p => nl (fun z => p z.1) 0 (Or.inr ⟨rfl, Or.inl qc⟩), fun p => yl (Classical.not_not.mp p) 0 (Or.inr ⟨rfl, Or.inl qc⟩)⟩, fun qc => ⟨a_185, by omega, fun _ => ⟨fun p => nl (fun z => p z.1) 1 (Or.inl ⟨rfl, qc, ns⟩), fun p => yl (Classical.not_not.mp p) 1 (Or.inl ⟨rfl, qc, ns⟩)⟩, fun p0 => ⟨fun p => nl (fun z => p z.1) 1 (Or.inl ⟨rfl, qc, ns⟩), fun p => yl (Classical.not_not.mp p) 1 (Or.inl ⟨rfl, qc, ns⟩)⟩⟩⟩
      · rw [ly_166_36 hLu, e185]
        have hz : ¬ (σ 51 k = 1 ∧ isNearL (wayW σ g a b) (σ 49 k % 12) (σ 49 k / 12) 1 = true) := fun z => by
          have := z.2
          rw [hnr] at this
          exact absurd this (by decide)
        exact ⟨fun qc => ⟨a_185, by omega, fun _ => nl hz 0 (Or.inr ⟨rfl, Or.inl qc⟩), fun _ => nl hz 0 (Or.inr ⟨rfl, Or.inl qc⟩)⟩, fun qc => ⟨a_185, by omega, fun p0 => ⟨fun _ => nl hz 1 (Or.inl ⟨rfl, qc, fun z => p0 z.1⟩), fun _ => nl hz 1 (Or.inl ⟨rfl, qc, fun z => p0 z.1⟩)⟩, fun p0 => ⟨fun _ => nl hz 0 (Or.inr ⟨rfl, Or.inr ⟨Classical.not_not.mp p0, hnr⟩⟩), fun _ => nl hz 0 (Or.inr ⟨rfl, Or.inr ⟨Classical.not_not.mp p0, hnr⟩⟩)⟩⟩⟩
  have key32 : ∀ i : Int, ∀ u : kS, 0 ≤ i → i ≤ s1 166 30 → off [190, 191] s1 u → Lay u → u 190 g = s1 166 30 → (∀ f, f ≠ g → u 190 f = σ 190 f) → (∀ j, 0 ≤ j → j < i → u 191 (140 * g + j) = s1 180 j) → (∀ q, ¬ (140 * g ≤ q ∧ q < 140 * g + 140) → u 191 q = σ 191 q) → LX12_layWorld_32 d kN Q 166 g i u := by
    refine up_to (e := s1 166 30) ?_
    intro i ih u i0 i1 ho hLu u1 u2 u3 u4
    have u166 : u 166 = s1 166 := ho 166 (by decide)
    have u180 : u 180 = s1 180 := ho 180 (by decide)
    refine SX12_layWorld_32 ⟨o_166, ?_⟩
    rw [u166, ly_166_29 h1.2.2.1, ly_166_44 h1.2.2.1, u180]
    refine ⟨fun q => key76 0 1 1 u (by omega) (by omega) ho hLu u1 u2 (fun j j0 j1 => u3 j j0 (by omega)) u4 rfl (Or.inl ⟨rfl, fun j j0 j1 => by omega⟩), fun q => ⟨by omega, by omega, a_180, by omega, a_191, by omega, fun v ev => ⟨by omega, ih (by omega) v (by omega) (by omega) ?_ ?_ ?_ ?_ ?_ ?_⟩⟩⟩
    · rw [ev]; exact ho.kst (by decide)
    · rw [ev]; exact hLu.kstA a_191
    · rw [ev, kst_k (by decide)]; exact u1
    · intro f hf
      rw [ev, kst_k (by decide)]
      exact u2 f hf
    · intro j j0 j1
      rw [ev, kst_ap]
      by_cases ej : j = i
      · rw [if_pos ⟨rfl, by omega⟩, ej]
      · rw [if_neg (fun z => ej (by omega))]
        exact u3 j j0 (by omega)
    · intro q2 hq2
      rw [ev, kst_kj (by omega)]
      exact u4 q2 hq2
  refine key32 0 s2 (by omega) (by omega) (by rw [e2]; exact off.rfl'.kst (by decide)) L2 (by rw [e2, kst_eq]) (fun f hf => by rw [e2, kst_kj hf, h1.1 190 (by decide)]) (fun j j0 j1 => by omega) (fun q hq => by rw [e2, kst_k (by decide), h1.1 191 (by decide)])
