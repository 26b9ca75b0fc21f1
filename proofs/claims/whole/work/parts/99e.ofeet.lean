/-! operation: feet -/
theorem ftF_cong {T : Int → Int} {e m seed : Int} {tc tc' : Int → Int} (hm : 2 ≤ m ∧ m ≤ 8) (h : ∀ i, 0 ≤ i → i < m → tc i = tc' i) : ∀ n : Nat, ftF T e m tc seed n = ftF T e m tc' seed n := by
  intro n
  induction n with
  | zero => rfl
  | succ n ih =>
    have key : ∀ q : kFt, trW T e m tc q = trW T e m tc' q := fun q => by
      have hb := tr_b (x := q.2.2.2) hm
      unfold trW
      rw [h _ hb.1.1 hb.1.2, h _ hb.2.1 hb.2.2]
    unfold ftF
    rw [ih]
    unfold ftS
    rw [key]
def feetOK (σ : kS) (g load trips e : Int) : Prop := isMan σ g load ∧ 2 ≤ σ 19 1 ∧ (1 ≤ trips ∧ trips ≤ 40) ∧ 0 ≤ e ∧ e ≤ 9
noncomputable def feetF (σ : kS) (g load wet seed trips e : Int) : kFt := ftF (tolN σ g load wet) e (σ 19 1) (σ 20) seed trips.toNat
def FeetEnd (s : kS) (q : kFt) : Prop := (∀ c, 0 ≤ c → c < 120 → s 62 c = q.1 c ∧ 0 ≤ q.1 c ∧ q.1 c ≤ 99) ∧ s 61 2 = q.2.1 ∧ s 61 3 = q.2.2.1 ∧ s 61 4 = 1
theorem towns_8 {σ : kS} (hI : Inv σ) : 0 ≤ σ 19 1 ∧ σ 19 1 ≤ 8 := by
  have h := hI.2.2.2.2.1.1.1.2
  have k20 : klen (19 + 1) = 8 := kl_20
  omega
theorem X_feet {d : Nat} (hd : 14 ≤ d) {σ : kS} {g load wet seed trips e : Int} {Q : Int → kS → Prop} (hI : Inv σ) (hw : wet = 0 ∨ wet = 1) (h0 : ¬ feetOK σ g load trips e → Q (-1) σ) (h1 : feetOK σ g load trips e → ∀ s, FrB [61, 62] [] σ s → Lay s → Scr s → FeetEnd s (feetF σ g load wet seed trips e) → Q (trodN (feetF σ g load wet seed trips e).1 1) s) : Ci d MX11_feet [(2, 0), (0, g), (0, load), (0, wet), (1, seed), (0, trips), (0, e)] kN σ Q := by
  obtain ⟨d, rfl⟩ : ∃ e, d = e + 1 := ⟨d - 1, by omega⟩
  have hg6 := hI.2.2.2.2.2.2.1.1
  have k17 := kl_17
  have k62 := kl_62
  have ht8 := towns_8 hI
  unfold feetOK at h0 h1
  refine EX11_feet fun _ _ _ _ _ _ _ => SX11_feet_0 ⟨o_0, X_isManner (by omega) (fun c1 => ⟨fun e => by omega, fun _ => ?_⟩) (fun c1 => ⟨fun _ => h0 (fun z => c1 z.1), fun e => absurd rfl e⟩)⟩
  have hgo := goer_at hI.1 (i := g) (by omega)
  rw [ly_0_9 hI.1, ly_0_5 hI.1, ly_0_14 hI.1, hgo.1, ly_0_0 hI.1]
  refine ⟨o_19, fun c2 => ⟨fun c3 => h0 (fun z => by omega), fun c3 => ⟨fun c4 => h0 (fun z => by omega), fun c4 => ⟨fun c5 => h0 (fun z => by omega), fun c5 => ⟨fun c6 => ⟨a_17, by omega, o_26, X_fitK (by omega) hI c1 hw (fun s1 hk1 hT _ => ?_)⟩, fun c6 => h0 (fun z => by omega)⟩⟩⟩⟩, fun c2 => h0 (fun z => c2 z.2.1)⟩
  have hI1 := hI.keep hk1
  have hOK : isMan σ g load ∧ 2 ≤ σ 19 1 ∧ (1 ≤ trips ∧ trips ≤ 40) ∧ 0 ≤ e ∧ e ≤ 9 := ⟨c1, c2, by omega, by omega⟩
  have e19 : s1 19 = σ 19 := hk1.1.1 19 (by unfold scr; omega)
  have e20 : s1 20 = σ 20 := hk1.1.1 20 (by unfold scr; omega)
  have ht := tolH_ok (σ := σ) (H := landM σ) (g := g) (load := load) (wet := wet)
  have loop : ∀ t : Int, ∀ u : kS, 1 ≤ t → t ≤ trips + 1 → off [26, 28, 29, 31, 36, 37, 61, 62] s1 u → (∀ j, j ≠ 5 → u 26 j = s1 26 j) → Lay u → RowOK u 36 → u 61 4 = 1 → FS u (tolN σ g load wet) e (ftF (tolN σ g load wet) e (σ 19 1) (σ 20) seed (t - 1).toNat) → LX11_feet_80 d kN Q 0 trips e t u := by
    refine up_to (e := trips + 1) ?_
    intro t ih u t1 t2 ho hj hLu h36 h4 hF
    have u0 : u 0 = s1 0 := ho 0 (by decide)
    have hb := ftF_b (T := tolN σ g load wet) (e := e) (m := σ 19 1) (tc := σ 20) (seed := seed) (t - 1).toNat
    refine SX11_feet_80 ⟨fun q => ⟨o_0, ?_⟩, fun q => ⟨o_0, ?_⟩⟩
    · rw [ly_0_18 hLu]
      refine ⟨o_61, Feet_trodden (by omega) hLu ?_⟩
      rw [show (t - 1).toNat = trips.toNat by omega] at hF
      have et : trodN (u 62) 1 = trodN (feetF σ g load wet seed trips e).1 1 := sm_cong (fun i i0 i1 => by
        show (if u 62 i < 1 then (0 : Int) else 1) = if (feetF σ g load wet seed trips e).1 i < 1 then 0 else 1
        rw [(hF.1 i i0 (by omega)).1]
        rfl)
      rw [et]
      obtain ⟨b1, ⟨b2, b3, b4, b5, b6, b7⟩, b8⟩ := hI1.2.1
      have ne : ∀ k, ¬ (k = 26 ∨ k = 28 ∨ k = 29 ∨ k = 31 ∨ k = 36 ∨ k = 37 ∨ k = 61 ∨ k = 62) → u k = s1 k := fun k hk => ho k (by simp only [List.mem_cons, List.not_mem_nil, or_false]; omega)
      refine h1 hOK u (FrB.off (FrB.rf.fr hk1.1) ho (fun k hk => ?_)) hLu ⟨by unfold Bes; rw [ne 27 (by decide)]; exact b1, ⟨h36, b3.cong (ne 38 (by decide)), b4.cong (ne 43 (by decide)), b5.cong (ne 45 (by decide)), b6.cong (ne 57 (by decide)), b7.cong (ne 59 (by decide))⟩, b8.cong (ne 0 (by decide)) (ne 35 (by decide)) (ne 170 (by decide)) (ne 171 (by decide)) (fun j j0 j1 => hj j (by omega))⟩ ⟨hF.1, hF.2.1.2.1, hF.2.1.2.2, h4⟩
      simp only [List.mem_cons, List.not_mem_nil, or_false] at hk ⊢
      unfold scr
      omega
    · rw [ly_0_18 hLu, ly_0_14 hLu, ly_0_9 hLu]
      have u19 : u 19 = σ 19 := by rw [ho 19 (by decide), e19]
      have u20 : u 20 = σ 20 := by rw [ho 20 (by decide), e20]
      refine ⟨o_61, Feet_goOnce (by omega) hLu (fun c k p0 p1 p2 p3 => by rw [ho 27 (by decide)]; exact hI1.2.1.1 c k p0 p1 p2 p3) (hI.2.2.2.2.1.1.cong u19 u20) (by rw [u19]; omega) ht (by omega) h36.2.1 hF (by omega) (fun s hso hsj hLs hsr hs4 hsF => ⟨by omega, ih (by omega) s (by omega) (by omega) (ho.trans hso) (fun j hj2 => (hsj j hj2).trans (hj j hj2)) hLs hsr.1 (by rw [hs4, h4]) ?_⟩)⟩
      rw [u19, u20] at hsF
      rw [Int.add_sub_cancel, ftF_s t1]
      exact hsF
  rw [ly_0_18 hI1.1]
  refine ⟨o_61, ?_⟩
  obtain ⟨d, rfl⟩ : ∃ e, d = e + 1 := ⟨d - 1, by omega⟩
  refine EX1_begin fun _ _ => SX1_begin_0 ⟨o_61, ?_⟩
  rw [ly_61_0 hI1.1]
  refine J_fill (by omega) a_62 (fun s2 e2 s3 e3 s4 e4 s5 e5 => ?_)
  have L0 : Lay (kfill s1 62 0) := lay_offI hI1.1 (off.rfl'.fil (L := [62]) (by decide)) (fun k hk => Or.inl (by simp only [List.mem_cons, List.not_mem_nil, or_false] at hk; rw [hk]; exact a_62))
  have L5 : Lay s5 := by
    rw [e5, e4, e3, e2]
    exact (((L0.kstO 1 o_61 (by decide)).kstO 2 o_61 (by decide)).kstO 3 o_61 (by decide)).kstO 4 o_61 (by decide)
  have o5 : off [61, 62] s1 s5 := by
    rw [e5, e4, e3, e2]
    exact ((((off.rfl'.fil (by decide)).kst (by decide)).kst (by decide)).kst (by decide)).kst (by decide)
  have v62 : ∀ c, 0 ≤ c → c < 120 → s5 62 c = 0 := fun c c0 c1 => by
    rw [e5, kst_k (by decide), e4, kst_k (by decide), e3, kst_k (by decide), e2, kst_k (by decide), kfill_a (by omega)]
  refine loop 1 s5 (by omega) (by omega) (o5.mono (by simp)) (fun j _ => by rw [o5 26 (by decide)]) L5 (hI1.2.1.2.1.1.cong (o5 36 (by decide))) (by rw [e5, kst_eq]) ⟨fun c c0 c1 => ⟨v62 c c0 c1, Int.le_refl _, by show (0 : Int) ≤ 99; omega⟩, ⟨?_, ?_, ?_⟩, ?_⟩
  · rw [e5, kst_kj (by decide), e4, kst_kj (by decide), e3, kst_kj (by decide), e2, kst_eq]; rfl
  · rw [e5, kst_kj (by decide), e4, kst_kj (by decide), e3, kst_eq]; rfl
  · rw [e5, kst_kj (by decide), e4, kst_eq]; rfl
  · rw [o5 28 (by decide)]
    intro x k x0 x1 k0 k1 hn
    rw [hT x k x0 x1 k0 k1 hn, easeT_at ⟨k0, k1⟩]
    have := ht x k x0 x1 k0 k1 hn
    show tolN σ g load wet (x * 8 + k) = max 1 (tolN σ g load wet (x * 8 + k) - e * 0)
    unfold tolN
    omega
theorem M_feet {d : Nat} (hd : 45 ≤ d) {s : kS} {g load wet seed trips e m : Int} {Q : Int → kS → Prop} (hL : Lay s) (h3 : s 166 3 = m) (hm0 : 0 ≤ m ∧ m ≤ 8) (hw : wet = 0 ∨ wet = 1) (hg6 : s 166 14 ≤ 6) (hG : 0 ≤ g → g < s 166 14 → GM s g) (hH : LandB (landM s)) (hc : ∀ i, 0 ≤ i → i < m → 0 ≤ s 168 i ∧ s 168 i < 120) (h0 : ¬ (((0 ≤ g ∧ g < s 166 14) ∧ 0 ≤ load ∧ load ≤ 99) ∧ 2 ≤ m ∧ (1 ≤ trips ∧ trips ≤ 40) ∧ 0 ≤ e ∧ e ≤ 9) → Q (-1) (kst s 166 0 0)) (h1 : (((0 ≤ g ∧ g < s 166 14) ∧ 0 ≤ load ∧ load ≤ 99) ∧ 2 ≤ m ∧ (1 ≤ trips ∧ trips ≤ 40) ∧ 0 ≤ e ∧ e ≤ 9) → ∀ u, off [166, 172, 177, 178, 180, 203, 204] s u → (∀ j, esf j → ¬ (61 ≤ j ∧ j ≤ 63) → u 166 j = s 166 j) → Lay u → (∀ c, 0 ≤ c → c < 120 → u 203 c = (ftF (tolT (tb s g) (tn s g) (landM s) load wet) e m (s 168) seed trips.toNat).1 c ∧ 0 ≤ u 203 c ∧ u 203 c ≤ 99) → u 166 61 = (ftF (tolT (tb s g) (tn s g) (landM s) load wet) e m (s 168) seed trips.toNat).2.1 → u 166 62 = (ftF (tolT (tb s g) (tn s g) (landM s) load wet) e m (s 168) seed trips.toNat).2.2.1 → u 166 63 = 1 → Q (trodN (ftF (tolT (tb s g) (tn s g) (landM s) load wet) e m (s 168) seed trips.toNat).1 1) u) : Ci d MX12_feet [(2, 166), (0, g), (0, load), (0, wet), (1, seed), (0, trips), (0, e)] kN s Q := by
  obtain ⟨d, rfl⟩ : ∃ e, d = e + 1 := ⟨d - 1, by omega⟩
  have k177 := kl_177
  have k203 := kl_203
  have k204 := kl_204
  refine EX12_feet fun _ _ _ _ _ _ _ => SX12_feet_0 ⟨o_166, fun s1 e1 => ?_⟩
  rw [← e1] at h0
  have L1 : Lay s1 := by rw [e1]; exact hL.kstO 0 o_166 (by decide)
  have o1 : off [166] s s1 := by rw [e1]; exact off.rfl'.kst (by decide)
  have f1 : ∀ j, j ≠ 0 → s1 166 j = s 166 j := fun j hj => by rw [e1, kst_kj hj]
  rw [f1 3 (by decide), h3]
  refine ⟨fun c => h0 (fun z => by omega), fun c => M_isManner (by omega) (fun c1 => ⟨fun e => by omega, fun _ => M_isIn (by omega) (fun c2 => ⟨fun e => by omega, fun _ => M_isIn (by omega) (fun c3 => ⟨fun _ => ?_, fun e => by omega⟩) (fun c3 => ⟨fun e => absurd rfl e, fun _ => h0 (fun z => c3 z.2.2.2)⟩)⟩) (fun c2 => ⟨fun _ => h0 (fun z => c2 z.2.2.1), fun e => absurd rfl e⟩)⟩) (fun c1 => ⟨fun _ => h0 (fun z => c1 (by rw [f1 14 (by decide)]; exact z.1)), fun e => absurd rfl e⟩)⟩
  rw [f1 14 (by decide)] at c1
  have hOK : ((0 ≤ g ∧ g < s 166 14) ∧ 0 ≤ load ∧ load ≤ 99) ∧ 2 ≤ m ∧ (1 ≤ trips ∧ trips ≤ 40) ∧ 0 ≤ e ∧ e ≤ 9 := ⟨c1, by omega, c2, c3⟩
  have eT : tolT (tb s1 g) (tn s1 g) (landM s1) load wet = tolT (tb s g) (tn s g) (landM s) load wet := by
    have a1 : landM s1 = landM s := by unfold landM; rw [o1 167 (by decide)]
    have a2 : tb s1 g = tb s g := by unfold tb mby; rw [o1 170 (by decide)]
    have a3 : tn s1 g = tn s g := by unfold tn; rw [o1 171 (by decide)]
    rw [a1, a2, a3]
  have hH1 : LandB (landM s1) := by
    have a1 : landM s1 = landM s := by unfold landM; rw [o1 167 (by decide)]
    rw [a1]; exact hH
  refine M_layPains (by omega) L1 (by omega) ((hG c1.1.1 c1.1.2).cong (o1 170 (by decide)) (o1 171 (by decide))) hw hH1 (fun s2 hs2 => ?_)
  obtain ⟨p1, p2, p3, p4⟩ := hs2
  rw [eT] at p4
  have ht : TolOK (tolT (tb s g) (tn s g) (landM s) load wet) := tolT_ok
  generalize tolT (tb s g) (tn s g) (landM s) load wet = T at *
  have o2 : off [166, 172, 177] s s2 := (o1.mono (by simp)).trans p1
  have f2 : ∀ j, esf j → s2 166 j = s 166 j := fun j hj => by
    unfold esf at hj
    rw [p2 j (by omega) (by omega) (by omega), f1 j (by omega)]
  -- the trips
  have key132 : ∀ t : Int, ∀ u : kS, 1 ≤ t → t ≤ trips + 1 → off [166, 172, 177, 178, 180, 203, 204] s u → (∀ j, esf j → ¬ (61 ≤ j ∧ j ≤ 63) → u 166 j = s 166 j) → Lay u → MF u T (ftF T e m (s 168) seed (t - 1).toNat) → u 166 61 = (ftF T e m (s 168) seed (t - 1).toNat).2.1 → u 166 62 = (ftF T e m (s 168) seed (t - 1).toNat).2.2.1 → u 166 63 = 1 → LX12_feet_132 d kN Q 166 trips e t u := by
    refine up_to (e := trips + 1) ?_
    intro t ih u t1 t2 ho hj hLu hF h61 h62 h63
    have hb := ftF_b (T := T) (e := e) (m := m) (tc := s 168) (seed := seed) (t - 1).toNat
    refine SX12_feet_132 ⟨fun q => ⟨o_166, M_trodden (by omega) hLu ?_⟩, fun q => ⟨o_166, ?_⟩⟩
    · rw [show (t - 1).toNat = trips.toNat by omega] at hF h61 h62
      have et : trodN (u 203) 1 = trodN (ftF T e m (s 168) seed trips.toNat).1 1 := sm_cong (fun i i0 i1 => by
        rw [(hF.1 i i0 (by omega)).1])
      rw [et]
      refine h1 hOK u ho hj hLu (fun c c0 c1 => ?_) h61 h62 h63
      have := hF.1 c c0 c1
      omega
    · have u168 : u 168 = s 168 := ho 168 (by decide)
      refine M_goTrip (m := m) (by omega) hLu (by rw [hj 3 (by unfold esf; omega) (by omega), h3]) (by omega) (fun i i0 i1 => by rw [u168]; exact hc i i0 i1) ht c3 hF (fun v hov hjv hLv h203 h64 => ?_)
      rw [u168] at h203 ⊢
      have hov' : off [166, 172, 177, 178, 180, 203, 204] s v := ho.trans (hov.mono (by simp))
      have hjv' : ∀ j, esf j → ¬ (61 ≤ j ∧ j ≤ 63) → v 166 j = s 166 j := fun j j1 j2 => by
        have j1' := j1
        unfold esf at j1'
        rw [hjv j (by omega) (by omega)]
        exact hj j j1 j2
      have v204 : v 204 = u 204 := hov 204 (by decide)
      have v61 : v 166 61 = (ftF T e m (s 168) seed (t - 1).toNat).2.1 := by rw [hjv 61 (by decide) (by decide), h61]
      have v62 : v 166 62 = (ftF T e m (s 168) seed (t - 1).toNat).2.2.1 := by rw [hjv 62 (by decide) (by decide), h62]
      have v63 : v 166 63 = 1 := by rw [hjv 63 (by decide) (by decide), h63]
      have hst := ftF_s (T := T) (e := e) (m := m) (tc := s 168) (seed := seed) t1
      refine ⟨fun hz => ⟨by omega, fun w1 ew1 w2 ew2 => ⟨by omega, ih (by omega) w2 (by omega) (by omega) (by rw [ew2, ew1]; exact (hov'.kst (by decide)).kst (by decide)) (fun j j1 j2 => by rw [ew2, kst_kj (by omega), ew1, kst_kj (by omega)]; exact hjv' j j1 j2) (by rw [ew2, ew1]; exact (hLv.kstO 61 o_166 (by decide)).kstO 62 o_166 (by decide)) ⟨fun c c0 c1 => ?_, ?_, ?_⟩ ?_ ?_ ?_⟩⟩, fun hz => ⟨by omega, ih (by omega) v (by omega) (by omega) hov' hjv' hLv ⟨fun c c0 c1 => ?_, ?_, ?_⟩ ?_ ?_ v63⟩⟩
      · rw [ew2, kst_k (by decide), ew1, kst_k (by decide), Int.add_sub_cancel, hst]
        have := h203 c c0 c1
        rw [this.1] at this
        exact ⟨(h203 c c0 c1).1, this.2⟩
      · rw [ew2, kst_kj (by decide), ew1, kst_kj (by decide), Int.add_sub_cancel, hst]; exact h64
      · rw [ew2, kst_k (by decide), ew1, kst_k (by decide), v204]; exact hF.2.2
      · rw [ew2, kst_kj (by decide), ew1, kst_eq, Int.add_sub_cancel, hst, v61]
        exact (if_neg hz).symm
      · rw [ew2, kst_eq, Int.add_sub_cancel, hst]
        exact (if_neg hz).symm
      · rw [ew2, kst_kj (by decide), ew1, kst_kj (by decide), v63]
      · rw [Int.add_sub_cancel, hst]
        have := h203 c c0 c1
        rw [this.1] at this
        exact ⟨(h203 c c0 c1).1, this.2⟩
      · rw [Int.add_sub_cancel, hst]; exact h64
      · rw [v204]; exact hF.2.2
      · rw [Int.add_sub_cancel, hst, v61]
        exact (if_pos (Classical.not_not.mp hz)).symm
      · rw [Int.add_sub_cancel, hst, v62]
        exact (if_pos (Classical.not_not.mp hz)).symm
  -- nothing trodden yet
  have key87 : ∀ c : Int, ∀ u : kS, 0 ≤ c → c ≤ 120 → off [166, 172, 177, 203, 204] s u → (∀ j, esf j → u 166 j = s 166 j) → Lay u → TEq (u 204) T → (∀ z, 0 ≤ z → z < c → u 203 z = 0) → LX12_feet_87 d kN Q 166 seed trips e c u := by
    refine up_to (e := 120) ?_
    intro c ih u c0 c1' ho hj hLu h204 h203
    refine SX12_feet_87 ⟨fun q => ⟨o_166, fun v1 ev1 v2 ev2 v3 ev3 v4 ev4 => ?_⟩, fun q => ⟨o_166, ?_⟩⟩
    · have L4 : Lay v4 := by
        rw [ev4, ev3, ev2, ev1]
        exact (((hLu.kstO 61 o_166 (by decide)).kstO 62 o_166 (by decide)).kstO 63 o_166 (by decide)).kstO 64 o_166 (by decide)
      have o4 : off [166] u v4 := by
        rw [ev4, ev3, ev2, ev1]
        exact (((off.rfl'.kst (by decide)).kst (by decide)).kst (by decide)).kst (by decide)
      refine key132 1 v4 (by omega) (by omega) ((ho.mono (by simp)).trans (o4.mono (by simp))) (fun j j1 j2 => ?_) L4 ⟨fun z z0 z1 => ⟨?_, Int.le_refl _, by show (0 : Int) ≤ 99; omega⟩, ?_, ?_⟩ ?_ ?_ ?_
      · have j1' := j1
        unfold esf at j1'
        rw [ev4, kst_kj (by omega), ev3, kst_kj (by omega), ev2, kst_kj (by omega), ev1, kst_kj (by omega)]
        exact hj j j1
      · rw [o4 203 (by decide)]
        exact h203 z z0 (by omega)
      · rw [ev4, kst_eq]; rfl
      · rw [o4 204 (by decide)]; exact h204
      · rw [ev4, kst_kj (by decide), ev3, kst_kj (by decide), ev2, kst_kj (by decide), ev1, kst_eq]; rfl
      · rw [ev4, kst_kj (by decide), ev3, kst_kj (by decide), ev2, kst_eq]; rfl
      · rw [ev4, kst_kj (by decide), ev3, kst_eq]
    · rw [ly_166_59 hLu]
      refine ⟨a_203, by omega, fun v ev => ⟨by omega, ih (by omega) v (by omega) (by omega) (by rw [ev]; exact ho.kst (by decide)) (fun j j1 => by rw [ev, kst_k (by decide)]; exact hj j j1) (by rw [ev]; exact hLu.kstA a_203) (by rw [ev, kst_k (by decide)]; exact h204) (fun z z0 z1 => ?_)⟩⟩
      rw [ev, kst_ap]
      by_cases ez : z = c
      · rw [if_pos ⟨rfl, ez⟩]
      · rw [if_neg (fun y => ez y.2)]
        exact h203 z z0 (by omega)
  -- the plain ones
  have key56 : ∀ k : Int, ∀ u : kS, 0 ≤ k → k ≤ 960 → off [166, 172, 177, 204] s u → (∀ j, esf j → u 166 j = s 166 j) → Lay u → u 177 = s2 177 → (∀ z, 0 ≤ z → z < k → u 204 z = s2 177 z) → LX12_feet_56 d kN Q 166 seed trips e k u := by
    refine up_to (e := 960) ?_
    intro k ih u k0 k1 ho hj hLu h177 h204
    refine SX12_feet_56 ⟨fun q => key87 0 u (by omega) (by omega) (ho.mono (by simp)) hj hLu (fun x y x0 x1 y0 y1 hn => ?_) (fun z z0 z1 => by omega), fun q => ⟨o_166, ?_⟩⟩
    · rw [h204 _ (by omega) (by omega)]
      exact p4 x y x0 x1 y0 y1 hn
    · rw [ly_166_26 hLu, ly_166_60 hLu]
      refine ⟨a_177, by omega, a_204, by omega, fun v ev => ⟨by omega, ih (by omega) v (by omega) (by omega) (by rw [ev]; exact ho.kst (by decide)) (fun j j1 => by rw [ev, kst_k (by decide)]; exact hj j j1) (by rw [ev]; exact hLu.kstA a_204) (by rw [ev, kst_k (by decide)]; exact h177) (fun z z0 z1 => ?_)⟩⟩
      rw [ev, kst_ap]
      by_cases ez : z = k
      · rw [if_pos ⟨rfl, ez⟩, h177, ez]
      · rw [if_neg (fun y => ez y.2)]
        exact h204 z z0 (by omega)
  exact key56 0 s2 (by omega) (by omega) (o2.mono (by simp)) f2 p3 rfl (fun z z0 z1 => by omega)
theorem O_feet {g load wet seed trips ea : Int} (hw : wet = 0 ∨ wet = 1) : Op MX11_feet MX12_feet [(0, g), (0, load), (0, wet), (1, seed), (0, trips), (0, ea)] := by
  intro d σ hd hI
  have hg6 := hI.2.2.2.2.2.2.1.1
  have h14 := hI.2.2.2.2.2.2.1.2.1
  have hT := hI.2.2.2.2.1
  have ht8 := towns_8 hI
  have hcell : ∀ i, 0 ≤ i → i < σ 19 1 → σ 20 i = σ 168 i ∧ 0 ≤ σ 20 i ∧ σ 20 i < 120 := fun i i0 i1 => ⟨hT.2.2.1 i i0 i1, hT.1.2 i i0 i1⟩
  refine X_feet (by omega) hI hw (fun hno => ?_) (fun hOK s hf hLs hS hE => ?_)
  · refine M_feet (by omega) hI.1 hT.2.1 ht8 hw (by rw [h14]; exact hg6.2) (fun g0 g1 => hI.2.2.2.2.2.2.1.gm ⟨g0, by rw [h14] at g1; exact g1⟩) hI.2.2.1.eq.2 (fun i i0 i1 => by have := hcell i i0 i1; omega) (fun _ => ⟨rfl, hI.keep hI.thrown⟩) (fun z => absurd ?_ hno)
    rw [h14] at z
    exact z
  · have e : ∀ k, ¬ scr k → k ≠ 0 → k ∉ [61, 62] → s k = σ k := hf.1
    have s0 : ∀ j, j = 2 ∨ j = 6 ∨ j = 8 ∨ j = 11 → s 0 j = σ 0 j := fun j hj => hf.2.1 j hj (by simp)
    have s6 : ∀ j, esf j → s 166 j = σ 166 j := fun j hj => hf.2.2 j hj (by simp)
    have e168 : s 168 = σ 168 := e 168 (by unfold scr; omega) (by decide) (by decide)
    have eTb : tb s g = tb σ g := by unfold tb mby; rw [e 170 (by unfold scr; omega) (by decide) (by decide)]
    have eTn : tn s g = tn σ g := by unfold tn; rw [e 171 (by unfold scr; omega) (by decide) (by decide)]
    have eL : landM s = landM σ := by unfold landM; rw [e 167 (by unfold scr; omega) (by decide) (by decide)]
    have s14 : s 166 14 = σ 0 6 := by rw [s6 14 (by unfold esf; omega), h14]
    have hm : 2 ≤ σ 19 1 ∧ σ 19 1 ≤ 8 := ⟨hOK.2.1, ht8.2⟩
    refine M_feet (by omega) hLs (m := σ 19 1) (by rw [s6 3 (by unfold esf; omega)]; exact hT.2.1) ht8 hw (by rw [s14]; exact hg6.2) (fun g0 g1 => (hI.2.2.2.2.2.2.1.gm ⟨g0, by rw [s14] at g1; exact g1⟩).cong (e 170 (by unfold scr; omega) (by decide) (by decide)) (e 171 (by unfold scr; omega) (by decide) (by decide))) (by rw [eL]; exact hI.2.2.1.eq.2) (fun i i0 i1 => by rw [e168]; have := hcell i i0 i1; omega) (fun z => absurd ?_ z) (fun _ u ho hj hLu h203 h61 h62 h63 => ?_)
    · rw [s14]
      exact hOK
    · have eF : ftF (tolT (tb s g) (tn s g) (landM s) load wet) ea (σ 19 1) (s 168) seed trips.toNat = feetF σ g load wet seed trips ea := by
        rw [eTb, eTn, eL, e168]
        exact ftF_cong hm (fun i i0 i1 => (hcell i i0 i1).1.symm) _
      rw [eF] at h203 h61 h62 ⊢
      have ho6 : ∀ k, k ≠ 0 → k ∉ [166, 172, 177, 178, 180, 203, 204] → u k = s k := fun k _ hk => ho k hk
      have hfu : FrB [61, 62, 203] [61, 62, 63] σ u := by
        refine ⟨fun k hs hk hl => ?_, fun j hj2 _ => ?_, fun j hj2 hn => ?_⟩
        · simp only [List.mem_cons, List.not_mem_nil, or_false] at hl
          rw [ho k (by simp only [List.mem_cons, List.not_mem_nil, or_false]; unfold scr at hs; omega)]
          exact e k hs hk (by simp only [List.mem_cons, List.not_mem_nil, or_false]; omega)
        · rw [ho 0 (by decide)]
          exact s0 j hj2
        · simp only [List.mem_cons, List.not_mem_nil, or_false] at hn
          rw [hj j hj2 (by omega)]
          exact s6 j hj2
      refine ⟨rfl, hLu, hS.offU ho6 (by rw [ho 0 (by decide)]) (by decide), Ess.upd hfu hI.2.2 (c12 := fun _ => ⟨fun c c0 c1 => ?_, ?_, ?_, ?_⟩)⟩
      · have h2 := hE.1 c c0 c1
        rw [ho 62 (by decide), h2.1, (h203 c c0 c1).1]
        exact ⟨rfl, h2.2⟩
      · rw [ho 61 (by decide), hE.2.1, h61]
      · rw [ho 61 (by decide), hE.2.2.1, h62]
      · rw [ho 61 (by decide), hE.2.2.2, h63]
