/-! operation: nearly; keepIn -/
theorem Row_keepIn {d : Nat} (hd : 2 ≤ d) {σ : kS} {r q : Int} {Q : kS → Prop} (hL : Lay σ) (hr : RowOK σ r) (hq : RowOK σ q) (hrq : r ≠ q ∧ r + 1 ≠ q ∧ r ≠ q + 1) (h : ∀ s, Lay s → off [r, r + 1] σ s → RowOK s r → rowL s r = (rowL σ r).filter (fun x => decide (x ∈ rowL σ q)) → Q s) : Cv d MX8_keepThoseIn [(2, r), (2, q)] kN σ Q := by
  obtain ⟨d, rfl⟩ : ∃ e, d = e + 1 := ⟨d - 1, by omega⟩
  have hk := klen_nn (r + 1)
  obtain ⟨r1, r2, r3⟩ := id hr
  have key : ∀ i : Int, ∀ j : Int, ∀ s : kS, 0 ≤ j → j ≤ i → i ≤ σ r 1 → off [r, r + 1] σ s → s r = σ r → (∀ k, i ≤ k → s (r + 1) k = σ (r + 1) k) → seg (s (r + 1)) 0 j ++ (seg (σ (r + 1)) i (σ r 1 - i)).filter (fun x => decide (x ∈ rowL σ q)) = (rowL σ r).filter (fun x => decide (x ∈ rowL σ q)) → LX8_keepThoseIn_4 d kN Q r q j i s := by
    refine up_to (e := σ r 1) ?_
    intro i ih j s j0 ji isz ho hs0 hs hf
    have hLs : Lay s := hL.off (fun p hp => by
      by_cases e1 : p.1 = r
      · rw [e1, hs0]
      · by_cases e2 : p.1 = r + 1
        · exfalso
          have h1 := List.all_eq_true.mp layL_ok p hp
          simp only [Bool.and_eq_true, decide_eq_true_eq] at h1
          have h2 := h1.2.2
          rw [e2, (row_arr r1).2.2] at h2
          revert h2
          simp [kkd]
        · rw [ho p.1 (by simp [e1, e2])])
    have eq1 : s q = σ q := ho q (by simp only [List.mem_cons, List.not_mem_nil, or_false]; omega)
    have eq2 : s (q + 1) = σ (q + 1) := ho (q + 1) (by simp only [List.mem_cons, List.not_mem_nil, or_false]; omega)
    have hqs : RowOK s q := ⟨hq.1, by rw [eq1]; exact hq.2.1, by rw [eq1]; exact hq.2.2⟩
    have e0 : s r 0 = r + 1 := hLs.row r1
    refine SX8_keepThoseIn_4 ?_
    rw [e0, hs0]
    refine ⟨r1, fun c s1 e1 => ?_, fun c => ⟨row_arr r1, by omega, hq.1, ?_⟩⟩
    · subst e1
      refine h _ (hLs.kstO 1 r1 (by decide)) (ho.kst (by simp)) ⟨r1, by rw [kst_eq]; exact j0, by rw [kst_eq]; omega⟩ ?_
      rw [rowL_seg, kst_eq, kst_k (by omega), ← hf, seg_nil (b := i) (by omega)]
      simp
    · refine Row_has (by omega) hLs hqs ?_
      rw [rowL_cong (r := q) eq1 eq2, hs i (Int.le_refl i)]
      rw [seg_cons (b := i) (by omega)] at hf
      refine ⟨fun c2 => ⟨by omega, ih (by omega) j s j0 (by omega) (by omega) ho hs0 (fun k hk => hs k (by omega)) ?_⟩, fun c2 => ?_⟩
      · rw [← hf, List.filter_cons]
        have : ¬ (σ (r + 1) i ∈ rowL σ q) := fun hm => by rw [if_pos hm] at c2; omega
        rw [if_neg (by simpa using this), show σ r 1 - (i + 1) = σ r 1 - i - 1 by omega]
      · rw [e0]
        refine ⟨row_arr r1, by omega, by omega, fun s2 e2 => ?_⟩
        refine ⟨by omega, by omega, ih (by omega) (j + 1) s2 (by omega) (by omega) (by omega) ?_ ?_ ?_ ?_⟩
        · rw [e2]; exact ho.kst (by simp)
        · rw [e2, kst_k (by omega)]; exact hs0
        · intro k hk
          rw [e2, kst_kj (by omega)]
          exact hs k (by omega)
        · have : σ (r + 1) i ∈ rowL σ q := Classical.byContradiction fun hm => c2 (if_neg hm)
          rw [← hf, List.filter_cons, if_pos (by simpa using this), seg_snoc j0, List.append_assoc, e2, Int.zero_add, kst_eq, hs i (Int.le_refl i), show σ r 1 - (i + 1) = σ r 1 - i - 1 by omega]
          congr 1
          apply seg_cong
          intro k k0 k1
          rw [kst_kj (by omega)]
  exact EX8_keepThoseIn fun _ => SX8_keepThoseIn_0 (key 0 0 σ (Int.le_refl 0) (Int.le_refl 0) r2 off.rfl' rfl (fun _ _ => rfl) (by rw [seg_nil (f := σ (r + 1)) (n := 0) (Int.le_refl 0), Int.sub_zero, ← rowL_seg]; rfl))
theorem Lay_rowOff {σ s : kS} {r : Int} (hL : Lay σ) (r1 : isO 8 kN r) (ho : off [r, r + 1] σ s) (hj : ∀ j, j ≠ 1 → s r j = σ r j) : Lay s := by
  refine hL.off (fun p hp => ?_)
  have h1 := List.all_eq_true.mp layL_ok p hp
  simp only [Bool.and_eq_true, decide_eq_true_eq] at h1
  by_cases e1 : p.1 = r
  · by_cases e3 : p.2.1 = 1
    · exfalso
      have h2 := h1.2.2
      have h3 := r1.2.2
      revert h2
      rw [e1, h3, e3]
      decide
    · rw [e1, hj _ e3]
  · by_cases e2 : p.1 = r + 1
    · exfalso
      have h2 := h1.2.2
      rw [e2, (row_arr r1).2.2] at h2
      revert h2
      simp [kkd]
    · rw [ho p.1 (by simp [e1, e2])]
/-- how many CELLS lie nearly on the way -/
noncomputable def nearN (T : Int → Int) (a b h cell : Int) : Int := sm (fun c => cif ((cell = -1 ∨ c = cell) ∧ ¬ sumP T b a / 1000 + sumP T b a / 1000 * h / 100 < fromP T a c + sumP T b c / 1000) 1 0) 120
theorem cif_b {p : Prop} : 0 ≤ cif p 1 0 ∧ cif p 1 0 ≤ 1 := by
  by_cases c : p
  · rw [cif_pos c]; omega
  · rw [cif_neg c]; omega
theorem sm_one {f : Int → Int} {c : Int} (hc : 0 ≤ c ∧ c < 120) (h : ∀ i, i ≠ c → f i = 0) : sm f 120 = f c := by
  have h1 := sm_up (f := fun _ => 0) (g := f) (c := c) (n := 120) hc.1 (by have := hc.2; omega) (fun i _ _ hi => h i hi)
  have h2 := sm_b (f := fun _ => 0) (B := 0) (n := 120) (fun i _ _ => by omega)
  omega
theorem Went.from {σ s s2 : kS} {T : Int → Int} {a b : Int} (ht : TolOK T) (hs : Went σ s T a b) (ha : isCel a) (h : GD (nbW 0) (wgW 0 (s 28)) a (s2 30)) : ∀ c, 0 ≤ c → c < 120 → s2 30 c / 128 = fromP T a c := by
  have hT := hs.2.2.2.2.2.1
  have ht2 : TolOK (s 28) := TolOK.tcong (fun c k c0 c1 k0 k1 hn => (hT c k c0 c1 k0 k1 hn).symm) ht
  exact fromP_eq ht (GD.tcong hT (h.half ht2 ha))
theorem mul_b {x h B : Int} (h0 : 0 ≤ x ∧ x ≤ B) (h1 : 0 ≤ h ∧ h ≤ 100) : 0 ≤ x * h ∧ x * h ≤ B * 100 := ⟨Int.mul_nonneg h0.1 h1.1, Int.mul_le_mul h0.2 h1.2 h1.1 (by omega)⟩
theorem wOff.keep {σ s : kS} (hI : Inv σ) (h : wOff 30 σ s) (hL : Lay s) : Keep σ s :=
  ⟨Fr.offX h.1 (by decide), hL, hI.2.1.cong (h.1 0 (by decide)) (fun k hk => h.1 k (by simp only [List.mem_cons, List.not_mem_nil, or_false]; omega)) (fun j j0 j1 => h.2 j (by omega))⟩
theorem O_nearly {g load wet a b h c : Int} (hw : wet = 0 ∨ wet = 1) : Op MX11_nearly MX12_nearly [(0, g), (0, load), (0, wet), (0, a), (0, b), (0, h), (0, c)] := by
  refine Op.of (fun σ => cif (isWy σ g load a b ∧ (0 ≤ h ∧ h ≤ 100) ∧ (c = -1 ∨ isCel c)) (nearN (tolN σ g load wet) a b h c) (-1)) (fun σ s _ hk => ?_) (fun d σ Q hd hI hq => ?_) (fun d σ Q hd hI hq => ?_)
  · show cif _ _ _ = cif _ _ _
    rw [isWy_fr hk.1, tolN_fr hk.1]
  · obtain ⟨d, rfl⟩ : ∃ e, d = e + 1 := ⟨d - 1, by omega⟩
    have hno : ¬ (isWy σ g load a b ∧ (0 ≤ h ∧ h ≤ 100) ∧ (c = -1 ∨ isCel c)) → Q (-1) σ := fun z => by
      have := hq σ hI.self
      simp only [cif_neg z] at this
      exact this
    refine EX11_nearly fun _ _ _ _ _ _ _ _ => SX11_nearly_0 ⟨fun q => hno (fun z => by omega), fun q1 => ⟨fun q => hno (fun z => by omega), fun q2 => X_isCellOrNone (by omega) (fun c1 => ⟨fun _ => ⟨o_0, ?_⟩, fun e => by omega⟩) (fun c1 => ⟨fun e => absurd rfl e, fun _ => hno (fun z => c1 z.2.2)⟩)⟩⟩
    rw [ly_0_0 hI.1]
    refine XI_goes (by omega) hI hw (fun cw s hs => ⟨fun _ => ?_, fun e => by omega⟩) (fun cw => ⟨fun e => absurd rfl e, fun _ => hno (fun z => cw z.1)⟩)
    have hLs := hs.1.2.1
    have hIs := hI.keep hs.1
    have hza := hs.2.2.2.2.1 a cw.2.1.1 cw.2.1.2
    have hm := mul_b (x := sumP (tolN σ g load wet) b a / 1000) (B := 1200000) ⟨by omega, by omega⟩ (show 0 ≤ h ∧ h ≤ 100 by omega)
    have hT := hs.2.2.2.2.2.1
    have ht2 : TolOK (s 28) := TolOK.tcong (fun c k c0 c1 k0 k1 hn => (hT c k c0 c1 k0 k1 hn).symm) tolH_ok
    rw [ly_0_14 hLs]
    refine ⟨o_26, Ways_least (by omega) hLs cw.2.1 hza.2.1 ?_⟩
    rw [hza.1, ly_0_14 hLs]
    refine ⟨by omega, by omega, by omega, o_26, Ways_spreadFrom (by omega) hLs hs.1.2.2.1 ht2 cw.2.1 (fun s2 ho2 hL2 hG2 hb2 => ?_)⟩
    have hk2 : Keep σ s2 := hs.1.trans (ho2.keep hIs hL2)
    have hF := hs.from tolH_ok cw.2.1 hG2
    have e29 : s2 29 = s 29 := ho2.1 29 (by decide)
    have hthr : ∀ z, 0 ≤ z → z < 120 → s2 30 z / 128 + s2 29 z / 128 = fromP (tolN σ g load wet) a z + sumP (tolN σ g load wet) b z / 1000 ∧ (0 ≤ s2 29 z ∧ s2 29 z ≤ 153600120) ∧ (0 ≤ s2 30 z ∧ s2 30 z ≤ 153600120) := fun z z0 z1 => by
      have h1 := hF z z0 z1
      have h2 := hs.2.2.2.2.1 z z0 z1
      have h3 := hG2.2.1 z z0 z1
      have h4 := hb2 z z0 z1
      rw [e29]
      exact ⟨by rw [h1, h2.1]; rfl, h2.2, h3, h4⟩
    have hgo := hq s2 hk2
    simp only [cif_pos (show isWy σ g load a b ∧ (0 ≤ h ∧ h ≤ 100) ∧ (c = -1 ∨ isCel c) from ⟨cw, by omega, c1⟩)] at hgo
    rw [ly_0_14 hL2]
    refine ⟨fun cn => ?_, fun cn => ⟨o_26, ?_⟩⟩
    · have key : ∀ i many : Int, 0 ≤ i → i ≤ 120 → many = sm (fun z => cif ((c = -1 ∨ z = c) ∧ ¬ sumP (tolN σ g load wet) b a / 1000 + sumP (tolN σ g load wet) b a / 1000 * h / 100 < fromP (tolN σ g load wet) a z + sumP (tolN σ g load wet) b z / 1000) 1 0) i.toNat → LX11_nearly_107 d kN Q 0 (sumP (tolN σ g load wet) b a / 1000 + sumP (tolN σ g load wet) b a / 1000 * h / 100) many i s2 := by
        refine up_to (e := 120) ?_
        intro i ih many i0 i1 hmn
        have hss := sm_s (f := fun z => cif ((c = -1 ∨ z = c) ∧ ¬ sumP (tolN σ g load wet) b a / 1000 + sumP (tolN σ g load wet) b a / 1000 * h / 100 < fromP (tolN σ g load wet) a z + sumP (tolN σ g load wet) b z / 1000) 1 0) i0
        have hbb := sm_1 (f := fun z => cif ((c = -1 ∨ z = c) ∧ ¬ sumP (tolN σ g load wet) b a / 1000 + sumP (tolN σ g load wet) b a / 1000 * h / 100 < fromP (tolN σ g load wet) a z + sumP (tolN σ g load wet) b z / 1000) 1 0) (n := i.toNat) (fun _ _ _ => cif_b)
        rw [k_toNat i0] at hbb
        refine SX11_nearly_107 ⟨fun e => ?_, fun e => ?_⟩
        · rw [show i = 120 by omega] at hmn
          rw [hmn]
          exact hgo
        · have hz := hthr i i0 (by omega)
          rw [ly_0_14 hL2]
          refine ⟨o_0, o_26, Ways_through (by omega) hL2 ⟨i0, by omega⟩ hz.2.1 hz.2.2 ?_⟩
          rw [hz.1]
          refine ⟨fun q => ⟨by omega, ih (by omega) many (by omega) (by omega) ?_⟩, fun q => ⟨by omega, by omega, ih (by omega) (many + 1) (by omega) (by omega) ?_⟩⟩
          · rw [hss, cif_neg (fun z => z.2 q)]
            omega
          · rw [hss, cif_pos ⟨Or.inl cn, q⟩]
            omega
      exact key 0 0 (by omega) (by omega) rfl
    · have cc : isCel c := c1.resolve_left cn
      have hz := hthr c cc.1 cc.2
      have h1 := sm_one (f := fun z => cif ((c = -1 ∨ z = c) ∧ ¬ sumP (tolN σ g load wet) b a / 1000 + sumP (tolN σ g load wet) b a / 1000 * h / 100 < fromP (tolN σ g load wet) a z + sumP (tolN σ g load wet) b z / 1000) 1 0) cc (fun i hi => cif_neg (fun z => z.1.elim cn hi))
      refine Ways_through (by omega) hL2 cc hz.2.1 hz.2.2 ?_
      rw [hz.1]
      unfold nearN at hgo
      rw [h1] at hgo
      refine ⟨fun q => ?_, fun q => ?_⟩
      · rw [cif_neg (fun z => z.2 q)] at hgo
        exact hgo
      · rw [cif_pos ⟨Or.inr rfl, q⟩] at hgo
        exact hgo
  · obtain ⟨d, rfl⟩ : ∃ e, d = e + 1 := ⟨d - 1, by omega⟩
    refine EX12_nearly fun _ _ _ _ _ _ _ _ => SX12_nearly_0 ⟨o_166, fun s1 e1 => ?_⟩
    have hk1 : Keep σ s1 := by rw [e1]; exact hI.thrown
    have hI1 := hI.keep hk1
    have hq1 : ∀ s, Keep s1 s → Q (cif (isWy s1 g load a b ∧ (0 ≤ h ∧ h ≤ 100) ∧ (c = -1 ∨ isCel c)) (nearN (tolN s1 g load wet) a b h c) (-1)) s := fun s hs => by
      have := hq s (hk1.trans hs)
      rw [isWy_fr hk1.1, tolN_fr hk1.1]
      exact this
    have hno : ¬ (isWy s1 g load a b ∧ (0 ≤ h ∧ h ≤ 100) ∧ (c = -1 ∨ isCel c)) → Q (-1) s1 := fun z => by
      have := hq1 s1 hI1.self
      simp only [cif_neg z] at this
      exact this
    have go : isWy s1 g load a b → (0 ≤ h ∧ h ≤ 100) → (c = -1 ∨ isCel c) → ∀ {n : Nat}, n = d → ∀ {R : kS → Prop}, (∀ s3, Keep s1 s3 → (∀ z, 0 ≤ z → z < 120 → s3 178 z = sumP (tolN s1 g load wet) b z ∧ (0 ≤ s3 178 z ∧ s3 178 z ≤ 1190000119) ∧ s3 179 z = fromP (tolN s1 g load wet) a z ∧ 0 ≤ s3 179 z ∧ s3 179 z ≤ 1190000) → R s3) → Cv n MX12_layWay [(2, 166), (0, g), (0, load), (0, wet), (0, a), (0, b)] kN s1 (fun s4 => Cv n MX12_layFrom [(2, 166), (0, a)] kN s4 R) := by
      intro cw _ _ n hn R hR
      subst hn
      refine MI_layWay (by omega) hI1 hw cw (fun s2 hs2 => ?_)
      have hT := hs2.2.2.2.2.2.2.2.2
      have hk2 := hs2.keep hI1
      have ht2 : TolOK (s2 177) := TolOK.tcong (fun c k c0 c1 k0 k1 hn => (hT c k c0 c1 k0 k1 hn).symm) tolH_ok
      refine M_layFrom (by omega) hs2.2.2.1 ht2 cw.2.1 (fun s3 ho hL3 hG hb => hR s3 (hk2.trans (M_keep (hI1.keep hk2) ho hL3 (by decide) (fun j _ => by rw [ho 166 (by decide)]))) (fun z z0 z1 => ?_))
      have h1 := hs2.2.2.2.2.2.2.2.1 z z0 z1
      have h2 := fromP_eq tolH_ok (GD.tcong hT hG) z z0 z1
      rw [ho 178 (by decide)]
      exact ⟨h1.1, h1.2, h2, hG.2.1 z z0 z1, hb z z0 z1⟩
    have loop : isWy s1 g load a b → (0 ≤ h ∧ h ≤ 100) → (c = -1 ∨ isCel c) → ∀ s3, Keep s1 s3 → (∀ z, 0 ≤ z → z < 120 → s3 178 z = sumP (tolN s1 g load wet) b z ∧ (0 ≤ s3 178 z ∧ s3 178 z ≤ 1190000119) ∧ s3 179 z = fromP (tolN s1 g load wet) a z ∧ 0 ≤ s3 179 z ∧ s3 179 z ≤ 1190000) → isA 20 kN (s3 166 27) ∧ (((0 : Int) ≤ a ∧ a < klen (s3 166 27)) ∧ (((0 : Int) ≤ (s3 (s3 166 27) a)) ∧ ((-2147483648 ≤ (((s3 (s3 166 27) a) / 1000) * h) ∧ (((s3 (s3 166 27) a) / 1000) * h) ≤ 2147483647) ∧ (((0 : Int) ≤ (((s3 (s3 166 27) a) / 1000) * h)) ∧ ((-2147483648 ≤ (((s3 (s3 166 27) a) / 1000) + ((((s3 (s3 166 27) a) / 1000) * h) / 100)) ∧ (((s3 (s3 166 27) a) / 1000) + ((((s3 (s3 166 27) a) / 1000) * h) / 100)) ≤ 2147483647) ∧ (LX12_nearly_94 d kN Q 166 c (((s3 (s3 166 27) a) / 1000) + ((((s3 (s3 166 27) a) / 1000) * h) / 100)) 0 0 s3)))))) := by
      intro cw ch cc s3 hk3 hz
      have hL3 := hk3.2.1
      have k178 := kl_178
      have k179 := kl_179
      have hca := cw.2.1
      unfold isCel at hca
      have hza := hz a hca.1 hca.2
      have hm := mul_b (x := s3 178 a / 1000) (B := 1200000) ⟨by omega, by omega⟩ ch
      rw [ly_166_27 hL3]
      refine ⟨a_178, by omega, by omega, by omega, by omega, by omega, ?_⟩
      rw [hza.1]
      have hgo := hq1 s3 hk3
      simp only [cif_pos (show isWy s1 g load a b ∧ (0 ≤ h ∧ h ≤ 100) ∧ (c = -1 ∨ isCel c) from ⟨cw, ch, cc⟩)] at hgo
      have key : ∀ i many : Int, 0 ≤ i → i ≤ 120 → many = sm (fun z => cif ((c = -1 ∨ z = c) ∧ ¬ sumP (tolN s1 g load wet) b a / 1000 + sumP (tolN s1 g load wet) b a / 1000 * h / 100 < fromP (tolN s1 g load wet) a z + sumP (tolN s1 g load wet) b z / 1000) 1 0) i.toNat → LX12_nearly_94 d kN Q 166 c (sumP (tolN s1 g load wet) b a / 1000 + sumP (tolN s1 g load wet) b a / 1000 * h / 100) many i s3 := by
        refine up_to (e := 120) ?_
        intro i ih many i0 i1 hmn
        have hss := sm_s (f := fun z => cif ((c = -1 ∨ z = c) ∧ ¬ sumP (tolN s1 g load wet) b a / 1000 + sumP (tolN s1 g load wet) b a / 1000 * h / 100 < fromP (tolN s1 g load wet) a z + sumP (tolN s1 g load wet) b z / 1000) 1 0) i0
        have hbb := sm_1 (f := fun z => cif ((c = -1 ∨ z = c) ∧ ¬ sumP (tolN s1 g load wet) b a / 1000 + sumP (tolN s1 g load wet) b a / 1000 * h / 100 < fromP (tolN s1 g load wet) a z + sumP (tolN s1 g load wet) b z / 1000) 1 0) (n := i.toNat) (fun _ _ _ => cif_b)
        rw [k_toNat i0] at hbb
        refine SX12_nearly_94 ⟨fun e => ?_, fun e => ?_⟩
        · rw [show i = 120 by omega] at hmn
          rw [hmn]
          exact hgo
        · have hzi := hz i i0 (by omega)
          rw [ly_166_27 hL3, ly_166_28 hL3, hzi.2.2.1, hzi.1]
          have yes : ¬ (sumP (tolN s1 g load wet) b a / 1000 + sumP (tolN s1 g load wet) b a / 1000 * h / 100 < fromP (tolN s1 g load wet) a i + sumP (tolN s1 g load wet) b i / 1000) → (c = -1 ∨ i = c) → (-2147483648 ≤ many + 1 ∧ many + 1 ≤ 2147483647) ∧ ((-2147483648 ≤ i + 1 ∧ i + 1 ≤ 2147483647) ∧ (LX12_nearly_94 d kN Q 166 c (sumP (tolN s1 g load wet) b a / 1000 + sumP (tolN s1 g load wet) b a / 1000 * h / 100) (many + 1) (i + 1) s3)) := fun q qc => ⟨by omega, by omega, ih (by omega) (many + 1) (by omega) (by omega) (by rw [hss, cif_pos ⟨qc, q⟩]; omega)⟩
          have no : ¬ ((c = -1 ∨ i = c) ∧ ¬ sumP (tolN s1 g load wet) b a / 1000 + sumP (tolN s1 g load wet) b a / 1000 * h / 100 < fromP (tolN s1 g load wet) a i + sumP (tolN s1 g load wet) b i / 1000) → (-2147483648 ≤ many + 0 ∧ many + 0 ≤ 2147483647) ∧ ((-2147483648 ≤ i + 1 ∧ i + 1 ≤ 2147483647) ∧ (LX12_nearly_94 d kN Q 166 c (sumP (tolN s1 g load wet) b a / 1000 + sumP (tolN s1 g load wet) b a / 1000 * h / 100) (many + 0) (i + 1) s3)) := fun q => ⟨by omega, by omega, ih (by omega) (many + 0) (by omega) (by omega) (by rw [hss, cif_neg q]; omega)⟩
          have hx := hzi.2.1
          have hy := hzi.2.2.2
          rw [hzi.1] at hx
          rw [hzi.2.2.1] at hy
          exact ⟨fun q => ⟨o_166, a_179, by omega, a_178, by omega, by omega, by omega, fun q2 => no (fun z => z.2 q2), fun q2 => yes q2 (Or.inl q)⟩, fun q => ⟨fun q2 => no (fun z => z.1.elim q q2), fun q2 => ⟨o_166, a_179, by omega, a_178, by omega, by omega, by omega, fun q3 => no (fun z => z.2 q3), fun q3 => yes q3 (Or.inr (Classical.not_not.mp q2))⟩⟩⟩
      exact key 0 0 (by omega) (by omega) rfl
    refine MI_isWay (by omega) hI1 (fun cw => ⟨fun e => by omega, fun _ => M_isIn (by omega) (fun ch => ⟨fun e => by omega, fun _ => ⟨fun cn => go cw ch (Or.inl cn) rfl (loop cw ch (Or.inl cn)), fun cn => M_isCell (by omega) (fun cc => ⟨fun _ => go cw ch (Or.inr cc) rfl (loop cw ch (Or.inr cc)), fun e => by omega⟩) (fun cc => ⟨fun e => absurd rfl e, fun _ => hno (fun z => z.2.2.elim cn cc)⟩)⟩⟩) (fun ch => ⟨fun _ => hno (fun z => ch z.2.1), fun e => absurd rfl e⟩)⟩) (fun cw => ⟨fun _ => hno (fun z => cw z.1), fun e => absurd rfl e⟩)
