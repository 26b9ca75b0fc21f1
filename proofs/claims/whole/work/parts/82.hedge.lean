/-! alike, hedge -/
theorem far0 {σ : kS} {l v c : Int} (v0 : 0 ≤ v) (h : ∀ far, 0 ≤ far → far < 120 → (v ≤ far ↔ ∃ z ∈ rowL σ (146 + 2 * l), nearXY (c % 12 - 0) (c / 12 - 0) far z)) : v = 0 ↔ c ∈ rowL σ (146 + 2 * l) := by
  have h0 := h 0 (by omega) (by omega)
  constructor
  · intro e
    obtain ⟨z, hz, hn⟩ := h0.mp (by omega)
    unfold nearXY at hn
    rw [show c = z by omega]
    exact hz
  · intro hm
    have := h0.mpr ⟨c, hm, by unfold nearXY; omega⟩
    omega
noncomputable def alA (σ : kS) (l k : Int) : Int := cif ((0 ≤ l ∧ l < σ 0 11) ∧ 1 ≤ k ∧ k ≤ 99) (sm (fun c => cif (¬ σ 62 c < k ∧ c ∈ rowL σ (146 + 2 * l)) 1 0) 120) (-1)
theorem alA_fr {σ s : kS} (hI : Inv σ) (h : Fr σ s) {l k : Int} : alA s l k = alA σ l k := by
  have hn := hI.2.2.2.2.2.2.2.2.1.1
  unfold alA
  rw [h.e0, h.1 62 (by unfold scr; omega)]
  by_cases c : (0 ≤ l ∧ l < σ 0 11) ∧ 1 ≤ k ∧ k ≤ 99
  · rw [cif_pos c, cif_pos c, rowL_line h (by omega)]
  · rw [cif_neg c, cif_neg c]
theorem O_alike {l k : Int} : Op MX11_alike MX12_alike [(0, l), (0, k)] := by
  refine Op.of (fun σ => alA σ l k) (fun σ s hI hk => alA_fr hI hk.1) (fun d σ Q hd hI h => ?_) (fun d σ Q hd hI h => ?_)
  · obtain ⟨d, rfl⟩ : ∃ e, d = e + 1 := ⟨d - 1, by omega⟩
    have hs := h σ hI.self
    have hC := hI.2.2.2.2.2.2.2.2.1
    have hn := hC.1
    have k21 := kl_21
    have k62 := kl_62
    unfold alA at hs
    have hno : ¬ ((0 ≤ l ∧ l < σ 0 11) ∧ 1 ≤ k ∧ k ≤ 99) → Q (-1) σ := fun z => by
      rw [cif_neg z] at hs
      exact hs
    refine EX11_alike fun _ _ _ => SX11_alike_0 ⟨o_0, X_isLine (by omega) (fun c1 => ⟨fun e => by omega, fun _ => X_isOften (by omega) (fun c2 => ⟨fun _ => ?_, fun e => by omega⟩) (fun c2 => ⟨fun e => absurd rfl e, fun _ => hno (fun z => c2 z.2)⟩)⟩) (fun c1 => ⟨fun _ => hno (fun z => c1 z.1), fun e => absurd rfl e⟩)⟩
    rw [cif_pos ⟨c1, c2⟩] at hs
    have hla := line_at hI.1 (i := l) (by omega)
    have hr := (hC.2.2 l c1.1 c1.2).1
    have key : ∀ c many : Int, 0 ≤ c → c ≤ 120 → many = sm (fun c => cif (¬ σ 62 c < k ∧ c ∈ rowL σ (146 + 2 * l)) 1 0) c.toNat → LX11_alike_22 d kN Q 0 l k many c σ := by
      refine up_to (e := 120) ?_
      intro c ih many c0 c120 hm
      have hss := sm_s (f := fun c => cif (¬ σ 62 c < k ∧ c ∈ rowL σ (146 + 2 * l)) 1 0) c0
      have hbb := sm_1 (f := fun c => cif (¬ σ 62 c < k ∧ c ∈ rowL σ (146 + 2 * l)) 1 0) (n := c.toNat) (fun _ _ _ => cif_b)
      rw [k_toNat c0] at hbb
      refine SX11_alike_22 ⟨fun e => ?_, fun e => ?_⟩
      · rw [show c = 120 by omega] at hm
        rw [hm]
        exact hs
      · rw [ly_0_18 hI.1, ly_61_0 hI.1, ly_0_10 hI.1, hla.1]
        refine ⟨o_0, o_61, a_62, by omega, fun q => ⟨by omega, ih (by omega) many (by omega) (by omega) ?_⟩, fun q => ⟨a_21, by omega, hla.2.1, Row_has (by omega) hI.1 hr.1 ⟨fun q2 => ⟨by omega, ih (by omega) many (by omega) (by omega) ?_⟩, fun q2 => ⟨by omega, by omega, ih (by omega) _ (by omega) (by omega) ?_⟩⟩⟩⟩
        · rw [hss, hm, cif_neg (fun z => z.1 q)]
          omega
        · have : ¬ c ∈ rowL σ (146 + 2 * l) := fun z => by rw [if_pos z] at q2; omega
          rw [hss, hm, cif_neg (fun z => this z.2)]
          omega
        · have : c ∈ rowL σ (146 + 2 * l) := Classical.byContradiction fun z => q2 (if_neg z)
          rw [hss, hm, cif_pos ⟨q, this⟩]
    exact key 0 0 (by omega) (by omega) rfl
  · obtain ⟨d, rfl⟩ : ∃ e, d = e + 1 := ⟨d - 1, by omega⟩
    have k203 := kl_203
    refine EX12_alike fun _ _ _ => SX12_alike_0 ⟨o_166, fun s1 e1 => ?_⟩
    have hk1 : Keep σ s1 := by rw [e1]; exact hI.thrown
    have hI1 := hI.keep hk1
    have hs := h s1 hk1
    rw [← alA_fr hI hk1.1] at hs
    have hC := hI1.2.2.2.2.2.2.2.2.1
    have hT := hI1.2.2.2.2.2.2.2.2.2.2.2.2.2.1
    have h34 := hC.2.1
    unfold alA at hs
    have hno : ¬ ((0 ≤ l ∧ l < s1 0 11) ∧ 1 ≤ k ∧ k ≤ 99) → Q (-1) s1 := fun z => by
      rw [cif_neg z] at hs
      exact hs
    refine M_isLine (by omega) (fun c1 => ⟨fun e => by omega, fun _ => M_isIn (by omega) (fun c2 => ⟨fun _ => ?_, fun e => by omega⟩) (fun c2 => ⟨fun e => absurd rfl e, fun _ => hno (fun z => c2 z.2)⟩)⟩) (fun c1 => ⟨fun _ => hno (fun z => by omega), fun e => absurd rfl e⟩)
    have c1' : 0 ≤ l ∧ l < s1 0 11 := by omega
    rw [cif_pos ⟨c1', c2⟩] at hs
    have key : ∀ c many : Int, 0 ≤ c → c ≤ 120 → many = sm (fun c => cif (¬ s1 62 c < k ∧ c ∈ rowL s1 (146 + 2 * l)) 1 0) c.toNat → LX12_alike_30 d kN Q 166 l k many c s1 := by
      refine up_to (e := 120) ?_
      intro c ih many c0 c120 hm
      have hss := sm_s (f := fun c => cif (¬ s1 62 c < k ∧ c ∈ rowL s1 (146 + 2 * l)) 1 0) c0
      have hbb := sm_1 (f := fun c => cif (¬ s1 62 c < k ∧ c ∈ rowL s1 (146 + 2 * l)) 1 0) (n := c.toNat) (fun _ _ _ => cif_b)
      rw [k_toNat c0] at hbb
      refine SX12_alike_30 ⟨fun e => ?_, fun e => ?_⟩
      · rw [show c = 120 by omega] at hm
        rw [hm]
        exact hs
      · rw [ly_166_59 hI1.1, ← (hT c c0 (by omega)).1]
        refine ⟨o_166, a_203, by omega, fun q => ⟨by omega, by omega, ih (by omega) _ (by omega) (by omega) ?_⟩, fun q => M_farFrom (by omega) hI1.1 hC c1' ⟨c0, by omega⟩ (inLand0 hC c1') (by omega) (fun v v0 hv => ⟨fun q2 => ⟨by omega, by omega, ih (by omega) _ (by omega) (by omega) ?_⟩, fun q2 => ⟨by omega, by omega, ih (by omega) _ (by omega) (by omega) ?_⟩⟩)⟩
        · rw [hss, hm, cif_neg (fun z => z.1 q)]
        · rw [hss, hm, cif_neg (fun z => q2 ((far0 v0 hv).mpr z.2))]
        · rw [hss, hm, cif_pos ⟨q, (far0 v0 hv).mp (Classical.not_not.mp q2)⟩]
    exact key 0 0 (by omega) (by omega) rfl
/-! hedge -/
def byD (d : Int) : Int := dy d * 12 + dx d
theorem dir4 {d : Int} (h : 2 ≤ d ∧ d ≤ 5) : (d = 2 ∧ dx d = 1 ∧ dy d = 0) ∨ (d = 3 ∧ dx d = 1 ∧ dy d = 1) ∨ (d = 4 ∧ dx d = 0 ∧ dy d = 1) ∨ (d = 5 ∧ dx d = -1 ∧ dy d = 1) := by
  have := dxy (d := d) (by omega)
  omega
theorem stays_mono {c d j k : Int} (hd : 2 ≤ d ∧ d ≤ 5) (hc : 0 ≤ c ∧ c < 120) (hj : 0 ≤ j ∧ j ≤ k) (h : stays c d k) : stays c d j := by
  unfold stays at h ⊢
  rcases dir4 hd with ⟨_, e1, e2⟩ | ⟨_, e1, e2⟩ | ⟨_, e1, e2⟩ | ⟨_, e1, e2⟩ <;> rw [e1, e2] at h ⊢ <;> omega
theorem stays_cell {c d k : Int} (hd : 2 ≤ d ∧ d ≤ 5) (hc : 0 ≤ c ∧ c < 120) (hk : 0 ≤ k) (h : stays c d k) : 0 ≤ c + byD d * k ∧ c + byD d * k < 120 := by
  unfold stays at h
  unfold byD
  rcases dir4 hd with ⟨_, e1, e2⟩ | ⟨_, e1, e2⟩ | ⟨_, e1, e2⟩ | ⟨_, e1, e2⟩ <;> rw [e1, e2] at h ⊢ <;> omega
theorem stays_step {c d k : Int} (hd : 2 ≤ d ∧ d ≤ 5) (hc : 0 ≤ c ∧ c < 120) (hk : 0 ≤ k) (h : stays c d k) : (stays c d (k + 1) → stp (c + byD d * k) d = c + byD d * (k + 1)) ∧ (¬ stays c d (k + 1) → stp (c + byD d * k) d = -1) := by
  have hcell := stays_cell hd hc hk h
  unfold stays at h ⊢
  unfold byD stp
  unfold byD at hcell
  rcases dir4 hd with ⟨_, e1, e2⟩ | ⟨_, e1, e2⟩ | ⟨_, e1, e2⟩ | ⟨_, e1, e2⟩ <;> rw [e1, e2] at h hcell ⊢ <;> refine ⟨fun q => ?_, fun q => ?_⟩ <;> first | (rw [if_pos (by omega)]; omega) | (rw [if_neg (by omega)])
theorem byD_b {d : Int} (hd : 2 ≤ d ∧ d ≤ 5) : 0 ≤ byD d ∧ byD d ≤ 13 := by
  unfold byD
  rcases dir4 hd with ⟨_, e1, e2⟩ | ⟨_, e1, e2⟩ | ⟨_, e1, e2⟩ | ⟨_, e1, e2⟩ <;> rw [e1, e2] <;> omega
def lieP (σ : kS) (l c d many : Int) : Prop := ∀ k, 0 ≤ k → k < many → c + byD d * k ∈ rowL σ (146 + 2 * l)
theorem X_lies {e : Nat} (he : 2 ≤ e) {σ : kS} {l c d many : Int} {Q : Int → kS → Prop} (hL : Lay σ) (hr : RowOK σ (146 + 2 * l)) (hd : 2 ≤ d ∧ d ≤ 5) (hc : 0 ≤ c ∧ c < 120) (hm : 2 ≤ many ∧ many ≤ 12) (h1 : lieP σ l c d many → Q 1 σ) (h0 : ¬ lieP σ l c d many → Q 0 σ) : Ci e MX11_lies [(2, 146 + 2 * l), (0, c), (0, d), (0, many)] kN σ Q := by
  obtain ⟨e, rfl⟩ : ∃ f, e = f + 1 := ⟨e - 1, by omega⟩
  have hb := byD_b hd
  have key : ∀ i : Int, 0 ≤ i → i ≤ many → (∀ k, 0 ≤ k → k < i → c + byD d * k ∈ rowL σ (146 + 2 * l)) → LX11_lies_19 e kN Q (146 + 2 * l) c many (byD d) i σ := by
    refine up_to (e := many) ?_
    intro i ih i0 i1 hh
    have q1 := Int.mul_nonneg hb.1 i0
    have q2 : byD d * i ≤ 13 * 12 := Int.mul_le_mul hb.2 (by omega) i0 (by omega)
    refine SX11_lies_19 ⟨fun q => h1 (fun k k0 k1 => hh k k0 (by omega)), fun q => ⟨by omega, by omega, hr.1, Row_has (by omega) hL hr ⟨fun q3 => ⟨by omega, ih (by omega) (by omega) (by omega) (fun k k0 k1 => ?_)⟩, fun q3 => h0 (fun z => ?_)⟩⟩⟩
    · by_cases ek : k = i
      · rw [ek]
        exact Classical.byContradiction fun z => q3 (if_neg z)
      · exact hh k k0 (by omega)
    · rw [if_pos (z i i0 (by omega))] at q3
      omega
  refine EX11_lies fun _ _ _ _ => SX11_lies_0 ⟨by omega, ?_⟩
  have e1 : kSouth.getD (Int.toNat d) 0 = dy d := rfl
  have e2 : kEast.getD (Int.toNat d) 0 = dx d := rfl
  have hxy := dir4 hd
  rw [e1, e2]
  exact ⟨by omega, by omega, key 0 (by omega) (by omega) (fun k k0 k1 => by omega)⟩
noncomputable def hgG (σ : kS) (l many w c d : Int) : Int := cif (stays c d (many - 1) ∧ (w = 1 ∨ lieP σ l c d many)) 1 0
noncomputable def hgS (σ : kS) (l many w : Int) : Int := sm (fun c => sm (fun j => hgG σ l many w c (j + 2)) 4) 120
noncomputable def hgA (σ : kS) (l many w : Int) : Int := cif ((0 ≤ l ∧ l < σ 0 11) ∧ (2 ≤ many ∧ many ≤ 12) ∧ 0 ≤ w ∧ w ≤ 1) (hgS σ l many w) (-1)
theorem hgA_fr {σ s : kS} (hI : Inv σ) (h : Fr σ s) {l many w : Int} : hgA s l many w = hgA σ l many w := by
  have hn := hI.2.2.2.2.2.2.2.2.1.1
  unfold hgA
  rw [h.e0]
  by_cases c : (0 ≤ l ∧ l < σ 0 11) ∧ (2 ≤ many ∧ many ≤ 12) ∧ 0 ≤ w ∧ w ≤ 1
  · rw [cif_pos c, cif_pos c]
    unfold hgS hgG lieP
    rw [rowL_line h (by omega)]
  · rw [cif_neg c, cif_neg c]
theorem sm4_b {f : Int → Int → Int} (h : ∀ c j, 0 ≤ f c j ∧ f c j ≤ 1) (n : Nat) : 0 ≤ sm (fun c => sm (fun j => f c j) 4) n ∧ sm (fun c => sm (fun j => f c j) 4) n ≤ 4 * n :=
  sm_b (B := 4) (fun i _ _ => by
    have := sm_1 (f := fun j => f i j) (n := 4) (fun j _ _ => h i j)
    omega)
theorem O_hedge {l many w : Int} : Op MX11_hedge MX12_hedge [(0, l), (0, many), (0, w)] := by
  refine Op.of (fun σ => hgA σ l many w) (fun σ s hI hk => hgA_fr hI hk.1) (fun d σ Q hd hI h => ?_) (fun d σ Q hd hI h => ?_)
  · obtain ⟨d, rfl⟩ : ∃ e, d = e + 1 := ⟨d - 1, by omega⟩
    have hs := h σ hI.self
    have hC := hI.2.2.2.2.2.2.2.2.1
    have hn := hC.1
    have k21 := kl_21
    unfold hgA at hs
    have hno : ¬ ((0 ≤ l ∧ l < σ 0 11) ∧ (2 ≤ many ∧ many ≤ 12) ∧ 0 ≤ w ∧ w ≤ 1) → Q (-1) σ := fun z => by
      rw [cif_neg z] at hs
      exact hs
    refine EX11_hedge fun _ _ _ _ => SX11_hedge_0 ⟨o_0, X_isLine (by omega) (fun c1 => ⟨fun e => by omega, fun _ => ⟨fun q => hno (fun z => by omega), fun q1 => ⟨fun q => hno (fun z => by omega), fun q2 => ⟨fun q => hno (fun z => by omega), fun q3 => ⟨fun q4 => ?_, fun q => hno (fun z => by omega)⟩⟩⟩⟩⟩) (fun c1 => ⟨fun _ => hno (fun z => c1 z.1), fun e => absurd rfl e⟩)⟩
    rw [cif_pos (show (0 ≤ l ∧ l < σ 0 11) ∧ (2 ≤ many ∧ many ≤ 12) ∧ 0 ≤ w ∧ w ≤ 1 by omega)] at hs
    have hla := line_at hI.1 (i := l) (by omega)
    have hr := (hC.2.2 l c1.1 c1.2).1
    have key36 : ∀ c a : Int, 0 ≤ c → c ≤ 120 → a = sm (fun c => sm (fun j => hgG σ l many w c (j + 2)) 4) c.toNat → LX11_hedge_36 d kN Q 0 l many w a c σ := by
      refine up_to (e := 120) ?_
      intro c ih a c0 c120 ha
      have hss := sm_s (f := fun c => sm (fun j => hgG σ l many w c (j + 2)) 4) c0
      have hbb := sm4_b (f := fun c j => hgG σ l many w c (j + 2)) (fun _ _ => cif_b) c.toNat
      rw [k_toNat c0] at hbb
      refine SX11_hedge_36 ⟨fun e => ?_, fun e => ?_⟩
      · rw [show c = 120 by omega] at ha
        rw [ha]
        exact hs
      · have key46 : ∀ j b : Int, 0 ≤ j → j ≤ 4 → b = a + sm (fun j => hgG σ l many w c (j + 2)) j.toNat → LX11_hedge_46 d kN Q 0 l many w b c (j + 2) σ := by
          refine up_to (e := 4) ?_
          intro j ihj b j0 j4 hb
          have hs2 := sm_s (f := fun j => hgG σ l many w c (j + 2)) j0
          have hb2 := sm_1 (f := fun j => hgG σ l many w c (j + 2)) (n := j.toNat) (fun _ _ _ => cif_b)
          rw [k_toNat j0] at hb2
          have e1 : j + 2 + 1 = j + 1 + 2 := by omega
          have no : hgG σ l many w c (j + 2) = 0 → ¬ 5 < j + 2 → (-2147483648 ≤ j + 2 + 1 ∧ j + 2 + 1 ≤ 2147483647) ∧ LX11_hedge_46 d kN Q 0 l many w b c (j + 2 + 1) σ := fun q q2 => ⟨by omega, by rw [e1]; exact ihj (by omega) b (by omega) (by omega) (by rw [hs2, q, hb]; omega)⟩
          have yes : hgG σ l many w c (j + 2) = 1 → ¬ 5 < j + 2 → (-2147483648 ≤ b + 1 ∧ b + 1 ≤ 2147483647) ∧ ((-2147483648 ≤ j + 2 + 1 ∧ j + 2 + 1 ≤ 2147483647) ∧ LX11_hedge_46 d kN Q 0 l many w (b + 1) c (j + 2 + 1) σ) := fun q q2 => ⟨by omega, by omega, by rw [e1]; exact ihj (by omega) (b + 1) (by omega) (by omega) (by rw [hs2, q, hb]; omega)⟩
          refine SX11_hedge_46 ⟨fun q => ⟨by omega, ih (by omega) b (by omega) (by omega) ?_⟩, fun q => ⟨by omega, X_staysInLand (by omega) (by omega) (by omega) (by omega) (fun hst => ⟨fun _ => ⟨fun qw => yes (cif_pos ⟨hst, Or.inl qw⟩) q, fun qw => ⟨o_0, ?_⟩⟩, fun e => by omega⟩) (fun hst => ⟨fun e => absurd rfl e, fun _ => no (cif_neg (fun z => hst z.1)) q⟩)⟩⟩
          · rw [hss, hb, ha, show j = 4 by omega]
            rfl
          · rw [ly_0_10 hI.1, hla.1]
            exact ⟨a_21, by omega, X_lies (by omega) hI.1 hr.1 (by omega) (by omega) (by omega) (fun hl => ⟨fun e => by omega, fun _ => yes (cif_pos ⟨hst, Or.inr hl⟩) q⟩) (fun hl => ⟨fun _ => no (cif_neg (fun z => z.2.elim qw hl)) q, fun e => absurd rfl e⟩)⟩
        exact key46 0 a (by omega) (by omega) (by show a = a + 0; omega)
    exact key36 0 0 (by omega) (by omega) rfl
  · obtain ⟨d, rfl⟩ : ∃ e, d = e + 1 := ⟨d - 1, by omega⟩
    refine EX12_hedge fun _ _ _ _ => SX12_hedge_0 ⟨o_166, fun s1 e1 => ?_⟩
    have hk1 : Keep σ s1 := by rw [e1]; exact hI.thrown
    have hI1 := hI.keep hk1
    have hs := h s1 hk1
    rw [← hgA_fr hI hk1.1] at hs
    clear h e1
    have hC := hI1.2.2.2.2.2.2.2.2.1
    have h34 := hC.2.1
    unfold hgA at hs
    have hno : ¬ ((0 ≤ l ∧ l < s1 0 11) ∧ (2 ≤ many ∧ many ≤ 12) ∧ 0 ≤ w ∧ w ≤ 1) → Q (-1) s1 := fun z => by
      rw [cif_neg z] at hs
      exact hs
    refine M_isLine (by omega) (fun c1 => ⟨fun e => by omega, fun _ => M_isIn (by omega) (fun c2 => ⟨fun e => by omega, fun _ => M_isIn (by omega) (fun c3 => ⟨fun _ => ?_, fun e => by omega⟩) (fun c3 => ⟨fun e => absurd rfl e, fun _ => hno (fun z => c3 z.2.2)⟩)⟩) (fun c2 => ⟨fun _ => hno (fun z => c2 z.2.1), fun e => absurd rfl e⟩)⟩) (fun c1 => ⟨fun _ => hno (fun z => by omega), fun e => absurd rfl e⟩)
    have c1' : 0 ≤ l ∧ l < s1 0 11 := by omega
    rw [cif_pos ⟨c1', c2, c3⟩] at hs
    have far : ∀ {c : Int} {R : Int → kS → Prop}, 0 ≤ c ∧ c < 120 → (c ∈ rowL s1 (146 + 2 * l) → R 0 s1) → (¬ c ∈ rowL s1 (146 + 2 * l) → ∀ v, ¬ v = 0 → R v s1) → Ci d MX12_farFrom [(2, 166), (0, l), (0, 0), (0, 0), (0, c)] kN s1 R := fun {c R} hc ha hb => M_farFrom (by omega) hI1.1 hC c1' hc (inLand0 hC c1') (by omega) (fun v v0 hv => by
      have := far0 v0 hv
      by_cases q : v = 0
      · rw [q]
        exact ha (this.mp q)
      · exact hb (fun z => q (this.mpr z)) v q)
    have key43 : ∀ c a b : Int, 0 ≤ c → c ≤ 120 → a = sm (fun c => sm (fun j => hgG s1 l many 0 c (j + 2)) 4) c.toNat → b = sm (fun c => sm (fun j => hgG s1 l many 1 c (j + 2)) 4) c.toNat → LX12_hedge_43 d kN Q 166 l many w a b c s1 := by
      refine up_to (e := 120) ?_
      intro c ih a b c0 c120 ha hb
      have hsa := sm_s (f := fun c => sm (fun j => hgG s1 l many 0 c (j + 2)) 4) c0
      have hsb := sm_s (f := fun c => sm (fun j => hgG s1 l many 1 c (j + 2)) 4) c0
      have hba := sm4_b (f := fun c j => hgG s1 l many 0 c (j + 2)) (fun _ _ => cif_b) c.toNat
      have hbb := sm4_b (f := fun c j => hgG s1 l many 1 c (j + 2)) (fun _ _ => cif_b) c.toNat
      rw [k_toNat c0] at hba hbb
      refine SX12_hedge_43 ⟨fun e => ?_, fun e => ?_⟩
      · rw [show c = 120 by omega] at ha hb
        refine ⟨fun q => ?_, fun q => ?_⟩
        · rw [show w = 1 by omega] at hs
          rw [hb]
          exact hs
        · rw [show w = 0 by omega] at hs
          rw [ha]
          exact hs
      · have key53 : ∀ j x y : Int, 0 ≤ j → j ≤ 4 → x = a + sm (fun j => hgG s1 l many 0 c (j + 2)) j.toNat → y = b + sm (fun j => hgG s1 l many 1 c (j + 2)) j.toNat → LX12_hedge_53 d kN Q 166 l many w x y c (j + 2) s1 := by
          refine up_to (e := 4) ?_
          intro j ihj x y j0 j4 hx hy
          have jsa := sm_s (f := fun j => hgG s1 l many 0 c (j + 2)) j0
          have jsb := sm_s (f := fun j => hgG s1 l many 1 c (j + 2)) j0
          have jba := sm_1 (f := fun j => hgG s1 l many 0 c (j + 2)) (n := j.toNat) (fun _ _ _ => cif_b)
          have jbb := sm_1 (f := fun j => hgG s1 l many 1 c (j + 2)) (n := j.toNat) (fun _ _ _ => cif_b)
          rw [k_toNat j0] at jba jbb
          have e1 : j + 2 + 1 = j + 1 + 2 := by omega
          have gx : 0 ≤ hgG s1 l many 0 c (j + 2) ∧ hgG s1 l many 0 c (j + 2) ≤ 1 := cif_b
          have gy : 0 ≤ hgG s1 l many 1 c (j + 2) ∧ hgG s1 l many 1 c (j + 2) ≤ 1 := cif_b
          refine SX12_hedge_53 ⟨fun q => ⟨by omega, ih (by omega) x y (by omega) (by omega) ?_ ?_⟩, fun q => ?_⟩
          · rw [hsa, hx, ha, show j = 4 by omega]
            rfl
          · rw [hsb, hy, hb, show j = 4 by omega]
            rfl
          · have nx : ∀ x' y' : Int, x' = x + hgG s1 l many 0 c (j + 2) → y' = y + hgG s1 l many 1 c (j + 2) → (-2147483648 ≤ j + 2 + 1 ∧ j + 2 + 1 ≤ 2147483647) ∧ LX12_hedge_53 d kN Q 166 l many w x' y' c (j + 2 + 1) s1 := fun x' y' qa qb => ⟨by omega, by rw [e1]; exact ihj (by omega) x' y' (by omega) (by omega) (by rw [jsa, qa, hx]; omega) (by rw [jsb, qb, hy]; omega)⟩
            have key86 : ∀ k here is : Int, 1 ≤ k → k ≤ many → ((stays c (j + 2) (k - 1) ∧ here = c + byD (j + 2) * (k - 1) ∧ ((is = 1 ∧ ∀ z, 0 ≤ z → z < k → c + byD (j + 2) * z ∈ rowL s1 (146 + 2 * l)) ∨ (is = 0 ∧ ¬ ∀ z, 0 ≤ z → z < k → c + byD (j + 2) * z ∈ rowL s1 (146 + 2 * l)))) ∨ (here = -1 ∧ ¬ stays c (j + 2) (k - 1))) → LX12_hedge_86 d kN Q 166 l many w x y c (j + 2) here is k s1 := by
              refine up_to (e := many) ?_
              intro k ihk here is k1 km hinv
              refine SX12_hedge_86 ⟨fun qk => ?_, fun qk => ?_⟩
              · have ek : k = many := by omega
                subst ek
                rcases hinv with ⟨hst, hh, his⟩ | ⟨hh, hst⟩
                · have hcell := stays_cell (d := j + 2) (k := k - 1) (by omega) ⟨c0, by omega⟩ (by omega) hst
                  have g1 : hgG s1 l k 1 c (j + 2) = 1 := cif_pos ⟨hst, Or.inl rfl⟩
                  refine ⟨fun z => by omega, fun _ => ⟨by omega, fun z => by omega, fun _ => ⟨fun z => ⟨by omega, nx _ _ ?_ ?_⟩, fun z => ⟨by omega, nx _ _ ?_ ?_⟩⟩⟩⟩
                  · rcases his with ⟨hi, _⟩ | ⟨_, hl⟩
                    · omega
                    · rw [show hgG s1 l k 0 c (j + 2) = 0 from cif_neg (fun q => q.2.elim (by omega) hl)]
                  · rw [g1]
                  · rcases his with ⟨_, hl⟩ | ⟨hi, _⟩
                    · rw [show hgG s1 l k 0 c (j + 2) = 1 from cif_pos ⟨hst, Or.inr hl⟩]
                    · omega
                  · rw [g1]
                · have g0 : hgG s1 l k 0 c (j + 2) = 0 := cif_neg (fun q => hst q.1)
                  have g1 : hgG s1 l k 1 c (j + 2) = 0 := cif_neg (fun q => hst q.1)
                  exact ⟨fun _ => ⟨by omega, fun _ => ⟨by omega, nx _ _ (by rw [g0]) (by rw [g1])⟩, fun z => absurd hh z⟩, fun z => absurd hh z⟩
              · rcases hinv with ⟨hst, hh, his⟩ | ⟨hh, hst⟩
                · have hcell := stays_cell (d := j + 2) (k := k - 1) (by omega) ⟨c0, by omega⟩ (by omega) hst
                  have hstep := stays_step (d := j + 2) (k := k - 1) (by omega) ⟨c0, by omega⟩ (by omega) hst
                  rw [show k - 1 + 1 = k by omega] at hstep
                  refine ⟨fun z => by omega, fun _ => ?_⟩
                  rw [hh]
                  refine M_step (by omega) hcell (by omega) ?_
                  by_cases sk : stays c (j + 2) k
                  · rw [hstep.1 sk]
                    have hck := stays_cell (d := j + 2) (k := k) (by omega) ⟨c0, by omega⟩ (by omega) sk
                    have ek : k + 1 - 1 = k := by omega
                    refine ⟨fun qi => ⟨by omega, ihk (by omega) _ 0 (by omega) (by omega) (Or.inl ⟨by rw [ek]; exact sk, by rw [ek], Or.inr ⟨rfl, fun z => ?_⟩⟩)⟩, fun qi => ⟨fun z => by omega, fun _ => ⟨o_166, far hck (fun hm => ⟨fun z => absurd rfl z, fun _ => ⟨by omega, ihk (by omega) _ 1 (by omega) (by omega) (Or.inl ⟨by rw [ek]; exact sk, by rw [ek], Or.inl ⟨rfl, fun z z0 z1 => ?_⟩⟩)⟩⟩) (fun hm v hv => ⟨fun _ => ⟨by omega, ihk (by omega) _ 0 (by omega) (by omega) (Or.inl ⟨by rw [ek]; exact sk, by rw [ek], Or.inr ⟨rfl, fun z => hm (z k (by omega) (by omega))⟩⟩)⟩, fun z => absurd hv z⟩)⟩⟩⟩
                    · rcases his with ⟨hi, _⟩ | ⟨_, hl⟩
                      · omega
                      · exact hl (fun q q0 q1 => z q q0 (by omega))
                    · rcases his with ⟨_, hl⟩ | ⟨hi, _⟩
                      · by_cases ez : z = k
                        · rw [ez]; exact hm
                        · exact hl z z0 (by omega)
                      · omega
                  · rw [hstep.2 sk]
                    have ek : k + 1 - 1 = k := by omega
                    exact ⟨fun qi => ⟨by omega, ihk (by omega) _ 0 (by omega) (by omega) (Or.inr ⟨rfl, by rw [ek]; exact sk⟩)⟩, fun qi => ⟨fun _ => ⟨by omega, ihk (by omega) _ 0 (by omega) (by omega) (Or.inr ⟨rfl, by rw [ek]; exact sk⟩)⟩, fun z => absurd rfl z⟩⟩
                · have hst' : ¬ stays c (j + 2) (many - 1) := fun z => hst (stays_mono (by omega) ⟨c0, by omega⟩ (by omega) z)
                  have g0 : hgG s1 l many 0 c (j + 2) = 0 := cif_neg (fun q => hst' q.1)
                  have g1 : hgG s1 l many 1 c (j + 2) = 0 := cif_neg (fun q => hst' q.1)
                  exact ⟨fun _ => ⟨fun _ => ⟨by omega, fun _ => ⟨by omega, nx _ _ (by rw [g0]) (by rw [g1])⟩, fun z => absurd hh z⟩, fun z => absurd hh z⟩, fun z => absurd hh z⟩
            have s0 : stays c (j + 2) 0 := by
              unfold stays
              rw [Int.mul_zero, Int.mul_zero]
              omega
            have b0 : c + byD (j + 2) * 0 = c := by rw [Int.mul_zero]; omega
            refine ⟨o_166, far ⟨c0, by omega⟩ (fun hm => ⟨fun z => absurd rfl z, fun _ => key86 1 c 1 (by omega) (by omega) (Or.inl ⟨s0, b0.symm, Or.inl ⟨rfl, fun z z0 z1 => ?_⟩⟩)⟩) (fun hm v hv => ⟨fun _ => key86 1 c 0 (by omega) (by omega) (Or.inl ⟨s0, b0.symm, Or.inr ⟨rfl, fun z => hm ?_⟩⟩), fun z => absurd hv z⟩)⟩
            · rw [show z = 0 by omega, b0]
              exact hm
            · have := z 0 (by omega) (by omega)
              rw [b0] at this
              exact this
        exact key53 0 a b (by omega) (by omega) (by show a = a + 0; omega) (by show b = b + 0; omega)
    exact key43 0 0 0 (by omega) (by omega) rfl rfl
