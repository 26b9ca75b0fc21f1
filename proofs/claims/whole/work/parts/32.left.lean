/-! the model (the object 166): helpers, layLeft -/
theorem M_isIn {d n : Nat} (hd : 1 ≤ d) {σ : kS} {v lo hi : Int} {Q : Int → kS → Prop} (h1 : lo ≤ v ∧ v ≤ hi → Q 1 σ) (h0 : ¬ (lo ≤ v ∧ v ≤ hi) → Q 0 σ) : Ci d MX12_isIn [(0, v), (0, lo), (0, hi)] n σ Q := by
  obtain ⟨d, rfl⟩ : ∃ e, d = e + 1 := ⟨d - 1, by omega⟩
  exact EX12_isIn fun _ _ _ _ => SX12_isIn_0 ⟨fun c => h0 (by omega), fun c => ⟨fun c => h0 (by omega), fun c => h1 (by omega)⟩⟩
theorem M_isCell {d n : Nat} (hd : 2 ≤ d) {σ : kS} {c : Int} {Q : Int → kS → Prop} (h1 : 0 ≤ c ∧ c < 120 → Q 1 σ) (h0 : ¬ (0 ≤ c ∧ c < 120) → Q 0 σ) : Ci d MX12_isCell [(0, c)] n σ Q := by
  obtain ⟨d, rfl⟩ : ∃ e, d = e + 1 := ⟨d - 1, by omega⟩
  exact EX12_isCell fun _ _ => SX12_isCell_0 (M_isIn (by omega) (fun q => ⟨Or.inr rfl, h1 (by omega)⟩) (fun q => ⟨Or.inl rfl, h0 (by omega)⟩))
theorem M_isPlace {d n : Nat} (hd : 2 ≤ d) {σ : kS} {x y : Int} {Q : Int → kS → Prop} (h1 : (0 ≤ x ∧ x < 12) ∧ 0 ≤ y ∧ y < 10 → Q 1 σ) (h0 : ¬ ((0 ≤ x ∧ x < 12) ∧ 0 ≤ y ∧ y < 10) → Q 0 σ) : Ci d MX12_isPlace [(0, x), (0, y)] n σ Q := by
  obtain ⟨d, rfl⟩ : ∃ e, d = e + 1 := ⟨d - 1, by omega⟩
  exact EX12_isPlace fun _ _ _ => SX12_isPlace_0 (M_isIn (by omega) (fun q => ⟨fun e => by omega, fun _ => M_isIn (by omega) (fun q2 => ⟨fun e => by omega, fun _ => h1 (by omega)⟩) (fun q2 => ⟨fun _ => h0 (by omega), fun e => by omega⟩)⟩) (fun q => ⟨fun _ => h0 (by omega), fun e => by omega⟩))
theorem M_east {d' n : Nat} (hd : 1 ≤ d') {σ : kS} {d : Int} {Q : Int → kS → Prop} (hk : 0 ≤ d ∧ d < 8) (h : Q (dx d) σ) : Ci d' MX12_east [(0, d)] n σ Q := by
  obtain ⟨d', rfl⟩ : ∃ e, d' = e + 1 := ⟨d' - 1, by omega⟩
  have hx := dxy hk
  refine EX12_east fun _ _ => SX12_east_0 ⟨fun c => ⟨fun c2 => ?_, fun c2 => by omega⟩, fun c => ⟨fun c1 => ⟨fun c2 => ?_, fun c2 => ?_⟩, fun c1 => ?_⟩⟩
  · rwa [show dx d = 0 by omega] at h
  · rwa [show dx d = 0 by omega] at h
  · rwa [show dx d = -1 by omega] at h
  · rwa [show dx d = 1 by omega] at h
theorem M_south {d' n : Nat} (hd : 1 ≤ d') {σ : kS} {d : Int} {Q : Int → kS → Prop} (hk : 0 ≤ d ∧ d < 8) (h : Q (dy d) σ) : Ci d' MX12_south [(0, d)] n σ Q := by
  obtain ⟨d', rfl⟩ : ∃ e, d' = e + 1 := ⟨d' - 1, by omega⟩
  have hx := dxy hk
  refine EX12_south fun _ _ => SX12_south_0 ⟨fun c => ⟨fun c2 => ?_, fun c2 => ⟨fun c3 => ?_, fun c3 => by omega⟩⟩, fun c => ⟨fun c1 => ⟨fun c2 => by omega, fun c2 => ⟨fun c3 => ?_, fun c3 => ?_⟩⟩, fun c1 => ?_⟩⟩
  · rwa [show dy d = -1 by omega] at h
  · rwa [show dy d = 0 by omega] at h
  · rwa [show dy d = 0 by omega] at h
  · rwa [show dy d = -1 by omega] at h
  · rwa [show dy d = 1 by omega] at h
theorem M_step {d' n : Nat} (hd : 3 ≤ d') {σ : kS} {c d : Int} {Q : Int → kS → Prop} (hc : 0 ≤ c ∧ c < 120) (hk : 0 ≤ d ∧ d < 8) (h : Q (stp c d) σ) : Ci d' MX12_step [(0, c), (0, d)] n σ Q := by
  obtain ⟨d', rfl⟩ : ∃ e, d' = e + 1 := ⟨d' - 1, by omega⟩
  have hb := dx_b hk
  refine EX12_step fun _ _ _ => SX12_step_0 ⟨hc.1, M_east (by omega) hk ⟨by omega, M_south (by omega) hk ⟨by omega, M_isPlace (by omega) (fun q => ⟨fun e => by omega, fun _ => ⟨by omega, by omega, ?_⟩⟩) (fun q => ⟨fun _ => ?_, fun e => by omega⟩)⟩⟩⟩
  · rw [stp_eq hc hk q.1 q.2] at h
    rwa [show 12 * (c / 12 + dy d) + (c % 12 + dx d) = c + dy d * 12 + dx d by omega]
  · unfold stp at h
    rwa [if_neg (fun z => q ⟨z.2.1, z.2.2⟩)] at h
theorem M_apart {d n : Nat} (hd : 2 ≤ d) {σ : kS} {a b : Int} {Q : Int → kS → Prop} (ha : 0 ≤ a) (hb : 0 ≤ b) (h : Q (apart a b) σ) : Ci d MX12_apart [(0, a), (0, b)] n σ Q := by
  obtain ⟨d, rfl⟩ : ∃ e, d = e + 1 := ⟨d - 1, by omega⟩
  exact EX12_apart fun _ _ _ => SX12_apart_0 ⟨ha, hb, by omega, J_abs (by omega) (by omega) ⟨by omega, J_abs (by omega) (by omega) (J_max (by omega) h)⟩⟩
def finm (T : Int → Int) (c : Int) : Int := if T c = 2000000000 then 0 else 1
theorem finm_b {T : Int → Int} : 0 ≤ sm (finm T) 120 ∧ sm (finm T) 120 ≤ 120 := by
  have := sm_1 (f := finm T) (n := 120) (fun i _ _ => by unfold finm; split <;> omega)
  omega
def LV (t T : Int → Int) (g : Int) : Prop :=
  T g = 0 ∧ (∀ c, 0 ≤ c → c < 120 → 0 ≤ T c ∧ (T c ≠ 2000000000 → T c ≤ (sm (finm T) 120 - 1) * 10000001)) ∧ (∀ c, 0 ≤ c → c < 120 → c ≠ g → T c ≠ 2000000000 → ∃ k, (0 ≤ k ∧ k < 8) ∧ stp c k ≠ -1 ∧ T (stp c k) ≠ 2000000000 ∧ T (stp c k) + (t (c * 8 + k) * 1000 + 1) ≤ T c)
def okm (t T : Int → Int) (c k : Int) : Prop := stp c k = -1 ∨ T (stp c k) = 2000000000 ∨ T c ≤ T (stp c k) + (t (c * 8 + k) * 1000 + 1)
theorem stp_ne {c k : Int} (h : stp c k ≠ -1) : stp c k ≠ c := fun e => by
  have := apart_stp h
  rw [e] at this
  have := apart_0 (a := c) (b := c)
  omega
theorem LV.step {t T T' : Int → Int} {g c k : Int} (ht : TolOK t) (h : LV t T g) (hc : 0 ≤ c ∧ c < 120) (hk : 0 ≤ k ∧ k < 8) (hn : stp c k ≠ -1) (hf : T (stp c k) ≠ 2000000000) (hlt : T (stp c k) + (t (c * 8 + k) * 1000 + 1) < T c) (hT : ∀ z, T' z = if z = c then T (stp c k) + (t (c * 8 + k) * 1000 + 1) else T z) : LV t T' g ∧ sm T' 120 < sm T 120 := by
  obtain ⟨h1, h2, h3⟩ := h
  have hs := (stp_cell hn).2.2.1
  have w := ht c k hc.1 hc.2 hk.1 hk.2 hn
  have e1 : T' c = T (stp c k) + (t (c * 8 + k) * 1000 + 1) := by rw [hT, if_pos rfl]
  have e2 : ∀ z, z ≠ c → T' z = T z := fun z hz => by rw [hT, if_neg hz]
  have b1 := h2 _ hs.1 hs.2
  have b2 := b1.2 hf
  have fb := finm_b (T := T)
  have hcg : c ≠ g := fun e => by rw [e, h1] at hlt; rw [← e] at hlt; omega
  have hfc : finm T' c = 1 := by unfold finm; rw [e1, if_neg (by omega)]
  have cnt := sm_up (f := finm T) (g := finm T') (c := c) (n := 120) hc.1 hc.2 (fun i _ _ hi => by unfold finm; rw [e2 i hi])
  have sum := sm_up (f := T) (g := T') (c := c) (n := 120) hc.1 hc.2 (fun i _ _ hi => e2 i hi)
  have hmono : sm (finm T) 120 ≤ sm (finm T') 120 := by
    have : finm T c ≤ 1 := by unfold finm; split <;> omega
    omega
  refine ⟨⟨by rw [e2 g (Ne.symm hcg)]; exact h1, fun z z0 z1 => ?_, fun z z0 z1 hz hzf => ?_⟩, by omega⟩
  · by_cases e : z = c
    · rw [e, e1]
      refine ⟨by omega, fun _ => ?_⟩
      by_cases ef : T c = 2000000000
      · have : finm T c = 0 := by unfold finm; rw [if_pos ef]
        omega
      · have := (h2 c hc.1 hc.2).2 ef
        omega
    · rw [e2 z e]
      have := h2 z z0 z1
      exact ⟨this.1, fun q => by have := this.2 q; omega⟩
  · by_cases e : z = c
    · refine ⟨k, hk, by rw [e]; exact hn, by rw [e, e2 _ (stp_ne hn)]; exact hf, ?_⟩
      rw [e, e1, e2 _ (stp_ne hn)]
      exact Int.le_refl _
    · rw [e2 z e] at hzf ⊢
      obtain ⟨l, hl, g1, g2, g3⟩ := h3 z z0 z1 hz hzf
      refine ⟨l, hl, g1, ?_, ?_⟩
      · by_cases e5 : stp z l = c
        · rw [e5, e1]; omega
        · rw [e2 _ e5]; exact g2
      · by_cases e5 : stp z l = c
        · rw [e5] at g3
          rw [e5, e1]
          omega
        · rw [e2 _ e5]; exact g3
theorem LV.done {t T : Int → Int} {g : Int} (ht : TolOK t) (hg : 0 ≤ g ∧ g < 120) (h : LV t T g) (ho : ∀ c k, 0 ≤ c → c < 120 → 0 ≤ k → k < 8 → okm t T c k) : ID 1000 t g T ∧ ∀ c, 0 ≤ c → c < 120 → T c ≤ 1190000119 := by
  obtain ⟨h1, h2, h3⟩ := h
  have fb := finm_b (T := T)
  have key : ∀ m : Nat, ∀ c, 0 ≤ c → c < 120 → (apart c g).toNat = m → T c ≠ 2000000000 := by
    intro m
    induction m using Nat.strongRecOn with
    | ind m ih =>
      intro c c0 c1 hm
      by_cases e : c = g
      · rw [e, h1]; omega
      · obtain ⟨d, hd, hlt⟩ := toward ⟨c0, c1⟩ hg e
        have hs := stp_cell hd
        have := apart_nn (a := stp c d) (b := g)
        have hf := ih (apart (stp c d) g).toNat (by omega) _ hs.2.2.1.1 hs.2.2.1.2 rfl
        have hb := (h2 _ hs.2.2.1.1 hs.2.2.1.2).2 hf
        have w := ht c d c0 c1 hs.2.1.1 hs.2.1.2 hd
        rcases ho c d c0 c1 hs.2.1.1 hs.2.1.2 with q | q | q
        · exact absurd q hd
        · exact absurd q hf
        · omega
  have fin := fun c c0 c1 => key _ c c0 c1 rfl
  refine ⟨⟨h1, fun c c0 c1 => (h2 c c0 c1).1, fun c k c0 c1 k0 k1 hn => ?_, fun c c0 c1 hc => ?_⟩, fun c c0 c1 => ?_⟩
  · have hs := (stp_cell hn).2.2.1
    rcases ho c k c0 c1 k0 k1 with q | q | q
    · exact absurd q hn
    · exact absurd q (fin _ hs.1 hs.2)
    · exact q
  · obtain ⟨k, hk, g1, g2, g3⟩ := h3 c c0 c1 hc (fin c c0 c1)
    refine ⟨k, hk, g1, ?_⟩
    rcases ho c k c0 c1 hk.1 hk.2 with q | q | q
    · exact absurd q g1
    · exact absurd q g2
    · omega
  · have := (h2 c c0 c1).2 (fin c c0 c1)
    omega
