/-! the model: layHops -/
def HV (H T : Int → Int) (far g : Int) : Prop :=
  T g = 0 ∧ (∀ c, 0 ≤ c → c < 120 → 0 ≤ T c ∧ T c ≤ 120) ∧ (∀ c, 0 ≤ c → c < 120 → c ≠ g → T c ≠ 120 → ∃ b, (0 ≤ b ∧ b < 120) ∧ hop H far c b ∧ T b + 1 ≤ T c)
theorem HV.sum0 {H T : Int → Int} {far g : Int} (h : HV H T far g) : 0 ≤ sm T 120 := (sm_b (f := T) (B := 120) (n := 120) (fun i i0 i1 => h.2.1 i i0 (by omega))).1
theorem HV.step {H T T' : Int → Int} {far g c b : Int} (h : HV H T far g) (hc : 0 ≤ c ∧ c < 120) (hb : 0 ≤ b ∧ b < 120) (hh : hop H far c b) (hlt : T b + 1 < T c) (hT : ∀ z, T' z = if z = c then T b + 1 else T z) : HV H T' far g ∧ sm T' 120 < sm T 120 := by
  obtain ⟨h1, h2, h3⟩ := h
  have e1 : T' c = T b + 1 := by rw [hT, if_pos rfl]
  have e2 : ∀ z, z ≠ c → T' z = T z := fun z hz => by rw [hT, if_neg hz]
  have b0 := h2 b hb.1 hb.2
  have c0 := h2 c hc.1 hc.2
  have hbc : b ≠ c := fun e => by rw [e] at hlt; omega
  have hcg : c ≠ g := fun e => by rw [e, h1] at hlt; omega
  have sum := sm_up (f := T) (g := T') (c := c) (n := 120) hc.1 hc.2 (fun i _ _ hi => e2 i hi)
  refine ⟨⟨by rw [e2 g (Ne.symm hcg)]; exact h1, fun z z0 z1 => ?_, fun z z0 z1 hz hf => ?_⟩, by omega⟩
  · by_cases e : z = c
    · rw [e, e1]; omega
    · rw [e2 z e]; exact h2 z z0 z1
  · by_cases e : z = c
    · exact ⟨b, hb, by rw [e]; exact hh, by rw [e, e1, e2 b hbc]; exact Int.le_refl _⟩
    · rw [e2 z e] at hf ⊢
      obtain ⟨y, hy, q1, q2⟩ := h3 z z0 z1 hz hf
      refine ⟨y, hy, q1, ?_⟩
      by_cases ey : y = c
      · rw [ey] at q2
        rw [ey, e1]; omega
      · rw [e2 y ey]; exact q2
theorem HV.done {H T : Int → Int} {far g : Int} (hf : 1 ≤ far) (hg : 0 ≤ g ∧ g < 120) (h : HV H T far g) (ho : ∀ c b, 0 ≤ c → c < 120 → 0 ≤ b → b < 120 → T c ≤ T b + 1 ∨ ¬ hop H far c b) : HD H far g T ∧ ∀ c, 0 ≤ c → c < 120 → T c ≤ 11 := by
  obtain ⟨h1, h2, h3⟩ := h
  have key : ∀ m : Nat, ∀ c, 0 ≤ c → c < 120 → (apart c g).toNat = m → T c ≤ apart c g := by
    intro m
    induction m using Nat.strongRecOn with
    | ind m ih =>
      intro c c0 c1 hm
      have := apart_nn (a := c) (b := g)
      by_cases e : c = g
      · rw [e] at this ⊢
        rw [h1]; exact this
      · obtain ⟨d, hd, hlt⟩ := toward ⟨c0, c1⟩ hg e
        have hs := (stp_cell hd).2.2.1
        have := apart_nn (a := stp c d) (b := g)
        have h4 := ih (apart (stp c d) g).toNat (by omega) _ hs.1 hs.2 rfl
        rcases ho c _ c0 c1 hs.1 hs.2 with q | q
        · omega
        · exact absurd (hop_stp hf hd) q
  have fin : ∀ c, 0 ≤ c → c < 120 → T c ≤ 11 := fun c c0 c1 => by
    have h4 := key _ c c0 c1 rfl
    have h5 := apart_cells ⟨c0, c1⟩ hg
    omega
  refine ⟨⟨h1, fun c c0 c1 => (h2 c c0 c1).1, fun c b c0 c1 b0 b1 hh => ?_, fun c c0 c1 hc => ?_⟩, fin⟩
  · rcases ho c b c0 c1 b0 b1 with q | q
    · exact q
    · exact absurd hh q
  · obtain ⟨b, hb, q1, q2⟩ := h3 c c0 c1 hc (by have := fin c c0 c1; omega)
    refine ⟨b, hb, q1, ?_⟩
    rcases ho c b c0 c1 hb.1 hb.2 with q | q
    · omega
    · exact absurd q1 q
