/-! the model: nextHop -/
theorem M_nextHop {d : Nat} (hd : 5 ≤ d) {σ : kS} {c far : Int} {Q : Int → kS → Prop} (hL : Lay σ) (hH : HM σ) (hc : 0 ≤ c ∧ c < 120) (hb : ∀ z, 0 ≤ z → z < 120 → 0 ≤ σ 181 z ∧ σ 181 z ≤ 120) (hex : ∃ y, (0 ≤ y ∧ y < 120) ∧ σ 181 y + 1 = σ 181 c ∧ hop (σ 167) far c y) (h : ∀ y, NextHop (σ 167) (σ 181) far c y → Q y σ) : Ci d MX12_nextHop [(2, 166), (0, c), (0, far)] kN σ Q := by
  obtain ⟨d, rfl⟩ : ∃ e, d = e + 1 := ⟨d - 1, by omega⟩
  have k181 := kl_181
  have key : ∀ k : Int, 0 ≤ k → (∀ z, 0 ≤ z → z < k → ¬ (σ 181 z + 1 = σ 181 c ∧ hop (σ 167) far c z)) → LX12_nextHop_2 d kN Q 166 c far k σ := by
    refine up_to (e := 120) ?_
    intro k ih k0 hno
    have k1 : k < 120 := by
      obtain ⟨y, hy, q1, q2⟩ := hex
      exact Classical.byContradiction fun e => hno y hy.1 (by omega) ⟨q1, q2⟩
    have nx : ¬ (σ 181 k + 1 = σ 181 c ∧ hop (σ 167) far c k) → (-2147483648 ≤ k + 1 ∧ k + 1 ≤ 2147483647) ∧ LX12_nextHop_2 d kN Q 166 c far (k + 1) σ := fun hn => ⟨by omega, ih k1 (by omega) (fun z z0 z1 => by
      by_cases e : z = k
      · rw [e]; exact hn
      · exact hno z z0 (by omega))⟩
    have bk := hb k k0 k1
    refine SX12_nextHop_2 ?_
    rw [ly_166_31 hL]
    exact ⟨o_166, a_181, by omega, by omega, by omega, fun e => nx (fun q => e q.1), fun e => M_apart (by omega) hc.1 k0 ⟨fun e2 => nx (fun q => by have := q.2.1; omega), fun e2 => M_seesIt (by omega) hL hH hc ⟨k0, k1⟩ (fun q => ⟨fun _ => h k ⟨⟨k0, k1⟩, ⟨Classical.not_not.mp e, by omega, q⟩, hno⟩, fun e => absurd (by decide) e⟩) (fun q => ⟨fun e => absurd rfl e, fun _ => nx (fun z => q z.2.2)⟩)⟩⟩
  exact EX12_nextHop fun _ _ _ => SX12_nextHop_0 (key 0 (by omega) (fun z z0 z1 => by omega))
