/-! Sight: nextHop; the model's lines -/
/-- the lowest cell that is a hop away and nearer by one -/
def NextHop (H T : Int → Int) (far c y : Int) : Prop := (0 ≤ y ∧ y < 120) ∧ (T y + 1 = T c ∧ hop H far c y) ∧ ∀ z, 0 ≤ z → z < y → ¬ (T z + 1 = T c ∧ hop H far c z)
theorem NextHop.uniq {H T : Int → Int} {far c y y' : Int} (h : NextHop H T far c y) (h' : NextHop H T far c y') : y = y' := by
  obtain ⟨h1, h2, h3⟩ := h
  obtain ⟨m1, m2, m3⟩ := h'
  rcases (show y < y' ∨ y = y' ∨ y' < y by omega) with q | q | q
  · exact absurd h2 (m3 y h1.1 q)
  · exact q
  · exact absurd m2 (h3 y' m1.1 q)
theorem Sight_nextHop {d : Nat} (hd : 5 ≤ d) {σ : kS} {c far : Int} {Q : Int → kS → Prop} (hL : Lay σ) (hH : HOK σ 1) (hc : 0 ≤ c ∧ c < 120) (hb : 0 ≤ σ 41 c ∧ σ 41 c ≤ 1000) (hex : ∃ y, (0 ≤ y ∧ y < 120) ∧ σ 41 y ≠ -1 ∧ σ 41 y + 1 = σ 41 c ∧ hop (fun c => told σ 1 c 0) far c y) (h : ∀ y, (0 ≤ y ∧ y < 120) → σ 41 y ≠ -1 → σ 41 y + 1 = σ 41 c → hop (fun c => told σ 1 c 0) far c y → (∀ z, 0 ≤ z → z < y → ¬ (σ 41 z ≠ -1 ∧ σ 41 z + 1 = σ 41 c ∧ hop (fun c => told σ 1 c 0) far c z)) → Q y σ) : Ci d MX9_nextHop [(2, 40), (2, 1), (0, c), (0, far)] kN σ Q := by
  obtain ⟨d, rfl⟩ : ∃ e, d = e + 1 := ⟨d - 1, by omega⟩
  have k41 := kl_41
  have key : ∀ k : Int, 0 ≤ k → (∀ z, 0 ≤ z → z < k → ¬ (σ 41 z ≠ -1 ∧ σ 41 z + 1 = σ 41 c ∧ hop (fun c => told σ 1 c 0) far c z)) → LX9_nextHop_3 d kN Q 40 1 c far k σ := by
    refine up_to (e := 120) ?_
    intro k ih k0 hno
    have nx : k < 120 → ¬ (σ 41 k ≠ -1 ∧ σ 41 k + 1 = σ 41 c ∧ hop (fun c => told σ 1 c 0) far c k) → (-2147483648 ≤ k + 1 ∧ k + 1 ≤ 2147483647) ∧ LX9_nextHop_3 d kN Q 40 1 c far (k + 1) σ := fun k1 hn => ⟨by omega, ih k1 (by omega) (fun z z0 z1 => by
      by_cases e : z = k
      · rw [e]; exact hn
      · exact hno z z0 (by omega))⟩
    refine SX9_nextHop_3 ⟨fun e => ?_, fun e => ?_⟩
    · obtain ⟨y, hy, q1, q2, q3⟩ := hex
      exact absurd ⟨q1, q2, q3⟩ (hno y hy.1 (by omega))
    · rw [ly_40_0 hL]
      refine ⟨o_40, a_41, by omega, fun e1 => nx (by omega) (fun q => q.1 e1), fun e1 => ⟨by omega, by omega, fun e2 => nx (by omega) (fun q => e2 (by have := q.2.1; omega)), fun e2 => ?_⟩⟩
      have e3 : σ 41 k + 1 = σ 41 c := by omega
      exact Sight_isHop (by omega) hL o_1 hH hc ⟨k0, by omega⟩ (fun q => ⟨fun e => by omega, fun _ => h k ⟨k0, by omega⟩ e1 e3 q hno⟩) (fun q => ⟨fun _ => nx (by omega) (fun z => q z.2.2), fun e => by omega⟩)
  exact EX9_nextHop fun _ _ _ => SX9_nextHop_0 (key 0 (by omega) (fun z z0 z1 => by omega))
/-- the class's next hop is the model's -/
theorem next_same {H T h q : Int → Int} {far g f n p c y : Int} (hb : BQ H far g h q n p p 0) (hT : HD H far g T) (hf : 0 ≤ f ∧ f < 120) (hl : h f ≠ -1) (hc : 0 ≤ c ∧ c < 120) (hcT : h c = T c) (hcf : T c ≤ h f) (hy : 0 ≤ y ∧ y < 120) (q2 : h y ≠ -1 ∧ h y + 1 = h c ∧ hop H far c y) (q3 : ∀ z, 0 ≤ z → z < y → ¬ (h z ≠ -1 ∧ h z + 1 = h c ∧ hop H far c z)) : NextHop H T far c y ∧ h y = T y := by
  obtain ⟨o1, o2, o3⟩ := hb.out hT hf hl
  have e1 : h y = T y := o3 y hy.1 hy.2 (by have := o2 y hy.1 hy.2 q2.1; omega)
  refine ⟨⟨hy, ⟨by omega, q2.2.2⟩, fun z z0 z1 hz => q3 z z0 z1 ?_⟩, e1⟩
  have e2 := o3 z z0 (by omega) (by omega)
  have e3 := hT.2.1 z z0 (by omega)
  exact ⟨by omega, by omega, hz.2⟩
theorem M_onLine {d n : Nat} (hd : 3 ≤ d) {σ : kS} {a b i : Int} {Q : Int → kS → Prop} (ha : 0 ≤ a ∧ a < 120) (hb : 0 ≤ b ∧ b < 120) (hab : apart a b ≠ 0) (hi : 0 ≤ i ∧ i ≤ apart a b) (h : Q (btw a b i (apart a b)) σ) : Ci d MX12_onLine [(0, a), (0, b), (0, i)] n σ Q := by
  obtain ⟨d, rfl⟩ : ∃ e, d = e + 1 := ⟨d - 1, by omega⟩
  have hn := apart_cells ha hb
  have hn0 := apart_nn (a := a) (b := b)
  have h1 := btw_b (D := b % 12 - a % 12) (n := apart a b) (by omega) hi
  have h2 := btw_b (D := b / 12 - a / 12) (n := apart a b) (by omega) hi
  have m1 := mul_11 (i := i) (x := b % 12 - a % 12) (by omega) (by omega)
  have m2 := mul_11 (i := i) (x := b / 12 - a / 12) (by omega) (by omega)
  refine EX12_onLine fun _ _ _ _ => SX12_onLine_0 (M_apart (by omega) ha.1 hb.1 ⟨fun _ => ⟨ha.1, by omega, hb.1, by omega, by omega, by omega, by omega, J_floorDiv (by omega) (by omega) (by omega) ?_⟩, fun e => absurd hab e⟩)
  refine ⟨by omega, by omega, by omega, by omega, J_floorDiv (by omega) (by omega) (by omega) ⟨by omega, by omega, by omega, ?_⟩⟩
  unfold btw at h
  rwa [Int.mul_comm] at h
