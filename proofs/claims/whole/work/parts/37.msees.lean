/-! the model: seesIt -/
def HM (σ : kS) : Prop := ∀ c, 0 ≤ c → c < 120 → 0 ≤ σ 167 c ∧ σ 167 c ≤ 99
theorem sees_cong {H H' : Int → Int} {a b : Int} (ha : 0 ≤ a ∧ a < 120) (hb : 0 ≤ b ∧ b < 120) (h : ∀ c, 0 ≤ c → c < 120 → H c = H' c) : sees H a b ↔ sees H' a b := by
  have e : ∀ i, 1 ≤ i → i < apart a b → (H (btw a b i (apart a b)) = H' (btw a b i (apart a b))) := fun i i0 i1 => by
    have := (btw_xy (i := i) (n := apart a b) ha hb (by omega) (by omega)).1
    exact h _ this.1 this.2
  unfold sees
  constructor
  · intro q i i0 i1
    rw [← e i i0 i1, ← h a ha.1 ha.2, ← h b hb.1 hb.2]
    exact q i i0 i1
  · intro q i i0 i1
    rw [e i i0 i1, h a ha.1 ha.2, h b hb.1 hb.2]
    exact q i i0 i1
theorem M_seesIt {d : Nat} (hd : 4 ≤ d) {σ : kS} {a b : Int} {Q : Int → kS → Prop} (hL : Lay σ) (hH : HM σ) (ha : 0 ≤ a ∧ a < 120) (hb : 0 ≤ b ∧ b < 120) (h1 : sees (σ 167) a b → Q 1 σ) (h0 : ¬ sees (σ 167) a b → Q 0 σ) : Ci d MX12_seesIt [(2, 166), (0, a), (0, b)] kN σ Q := by
  obtain ⟨d, rfl⟩ : ∃ e, d = e + 1 := ⟨d - 1, by omega⟩
  have k167 := kl_167
  have hn := apart_cells ha hb
  have hn0 := apart_nn (a := a) (b := b)
  have ga := hH a ha.1 ha.2
  have gb := hH b hb.1 hb.2
  have key : ∀ i : Int, 1 ≤ i → (∀ k, 1 ≤ k → k < i → σ 167 (btw a b k (apart a b)) * apart a b ≤ σ 167 a * (apart a b - k) + σ 167 b * k) → LX12_seesIt_9 d kN Q 166 a b (apart a b) i σ := by
    refine up_to (e := apart a b) ?_
    intro i ih hi hok
    refine SX12_seesIt_9 ⟨fun e => h1 (fun k k0 k1 => hok k k0 (by omega)), fun e => ⟨o_166, M_onLine (by omega) ha hb (by omega) (by omega) ?_⟩⟩
    rw [ly_166_1 hL]
    have hc := (btw_xy (i := i) (n := apart a b) ha hb (by omega) (by omega)).1
    have gc := hH _ hc.1 hc.2
    have m1 := mul_99 (i := apart a b) (x := σ 167 (btw a b i (apart a b))) (by omega) gc
    have m2 := mul_99 (i := apart a b - i) (x := σ 167 a) (by omega) ga
    have m3 := mul_99 (i := i) (x := σ 167 b) (by omega) gb
    refine ⟨a_167, by omega, by omega, a_167, by omega, by omega, by omega, by omega, by omega, by omega, fun c => ⟨by omega, ih (by omega) (by omega) (fun k k0 k1 => ?_)⟩, fun c => h0 (fun q => c (q i hi (by omega)))⟩
    by_cases ek : k = i
    · rw [ek]; exact c
    · exact hok k k0 (by omega)
  exact EX12_seesIt fun _ _ _ => SX12_seesIt_0 (M_apart (by omega) ha.1 hb.1 (key 1 (by omega) (fun k k0 k1 => by omega)))
