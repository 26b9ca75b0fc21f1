/-! the fresh world is in order -/
def agZ (k : Int) : Bool := decide (0 ≤ k) && decide (k < 208) && decide (k ≠ 27) && decide (20 ≤ (ksh k.toNat).1 ∧ (ksh k.toNat).1 ≤ 23) && w0L.all (fun q => decide (q.1 ≠ k))
theorem Ag.zero {σ : kS} (h : Ag 208 [] true σ) {k : Int} (hc : agZ k = true) {j : Int} (hj : 0 ≤ j ∧ j < klen k) : σ k j = 0 := by
  simp only [agZ, Bool.and_eq_true, decide_eq_true_eq, List.all_eq_true] at hc
  obtain ⟨⟨⟨⟨c1, c2⟩, c3⟩, c4⟩, c5⟩ := hc
  have hl : j < ((ksh k.toNat).2 : Int) := hj.2
  have h9 := h k.toNat (by omega) (fun _ => rfl) j.toNat (by omega) (fun z => nomatch z)
  rw [k_toNat c1, k_toNat hj.1, w0_def c3 (fun q hq z => c5 q hq z.1)] at h9
  have e2 : kkd (ksh k.toNat).1 j.toNat ≠ 2 := by
    rcases (show (ksh k.toNat).1 = 20 ∨ (ksh k.toNat).1 = 21 ∨ (ksh k.toNat).1 = 22 ∨ (ksh k.toNat).1 = 23 by omega) with e | e | e | e <;> rw [e] <;> simp [kkd]
  rw [if_neg e2] at h9
  exact h9
theorem Ag.row {σ : kS} (h : Ag 208 [] true σ) {r : Int} (hc : (agAt9 208 [] r 1 0 && decide (ksh r.toNat = (8, 2)) && decide (r < 209)) = true) : RowOK σ r := by
  simp only [Bool.and_eq_true, decide_eq_true_eq] at hc
  have h0 := hc.1.1
  have h1 := h.at' h0
  simp only [agAt9, Bool.and_eq_true, decide_eq_true_eq] at h0
  refine ⟨⟨h0.1.1.1.1.1.1, hc.2, hc.1.2⟩, by rw [h1]; exact Int.le_refl _, by rw [h1]; exact Int.natCast_nonneg _⟩
theorem Ag.rowC {σ : kS} (h : Ag 208 [] true σ) {r : Int} (hc : (agAt9 208 [] r 1 0 && decide (ksh r.toNat = (8, 2)) && decide (r < 209)) = true) : RowC σ r := by
  refine ⟨h.row hc, fun i i0 i1 => ?_⟩
  simp only [Bool.and_eq_true, decide_eq_true_eq] at hc
  rw [h.at' hc.1.1] at i1
  omega
theorem lay_all : (layL.all fun q => agAt9 208 [] q.1 q.2.1 q.2.2) = true := by decide +kernel
theorem Inv_fresh {σ : kS} (h : Ag 208 [] true σ) : Inv σ := by
  have hL : Lay σ := fun q hq => h.at' (List.all_eq_true.mp lay_all q hq)
  have r1 := h.rowC (r := 19) (by decide +kernel)
  have z : ∀ {k j : Int}, agAt9 208 [] k j 0 = true → σ k j = 0 := fun hc => h.at' hc
  have z06 := z (k := 0) (j := 6) (by decide +kernel)
  have z08 := z (k := 0) (j := 8) (by decide +kernel)
  have z011 := z (k := 0) (j := 11) (by decide +kernel)
  have z02 := z (k := 0) (j := 2) (by decide +kernel)
  have z19 := z (k := 19) (j := 1) (by decide +kernel)
  have z8 := z (k := 8) (j := 1) (by decide +kernel)
  have z48 := z (k := 48) (j := 1) (by decide +kernel)
  have z22 := z (k := 22) (j := 1) (by decide +kernel)
  have z55 := z (k := 55) (j := 1) (by decide +kernel)
  have z24 := z (k := 24) (j := 1) (by decide +kernel)
  have z54 := z (k := 166) (j := 54) (by decide +kernel)
  refine ⟨hL, ⟨fun c k c0 c1 k0 k1 => ?_, ⟨h.row (by decide +kernel), h.row (by decide +kernel), h.row (by decide +kernel), h.row (by decide +kernel), h.row (by decide +kernel), h.row (by decide +kernel)⟩, ?_, Or.inl (h.at' (by decide +kernel))⟩, ?_, ?_, ?_, ?_, ?_, ?_, ?_, ?_, ?_, ?_, ?_, ?_⟩
  · have h9 := h 27 (by decide) (fun _ => rfl) (c * 8 + k).toNat (by rw [show (ksh 27).2 = 960 by decide +kernel]; omega) (fun z => nomatch z)
    rw [k_toNat (by omega)] at h9
    have e : w0 ((27 : Nat) : Int) (c * 8 + k) = stp c k := by
      unfold w0
      rw [if_pos (show ((27 : Nat) : Int) = 27 from rfl), show (c * 8 + k) / 8 = c by omega, show (c * 8 + k) % 8 = k by omega]
    exact h9.trans e
  · rw [z (k := 26) (j := 12) (by decide +kernel)]
    decide
  · intro c w c0 c1 w0 w1
    have k3 : klen 3 = 120 := by decide +kernel
    have k4 : klen 4 = 120 := by decide +kernel
    have k5 : klen 5 = 120 := by decide +kernel
    have k6 : klen 6 = 120 := by decide +kernel
    have k167 := kl_167
    have e2 := h.zero (k := 167) (by decide +kernel) (j := 120 * w + c) (by omega)
    have e1 : σ (3 + w) c = 0 := by
      rcases (show w = 0 ∨ w = 1 ∨ w = 2 ∨ w = 3 by omega) with rfl | rfl | rfl | rfl
      · exact h.zero (k := 3) (by decide +kernel) (by omega)
      · exact h.zero (k := 4) (by decide +kernel) (by omega)
      · exact h.zero (k := 5) (by decide +kernel) (by omega)
      · exact h.zero (k := 6) (by decide +kernel) (by omega)
    rw [e1, e2]
    refine ⟨rfl, by decide, ?_⟩
    split <;> decide
  · refine ⟨by rw [z02]; decide, by rw [z02]; exact h.at' (by decide +kernel), fun e c w e0 e1 => ?_⟩
    rw [z02] at e1
    omega
  · refine ⟨r1, by rw [z19]; exact h.at' (by decide +kernel), fun i i0 i1 => ?_, fun i j i0 i1 i2 => ?_⟩
    · rw [z19] at i1
      omega
    · rw [z19] at i2
      omega
  · refine ⟨h.row (by decide +kernel), by rw [z8]; exact h.at' (by decide +kernel), fun i i0 i1 => ?_⟩
    rw [z8] at i1
    omega
  · refine ⟨by rw [z06]; decide, by rw [z06]; exact h.at' (by decide +kernel), fun g g0 g1 => ?_, fun g g0 g1 => ?_⟩
    · rw [z06] at g1
      omega
    · rw [z06] at g0
      rcases (show g = 0 ∨ g = 1 ∨ g = 2 ∨ g = 3 ∨ g = 4 ∨ g = 5 by omega) with rfl | rfl | rfl | rfl | rfl | rfl <;> exact h.at' (by decide +kernel)
  · refine ⟨by rw [z08]; decide, by rw [z08]; exact h.at' (by decide +kernel), fun i i0 i1 => ?_, fun i i0 i1 => ?_⟩
    · rcases (show i = 0 ∨ i = 1 ∨ i = 2 ∨ i = 3 ∨ i = 4 by omega) with rfl | rfl | rfl | rfl | rfl <;> exact ⟨h.row (by decide +kernel), h.row (by decide +kernel)⟩
    · rw [z08] at i1
      omega
  · refine ⟨by rw [z011]; decide, by rw [z011]; exact h.at' (by decide +kernel), fun i i0 i1 => ?_⟩
    rw [z011] at i1
    omega
  · refine ⟨⟨h.rowC (by decide +kernel), h.row (by decide +kernel), h.row (by decide +kernel), by rw [z48]; exact h.at' (by decide +kernel), by rw [z48]; exact h.at' (by decide +kernel), fun i i0 i1 => ?_⟩, by rw [z48]; exact h.at' (by decide +kernel), fun i i0 i1 => ?_⟩
    · rw [z48] at i1
      omega
    · rw [z48] at i1
      omega
  · refine ⟨h.row (by decide +kernel), by rw [z22]; exact h.at' (by decide +kernel), fun i i0 i1 => ?_⟩
    rw [z22] at i1
    omega
  · refine ⟨h.rowC (by decide +kernel), by rw [z55]; exact h.at' (by decide +kernel), fun i i0 i1 => ?_⟩
    rw [z55] at i1
    omega
  · refine ⟨h.row (by decide +kernel), by rw [z24, z54]; decide, by rw [z54]; decide, fun f f0 f1 => ?_⟩
    rw [z54] at f1
    omega
  · refine ⟨fun c c0 c1 => ?_, ?_⟩
    · have k62 : klen 62 = 120 := by decide +kernel
      have k203 : klen 203 = 120 := by decide +kernel
      rw [h.zero (k := 62) (by decide +kernel) (by omega), h.zero (k := 203) (by decide +kernel) (by omega)]
      decide
    · have a (j : Int) (hj : agAt9 208 [] 61 j 0 = true) := z hj
      have b (j : Int) (hj : agAt9 208 [] 166 j 0 = true) := z hj
      exact ⟨(a 2 (by decide +kernel)).trans (b 61 (by decide +kernel)).symm, (a 3 (by decide +kernel)).trans (b 62 (by decide +kernel)).symm, (a 4 (by decide +kernel)).trans (b 63 (by decide +kernel)).symm⟩
