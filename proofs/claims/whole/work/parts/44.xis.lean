/-! OldRoads (the object 0): what there is -/
theorem X_isManner {d : Nat} (hd : 1 ≤ d) {σ : kS} {g l : Int} {Q : Int → kS → Prop} (h1 : (0 ≤ g ∧ g < σ 0 6) ∧ 0 ≤ l ∧ l ≤ 99 → Q 1 σ) (h0 : ¬ ((0 ≤ g ∧ g < σ 0 6) ∧ 0 ≤ l ∧ l ≤ 99) → Q 0 σ) : Ci d MX11_isManner [(2, 0), (0, g), (0, l)] kN σ Q := by
  obtain ⟨d, rfl⟩ : ∃ e, d = e + 1 := ⟨d - 1, by omega⟩
  exact EX11_isManner fun _ _ _ => SX11_isManner_0 ⟨fun e => h0 (by omega), fun e => ⟨o_0, fun e2 => h0 (by omega), fun e2 => ⟨fun e3 => h0 (by omega), fun e3 => ⟨fun e4 => h0 (by omega), fun e4 => h1 (by omega)⟩⟩⟩⟩
theorem X_isLine {d : Nat} (hd : 1 ≤ d) {σ : kS} {t : Int} {Q : Int → kS → Prop} (h1 : 0 ≤ t ∧ t < σ 0 11 → Q 1 σ) (h0 : ¬ (0 ≤ t ∧ t < σ 0 11) → Q 0 σ) : Ci d MX11_isLine [(2, 0), (0, t)] kN σ Q := by
  obtain ⟨d, rfl⟩ : ∃ e, d = e + 1 := ⟨d - 1, by omega⟩
  exact EX11_isLine fun _ _ => SX11_isLine_0 ⟨fun e => h0 (by omega), fun e => ⟨o_0, fun e2 => h0 (by omega), fun e2 => h1 (by omega)⟩⟩
theorem X_isEra {d : Nat} (hd : 1 ≤ d) {σ : kS} {t : Int} {Q : Int → kS → Prop} (h1 : 0 ≤ t ∧ t < σ 0 2 → Q 1 σ) (h0 : ¬ (0 ≤ t ∧ t < σ 0 2) → Q 0 σ) : Ci d MX11_isEra [(2, 0), (0, t)] kN σ Q := by
  obtain ⟨d, rfl⟩ : ∃ e, d = e + 1 := ⟨d - 1, by omega⟩
  exact EX11_isEra fun _ _ => SX11_isEra_0 ⟨fun e => h0 (by omega), fun e => ⟨o_0, fun e2 => h0 (by omega), fun e2 => h1 (by omega)⟩⟩
theorem X_areTwoTowns {d : Nat} (hd : 1 ≤ d) {σ : kS} {a b : Int} {Q : Int → kS → Prop} (hL : Lay σ) (h1 : (0 ≤ a ∧ a < σ 19 1) ∧ (0 ≤ b ∧ b < σ 19 1) ∧ a ≠ b → Q 1 σ) (h0 : ¬ ((0 ≤ a ∧ a < σ 19 1) ∧ (0 ≤ b ∧ b < σ 19 1) ∧ a ≠ b) → Q 0 σ) : Ci d MX11_areTwoTowns [(2, 0), (0, a), (0, b)] kN σ Q := by
  obtain ⟨d, rfl⟩ : ∃ e, d = e + 1 := ⟨d - 1, by omega⟩
  refine EX11_areTwoTowns fun _ _ _ => SX11_areTwoTowns_0 ?_
  rw [ly_0_9 hL]
  exact ⟨fun e => h0 (by omega), fun e => ⟨o_0, o_19, fun e2 => h0 (by omega), fun e2 => ⟨fun e3 => h0 (by omega), fun e3 => ⟨fun e4 => h0 (by omega), fun e4 => ⟨fun e5 => h0 (by omega), fun e5 => h1 (by omega)⟩⟩⟩⟩⟩
theorem X_isSearch {d : Nat} (hd : 2 ≤ d) {σ : kS} {l f s : Int} {Q : Int → kS → Prop} (h1 : (0 ≤ l ∧ l < σ 0 11) ∧ (0 ≤ f ∧ f ≤ 5) ∧ 0 ≤ s ∧ s ≤ 15 → Q 1 σ) (h0 : ¬ ((0 ≤ l ∧ l < σ 0 11) ∧ (0 ≤ f ∧ f ≤ 5) ∧ 0 ≤ s ∧ s ≤ 15) → Q 0 σ) : Ci d MX11_isSearch [(2, 0), (0, l), (0, f), (0, s)] kN σ Q := by
  obtain ⟨d, rfl⟩ : ∃ e, d = e + 1 := ⟨d - 1, by omega⟩
  exact EX11_isSearch fun _ _ _ _ => SX11_isSearch_0 ⟨o_0, X_isLine (by omega) (fun q => ⟨fun e => by omega, fun _ => ⟨fun e => h0 (by omega), fun e => ⟨fun e2 => h0 (by omega), fun e2 => ⟨fun e3 => h0 (by omega), fun e3 => ⟨fun e4 => h0 (by omega), fun e4 => h1 (by omega)⟩⟩⟩⟩⟩) (fun q => ⟨fun _ => h0 (by omega), fun e => by omega⟩)⟩
