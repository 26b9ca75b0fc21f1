/-! the model: what there is -/
theorem M_has {d n : Nat} (hd : 1 ≤ d) {σ : kS} {a k : Int} {Q : Int → kS → Prop} (h1 : kand (kishr a k) 1 = 1 → Q 1 σ) (h0 : ¬ kand (kishr a k) 1 = 1 → Q 0 σ) : Ci d MX12_has [(0, a), (0, k)] n σ Q := by
  obtain ⟨d, rfl⟩ : ∃ e, d = e + 1 := ⟨d - 1, by omega⟩
  exact EX12_has fun _ _ _ => SX12_has_0 ⟨h0, fun e => h1 (Classical.not_not.mp e)⟩
theorem M_isTown {d : Nat} (hd : 1 ≤ d) {σ : kS} {t : Int} {Q : Int → kS → Prop} (h1 : 0 ≤ t ∧ t < σ 166 3 → Q 1 σ) (h0 : ¬ (0 ≤ t ∧ t < σ 166 3) → Q 0 σ) : Ci d MX12_isTown [(2, 166), (0, t)] kN σ Q := by
  obtain ⟨d, rfl⟩ : ∃ e, d = e + 1 := ⟨d - 1, by omega⟩
  exact EX12_isTown fun _ _ => SX12_isTown_0 ⟨fun e => h0 (by omega), fun e => ⟨o_166, fun e2 => h0 (by omega), fun e2 => h1 (by omega)⟩⟩
theorem M_isGoer {d : Nat} (hd : 1 ≤ d) {σ : kS} {t : Int} {Q : Int → kS → Prop} (h1 : 0 ≤ t ∧ t < σ 166 14 → Q 1 σ) (h0 : ¬ (0 ≤ t ∧ t < σ 166 14) → Q 0 σ) : Ci d MX12_isGoer [(2, 166), (0, t)] kN σ Q := by
  obtain ⟨d, rfl⟩ : ∃ e, d = e + 1 := ⟨d - 1, by omega⟩
  exact EX12_isGoer fun _ _ => SX12_isGoer_0 ⟨fun e => h0 (by omega), fun e => ⟨o_166, fun e2 => h0 (by omega), fun e2 => h1 (by omega)⟩⟩
theorem M_isLine {d : Nat} (hd : 1 ≤ d) {σ : kS} {t : Int} {Q : Int → kS → Prop} (h1 : 0 ≤ t ∧ t < σ 166 34 → Q 1 σ) (h0 : ¬ (0 ≤ t ∧ t < σ 166 34) → Q 0 σ) : Ci d MX12_isLine [(2, 166), (0, t)] kN σ Q := by
  obtain ⟨d, rfl⟩ : ∃ e, d = e + 1 := ⟨d - 1, by omega⟩
  exact EX12_isLine fun _ _ => SX12_isLine_0 ⟨fun e => h0 (by omega), fun e => ⟨o_166, fun e2 => h0 (by omega), fun e2 => h1 (by omega)⟩⟩
theorem M_isManner {d : Nat} (hd : 2 ≤ d) {σ : kS} {g l : Int} {Q : Int → kS → Prop} (h1 : (0 ≤ g ∧ g < σ 166 14) ∧ 0 ≤ l ∧ l ≤ 99 → Q 1 σ) (h0 : ¬ ((0 ≤ g ∧ g < σ 166 14) ∧ 0 ≤ l ∧ l ≤ 99) → Q 0 σ) : Ci d MX12_isManner [(2, 166), (0, g), (0, l)] kN σ Q := by
  obtain ⟨d, rfl⟩ : ∃ e, d = e + 1 := ⟨d - 1, by omega⟩
  exact EX12_isManner fun _ _ _ => SX12_isManner_0 ⟨o_166, M_isGoer (by omega) (fun q => ⟨fun e => by omega, fun _ => M_isIn (by omega) (fun q2 => ⟨fun e => by omega, fun _ => h1 ⟨q, q2⟩⟩) (fun q2 => ⟨fun _ => h0 (fun z => q2 z.2), fun e => by omega⟩)⟩) (fun q => ⟨fun _ => h0 (fun z => q z.1), fun e => by omega⟩)⟩
theorem M_isWay {d : Nat} (hd : 3 ≤ d) {σ : kS} {g l a b : Int} {Q : Int → kS → Prop} (h1 : ((0 ≤ g ∧ g < σ 166 14) ∧ 0 ≤ l ∧ l ≤ 99) ∧ (0 ≤ a ∧ a < 120) ∧ 0 ≤ b ∧ b < 120 → Q 1 σ) (h0 : ¬ (((0 ≤ g ∧ g < σ 166 14) ∧ 0 ≤ l ∧ l ≤ 99) ∧ (0 ≤ a ∧ a < 120) ∧ 0 ≤ b ∧ b < 120) → Q 0 σ) : Ci d MX12_isWay [(2, 166), (0, g), (0, l), (0, a), (0, b)] kN σ Q := by
  obtain ⟨d, rfl⟩ : ∃ e, d = e + 1 := ⟨d - 1, by omega⟩
  exact EX12_isWay fun _ _ _ _ _ => SX12_isWay_0 ⟨o_166, M_isManner (by omega) (fun q => ⟨fun e => by omega, fun _ => M_isCell (by omega) (fun q2 => ⟨fun e => by omega, fun _ => M_isCell (by omega) (fun q3 => ⟨fun e => by omega, fun _ => h1 ⟨q, q2, q3⟩⟩) (fun q3 => ⟨fun _ => h0 (fun z => q3 z.2.2), fun e => by omega⟩)⟩) (fun q2 => ⟨fun _ => h0 (fun z => q2 z.2.1), fun e => by omega⟩)⟩) (fun q => ⟨fun _ => h0 (fun z => q z.1), fun e => by omega⟩)⟩
