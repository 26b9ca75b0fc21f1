/-! small helpers of OldRoads; Land -/
theorem X_isCell {d n : Nat} (hd : 1 ≤ d) {σ : kS} {c : Int} {Q : Int → kS → Prop} (h1 : 0 ≤ c ∧ c < 120 → Q 1 σ) (h0 : ¬ (0 ≤ c ∧ c < 120) → Q 0 σ) : Ci d MX11_isCell [(0, c)] n σ Q := by
  obtain ⟨d, rfl⟩ : ∃ e, d = e + 1 := ⟨d - 1, by omega⟩
  exact EX11_isCell fun _ _ => SX11_isCell_0 ⟨fun c => h0 (by omega), fun c => ⟨fun c => h0 (by omega), fun c => h1 (by omega)⟩⟩
theorem X_isCellOrNone {d n : Nat} (hd : 2 ≤ d) {σ : kS} {c : Int} {Q : Int → kS → Prop} (h1 : c = -1 ∨ (0 ≤ c ∧ c < 120) → Q 1 σ) (h0 : ¬ (c = -1 ∨ (0 ≤ c ∧ c < 120)) → Q 0 σ) : Ci d MX11_isCellOrNone [(0, c)] n σ Q := by
  obtain ⟨d, rfl⟩ : ∃ e, d = e + 1 := ⟨d - 1, by omega⟩
  refine EX11_isCellOrNone fun _ _ => SX11_isCellOrNone_0 ⟨fun c => h1 (by omega), fun c => X_isCell (by omega) (fun q => ⟨fun e => by omega, fun _ => h1 (by omega)⟩) (fun q => ⟨fun _ => h0 (by omega), fun e => by omega⟩)⟩
theorem X_isLayer {d n : Nat} (hd : 1 ≤ d) {σ : kS} {c : Int} {Q : Int → kS → Prop} (h1 : 0 ≤ c ∧ c < 4 → Q 1 σ) (h0 : ¬ (0 ≤ c ∧ c < 4) → Q 0 σ) : Ci d MX11_isLayer [(0, c)] n σ Q := by
  obtain ⟨d, rfl⟩ : ∃ e, d = e + 1 := ⟨d - 1, by omega⟩
  exact EX11_isLayer fun _ _ => SX11_isLayer_0 ⟨fun c => h0 (by omega), fun c => ⟨fun c => h0 (by omega), fun c => h1 (by omega)⟩⟩
theorem X_isBy {d n : Nat} (hd : 1 ≤ d) {σ : kS} {c : Int} {Q : Int → kS → Prop} (h1 : 0 ≤ c ∧ c ≤ 20 → Q 1 σ) (h0 : ¬ (0 ≤ c ∧ c ≤ 20) → Q 0 σ) : Ci d MX11_isBy [(0, c)] n σ Q := by
  obtain ⟨d, rfl⟩ : ∃ e, d = e + 1 := ⟨d - 1, by omega⟩
  exact EX11_isBy fun _ _ => SX11_isBy_0 ⟨fun c => h0 (by omega), fun c => ⟨fun c => h0 (by omega), fun c => h1 (by omega)⟩⟩
theorem X_isOften {d n : Nat} (hd : 1 ≤ d) {σ : kS} {c : Int} {Q : Int → kS → Prop} (h1 : 1 ≤ c ∧ c ≤ 99 → Q 1 σ) (h0 : ¬ (1 ≤ c ∧ c ≤ 99) → Q 0 σ) : Ci d MX11_isOften [(0, c)] n σ Q := by
  obtain ⟨d, rfl⟩ : ∃ e, d = e + 1 := ⟨d - 1, by omega⟩
  exact EX11_isOften fun _ _ => SX11_isOften_0 ⟨fun c => h0 (by omega), fun c => ⟨fun c => h0 (by omega), fun c => h1 (by omega)⟩⟩
def isBox (x y x2 y2 : Int) : Prop := (0 ≤ x ∧ x ≤ x2 ∧ x2 < 12) ∧ 0 ≤ y ∧ y ≤ y2 ∧ y2 < 10
theorem X_isBox {d n : Nat} (hd : 1 ≤ d) {σ : kS} {x y x2 y2 : Int} {Q : Int → kS → Prop} (h1 : isBox x y x2 y2 → Q 1 σ) (h0 : ¬ isBox x y x2 y2 → Q 0 σ) : Ci d MX11_isBox [(0, x), (0, y), (0, x2), (0, y2)] n σ Q := by
  obtain ⟨d, rfl⟩ : ∃ e, d = e + 1 := ⟨d - 1, by omega⟩
  unfold isBox at h1 h0
  exact EX11_isBox fun _ _ _ _ _ => SX11_isBox_0 ⟨fun c => h0 (by omega), fun c => ⟨fun c => h0 (by omega), fun c => ⟨fun c => h0 (by omega), fun c => ⟨fun c => h0 (by omega), fun c => ⟨fun c => h0 (by omega), fun c => ⟨fun c => h0 (by omega), fun c => h1 (by omega)⟩⟩⟩⟩⟩⟩
def kabs (x : Int) : Int := max x (-x)
def apart (a b : Int) : Int := max (kabs (a % 12 - b % 12)) (kabs (a / 12 - b / 12))
theorem apart_le {a b k : Int} : apart a b ≤ k ↔ (a % 12 - b % 12 ≤ k ∧ b % 12 - a % 12 ≤ k) ∧ a / 12 - b / 12 ≤ k ∧ b / 12 - a / 12 ≤ k := by
  unfold apart kabs
  omega
theorem apart_nn {a b : Int} : 0 ≤ apart a b := by
  unfold apart kabs
  omega
theorem apart_comm {a b : Int} : apart a b = apart b a := by
  unfold apart kabs
  omega
theorem apart_cells {a b : Int} (ha : 0 ≤ a ∧ a < 120) (hb : 0 ≤ b ∧ b < 120) : apart a b ≤ 11 := by
  rw [apart_le]
  omega
theorem apart_0 {a b : Int} : apart a b = 0 ↔ a = b := by
  unfold apart kabs
  omega
theorem X_apart {d n : Nat} (hd : 2 ≤ d) {σ : kS} {a b : Int} {Q : Int → kS → Prop} (ha : 0 ≤ a) (hb : 0 ≤ b) (h : Q (apart a b) σ) : Ci d MX11_apart [(0, a), (0, b)] n σ Q := by
  obtain ⟨d, rfl⟩ : ∃ e, d = e + 1 := ⟨d - 1, by omega⟩
  refine EX11_apart fun ra rb _ => SX11_apart_0 ⟨ha, hb, by omega, J_abs (by omega) (by omega) ⟨by omega, J_abs (by omega) (by omega) (J_max (by omega) ?_)⟩⟩
  exact h
def dx (d : Int) : Int := kEast.getD (Int.toNat d) 0
def dy (d : Int) : Int := kSouth.getD (Int.toNat d) 0
theorem dxy {d : Int} (h : 0 ≤ d ∧ d < 8) : (d = 0 ∧ dx d = 0 ∧ dy d = -1) ∨ (d = 1 ∧ dx d = 1 ∧ dy d = -1) ∨ (d = 2 ∧ dx d = 1 ∧ dy d = 0) ∨ (d = 3 ∧ dx d = 1 ∧ dy d = 1) ∨ (d = 4 ∧ dx d = 0 ∧ dy d = 1) ∨ (d = 5 ∧ dx d = -1 ∧ dy d = 1) ∨ (d = 6 ∧ dx d = -1 ∧ dy d = 0) ∨ (d = 7 ∧ dx d = -1 ∧ dy d = -1) := by
  rcases (show d = 0 ∨ d = 1 ∨ d = 2 ∨ d = 3 ∨ d = 4 ∨ d = 5 ∨ d = 6 ∨ d = 7 by omega) with rfl | rfl | rfl | rfl | rfl | rfl | rfl | rfl <;> decide
theorem dx_b {d : Int} (h : 0 ≤ d ∧ d < 8) : -1 ≤ dx d ∧ dx d ≤ 1 ∧ -1 ≤ dy d ∧ dy d ≤ 1 ∧ (dx d ≠ 0 ∨ dy d ≠ 0) := by
  have := dxy h
  omega
/-- so many steps stay in the land -/
def stays (c d k : Int) : Prop := (0 ≤ c % 12 + dx d * k ∧ c % 12 + dx d * k < 12) ∧ 0 ≤ c / 12 + dy d * k ∧ c / 12 + dy d * k < 10
theorem X_staysInLand {d' n : Nat} (hd : 1 ≤ d') {σ : kS} {c d k : Int} {Q : Int → kS → Prop} (hc : 0 ≤ c ∧ c < 120) (h : 0 ≤ d ∧ d < 8) (hk : 0 ≤ k ∧ k ≤ 100) (h1 : stays c d k → Q 1 σ) (h0 : ¬ stays c d k → Q 0 σ) : Ci d' MX11_staysInLand [(0, c), (0, d), (0, k)] n σ Q := by
  obtain ⟨d', rfl⟩ : ∃ e, d' = e + 1 := ⟨d' - 1, by omega⟩
  unfold stays at h1 h0
  have hxy := dx_b h
  have hx : -100 ≤ dx d * k ∧ dx d * k ≤ 100 := by
    rcases (show dx d = -1 ∨ dx d = 0 ∨ dx d = 1 by omega) with e | e | e <;> rw [e] <;> omega
  have hy : -100 ≤ dy d * k ∧ dy d * k ≤ 100 := by
    rcases (show dy d = -1 ∨ dy d = 0 ∨ dy d = 1 by omega) with e | e | e <;> rw [e] <;> omega
  refine EX11_staysInLand fun _ _ _ _ => SX11_staysInLand_0 ?_
  show 0 ≤ c ∧ (0 ≤ d ∧ d < 8) ∧ (_ ≤ dx d * k ∧ dx d * k ≤ _) ∧ (_ ≤ c % 12 + dx d * k ∧ c % 12 + dx d * k ≤ _) ∧ (_ ≤ dy d * k ∧ dy d * k ≤ _) ∧ (_ ≤ c / 12 + dy d * k ∧ c / 12 + dy d * k ≤ _) ∧ (c % 12 + dx d * k < 0 → _) ∧ (¬ c % 12 + dx d * k < 0 → (12 ≤ c % 12 + dx d * k → _) ∧ (¬ 12 ≤ c % 12 + dx d * k → (c / 12 + dy d * k < 0 → _) ∧ (¬ c / 12 + dy d * k < 0 → (10 ≤ c / 12 + dy d * k → _) ∧ (¬ 10 ≤ c / 12 + dy d * k → _))))
  refine ⟨by omega, h, by omega, by omega, by omega, by omega, fun c => h0 (by omega), fun c => ⟨fun c => h0 (by omega), fun c => ⟨fun c => h0 (by omega), fun c => ⟨fun c => h0 (by omega), fun c => h1 (by omega)⟩⟩⟩⟩
/-- the cell beside, or -1 -/
def stp (c d : Int) : Int := if ((0 ≤ c ∧ c < 120) ∧ 0 ≤ d ∧ d < 8) ∧ (0 ≤ c % 12 + dx d ∧ c % 12 + dx d < 12) ∧ 0 ≤ c / 12 + dy d ∧ c / 12 + dy d < 10 then c + dy d * 12 + dx d else -1
theorem stays1 {c d : Int} : stays c d 1 ↔ (0 ≤ c % 12 + dx d ∧ c % 12 + dx d < 12) ∧ 0 ≤ c / 12 + dy d ∧ c / 12 + dy d < 10 := by
  unfold stays
  rw [Int.mul_one, Int.mul_one]
theorem stp_cell {c d : Int} (h : stp c d ≠ -1) : (0 ≤ c ∧ c < 120) ∧ (0 ≤ d ∧ d < 8) ∧ (0 ≤ stp c d ∧ stp c d < 120) ∧ stp c d % 12 = c % 12 + dx d ∧ stp c d / 12 = c / 12 + dy d := by
  unfold stp at h ⊢
  split at h
  · rename_i hc
    rw [if_pos hc]
    have := dx_b hc.1.2
    omega
  · exact absurd rfl h
theorem X_stepFrom {d' n : Nat} (hd : 2 ≤ d') {σ : kS} {c d : Int} {Q : Int → kS → Prop} (h : Q (stp c d) σ) : Ci d' MX11_stepFrom [(0, c), (0, d)] n σ Q := by
  obtain ⟨d', rfl⟩ : ∃ e, d' = e + 1 := ⟨d' - 1, by omega⟩
  unfold stp at h
  refine EX11_stepFrom fun _ _ _ => SX11_stepFrom_0 (X_isCell (by omega) (fun q => ⟨fun e => by omega, fun _ => ⟨fun e => ?_, fun e => ⟨fun e2 => ?_, fun e2 => ?_⟩⟩⟩) (fun q => ⟨fun _ => ?_, fun e => by omega⟩))
  · rwa [if_neg (by omega)] at h
  · have hd8 : 0 ≤ d ∧ d < 8 := by omega
    have hb := dx_b hd8
    refine X_staysInLand (by omega) q hd8 (by omega) (fun s => ⟨fun _ => ⟨hd8, ?_⟩, fun e => by omega⟩) (fun s => ⟨fun e => by omega, fun _ => ?_⟩)
    · rw [stays1] at s
      rw [if_pos ⟨⟨q, hd8⟩, s⟩] at h
      show (_ ≤ dy d * 12 ∧ dy d * 12 ≤ _) ∧ (_ ≤ c + dy d * 12 ∧ c + dy d * 12 ≤ _) ∧ (_ ≤ c + dy d * 12 + dx d ∧ c + dy d * 12 + dx d ≤ _) ∧ Q (c + dy d * 12 + dx d) σ
      exact ⟨by omega, by omega, by omega, h⟩
    · rw [stays1] at s
      rwa [if_neg (fun z => s z.2)] at h
  · rwa [if_neg (by omega)] at h
  · rwa [if_neg (by omega)] at h
/-! Land: r an object of Land, its layers lie behind it -/
theorem landT : (List.range 209).all (fun k => !(decide (ksh k = (5, 1))) || (decide ((ksh (k + 1)) = (24, 4)) && (decide (k + 5 < 209) && (decide (((k : Int), (0 : Int), (k : Int) + 1) ∈ layL) && (List.range 4).all (fun j => decide (ksh (k + 2 + j) = (20, 120)) && decide (((k : Int) + 1, (j : Int), (k : Int) + 2 + j) ∈ layL)))))) = true := by decide +kernel
theorem land_f {σ : kS} (hL : Lay σ) {r : Int} (hr : isO 5 kN r) : σ r 0 = r + 1 ∧ isA 24 kN (r + 1) ∧ klen (r + 1) = 4 ∧ ∀ j : Int, 0 ≤ j → j < 4 → σ (r + 1) j = r + 2 + j ∧ isA 20 kN (r + 2 + j) ∧ klen (r + 2 + j) = 120 := by
  obtain ⟨h0, h1, h2⟩ := hr
  have h3 := all209 landT h0 h1
  rw [h2] at h3
  simp only [Bool.or_eq_true, Bool.and_eq_true, Bool.not_eq_true', decide_eq_true_eq, decide_eq_false_iff_not] at h3
  rcases h3 with h3 | ⟨h3, h4, h5, h6⟩
  · exact absurd rfl h3
  · have e : (r + 1).toNat = r.toNat + 1 := by omega
    have e1 := hL _ h5
    simp only [k_toNat h0] at e1
    refine ⟨e1, ⟨by omega, by show r + 1 < 209; omega, by rw [e, h3]⟩, by unfold klen; rw [e, h3]; rfl, fun j j0 j4 => ?_⟩
    have h7 := List.all_eq_true.mp h6 j.toNat (List.mem_range.mpr (by omega))
    simp only [Bool.and_eq_true, decide_eq_true_eq] at h7
    have e2 := hL _ h7.2
    simp only [k_toNat h0, k_toNat j0] at e2
    have e3 : (r + 2 + j).toNat = r.toNat + 2 + j.toNat := by omega
    exact ⟨e2, ⟨by omega, by show r + 2 + j < 209; omega, by rw [e3, h7.1]⟩, by unfold klen; rw [e3, h7.1]; rfl⟩
/-- what a land says -/
def told (σ : kS) (r c w : Int) : Int := σ (r + 2 + w) c
theorem Land_told {d : Nat} (hd : 1 ≤ d) {σ : kS} {r c w : Int} {Q : Int → kS → Prop} (hL : Lay σ) (hr : isO 5 kN r) (h : Q (if (0 ≤ w ∧ w < 4) ∧ 0 ≤ c ∧ c < 120 then told σ r c w else 0) σ) : Ci d MX5_told [(2, r), (0, c), (0, w)] kN σ Q := by
  obtain ⟨d, rfl⟩ : ∃ e, d = e + 1 := ⟨d - 1, by omega⟩
  obtain ⟨l1, l2, l3, l4⟩ := land_f hL hr
  refine EX5_told fun _ _ _ => SX5_told_0 ⟨fun e => ?_, fun e => ⟨fun e => ?_, fun e => ⟨fun e => ?_, fun e => ⟨fun e => ?_, fun e => ?_⟩⟩⟩⟩
  · rwa [if_neg (by omega)] at h
  · rwa [if_neg (by omega)] at h
  · rwa [if_neg (by omega)] at h
  · rwa [if_neg (by omega)] at h
  · obtain ⟨m1, m2, m3⟩ := l4 w (by omega) (by omega)
    rw [if_pos (by omega)] at h
    rw [l1, m1]
    exact ⟨hr, l2, by omega, m2, by omega, h⟩
