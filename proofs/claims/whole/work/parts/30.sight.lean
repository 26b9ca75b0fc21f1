/-! floorDiv; Sight (the object 40): the lines -/
theorem kxor_sign {a b : Int} (ha : -2147483648 ≤ a ∧ a ≤ 2147483647) (hb : 0 ≤ b ∧ b ≤ 2147483647) : 0 ≤ kxor a b ↔ 0 ≤ a := by
  have e : kxor a b = ((Int32.ofInt a).toBitVec ^^^ (Int32.ofInt b).toBitVec).toInt := rfl
  have h1 := BitVec.msb_eq_toInt (x := (Int32.ofInt a).toBitVec ^^^ (Int32.ofInt b).toBitVec)
  have h2 := BitVec.msb_eq_toInt (x := (Int32.ofInt a).toBitVec)
  have h3 := BitVec.msb_eq_toInt (x := (Int32.ofInt b).toBitVec)
  have ea : (Int32.ofInt a).toBitVec.toInt = a := k32 ha
  have eb : (Int32.ofInt b).toBitVec.toInt = b := k32 (by omega)
  rw [BitVec.msb_xor, h2, h3, ea, eb, ← e, decide_eq_false (show ¬ b < 0 by omega), Bool.xor_false, decide_eq_decide] at h1
  omega
theorem kfloor {a b : Int} (hb : 0 < b) : a / b = if 0 ≤ a ∨ Int.tdiv a b * b = a then Int.tdiv a b else Int.tdiv a b - 1 := by
  by_cases h : 0 ≤ a
  · rw [if_pos (Or.inl h), Int.tdiv_eq_ediv_of_nonneg h]
  · have e : Int.tdiv a b = - ((-a) / b) := by
      have := Int.neg_tdiv (-a) b
      rw [Int.neg_neg] at this
      rw [this, Int.tdiv_eq_ediv_of_nonneg (by omega)]
    have h1 := Int.emod_add_mul_ediv (-a) b
    have h2 := Int.emod_nonneg (-a) (show b ≠ 0 by omega)
    have h3 := Int.emod_lt_of_pos (-a) hb
    have h4 : b * ((-a)/b) = (-a)/b * b := Int.mul_comm _ _
    rw [e]
    by_cases c : -(-a / b) * b = a
    · rw [if_pos (Or.inr c)]
      rw [Int.neg_mul] at c
      have h5 : (-a) % b = 0 := by omega
      apply Int.ediv_eq_of_eq_mul_left (by omega)
      rw [Int.neg_mul]
      omega
    · rw [if_neg (by rintro (q | q); exact h q; exact c q)]
      rw [Int.neg_mul] at c
      refine (Int.ediv_emod_unique hb (r := b - (-a) % b) (q := -(-a / b) - 1)).mpr ⟨?_, ?_, ?_⟩ |>.1
      · rw [Int.mul_sub, Int.mul_neg]; omega
      · omega
      · omega
theorem ktdiv_b {a b : Int} (hb : 0 < b) : (-(max a (-a)) ≤ Int.tdiv a b ∧ Int.tdiv a b ≤ max a (-a)) ∧ -(max a (-a)) ≤ Int.tdiv a b * b ∧ Int.tdiv a b * b ≤ max a (-a) := by
  by_cases h : 0 ≤ a
  · rw [Int.tdiv_eq_ediv_of_nonneg h]
    have h1 := Int.ediv_nonneg h (show 0 ≤ b by omega)
    have h2 := Int.ediv_le_self b h
    have h3 := Int.ediv_mul_le a (show b ≠ 0 by omega)
    have h4 := Int.mul_nonneg h1 (show 0 ≤ b by omega)
    omega
  · have e : Int.tdiv a b = - ((-a) / b) := by
      have := Int.neg_tdiv (-a) b
      rw [Int.neg_neg] at this
      rw [this, Int.tdiv_eq_ediv_of_nonneg (by omega)]
    rw [e, Int.neg_mul]
    have h1 := Int.ediv_nonneg (show 0 ≤ -a by omega) (show 0 ≤ b by omega)
    have h2 := Int.ediv_le_self b (show 0 ≤ -a by omega)
    have h3 := Int.ediv_mul_le (-a) (show b ≠ 0 by omega)
    have h4 := Int.mul_nonneg h1 (show 0 ≤ b by omega)
    omega
theorem btw_b {D n i : Int} (hn : 0 < n) (hi : 0 ≤ i ∧ i ≤ n) : min 0 D ≤ (2 * i * D + n) / (2 * n) ∧ (2 * i * D + n) / (2 * n) ≤ max 0 D := by
  by_cases h : 0 ≤ D
  · have h1 : i * D ≤ n * D := Int.mul_le_mul_of_nonneg_right hi.2 h
    have h0 : 0 ≤ i * D := Int.mul_nonneg hi.1 h
    have e1 : 2 * i * D = 2 * (i * D) := Int.mul_assoc _ _ _
    have e2 : (D + 1) * (2 * n) = 2 * (n * D) + 2 * n := by rw [Int.add_mul, Int.one_mul, Int.mul_comm D, Int.mul_assoc]
    have h2 : (2 * i * D + n) / (2 * n) < D + 1 := Int.ediv_lt_of_lt_mul (by omega) (by omega)
    have h3 : 0 ≤ (2 * i * D + n) / (2 * n) := Int.ediv_nonneg (by omega) (by omega)
    omega
  · have h1 : i * (-D) ≤ n * (-D) := Int.mul_le_mul_of_nonneg_right hi.2 (by omega)
    have h0 : 0 ≤ i * (-D) := Int.mul_nonneg hi.1 (by omega)
    rw [Int.mul_neg] at h0 h1
    rw [Int.mul_neg] at h1
    have e1 : 2 * i * D = 2 * (i * D) := Int.mul_assoc _ _ _
    have e2 : D * (2 * n) = 2 * (n * D) := by rw [Int.mul_comm D, Int.mul_assoc]
    have h2 : (2 * i * D + n) / (2 * n) < 1 := Int.ediv_lt_of_lt_mul (by omega) (by omega)
    have h3 : D ≤ (2 * i * D + n) / (2 * n) := Int.le_ediv_of_mul_le (by omega) (by omega)
    omega
theorem mul_11 {i x : Int} (hi : 0 ≤ i ∧ i ≤ 11) (hx : -11 ≤ x ∧ x ≤ 11) : -242 ≤ 2 * i * x ∧ 2 * i * x ≤ 242 := by
  rcases (show i = 0 ∨ i = 1 ∨ i = 2 ∨ i = 3 ∨ i = 4 ∨ i = 5 ∨ i = 6 ∨ i = 7 ∨ i = 8 ∨ i = 9 ∨ i = 10 ∨ i = 11 by omega) with rfl | rfl | rfl | rfl | rfl | rfl | rfl | rfl | rfl | rfl | rfl | rfl <;> omega
theorem mul_99 {i x : Int} (hi : 0 ≤ i ∧ i ≤ 11) (hx : 0 ≤ x ∧ x ≤ 99) : 0 ≤ x * i ∧ x * i ≤ 1089 := by
  rcases (show i = 0 ∨ i = 1 ∨ i = 2 ∨ i = 3 ∨ i = 4 ∨ i = 5 ∨ i = 6 ∨ i = 7 ∨ i = 8 ∨ i = 9 ∨ i = 10 ∨ i = 11 by omega) with rfl | rfl | rfl | rfl | rfl | rfl | rfl | rfl | rfl | rfl | rfl | rfl <;> omega
theorem J_floorDiv {d n : Nat} (hd : 1 ≤ d) {σ : kS} {a b : Int} {Q : Int → kS → Prop} (ha : -1000000 ≤ a ∧ a ≤ 1000000) (hb : 0 < b ∧ b ≤ 1000000) (h : Q (a / b) σ) : Ci d MJm_floorDiv [(0, a), (0, b)] n σ Q := by
  obtain ⟨d, rfl⟩ : ∃ e, d = e + 1 := ⟨d - 1, by omega⟩
  have h1 := ktdiv_b (a := a) hb.1
  have h2 := kfloor (a := a) hb.1
  have h3 := kxor_sign (a := a) (b := b) (by omega) (by omega)
  refine EJm_floorDiv fun _ _ _ => SJm_floorDiv_0 ⟨⟨by omega, by omega⟩, fun c => ?_, fun c => ⟨by omega, fun c2 => ?_, fun c2 => ⟨by omega, ?_⟩⟩⟩
  · rw [if_pos (Or.inl (h3.mp c))] at h2
    rwa [← h2]
  · rw [if_pos (Or.inr c2)] at h2
    rwa [← h2]
  · rw [if_neg (fun q => q.elim (fun q => c (h3.mpr q)) c2)] at h2
    rwa [← h2]
theorem Land_toldI {d : Nat} (hd : 1 ≤ d) {σ : kS} {r c w : Int} {Q : Int → kS → Prop} (hL : Lay σ) (hr : isO 5 kN r) (hc : 0 ≤ c ∧ c < 120) (hw : 0 ≤ w ∧ w < 4) (h : Q (told σ r c w) σ) : Ci d MX5_told [(2, r), (0, c), (0, w)] kN σ Q :=
  Land_told hd hL hr (by rw [if_pos ⟨hw, hc⟩]; exact h)
def btw (a b i n : Int) : Int := (a / 12 + (2 * i * (b / 12 - a / 12) + n) / (2 * n)) * 12 + (a % 12 + (2 * i * (b % 12 - a % 12) + n) / (2 * n))
theorem btw_xy {a b i n : Int} (ha : 0 ≤ a ∧ a < 120) (hb : 0 ≤ b ∧ b < 120) (hn : 0 < n) (hi : 0 ≤ i ∧ i ≤ n) : (0 ≤ btw a b i n ∧ btw a b i n < 120) ∧ btw a b i n % 12 = a % 12 + (2 * i * (b % 12 - a % 12) + n) / (2 * n) ∧ btw a b i n / 12 = a / 12 + (2 * i * (b / 12 - a / 12) + n) / (2 * n) := by
  have h1 := btw_b (D := b % 12 - a % 12) hn hi
  have h2 := btw_b (D := b / 12 - a / 12) hn hi
  unfold btw
  generalize (2 * i * (b % 12 - a % 12) + n) / (2 * n) = p at h1 ⊢
  generalize (2 * i * (b / 12 - a / 12) + n) / (2 * n) = q at h2 ⊢
  omega
theorem Sight_cellBetween {d k : Nat} (hd : 2 ≤ d) {σ : kS} {a b i n : Int} {Q : Int → kS → Prop} (ha : 0 ≤ a ∧ a < 120) (hb : 0 ≤ b ∧ b < 120) (hn : 0 < n ∧ n ≤ 11) (hi : 0 ≤ i ∧ i ≤ n) (h : Q (btw a b i n) σ) : Ci d MX9_cellBetween [(0, a), (0, b), (0, i), (0, n)] k σ Q := by
  obtain ⟨d, rfl⟩ : ∃ e, d = e + 1 := ⟨d - 1, by omega⟩
  have h1 := btw_b (D := b % 12 - a % 12) hn.1 hi
  have h2 := btw_b (D := b / 12 - a / 12) hn.1 hi
  have m1 := mul_11 (i := i) (x := b % 12 - a % 12) (by omega) (by omega)
  have m2 := mul_11 (i := i) (x := b / 12 - a / 12) (by omega) (by omega)
  refine EX9_cellBetween fun _ _ _ _ _ => SX9_cellBetween_0 ⟨fun _ => ⟨ha.1, by omega, hb.1, by omega, by omega, by omega, by omega, J_floorDiv (by omega) (by omega) (by omega) ?_⟩, fun e => by omega⟩
  refine ⟨by omega, by omega, by omega, by omega, J_floorDiv (by omega) (by omega) (by omega) ⟨by omega, by omega, by omega, h⟩⟩
/-- one sees the other -/
def sees (H : Int → Int) (a b : Int) : Prop := ∀ i, 1 ≤ i → i < apart a b → H (btw a b i (apart a b)) * apart a b ≤ H a * (apart a b - i) + H b * i
def HOK (σ : kS) (r : Int) : Prop := ∀ c, 0 ≤ c → c < 120 → 0 ≤ told σ r c 0 ∧ told σ r c 0 ≤ 99
theorem Sight_isSeen {d : Nat} (hd : 3 ≤ d) {σ : kS} {r a b : Int} {Q : Int → kS → Prop} (hL : Lay σ) (hr : isO 5 kN r) (hH : HOK σ r) (ha : 0 ≤ a ∧ a < 120) (hb : 0 ≤ b ∧ b < 120) (h1 : sees (fun c => told σ r c 0) a b → Q 1 σ) (h0 : ¬ sees (fun c => told σ r c 0) a b → Q 0 σ) : Ci d MX9_isSeen [(2, 40), (2, r), (0, a), (0, b)] kN σ Q := by
  obtain ⟨d, rfl⟩ : ∃ e, d = e + 1 := ⟨d - 1, by omega⟩
  have hn := apart_cells ha hb
  have hn0 := apart_nn (a := a) (b := b)
  have ga := hH a ha.1 ha.2
  have gb := hH b hb.1 hb.2
  have key : ∀ i : Int, 1 ≤ i → (∀ k, 1 ≤ k → k < i → told σ r (btw a b k (apart a b)) 0 * apart a b ≤ told σ r a 0 * (apart a b - k) + told σ r b 0 * k) → LX9_isSeen_26 d kN Q r a b (apart a b) (told σ r a 0) (told σ r b 0) i σ := by
    refine up_to (e := apart a b) ?_
    intro i ih hi hok
    refine SX9_isSeen_26 ⟨fun e => h1 (fun k k0 k1 => hok k k0 (by omega)), fun e => ?_⟩
    refine Sight_cellBetween (by omega) ha hb (by omega) (by omega) ⟨hr, ?_⟩
    have hc := (btw_xy (i := i) (n := apart a b) ha hb (by omega) (by omega)).1
    have gc := hH _ hc.1 hc.2
    have m1 := mul_99 (i := apart a b) (x := told σ r (btw a b i (apart a b)) 0) (by omega) gc
    have m2 := mul_99 (i := apart a b - i) (x := told σ r a 0) (by omega) ga
    have m3 := mul_99 (i := i) (x := told σ r b 0) (by omega) gb
    refine Land_toldI (by omega) hL hr hc (by omega) ⟨by omega, by omega, by omega, by omega, by omega, fun c => ⟨by omega, ih (by omega) (by omega) (fun k k0 k1 => ?_)⟩, fun c => h0 (fun q => c (q i hi (by omega)))⟩
    by_cases ek : k = i
    · rw [ek]; exact c
    · exact hok k k0 (by omega)
  exact EX9_isSeen fun _ _ _ => SX9_isSeen_0 (X_apart (by omega) ha.1 hb.1 ⟨hr, Land_toldI (by omega) hL hr ha (by omega) (Land_toldI (by omega) hL hr hb (by omega) (key 1 (by omega) (fun k k0 k1 => by omega)))⟩)
def hop (H : Int → Int) (far a b : Int) : Prop := apart a b ≤ far ∧ sees H a b
theorem Sight_isHop {d : Nat} (hd : 4 ≤ d) {σ : kS} {r a b far : Int} {Q : Int → kS → Prop} (hL : Lay σ) (hr : isO 5 kN r) (hH : HOK σ r) (ha : 0 ≤ a ∧ a < 120) (hb : 0 ≤ b ∧ b < 120) (h1 : hop (fun c => told σ r c 0) far a b → Q 1 σ) (h0 : ¬ hop (fun c => told σ r c 0) far a b → Q 0 σ) : Ci d MX9_isHop [(2, 40), (2, r), (0, a), (0, b), (0, far)] kN σ Q := by
  obtain ⟨d, rfl⟩ : ∃ e, d = e + 1 := ⟨d - 1, by omega⟩
  refine EX9_isHop fun _ _ _ _ => SX9_isHop_0 (X_apart (by omega) ha.1 hb.1 ⟨fun c => h0 (fun q => by have := q.1; omega), fun c => ⟨o_40, Sight_isSeen (by omega) hL hr hH ha hb (fun q => ⟨fun e => by omega, fun _ => h1 ⟨by omega, q⟩⟩) (fun q => ⟨fun _ => h0 (fun z => q z.2), fun e => by omega⟩)⟩⟩)
