/-! sums over ranges; Land, the rest -/
def sm (f : Int → Int) : Nat → Int
  | 0 => 0
  | n + 1 => sm f n + f n
theorem sm_s {f : Int → Int} {i : Int} (h : 0 ≤ i) : sm f (i + 1).toNat = sm f i.toNat + f i := by
  rw [show (i + 1).toNat = i.toNat + 1 by omega, sm, k_toNat h]
theorem sm_cong {f g : Int → Int} {n : Nat} (h : ∀ i : Int, 0 ≤ i → i < n → f i = g i) : sm f n = sm g n := by
  induction n with
  | zero => rfl
  | succ n ih =>
    rw [sm, sm, ih (fun i h0 h1 => h i h0 (by omega)), h n (by omega) (by omega)]
theorem sm_b {f : Int → Int} {B : Int} {n : Nat} (h : ∀ i : Int, 0 ≤ i → i < n → 0 ≤ f i ∧ f i ≤ B) : 0 ≤ sm f n ∧ sm f n ≤ B * n := by
  induction n with
  | zero => simp [sm]
  | succ n ih =>
    have h1 := ih (fun i h0 h1 => h i h0 (by omega))
    have h2 := h n (by omega) (by omega)
    rw [sm, show ((n + 1 : Nat) : Int) = (n : Int) + 1 by omega, Int.mul_add, Int.mul_one]
    omega
theorem sm_1 {f : Int → Int} {n : Nat} (h : ∀ i : Int, 0 ≤ i → i < n → 0 ≤ f i ∧ f i ≤ 1) : 0 ≤ sm f n ∧ sm f n ≤ n := by
  have := sm_b h
  omega
theorem sm_up {f g : Int → Int} {c : Int} {n : Nat} (h0 : 0 ≤ c) (hc : c < n) (h : ∀ i : Int, 0 ≤ i → i < n → i ≠ c → g i = f i) : sm g n = sm f n + (g c - f c) := by
  induction n with
  | zero => omega
  | succ n ih =>
    rw [sm, sm]
    by_cases e : c = n
    · rw [sm_cong (n := n) (f := g) (g := f) (fun i i0 i1 => h i i0 (by omega) (by omega)), e]
      omega
    · rw [ih (by omega) (fun i i0 i1 i2 => h i i0 (by omega) i2), h n (by omega) (by omega) (by omega)]
      omega
theorem sm_le {f g : Int → Int} {n : Nat} (h : ∀ i : Int, 0 ≤ i → i < n → f i ≤ g i) : sm f n ≤ sm g n := by
  induction n with
  | zero => exact Int.le_refl _
  | succ n ih =>
    have h1 := ih (fun i h0 h1 => h i h0 (by omega))
    have h2 := h n (by omega) (by omega)
    rw [sm, sm]
    omega
/-- references keep -/
theorem lay_offI {L : List Int} {σ s : kS} (h : Lay σ) (ho : off L σ s) (hL : ∀ k ∈ L, isA 20 kN k ∨ s k = σ k ∨ (isO 8 kN k ∧ s k 0 = σ k 0)) : Lay s := by
  refine h.off (fun p hp => ?_)
  by_cases hm : p.1 ∈ L
  · have h1 := List.all_eq_true.mp layL_ok p hp
    simp only [Bool.and_eq_true, decide_eq_true_eq] at h1
    have h2 := h1.2.2
    rcases hL _ hm with e | e | ⟨e, e'⟩
    · exfalso
      rw [e.2.2] at h2
      revert h2
      simp [kkd]
    · rw [e]
    · rw [e.2.2] at h2
      have h3 : p.2.1.toNat = 0 := by
        revert h2
        generalize p.2.1.toNat = j
        match j with
        | 0 => exact fun _ => rfl
        | 1 => exact fun h => absurd h (by decide)
        | j + 2 => exact fun h => absurd h (by simp [kkd, kfd])
      have h4 : p.2.1 = 0 := by have := h1.2.1; omega
      rw [h4]
      exact e'
  · rw [ho _ hm]
theorem Land_put {d : Nat} (hd : 2 ≤ d) {σ : kS} {r c w v : Int} {Q : kS → Prop} (hL : Lay σ) (hr : isO 5 kN r) (hc : 0 ≤ c ∧ c < 120) (hw : 0 ≤ w ∧ w < 4) (h : Q (kst σ (r + 2 + w) c v)) : Cv d MX5_put [(2, r), (0, c), (0, w), (0, v)] kN σ Q := by
  obtain ⟨d, rfl⟩ : ∃ e, d = e + 1 := ⟨d - 1, by omega⟩
  obtain ⟨l1, l2, l3, l4⟩ := land_f hL hr
  obtain ⟨m1, m2, m3⟩ := l4 w hw.1 hw.2
  refine EX5_put fun _ _ _ _ => SX5_put_0 (X_isCell (by omega) (fun _ => ⟨fun e => by omega, fun _ => X_isLayer (by omega) (fun _ => ⟨fun e => by omega, fun _ => ?_⟩) (fun e => absurd hw e)⟩) (fun e => absurd hc e))
  rw [l1, m1]
  refine ⟨hr, l2, by omega, m2, by omega, fun s3 e3 => ?_⟩
  subst e3
  exact h
def landCells (r : Int) : List Int := [r + 2, r + 3, r + 4, r + 5]
theorem Land_take {d : Nat} (hd : 1 ≤ d) {σ : kS} {r q : Int} {Q : kS → Prop} (hL : Lay σ) (hr : isO 5 kN r) (hq : isO 5 kN q) (hrq : r + 6 ≤ q ∨ q + 6 ≤ r) (h : ∀ s, off (landCells r) σ s → Lay s → (∀ c w, 0 ≤ c → c < 120 → 0 ≤ w → w < 4 → told s r c w = told σ q c w) → Q s) : Cv d MX5_take [(2, r), (2, q)] kN σ Q := by
  obtain ⟨d, rfl⟩ : ∃ e, d = e + 1 := ⟨d - 1, by omega⟩
  obtain ⟨l1, l2, l3, l4⟩ := land_f hL hr
  have key : ∀ i : Int, ∀ s : kS, 0 ≤ i → i ≤ 4 → off (landCells r) σ s → (∀ c w, 0 ≤ c → c < 120 → 0 ≤ w → w < i → told s r c w = told σ q c w) → LX5_take_2 d kN Q r q i s := by
    refine up_to (e := 4) ?_
    intro i ih s hi hi4 ho ht
    have hLs : Lay s := lay_offI hL ho (fun k hk => Or.inl (by
      simp only [landCells, List.mem_cons, List.not_mem_nil, or_false] at hk
      rcases hk with rfl | rfl | rfl | rfl
      · simpa using (l4 0 (by omega) (by omega)).2.1
      · simpa [Int.add_assoc] using (l4 1 (by omega) (by omega)).2.1
      · simpa [Int.add_assoc] using (l4 2 (by omega) (by omega)).2.1
      · simpa [Int.add_assoc] using (l4 3 (by omega) (by omega)).2.1))
    refine SX5_take_2 ⟨fun c => h s ho hLs (fun c' w c0 c1 w0 w1 => ht c' w c0 c1 w0 (by omega)), fun c => ?_⟩
    obtain ⟨p1, p2, p3, p4⟩ := land_f hLs hr
    obtain ⟨q1, q2, q3, q4⟩ := land_f hLs hq
    obtain ⟨p5, p6, p7⟩ := p4 i hi (by omega)
    obtain ⟨q5, q6, q7⟩ := q4 i hi (by omega)
    rw [p1, q1, p5, q5]
    have hin : r + 2 + i ∈ landCells r := by
      simp only [landCells, List.mem_cons, List.not_mem_nil, or_false]
      omega
    have hout : q + 2 + i ∉ landCells r := by
      simp only [landCells, List.mem_cons, List.not_mem_nil, or_false]
      omega
    refine ⟨hq, q2, by omega, hr, p2, by omega, q6, p6, ⟨Nat.le_refl _, by omega, by omega, by omega, by omega⟩, fun s1 e1 => ⟨by omega, ih (by omega) s1 (by omega) (by omega) ?_ ?_⟩⟩
    · rw [e1]; exact ho.cpy hin
    · intro c' w c0 c1 w0 w1
      rw [e1]
      unfold told
      by_cases e : w = i
      · rw [e, kcpy_b, if_pos (by omega), ho _ hout]
        congr 1
        omega
      · rw [kcpy_k (by omega)]
        exact ht c' w c0 c1 w0 (by omega)
  exact EX5_take fun _ => SX5_take_0 (key 0 σ (by omega) (by omega) off.rfl' (fun c w _ _ w0 w1 => by omega))
abbrev unl (f g : Int → Int → Int) (c : Int) : Prop := f c 0 ≠ g c 0 ∨ f c 1 ≠ g c 1 ∨ f c 2 ≠ g c 2 ∨ f c 3 ≠ g c 3
theorem unl_iff {f g : Int → Int → Int} {c : Int} : unl f g c ↔ ∃ w, 0 ≤ w ∧ w < 4 ∧ f c w ≠ g c w := by
  constructor
  · rintro (h | h | h | h)
    · exact ⟨0, by omega, by omega, h⟩
    · exact ⟨1, by omega, by omega, h⟩
    · exact ⟨2, by omega, by omega, h⟩
    · exact ⟨3, by omega, by omega, h⟩
  · rintro ⟨w, h0, h1, h⟩
    rcases (show w = 0 ∨ w = 1 ∨ w = 2 ∨ w = 3 by omega) with rfl | rfl | rfl | rfl
    · exact Or.inl h
    · exact Or.inr (Or.inl h)
    · exact Or.inr (Or.inr (Or.inl h))
    · exact Or.inr (Or.inr (Or.inr h))
theorem Land_isUnlike {d : Nat} (hd : 2 ≤ d) {σ : kS} {r q c : Int} {Q : Int → kS → Prop} (hL : Lay σ) (hr : isO 5 kN r) (hq : isO 5 kN q) (hc : 0 ≤ c ∧ c < 120) (h1 : unl (told σ r) (told σ q) c → Q 1 σ) (h0 : ¬ unl (told σ r) (told σ q) c → Q 0 σ) : Ci d MX5_isUnlike [(2, r), (2, q), (0, c)] kN σ Q := by
  obtain ⟨d, rfl⟩ : ∃ e, d = e + 1 := ⟨d - 1, by omega⟩
  have key : ∀ i : Int, 0 ≤ i → (∀ w, 0 ≤ w → w < i → told σ r c w = told σ q c w) → LX5_isUnlike_2 d kN Q r q c i σ := by
    refine up_to (e := 4) ?_
    intro i ih hi ht
    refine SX5_isUnlike_2 ⟨fun c4 => h0 ?_, fun c4 => ⟨hr, Land_told (by omega) hL hr ⟨hq, Land_told (by omega) hL hq ?_⟩⟩⟩
    · rw [unl_iff]
      rintro ⟨w, w0, w1, hw⟩
      exact hw (ht w w0 (by omega))
    · rw [if_pos (by omega), if_pos (by omega)]
      refine ⟨fun e => ⟨by omega, ih (by omega) (by omega) (fun w w0 w1 => ?_)⟩, fun e => h1 (unl_iff.mpr ⟨i, hi, by omega, e⟩)⟩
      by_cases ew : w = i
      · rw [ew]; exact e
      · exact ht w w0 (by omega)
  exact EX5_isUnlike fun _ _ => SX5_isUnlike_0 (key 0 (by omega) (fun w w0 w1 => by omega))
def unlN (f g : Int → Int → Int) : Int := sm (fun c => if unl f g c then 1 else 0) 120
theorem Land_unlikeCells {d : Nat} (hd : 3 ≤ d) {σ : kS} {r q : Int} {Q : Int → kS → Prop} (hL : Lay σ) (hr : isO 5 kN r) (hq : isO 5 kN q) (h : Q (unlN (told σ r) (told σ q)) σ) : Ci d MX5_unlikeCells [(2, r), (2, q)] kN σ Q := by
  obtain ⟨d, rfl⟩ : ∃ e, d = e + 1 := ⟨d - 1, by omega⟩
  have key : ∀ i : Int, ∀ a : Int, 0 ≤ i → i ≤ 120 → a = sm (fun c => if unl (told σ r) (told σ q) c then 1 else 0) i.toNat → LX5_unlikeCells_4 d kN Q r q a i σ := by
    refine up_to (e := 120) ?_
    intro i ih a hi hi2 ha
    have hb := sm_1 (f := fun c => if unl (told σ r) (told σ q) c then 1 else 0) (n := i.toNat) (fun j _ _ => by split <;> omega)
    have hs := sm_s (f := fun c => if unl (told σ r) (told σ q) c then 1 else 0) hi
    refine SX5_unlikeCells_4 ⟨fun c => ?_, fun c => ⟨hr, Land_isUnlike (by omega) hL hr hq ⟨hi, by omega⟩ (fun u => ⟨fun e => by omega, fun _ => ⟨by omega, by omega, ih (by omega) _ (by omega) (by omega) ?_⟩⟩) (fun u => ⟨fun _ => ⟨by omega, ih (by omega) _ (by omega) (by omega) ?_⟩, fun e => by omega⟩)⟩⟩
    · rw [ha, show i.toNat = 120 by omega]; exact h
    · rw [hs, if_pos u, ha]
    · rw [hs, if_neg u, ha, Int.add_zero]
  exact EX5_unlikeCells fun _ => SX5_unlikeCells_0 (key 0 0 (by omega) (by omega) rfl)
