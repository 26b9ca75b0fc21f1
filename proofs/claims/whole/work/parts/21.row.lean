/-! the JDK's numbers; Row -/
theorem up_to {P : Int → Prop} {e : Int} (h : ∀ i, (i < e → P (i + 1)) → P i) : ∀ i, P i := by
  have key : ∀ (k : Nat) (i : Int), (e - i).toNat = k → P i := by
    intro k
    induction k with
    | zero => intro i hi; exact h i (fun hlt => by omega)
    | succ k ih => intro i hi; exact h i (fun hlt => ih (i + 1) (by omega))
  exact fun i => key _ i rfl
theorem J_abs {d n : Nat} (hd : 1 ≤ d) {σ : kS} {x : Int} {Q : Int → kS → Prop} (hx : -2147483647 ≤ x ∧ x ≤ 2147483647) (h : Q (max x (-x)) σ) : Ci d MJm_abs [(0, x)] n σ Q := by
  obtain ⟨d, rfl⟩ : ∃ e, d = e + 1 := ⟨d - 1, by omega⟩
  refine EJm_abs fun _ _ => SJm_abs_0 ⟨fun c => ?_, fun c => ⟨by omega, ?_⟩⟩
  · rwa [show max x (-x) = x by omega] at h
  · rwa [show max x (-x) = -x by omega] at h
theorem J_max {d n : Nat} (hd : 1 ≤ d) {σ : kS} {x y : Int} {Q : Int → kS → Prop} (h : Q (max x y) σ) : Ci d MJm_max [(0, x), (0, y)] n σ Q := by
  obtain ⟨d, rfl⟩ : ∃ e, d = e + 1 := ⟨d - 1, by omega⟩
  refine EJm_max fun _ _ _ => SJm_max_0 ⟨fun c => ?_, fun c => ?_⟩
  · rwa [show max x y = y by omega] at h
  · rwa [show max x y = x by omega] at h
theorem J_min {d n : Nat} (hd : 1 ≤ d) {σ : kS} {x y : Int} {Q : Int → kS → Prop} (h : Q (min x y) σ) : Ci d MJm_min [(0, x), (0, y)] n σ Q := by
  obtain ⟨d, rfl⟩ : ∃ e, d = e + 1 := ⟨d - 1, by omega⟩
  refine EJm_min fun _ _ _ => SJm_min_0 ⟨fun c => ?_, fun c => ?_⟩
  · rwa [show min x y = y by omega] at h
  · rwa [show min x y = x by omega] at h
theorem klcmp_lt {a b : Int} : klcmp a b < 0 ↔ a < b := by unfold klcmp; split <;> (try split) <;> omega
theorem klcmp_gt {a b : Int} : 0 < klcmp a b ↔ b < a := by unfold klcmp; split <;> (try split) <;> omega
theorem klcmp_eq {a b : Int} : klcmp a b = 0 ↔ a = b := by unfold klcmp; split <;> (try split) <;> omega
theorem J_maxL {d n : Nat} (hd : 1 ≤ d) {σ : kS} {x y : Int} {Q : Int → kS → Prop} (h : Q (max x y) σ) : Cl d MJm_maxL [(1, x), (1, y)] n σ Q := by
  obtain ⟨d, rfl⟩ : ∃ e, d = e + 1 := ⟨d - 1, by omega⟩
  refine EJm_maxL fun _ _ _ => SJm_maxL_0 ⟨fun c => ?_, fun c => ?_⟩
  · rw [klcmp_lt] at c
    rwa [show max x y = y by omega] at h
  · rw [klcmp_lt] at c
    rwa [show max x y = x by omega] at h
theorem J_minL {d n : Nat} (hd : 1 ≤ d) {σ : kS} {x y : Int} {Q : Int → kS → Prop} (h : Q (min x y) σ) : Cl d MJm_minL [(1, x), (1, y)] n σ Q := by
  obtain ⟨d, rfl⟩ : ∃ e, d = e + 1 := ⟨d - 1, by omega⟩
  refine EJm_minL fun _ _ _ => SJm_minL_0 ⟨fun c => ?_, fun c => ?_⟩
  · rw [klcmp_gt] at c
    rwa [show min x y = y by omega] at h
  · rw [klcmp_gt] at c
    rwa [show min x y = x by omega] at h
/-- the world with the int array a filled with v -/
def kfill (σ : kS) (a v : Int) : kS := fun k => if k = a then (fun j => if 0 ≤ j ∧ j < klen a then v else σ a j) else σ k
def kfillF (σ : kS) (a v i : Int) : kS := fun k => if k = a then (fun j => if i ≤ j ∧ j < klen a then v else σ a j) else σ k
theorem kfillF_end {σ : kS} {a v i : Int} (h : klen a ≤ i) : kfillF σ a v i = σ := by
  funext k
  unfold kfillF
  by_cases hk : k = a
  · rw [if_pos hk, hk]
    funext j
    rw [if_neg (by omega)]
  · rw [if_neg hk]
theorem kfillF_step {σ : kS} {a v i : Int} (h : i < klen a) : kfillF (kst σ a i v) a v (i + 1) = kfillF σ a v i := by
  funext k
  unfold kfillF
  by_cases hk : k = a
  · rw [if_pos hk, if_pos hk]
    funext j
    rw [kst_ap]
    by_cases h1 : i ≤ j ∧ j < klen a
    · rw [if_pos h1]
      by_cases h2 : i + 1 ≤ j ∧ j < klen a
      · rw [if_pos h2]
      · rw [if_neg h2, if_pos ⟨rfl, by omega⟩]
    · rw [if_neg h1, if_neg (by omega), if_neg (by omega)]
  · rw [if_neg hk, if_neg hk, kst_k hk]
theorem J_fill {d n : Nat} (hd : 1 ≤ d) {σ : kS} {a v : Int} {Q : kS → Prop} (hA : isA 20 n a) (h : Q (kfill σ a v)) : Cv d MJm_fill [(2, a), (0, v)] n σ Q := by
  obtain ⟨d, rfl⟩ : ∃ e, d = e + 1 := ⟨d - 1, by omega⟩
  have hlen : klen a ≤ 100000 := by
    have := ksh_small a.toNat
    unfold klen
    omega
  have key : ∀ i : Int, ∀ s : kS, 0 ≤ i → Q (kfillF s a v i) → LJm_fill_5 d n Q a v i (klen a) s := by
    refine up_to (e := klen a) ?_
    intro i ih s hi hq
    refine SJm_fill_5 ⟨fun c => ?_, fun c => ⟨hA, ⟨hi, by omega⟩, ?_⟩⟩
    · rwa [kfillF_end c] at hq
    · intro s1 e1
      refine ⟨by omega, ?_⟩
      subst e1
      exact ih (by omega) _ (by omega) (by rwa [kfillF_step (by omega)])
  exact EJm_fill fun _ _ => SJm_fill_0 ⟨hA, key 0 σ (Int.le_refl 0) h⟩
/-! Row -/
def rowL (σ : kS) (r : Int) : List Int := (List.range (σ r 1).toNat).map fun i : Nat => σ (r + 1) i
def RowOK (σ : kS) (r : Int) : Prop := isO 8 kN r ∧ 0 ≤ σ r 1 ∧ σ r 1 ≤ klen (r + 1)
theorem rowL_len {σ : kS} {r : Int} : (rowL σ r).length = (σ r 1).toNat := by simp [rowL]
theorem rowL_cong {σ σ' : kS} {r : Int} (h1 : σ' r = σ r) (h2 : σ' (r + 1) = σ (r + 1)) : rowL σ' r = rowL σ r := by unfold rowL; rw [h1, h2]
theorem rowL_get {σ : kS} {r : Int} {i : Nat} (h : i < (σ r 1).toNat) : (rowL σ r)[i]? = some (σ (r + 1) i) := by simp [rowL, h]
theorem rowL_drop {σ : kS} {r i : Int} (h0 : 0 ≤ i) (h : i < σ r 1) : (rowL σ r).drop i.toNat = σ (r + 1) i :: (rowL σ r).drop (i + 1).toNat := by
  have hl : i.toNat < (rowL σ r).length := by rw [rowL_len]; omega
  rw [List.drop_eq_getElem_cons hl]
  have e1 : (rowL σ r)[i.toNat] = σ (r + 1) i := by
    have := rowL_get (σ := σ) (r := r) (i := i.toNat) (by omega)
    rw [List.getElem?_eq_getElem hl] at this
    rw [Option.some.inj this, k_toNat h0]
  rw [e1, show (i + 1).toNat = i.toNat + 1 by omega]
theorem rowL_dropE {σ : kS} {r i : Int} (h : σ r 1 ≤ i) : (rowL σ r).drop i.toNat = [] := by
  apply List.drop_eq_nil_of_le
  rw [rowL_len]
  omega
theorem mem_rowL {σ : kS} {r x : Int} : x ∈ rowL σ r ↔ ∃ i : Int, 0 ≤ i ∧ i < σ r 1 ∧ σ (r + 1) i = x := by
  unfold rowL
  rw [List.mem_map]
  constructor
  · rintro ⟨i, hi, rfl⟩
    have := List.mem_range.mp hi
    exact ⟨i, by omega, by omega, rfl⟩
  · rintro ⟨i, h0, h1, rfl⟩
    exact ⟨i.toNat, List.mem_range.mpr (by omega), by rw [k_toNat h0]⟩
theorem row_0 {σ : kS} {r : Int} (hL : Lay σ) (hr : RowOK σ r) : σ r 0 = r + 1 := hL.row hr.1
/-- at(i) -/
def rowAt (σ : kS) (r i : Int) : Int := if 0 ≤ i ∧ i < σ r 1 then σ (r + 1) i else -1
theorem Row_at {d : Nat} (hd : 1 ≤ d) {σ : kS} {r i : Int} {Q : Int → kS → Prop} (hL : Lay σ) (hr : RowOK σ r) (h : Q (rowAt σ r i) σ) : Ci d MX8_at [(2, r), (0, i)] kN σ Q := by
  obtain ⟨d, rfl⟩ : ∃ e, d = e + 1 := ⟨d - 1, by omega⟩
  unfold rowAt at h
  refine EX8_at fun _ _ => SX8_at_0 ?_
  rw [row_0 hL hr]
  obtain ⟨h1, h2, h3⟩ := hr
  refine ⟨fun c => ?_, fun c => ⟨h1, fun c2 => ?_, fun c2 => ⟨row_arr h1, by omega, ?_⟩⟩⟩
  · rwa [if_neg (by omega)] at h
  · rwa [if_neg (by omega)] at h
  · rwa [if_pos (by omega)] at h
theorem Row_last {d : Nat} (hd : 2 ≤ d) {σ : kS} {r : Int} {Q : Int → kS → Prop} (hL : Lay σ) (hr : RowOK σ r) (h : Q (rowAt σ r (σ r 1 - 1)) σ) : Ci d MX8_last [(2, r)] kN σ Q := by
  obtain ⟨d, rfl⟩ : ∃ e, d = e + 1 := ⟨d - 1, by omega⟩
  have := klen_nn (r + 1)
  obtain ⟨h1, h2, h3⟩ := id hr
  exact EX8_last fun _ => SX8_last_0 ⟨h1, by omega, Row_at (by omega) hL hr h⟩
/-- the world behind add(x) -/
def rowPush (σ : kS) (r x : Int) : kS := kst (kst σ (r + 1) (σ r 1) x) r 1 (σ r 1 + 1)
theorem Row_add {d : Nat} (hd : 1 ≤ d) {σ : kS} {r x : Int} {Q : Int → kS → Prop} (hL : Lay σ) (hr : RowOK σ r) (h1 : σ r 1 < klen (r + 1) → Q 1 (rowPush σ r x)) (h0 : σ r 1 = klen (r + 1) → Q 0 σ) : Ci d MX8_add [(2, r), (0, x)] kN σ Q := by
  obtain ⟨d, rfl⟩ : ∃ e, d = e + 1 := ⟨d - 1, by omega⟩
  have := klen_nn (r + 1)
  refine EX8_add fun _ _ => SX8_add_0 ?_
  rw [row_0 hL hr]
  obtain ⟨q1, q2, q3⟩ := hr
  refine ⟨q1, row_arr q1, fun c => ⟨by omega, ?_⟩, fun c => h0 (by omega)⟩
  intro s1 e1
  have e2 : s1 r 1 = σ r 1 := by rw [e1, kst_k (by omega)]
  rw [e2]
  refine ⟨by omega, ?_⟩
  intro s2 e2
  rw [e2, e1]
  exact h1 c
theorem Row_cut {d : Nat} (hd : 1 ≤ d) {σ : kS} {r i : Int} {Q : Int → kS → Prop} (hr : isO 8 kN r) (h1 : 0 ≤ i → i ≤ σ r 1 → Q 1 (kst σ r 1 i)) (h0 : i < 0 ∨ σ r 1 < i → Q 0 σ) : Ci d MX8_cut [(2, r), (0, i)] kN σ Q := by
  obtain ⟨d, rfl⟩ : ∃ e, d = e + 1 := ⟨d - 1, by omega⟩
  refine EX8_cut fun _ _ => SX8_cut_0 ⟨fun c => h0 (Or.inl c), fun c => ⟨hr, fun c2 => ?_, fun c2 => h0 (by omega)⟩⟩
  intro s1 e1
  rw [e1]
  exact h1 (by omega) c2
theorem Row_has {d : Nat} (hd : 1 ≤ d) {σ : kS} {r x : Int} {Q : Int → kS → Prop} (hL : Lay σ) (hr : RowOK σ r) (h : Q (if x ∈ rowL σ r then 1 else 0) σ) : Ci d MX8_has [(2, r), (0, x)] kN σ Q := by
  obtain ⟨d, rfl⟩ : ∃ e, d = e + 1 := ⟨d - 1, by omega⟩
  have hk := klen_nn (r + 1)
  have e0 := row_0 hL hr
  obtain ⟨q1, q2, q3⟩ := hr
  have key : ∀ i : Int, 0 ≤ i → Q (if x ∈ (rowL σ r).drop i.toNat then 1 else 0) σ → LX8_has_2 d kN Q r x i σ := by
    refine up_to (e := σ r 1) ?_
    intro i ih hi hq
    refine SX8_has_2 ?_
    rw [e0]
    refine ⟨q1, fun c => ?_, fun c => ⟨row_arr q1, by omega, fun c2 => ⟨by omega, ih (by omega) (by omega) ?_⟩, fun c2 => ?_⟩⟩
    · rw [rowL_dropE c] at hq
      simpa using hq
    · rw [rowL_drop hi (by omega)] at hq
      simpa [Ne.symm c2] using hq
    · rw [rowL_drop hi (by omega), if_pos (by simp [Classical.not_not.mp c2])] at hq
      exact hq
  exact EX8_has fun _ _ => SX8_has_0 (key 0 (Int.le_refl 0) (by simpa using h))
