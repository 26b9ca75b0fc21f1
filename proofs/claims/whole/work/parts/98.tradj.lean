/-! sights: the traced row is a line of steps -/
theorem gd_l : ∀ (L K : List Int) (q : Nat), q < L.length → (L ++ K).getD q 0 = L.getD q 0 := by
  intro L
  induction L with
  | nil => intro K q h; exact absurd h (Nat.not_lt_zero _)
  | cons a t ih =>
    intro K q h
    cases q with
    | zero => rfl
    | succ q => exact ih K q (by simp only [List.length_cons] at h; omega)
theorem gd_r : ∀ (L K : List Int) (q : Nat), (L ++ K).getD (L.length + q) 0 = K.getD q 0 := by
  intro L
  induction L with
  | nil => intro K q; rw [List.length_nil, Nat.zero_add]; rfl
  | cons a t ih =>
    intro K q
    rw [List.length_cons, show t.length + 1 + q = (t.length + q) + 1 by omega]
    exact ih K q
theorem trL_ok {y : Nat → Int} : ∀ m : Nat, (∀ j, j ≤ m → 0 ≤ y j ∧ y j < 120) → 1 ≤ (trL y m).length ∧ (trL y m).getD ((trL y m).length - 1) 0 = y m ∧ (∀ q, q < (trL y m).length → 0 ≤ (trL y m).getD q 0 ∧ (trL y m).getD q 0 < 120) ∧ ∀ q, q + 1 < (trL y m).length → ∃ d, (0 ≤ d ∧ d < 8) ∧ stp ((trL y m).getD q 0) d = (trL y m).getD (q + 1) 0 := by
  intro m
  induction m with
  | zero =>
    intro h
    have h0 := h 0 (by omega)
    refine ⟨Nat.le_refl _, rfl, fun q hq => ?_, fun q hq => ?_⟩
    · have hq : q < 1 := hq
      rw [show q = 0 by omega]
      exact h0
    · have hq : q + 1 < 1 := hq
      omega
  | succ m ih =>
    intro h
    obtain ⟨i1, i2, i3, i4⟩ := ih (fun j hj => h j (by omega))
    have ca := h m (by omega)
    have cb := h (m + 1) (by omega)
    have hap := apart_cells ca cb
    have hap0 := apart_nn (a := y m) (b := y (m + 1))
    rw [trL]
    generalize trL y m = L at *
    have hK : (hopK (y m) (y (m + 1)) (apart (y m) (y (m + 1))).toNat).length = (apart (y m) (y (m + 1))).toNat := hopK_len
    have hat : ∀ k, k < (apart (y m) (y (m + 1))).toNat → (hopK (y m) (y (m + 1)) (apart (y m) (y (m + 1))).toNat).getD k 0 = btw (y m) (y (m + 1)) ((k : Int) + 1) (apart (y m) (y (m + 1))) := fun k hk => hopK_at hk
    generalize hopK (y m) (y (m + 1)) (apart (y m) (y (m + 1))).toNat = K at *
    have hlen : (L ++ K).length = L.length + K.length := List.length_append
    have hr : ∀ k, k < K.length → (L ++ K).getD (L.length + k) 0 = btw (y m) (y (m + 1)) ((k : Int) + 1) (apart (y m) (y (m + 1))) := fun k hk => by
      rw [gd_r]
      exact hat k (by omega)
    rw [hlen]
    refine ⟨by omega, ?_, fun q hq => ?_, fun q hq => ?_⟩
    · by_cases e : K.length = 0
      · have e2 : apart (y m) (y (m + 1)) = 0 := by omega
        rw [e, Nat.add_zero, gd_l _ _ _ (by omega), i2]
        exact apart_0.mp e2
      · have hb := btw_ends ca cb (by omega)
        rw [show L.length + K.length - 1 = L.length + (K.length - 1) by omega, hr _ (by omega), show ((K.length - 1 : Nat) : Int) + 1 = apart (y m) (y (m + 1)) by omega]
        exact hb.2
    · by_cases e : q < L.length
      · rw [gd_l _ _ _ e]
        exact i3 q e
      · obtain ⟨k, hk⟩ : ∃ k, q = L.length + k := ⟨q - L.length, by omega⟩
        rw [hk, hr k (by omega)]
        exact (btw_xy (i := (k : Int) + 1) (n := apart (y m) (y (m + 1))) ca cb (by omega) (by omega)).1
    · by_cases e : q + 1 < L.length
      · rw [gd_l _ _ _ (by omega), gd_l _ _ _ e]
        exact i4 q e
      · by_cases e2 : q + 1 = L.length
        · have hb := btw_ends ca cb (by omega)
          have hadj := btw_adj ca cb (k := 0) (by omega)
          rw [hb.1] at hadj
          rw [gd_l _ _ _ (by omega), show q = L.length - 1 by omega, i2, show L.length - 1 + 1 = L.length + 0 by omega, hr 0 (by omega)]
          exact hadj
        · obtain ⟨k, hk⟩ : ∃ k, q = L.length + k := ⟨q - L.length, by omega⟩
          have hadj := btw_adj ca cb (k := (k : Int) + 1) (by omega)
          rw [hk, hr k (by omega), show L.length + k + 1 = L.length + (k + 1) by omega, hr (k + 1) (by omega), show (((k + 1 : Nat) : Int)) + 1 = (k : Int) + 1 + 1 by omega]
          exact hadj
theorem trL_cong {y z : Nat → Int} : ∀ m : Nat, (∀ j, j ≤ m → y j = z j) → trL y m = trL z m := by
  intro m
  induction m with
  | zero =>
    intro h
    rw [trL, trL, h 0 (by omega)]
  | succ m ih =>
    intro h
    rw [trL, trL, ih (fun j hj => h j (by omega)), h m (by omega), h (m + 1) (by omega)]
