/-! Finds (the object 47) -/
theorem rowAt_in {σ : kS} {r i : Int} (h : 0 ≤ i ∧ i < σ r 1) : rowAt σ r i = σ (r + 1) i := by
  unfold rowAt
  rw [if_pos h]
theorem Row_atI {d : Nat} (hd : 1 ≤ d) {σ : kS} {r i : Int} {Q : Int → kS → Prop} (hL : Lay σ) (hr : RowOK σ r) (hi : 0 ≤ i ∧ i < σ r 1) (h : Q (σ (r + 1) i) σ) : Ci d MX8_at [(2, r), (0, i)] kN σ Q :=
  Row_at hd hL hr (by rw [rowAt_in hi]; exact h)
def isNearL (l : List Int) (x y far : Int) : Bool := l.any fun c => decide ((c % 12 - x ≤ far ∧ x - c % 12 ≤ far) ∧ c / 12 - y ≤ far ∧ y - c / 12 ≤ far)
theorem isNearL_iff {l : List Int} {x y far : Int} : isNearL l x y far = true ↔ ∃ c ∈ l, nearXY x y far c := by
  unfold isNearL nearXY
  rw [List.any_eq_true]
  constructor
  · rintro ⟨c, h1, h2⟩
    exact ⟨c, h1, of_decide_eq_true h2⟩
  · rintro ⟨c, h1, h2⟩
    exact ⟨c, h1, decide_eq_true h2⟩
def fitsL (l : List Int) (x y : Int) : Bool := l.all fun c => decide ((0 ≤ c % 12 + x ∧ c % 12 + x < 12) ∧ 0 ≤ c / 12 + y ∧ c / 12 + y < 10)
theorem fitsL_iff {l : List Int} {x y : Int} : fitsL l x y = true ↔ ∀ c ∈ l, inLand x y c := by
  unfold fitsL inLand
  rw [List.all_eq_true]
  constructor
  · exact fun h c hc => of_decide_eq_true (h c hc)
  · exact fun h c hc => decide_eq_true (h c hc)
def nearF (fc fs fw : Int → Int) (l : List Int) (x y far w i : Int) : Int := if kand (kishr w (fs i)) 1 = 1 ∧ isNearL l (fc i % 12 - x) (fc i / 12 - y) far = true then fw i else 0
def nearS (fc fs fw : Int → Int) (n : Int) (l : List Int) (x y far w : Int) : Int := sm (nearF fc fs fw l x y far w) n.toNat
def FindsOK (σ : kS) : Prop := RowC σ 48 ∧ RowOK σ 50 ∧ RowOK σ 52 ∧ σ 50 1 = σ 48 1 ∧ σ 52 1 = σ 48 1 ∧ ∀ i, 0 ≤ i → i < σ 48 1 → (0 ≤ σ 51 i ∧ σ 51 i ≤ 3) ∧ 1 ≤ σ 53 i ∧ σ 53 i ≤ 9
theorem Finds_nearMoved {d : Nat} (hd : 3 ≤ d) {σ : kS} {r x y far w : Int} {Q : Int → kS → Prop} (hL : Lay σ) (hF : FindsOK σ) (hr : RowC σ r) (hx : -100 ≤ x ∧ x ≤ 100) (hy : -100 ≤ y ∧ y ≤ 100) (h : Q (nearS (σ 49) (σ 51) (σ 53) (σ 48 1) (rowL σ r) x y far w) σ) : Ci d MX2_nearMoved [(2, 47), (2, r), (0, x), (0, y), (0, far), (0, w)] kN σ Q := by
  obtain ⟨d, rfl⟩ : ∃ e, d = e + 1 := ⟨d - 1, by omega⟩
  obtain ⟨f48, f50, f52, g50, g52, fin⟩ := hF
  have k49 : klen (48 + 1) = 30 := kl_49
  have hn := f48.1.2.2
  have hn0 := f48.1.2.1
  have key : ∀ i a : Int, 0 ≤ i → i ≤ σ 48 1 → a = sm (nearF (σ 49) (σ 51) (σ 53) (rowL σ r) x y far w) i.toNat → LX2_nearMoved_6 d kN Q 47 r x y far w a i σ := by
    refine up_to (e := σ 48 1) ?_
    intro i ih a hi hi2 ha
    have hs := sm_s (f := nearF (σ 49) (σ 51) (σ 53) (rowL σ r) x y far w) hi
    have hb := sm_b (f := nearF (σ 49) (σ 51) (σ 53) (rowL σ r) x y far w) (B := 9) (n := i.toNat) (fun j j0 j1 => by
      have := fin j j0 (by omega)
      unfold nearF
      split <;> omega)
    refine SX2_nearMoved_6 ?_
    rw [ly_47_0 hL, ly_47_1 hL]
    refine ⟨o_47, o_48, fun e => ?_, fun e => ⟨o_50, Row_atI (by omega) hL f50 ⟨hi, by omega⟩ ⟨fun c => ?_, fun c => ?_⟩⟩⟩
    · have e2 : i = σ 48 1 := by omega
      rw [ha, e2]
      exact h
    · refine ⟨by omega, ih (by omega) a (by omega) (by omega) ?_⟩
      rw [hs, ha]
      have : nearF (σ 49) (σ 51) (σ 53) (rowL σ r) x y far w i = 0 := by
        unfold nearF
        exact if_neg (fun q => c q.1)
      omega
    · have hc := f48.2 i hi (by omega)
      have hf := fin i hi (by omega)
      rw [ly_47_0 hL]
      refine ⟨o_48, Row_atI (by omega) hL f48.1 ⟨hi, by omega⟩ ⟨hc.1, by omega, ?_⟩⟩
      rw [ly_47_0 hL]
      have hw : kand (kishr w (σ 51 i)) 1 = 1 := Classical.not_not.mp c
      refine ⟨o_48, Row_atI (by omega) hL f48.1 ⟨hi, by omega⟩ ⟨hc.1, by omega, hr.1.1, Row_isNear (by omega) hL hr (by omega) (by omega) (fun q => ⟨fun e => by omega, fun _ => ?_⟩) (fun q => ⟨fun _ => ⟨by omega, ih (by omega) a (by omega) (by omega) ?_⟩, fun e => by omega⟩)⟩⟩
      · rw [ly_47_2 hL]
        have : nearF (σ 49) (σ 51) (σ 53) (rowL σ r) x y far w i = σ 53 i := by
          unfold nearF
          exact if_pos ⟨hw, isNearL_iff.mpr q⟩
        refine ⟨o_52, Row_atI (by omega) hL f52 ⟨hi, by omega⟩ ⟨?_, by omega, ih (by omega) _ (by omega) (by omega) ?_⟩⟩
        · show -2147483648 ≤ a + σ 53 i ∧ a + σ 53 i ≤ 2147483647
          omega
        · show a + σ 53 i = _
          omega
      · have : nearF (σ 49) (σ 51) (σ 53) (rowL σ r) x y far w i = 0 := by
          unfold nearF
          exact if_neg (fun z => q (isNearL_iff.mp z.2))
        omega
  exact EX2_nearMoved fun _ _ _ _ _ => SX2_nearMoved_0 (key 0 0 (by omega) hn0 rfl)
def sureF (fc fs : Int → Int) (l : List Int) (i : Int) : Prop := fs i = 0 ∧ isNearL l (fc i % 12) (fc i / 12) 1 = false
def likeF (fc fs fw : Int → Int) (l : List Int) (i : Int) : Int := if fs i = 1 ∧ isNearL l (fc i % 12) (fc i / 12) 1 = true then fw i else 0
theorem Finds_speakFor {d : Nat} (hd : 3 ≤ d) {σ : kS} {r : Int} {Q : Int → kS → Prop} (hL : Lay σ) (hF : FindsOK σ) (hr : RowC σ r) (h1 : (∀ i, 0 ≤ i → i < σ 48 1 → ¬ sureF (σ 49) (σ 51) (rowL σ r) i) → Q (1 + sm (likeF (σ 49) (σ 51) (σ 53) (rowL σ r)) (σ 48 1).toNat) σ) (h0 : (∃ i, 0 ≤ i ∧ i < σ 48 1 ∧ sureF (σ 49) (σ 51) (rowL σ r) i) → Q 0 σ) : Ci d MX2_speakFor [(2, 47), (2, r)] kN σ Q := by
  obtain ⟨d, rfl⟩ : ∃ e, d = e + 1 := ⟨d - 1, by omega⟩
  obtain ⟨f48, f50, f52, g50, g52, fin⟩ := hF
  have k49 : klen (48 + 1) = 30 := kl_49
  have hn := f48.1.2.2
  have hn0 := f48.1.2.1
  have key : ∀ i a : Int, 0 ≤ i → i ≤ σ 48 1 → a = 1 + sm (likeF (σ 49) (σ 51) (σ 53) (rowL σ r)) i.toNat → (∀ k, 0 ≤ k → k < i → ¬ sureF (σ 49) (σ 51) (rowL σ r) k) → LX2_speakFor_4 d kN Q 47 r a i σ := by
    refine up_to (e := σ 48 1) ?_
    intro i ih a hi hi2 ha hno
    have hs := sm_s (f := likeF (σ 49) (σ 51) (σ 53) (rowL σ r)) hi
    have hb := sm_b (f := likeF (σ 49) (σ 51) (σ 53) (rowL σ r)) (B := 9) (n := i.toNat) (fun j j0 j1 => by
      have := fin j j0 (by omega)
      unfold likeF
      split <;> omega)
    refine SX2_speakFor_4 ?_
    rw [ly_47_0 hL]
    refine ⟨o_47, o_48, fun e => ?_, fun e => ?_⟩
    · have e2 : i = σ 48 1 := by omega
      rw [ha, e2]
      exact h1 (fun k k0 k1 => hno k k0 (by omega))
    · have hc := f48.2 i hi (by omega)
      have hf := fin i hi (by omega)
      have nx : ∀ b, ¬ sureF (σ 49) (σ 51) (rowL σ r) i → b = a + likeF (σ 49) (σ 51) (σ 53) (rowL σ r) i → (-2147483648 ≤ i + 1 ∧ i + 1 ≤ 2147483647) ∧ LX2_speakFor_4 d kN Q 47 r b (i + 1) σ := fun b hb' he => ⟨by omega, ih (by omega) b (by omega) (by omega) (by omega) (fun k k0 k1 => by
        by_cases ek : k = i
        · rw [ek]; exact hb'
        · exact hno k k0 (by omega))⟩
      refine Row_atI (by omega) hL f48.1 ⟨hi, by omega⟩ ⟨hc.1, ?_⟩
      rw [ly_47_0 hL]
      refine ⟨o_48, Row_atI (by omega) hL f48.1 ⟨hi, by omega⟩ ⟨hc.1, hr.1.1, Row_isNear (by omega) hL hr (by omega) (by omega) (fun q => ?_) (fun q => ?_)⟩⟩
      · have qn : isNearL (rowL σ r) (σ 49 i % 12) (σ 49 i / 12) 1 = true := isNearL_iff.mpr q
        have ns : ¬ sureF (σ 49) (σ 51) (rowL σ r) i := fun z => by
          have := z.2
          rw [qn] at this
          exact absurd this (by decide)
        have fn : ¬ σ 51 i = 1 → likeF (σ 49) (σ 51) (σ 53) (rowL σ r) i = 0 := fun e1 => by
          unfold likeF
          exact if_neg (fun z => e1 z.1)
        have fp : σ 51 i = 1 → likeF (σ 49) (σ 51) (σ 53) (rowL σ r) i = σ 53 i := fun e1 => by
          unfold likeF
          exact if_pos ⟨e1, qn⟩
        rw [ly_47_1 hL]
        refine ⟨o_50, Row_atI (by omega) hL f50 ⟨hi, by omega⟩ ⟨fun c => ?_, fun c => ⟨fun _ => ?_, fun e => by omega⟩⟩⟩
        · rw [ly_47_1 hL]
          refine ⟨o_50, Row_atI (by omega) hL f50 ⟨hi, by omega⟩ ⟨fun c2 => nx _ ns (by rw [fn c2]; omega), fun c2 => ⟨fun e => by omega, fun _ => ?_⟩⟩⟩
          rw [ly_47_2 hL]
          have := fp (Classical.not_not.mp c2)
          refine ⟨o_52, Row_atI (by omega) hL f52 ⟨hi, by omega⟩ ⟨?_, nx _ ns (by rw [this]; rfl)⟩⟩
          show -2147483648 ≤ a + σ 53 i ∧ a + σ 53 i ≤ 2147483647
          omega
        · rw [ly_47_1 hL]
          refine ⟨o_50, Row_atI (by omega) hL f50 ⟨hi, by omega⟩ ⟨fun c2 => nx _ ns (by rw [fn c2]; omega), fun c2 => ⟨fun e => by omega, fun _ => ?_⟩⟩⟩
          rw [ly_47_2 hL]
          have := fp (Classical.not_not.mp c2)
          refine ⟨o_52, Row_atI (by omega) hL f52 ⟨hi, by omega⟩ ⟨?_, nx _ ns (by rw [this]; rfl)⟩⟩
          show -2147483648 ≤ a + σ 53 i ∧ a + σ 53 i ≤ 2147483647
          omega
      · have qn : isNearL (rowL σ r) (σ 49 i % 12) (σ 49 i / 12) 1 = false := by
          rw [Bool.eq_false_iff]
          exact fun z => q (isNearL_iff.mp z)
        have l0 : likeF (σ 49) (σ 51) (σ 53) (rowL σ r) i = 0 := by
          unfold likeF
          refine if_neg (fun z => ?_)
          have := z.2
          rw [qn] at this
          exact absurd this (by decide)
        rw [ly_47_1 hL]
        refine ⟨o_50, Row_atI (by omega) hL f50 ⟨hi, by omega⟩ ⟨fun c => ?_, fun c => ⟨fun e => by omega, fun _ => h0 ⟨i, hi, by omega, Classical.not_not.mp c, qn⟩⟩⟩⟩
        rw [ly_47_1 hL]
        have ns : ¬ sureF (σ 49) (σ 51) (rowL σ r) i := fun z => c z.1
        exact ⟨o_50, Row_atI (by omega) hL f50 ⟨hi, by omega⟩ ⟨fun c2 => nx _ ns (by omega), fun c2 => ⟨fun _ => nx _ ns (by omega), fun e => by omega⟩⟩⟩
  exact EX2_speakFor fun _ => SX2_speakFor_0 (key 0 1 (by omega) hn0 rfl (fun k k0 k1 => by omega))
