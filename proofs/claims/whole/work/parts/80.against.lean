/-! against -/
theorem sm_add {f g : Int → Int} : ∀ n : Nat, sm (fun i => f i + g i) n = sm f n + sm g n := by
  intro n
  induction n with
  | zero => rfl
  | succ n ih => rw [sm, sm, sm, ih]; omega
theorem sm_zero : ∀ n : Nat, sm (fun _ => 0) n = 0 := by
  intro n
  induction n with
  | zero => rfl
  | succ n ih => rw [sm, ih]; rfl
theorem sm_swap {f : Int → Int → Int} (m : Nat) : ∀ n : Nat, sm (fun i => sm (fun j => f i j) m) n = sm (fun j => sm (fun i => f i j) n) m := by
  intro n
  induction n with
  | zero => rw [sm]; exact (sm_zero m).symm
  | succ n ih =>
    rw [sm, ih]
    exact (sm_add (f := fun j => sm (fun i => f i j) n) (g := fun j => f n j) m).symm
/-- does the moved line count -/
noncomputable def agG (σ : kS) (l far w what x y : Int) : Int := cif (¬ (x = 0 ∧ y = 0) ∧ (∀ z ∈ rowL σ (146 + 2 * l), inLand x y z) ∧ (what = 1 ∨ nearLn σ l 0 0 far w ≤ nearLn σ l x y far w)) 1 0
theorem agG_b {σ : kS} {l far w what x y : Int} : 0 ≤ agG σ l far w what x y ∧ agG σ l far w what x y ≤ 1 := cif_b
noncomputable def agS (σ : kS) (l far w what : Int) : Int := sm (fun i => sm (fun j => agG σ l far w what (j - 3) (i - 3)) 7) 7
noncomputable def agA (σ : kS) (l far w what : Int) : Int := cif (isSr σ l far w ∧ 0 ≤ what ∧ what ≤ 1) (agS σ l far w what) (-1)
theorem agA_fr {σ s : kS} (hI : Inv σ) (h : Fr σ s) {l far w what : Int} : agA s l far w what = agA σ l far w what := by
  have hn := hI.2.2.2.2.2.2.2.2.1.1
  unfold agA isSr
  rw [h.e0]
  by_cases c : ((0 ≤ l ∧ l < σ 0 11) ∧ (0 ≤ far ∧ far ≤ 5) ∧ 0 ≤ w ∧ w ≤ 15) ∧ 0 ≤ what ∧ what ≤ 1
  · rw [cif_pos c, cif_pos c]
    have e : ∀ x y, agG s l far w what x y = agG σ l far w what x y := fun x y => by
      unfold agG
      rw [nearLn_fr h (by omega), nearLn_fr h (by omega), rowL_line h (by omega)]
    unfold agS
    simp only [e]
  · rw [cif_neg c, cif_neg c]
theorem X_besides {d : Nat} (hd : 4 ≤ d) {σ : kS} {l far w what : Int} {Q : Int → kS → Prop} (hI : Inv σ) (hl : 0 ≤ l ∧ l < σ 0 11) (hw : what = 0 ∨ what = 1) (h : Q (agS σ l far w what) σ) : Ci d MX2_besides [(2, 47), (2, 146 + 2 * l), (0, far), (0, w), (0, 1 - what)] kN σ Q := by
  obtain ⟨d, rfl⟩ : ∃ e, d = e + 1 := ⟨d - 1, by omega⟩
  have hC := hI.2.2.2.2.2.2.2.2.1
  have hF := hI.2.2.2.2.2.2.2.2.2.1.1
  have hn := hC.1
  have hr := (hC.2.2 l hl.1 hl.2).1
  refine EX2_besides fun _ _ _ _ => SX2_besides_0 ⟨o_47, Finds_nearMoved (by omega) hI.1 hF hr (by omega) (by omega) ?_⟩
  have key18 : ∀ i many : Int, 0 ≤ i → i ≤ 7 → many = sm (fun i => sm (fun j => agG σ l far w what (j - 3) (i - 3)) 7) i.toNat → LX2_besides_18 d kN Q 47 (146 + 2 * l) far w (1 - what) (nearLn σ l 0 0 far w) many (i - 3) σ := by
    refine up_to (e := 7) ?_
    intro i ih many i0 i1 hm
    have hs := sm_s (f := fun i => sm (fun j => agG σ l far w what (j - 3) (i - 3)) 7) i0
    have hb := sm_b (f := fun i => sm (fun j => agG σ l far w what (j - 3) (i - 3)) 7) (B := 7) (n := i.toNat) (fun k _ _ => by
      have := sm_1 (f := fun j => agG σ l far w what (j - 3) (k - 3)) (n := 7) (fun _ _ _ => agG_b)
      omega)
    rw [k_toNat i0] at hb
    refine SX2_besides_18 ⟨fun e => ?_, fun e => ?_⟩
    · rw [show i = 7 by omega] at hm
      rw [hm]
      exact h
    · have key28 : ∀ j many2 : Int, 0 ≤ j → j ≤ 7 → many2 = many + sm (fun j => agG σ l far w what (j - 3) (i - 3)) j.toNat → LX2_besides_28 d kN Q 47 (146 + 2 * l) far w (1 - what) (nearLn σ l 0 0 far w) many2 (i - 3) (j - 3) σ := by
        refine up_to (e := 7) ?_
        intro j ihj many2 j0 j1 hm2
        have hs2 := sm_s (f := fun j => agG σ l far w what (j - 3) (i - 3)) j0
        have hb2 := sm_1 (f := fun j => agG σ l far w what (j - 3) (i - 3)) (n := j.toNat) (fun _ _ _ => agG_b)
        rw [k_toNat j0] at hb2
        have e1 : j - 3 + 1 = j + 1 - 3 := by omega
        have no : agG σ l far w what (j - 3) (i - 3) = 0 → ¬ 3 < j - 3 → (-2147483648 ≤ j - 3 + 1 ∧ j - 3 + 1 ≤ 2147483647) ∧ LX2_besides_28 d kN Q 47 (146 + 2 * l) far w (1 - what) (nearLn σ l 0 0 far w) many2 (i - 3) (j - 3 + 1) σ := fun q q2 => ⟨by omega, by rw [e1]; exact ihj (by omega) many2 (by omega) (by omega) (by rw [hs2, q, hm2]; omega)⟩
        have yes : agG σ l far w what (j - 3) (i - 3) = 1 → ¬ 3 < j - 3 → (-2147483648 ≤ many2 + 1 ∧ many2 + 1 ≤ 2147483647) ∧ ((-2147483648 ≤ j - 3 + 1 ∧ j - 3 + 1 ≤ 2147483647) ∧ LX2_besides_28 d kN Q 47 (146 + 2 * l) far w (1 - what) (nearLn σ l 0 0 far w) (many2 + 1) (i - 3) (j - 3 + 1) σ) := fun q q2 => ⟨by omega, by omega, by rw [e1]; exact ihj (by omega) (many2 + 1) (by omega) (by omega) (by rw [hs2, q, hm2]; omega)⟩
        refine SX2_besides_28 ⟨fun e2 => ⟨by omega, ?_⟩, fun e2 => ?_⟩
        · rw [show i - 3 + 1 = i + 1 - 3 by omega]
          refine ih (by omega) many2 (by omega) (by omega) ?_
          rw [hs, hm2, hm, show j = 7 by omega]
          rfl
        · have body : ¬ (j - 3 = 0 ∧ i - 3 = 0) → ∀ x2 : Int, (x2 = 1 ∧ ∀ z ∈ rowL σ (146 + 2 * l), inLand (j - 3) (i - 3) z) ∨ (x2 = 0 ∧ ¬ ∀ z ∈ rowL σ (146 + 2 * l), inLand (j - 3) (i - 3) z) → (¬ x2 = 0 → ((1 - what) = 0 → (-2147483648 ≤ many2 + 1 ∧ many2 + 1 ≤ 2147483647) ∧ ((-2147483648 ≤ j - 3 + 1 ∧ j - 3 + 1 ≤ 2147483647) ∧ LX2_besides_28 d kN Q 47 (146 + 2 * l) far w (1 - what) (nearLn σ l 0 0 far w) (many2 + 1) (i - 3) (j - 3 + 1) σ)) ∧ (¬ (1 - what) = 0 → isO 2 kN 47 ∧ (Ci d MX2_nearMoved [(2, 47), (2, 146 + 2 * l), (0, j - 3), (0, i - 3), (0, far), (0, w)] kN σ (fun x4 s2 => (x4 < nearLn σ l 0 0 far w → (-2147483648 ≤ j - 3 + 1 ∧ j - 3 + 1 ≤ 2147483647) ∧ LX2_besides_28 d kN Q 47 (146 + 2 * l) far w (1 - what) (nearLn σ l 0 0 far w) many2 (i - 3) (j - 3 + 1) s2) ∧ (¬ x4 < nearLn σ l 0 0 far w → (-2147483648 ≤ many2 + 1 ∧ many2 + 1 ≤ 2147483647) ∧ ((-2147483648 ≤ j - 3 + 1 ∧ j - 3 + 1 ≤ 2147483647) ∧ LX2_besides_28 d kN Q 47 (146 + 2 * l) far w (1 - what) (nearLn σ l 0 0 far w) (many2 + 1) (i - 3) (j - 3 + 1) s2)))))) ∧ (¬ (¬ x2 = 0) → (-2147483648 ≤ j - 3 + 1 ∧ j - 3 + 1 ≤ 2147483647) ∧ LX2_besides_28 d kN Q 47 (146 + 2 * l) far w (1 - what) (nearLn σ l 0 0 far w) many2 (i - 3) (j - 3 + 1) σ) := by
            intro hz x2 hx
            rcases hx with ⟨rfl, hx⟩ | ⟨rfl, hx⟩
            · refine ⟨fun _ => ⟨fun q => yes (cif_pos ⟨hz, hx, Or.inl (by omega)⟩) e2, fun q => ⟨o_47, Finds_nearMoved (by omega) hI.1 hF hr (by omega) (by omega) ⟨fun q2 => no (cif_neg (fun z => ?_)) e2, fun q2 => yes (cif_pos ⟨hz, hx, Or.inr ?_⟩) e2⟩⟩⟩, fun q => by omega⟩
              · rcases z.2.2 with z | z
                · omega
                · have q2 : nearLn σ l (j - 3) (i - 3) far w < nearLn σ l 0 0 far w := q2
                  omega
              · have q2 : ¬ nearLn σ l (j - 3) (i - 3) far w < nearLn σ l 0 0 far w := q2
                omega
            · exact ⟨fun q => absurd rfl q, fun _ => no (cif_neg (fun z => hx z.2.1)) e2⟩
          refine ⟨fun q => ⟨hr.1.1, Row_fitsMoved (by omega) hI.1 hr (by omega) (by omega) (fun hx => body (fun z => q z.1) 1 (Or.inl ⟨rfl, hx⟩)) (fun hx => body (fun z => q z.1) 0 (Or.inr ⟨rfl, hx⟩))⟩, fun q => ⟨fun q2 => no (cif_neg (fun z => z.1 ⟨Classical.not_not.mp q, q2⟩)) e2, fun q2 => ⟨hr.1.1, Row_fitsMoved (by omega) hI.1 hr (by omega) (by omega) (fun hx => body (fun z => q2 z.2) 1 (Or.inl ⟨rfl, hx⟩)) (fun hx => body (fun z => q2 z.2) 0 (Or.inr ⟨rfl, hx⟩))⟩⟩⟩
      exact key28 0 many (by omega) (by omega) (by show many = many + 0; omega)
  exact key18 0 0 (by omega) (by omega) rfl
theorem O_against {l far w what : Int} : Op MX11_against MX12_against [(0, l), (0, far), (0, w), (0, what)] := by
  refine Op.of (fun σ => agA σ l far w what) (fun σ s hI hk => agA_fr hI hk.1) (fun d σ Q hd hI h => ?_) (fun d σ Q hd hI h => ?_)
  · obtain ⟨d, rfl⟩ : ∃ e, d = e + 1 := ⟨d - 1, by omega⟩
    have hs := h σ hI.self
    have hC := hI.2.2.2.2.2.2.2.2.1
    have hn := hC.1
    have k21 := kl_21
    unfold agA at hs
    have hno : ¬ (isSr σ l far w ∧ 0 ≤ what ∧ what ≤ 1) → Q (-1) σ := fun z => by
      rw [cif_neg z] at hs
      exact hs
    refine EX11_against fun _ _ _ _ _ => SX11_against_0 ⟨o_0, X_isSearch (by omega) (fun c1 => ⟨fun e => by omega, fun _ => ⟨fun q => hno (fun z => by omega), fun q => ⟨fun q2 => ?_, fun q2 => hno (fun z => by omega)⟩⟩⟩) (fun c1 => ⟨fun _ => hno (fun z => c1 z.1), fun e => absurd rfl e⟩)⟩
    have hla := line_at hI.1 (i := l) (by omega)
    rw [cif_pos (show isSr σ l far w ∧ 0 ≤ what ∧ what ≤ 1 from ⟨c1, by omega⟩)] at hs
    rw [ly_0_10 hI.1, hla.1, ly_0_16 hI.1]
    refine ⟨a_21, by omega, fun q3 => ⟨o_47, ?_⟩, fun q3 => ⟨o_47, ?_⟩⟩
    · have e : what = 1 := by omega
      subst e
      exact X_besides (what := 1) (by omega) hI c1.1 (Or.inr rfl) hs
    · have e : what = 0 := by omega
      subst e
      exact X_besides (what := 0) (by omega) hI c1.1 (Or.inl rfl) hs
  · obtain ⟨d, rfl⟩ : ∃ e, d = e + 1 := ⟨d - 1, by omega⟩
    refine EX12_against fun _ _ _ _ _ => SX12_against_0 ⟨o_166, fun s1 e1 => ?_⟩
    have hk1 : Keep σ s1 := by rw [e1]; exact hI.thrown
    have hI1 := hI.keep hk1
    have hs := h s1 hk1
    rw [← agA_fr hI hk1.1] at hs
    clear h e1
    have hC := hI1.2.2.2.2.2.2.2.2.1
    have hF := hI1.2.2.2.2.2.2.2.2.2.1
    unfold agA at hs
    have hno : ¬ (isSr s1 l far w ∧ 0 ≤ what ∧ what ≤ 1) → Q (-1) s1 := fun z => by
      rw [cif_neg z] at hs
      exact hs
    refine M_isNear (by omega) hC (fun c1 => ⟨fun e => by omega, fun _ => M_isIn (by omega) (fun c2 => ⟨fun _ => ?_, fun e => by omega⟩) (fun c2 => ⟨fun e => absurd rfl e, fun _ => hno (fun z => c2 z.2)⟩)⟩) (fun c1 => ⟨fun _ => hno (fun z => c1 z.1), fun e => absurd rfl e⟩)
    rw [cif_pos ⟨c1, c2⟩] at hs
    have hfar : 0 ≤ far ∧ far < 120 := by have := c1.2.1; omega
    refine M_nearOf (by omega) hI1.1 hC hF c1.1 hfar (inLand0 hC c1.1) (by omega) ?_
    have key48 : ∀ i a b : Int, 0 ≤ i → i ≤ 7 → a = sm (fun i => sm (fun j => agG s1 l far w 0 (i - 3) (j - 3)) 7) i.toNat → b = sm (fun i => sm (fun j => agG s1 l far w 1 (i - 3) (j - 3)) 7) i.toNat → LX12_against_48 d kN Q 166 l far w what (nearLn s1 l 0 0 far w) a b (i - 3) s1 := by
      refine up_to (e := 7) ?_
      intro i ih a b i0 i1 ha hb
      have hsa := sm_s (f := fun i => sm (fun j => agG s1 l far w 0 (i - 3) (j - 3)) 7) i0
      have hsb := sm_s (f := fun i => sm (fun j => agG s1 l far w 1 (i - 3) (j - 3)) 7) i0
      have bnd : ∀ v, 0 ≤ sm (fun i => sm (fun j => agG s1 l far w v (i - 3) (j - 3)) 7) i.toNat ∧ sm (fun i => sm (fun j => agG s1 l far w v (i - 3) (j - 3)) 7) i.toNat ≤ 7 * i := fun v => by
        have hb := sm_b (f := fun i => sm (fun j => agG s1 l far w v (i - 3) (j - 3)) 7) (B := 7) (n := i.toNat) (fun k _ _ => by
          have := sm_1 (f := fun j => agG s1 l far w v (k - 3) (j - 3)) (n := 7) (fun _ _ _ => agG_b)
          omega)
        rw [k_toNat i0] at hb
        exact hb
      have ba := bnd 0
      have bb := bnd 1
      refine SX12_against_48 ⟨fun e => ?_, fun e => ?_⟩
      · rw [show i = 7 by omega] at ha hb
        have hsw : ∀ v, agS s1 l far w v = sm (fun i => sm (fun j => agG s1 l far w v (i - 3) (j - 3)) 7) 7 := fun v => sm_swap (f := fun i j => agG s1 l far w v (j - 3) (i - 3)) 7 7
        refine ⟨fun q => ?_, fun q => ?_⟩
        · rw [show what = 1 by omega, hsw] at hs
          rw [hb]
          exact hs
        · rw [show what = 0 by omega, hsw] at hs
          rw [ha]
          exact hs
      · have key58 : ∀ j a2 b2 : Int, 0 ≤ j → j ≤ 7 → a2 = a + sm (fun j => agG s1 l far w 0 (i - 3) (j - 3)) j.toNat → b2 = b + sm (fun j => agG s1 l far w 1 (i - 3) (j - 3)) j.toNat → LX12_against_58 d kN Q 166 l far w what (nearLn s1 l 0 0 far w) a2 b2 (i - 3) (j - 3) s1 := by
          refine up_to (e := 7) ?_
          intro j ihj a2 b2 j0 j1 ha2 hb2
          have hja := sm_s (f := fun j => agG s1 l far w 0 (i - 3) (j - 3)) j0
          have hjb := sm_s (f := fun j => agG s1 l far w 1 (i - 3) (j - 3)) j0
          have ca := sm_1 (f := fun j => agG s1 l far w 0 (i - 3) (j - 3)) (n := j.toNat) (fun _ _ _ => agG_b)
          have cb := sm_1 (f := fun j => agG s1 l far w 1 (i - 3) (j - 3)) (n := j.toNat) (fun _ _ _ => agG_b)
          rw [k_toNat j0] at ca cb
          have e1 : j - 3 + 1 = j + 1 - 3 := by omega
          have nx : ∀ a3 b3 : Int, a3 = a2 + agG s1 l far w 0 (i - 3) (j - 3) → b3 = b2 + agG s1 l far w 1 (i - 3) (j - 3) → ¬ 3 < j - 3 → (-2147483648 ≤ j - 3 + 1 ∧ j - 3 + 1 ≤ 2147483647) ∧ LX12_against_58 d kN Q 166 l far w what (nearLn s1 l 0 0 far w) a3 b3 (i - 3) (j - 3 + 1) s1 := fun a3 b3 qa qb q => ⟨by omega, by rw [e1]; exact ihj (by omega) a3 b3 (by omega) (by omega) (by rw [hja, qa, ha2]; omega) (by rw [hjb, qb, hb2]; omega)⟩
          refine SX12_against_58 ⟨fun e2 => ⟨by omega, ?_⟩, fun e2 => ?_⟩
          · rw [show i - 3 + 1 = i + 1 - 3 by omega]
            refine ih (by omega) a2 b2 (by omega) (by omega) ?_ ?_
            · rw [hsa, ha2, ha, show j = 7 by omega]
              rfl
            · rw [hsb, hb2, hb, show j = 7 by omega]
              rfl
          · have body : ¬ (i - 3 = 0 ∧ j - 3 = 0) → Ci d MX12_isInLand [(2, 166), (0, l), (0, i - 3), (0, j - 3)] kN s1 (fun x2 s1_1 => (¬ x2 = 0 → (-2147483648 ≤ b2 + 1 ∧ b2 + 1 ≤ 2147483647) ∧ (Ci d MX12_nearOf [(2, 166), (0, l), (0, i - 3), (0, j - 3), (0, far), (0, w)] kN s1_1 (fun x4 s2 => (x4 < nearLn s1 l 0 0 far w → (-2147483648 ≤ a2 + 0 ∧ a2 + 0 ≤ 2147483647) ∧ ((-2147483648 ≤ j - 3 + 1 ∧ j - 3 + 1 ≤ 2147483647) ∧ LX12_against_58 d kN Q 166 l far w what (nearLn s1 l 0 0 far w) (a2 + 0) (b2 + 1) (i - 3) (j - 3 + 1) s2)) ∧ (¬ x4 < nearLn s1 l 0 0 far w → (-2147483648 ≤ a2 + 1 ∧ a2 + 1 ≤ 2147483647) ∧ ((-2147483648 ≤ j - 3 + 1 ∧ j - 3 + 1 ≤ 2147483647) ∧ LX12_against_58 d kN Q 166 l far w what (nearLn s1 l 0 0 far w) (a2 + 1) (b2 + 1) (i - 3) (j - 3 + 1) s2))))) ∧ (¬ (¬ x2 = 0) → (-2147483648 ≤ j - 3 + 1 ∧ j - 3 + 1 ≤ 2147483647) ∧ LX12_against_58 d kN Q 166 l far w what (nearLn s1 l 0 0 far w) a2 b2 (i - 3) (j - 3 + 1) s1_1)) := by
              intro hz
              refine M_isInLand (by omega) hI1.1 hC c1.1 (by omega) (fun hx => ⟨fun _ => ⟨by omega, M_nearOf (by omega) hI1.1 hC hF c1.1 hfar hx (by omega) ⟨fun q => ⟨by omega, nx _ _ ?_ ?_ e2⟩, fun q => ⟨by omega, nx _ _ ?_ ?_ e2⟩⟩⟩, fun q => by omega⟩) (fun hx => ⟨fun q => absurd rfl q, fun _ => nx _ _ ?_ ?_ e2⟩)
              · rw [show agG s1 l far w 0 (i - 3) (j - 3) = 0 from cif_neg (fun z => by
                  have := z.2.2
                  omega)]
              · rw [show agG s1 l far w 1 (i - 3) (j - 3) = 1 from cif_pos ⟨hz, hx, Or.inl rfl⟩]
              · rw [show agG s1 l far w 0 (i - 3) (j - 3) = 1 from cif_pos ⟨hz, hx, Or.inr (by omega)⟩]
              · rw [show agG s1 l far w 1 (i - 3) (j - 3) = 1 from cif_pos ⟨hz, hx, Or.inl rfl⟩]
              · rw [show agG s1 l far w 0 (i - 3) (j - 3) = 0 from cif_neg (fun z => hx z.2.1)]
                omega
              · rw [show agG s1 l far w 1 (i - 3) (j - 3) = 0 from cif_neg (fun z => hx z.2.1)]
                omega
            refine ⟨fun q => ⟨o_166, body (fun z => q z.1)⟩, fun q => ⟨fun q2 => nx _ _ ?_ ?_ e2, fun q2 => ⟨o_166, body (fun z => q2 z.2)⟩⟩⟩
            · rw [show agG s1 l far w 0 (i - 3) (j - 3) = 0 from cif_neg (fun z => z.1 ⟨Classical.not_not.mp q, q2⟩)]
              omega
            · rw [show agG s1 l far w 1 (i - 3) (j - 3) = 0 from cif_neg (fun z => z.1 ⟨Classical.not_not.mp q, q2⟩)]
              omega
        exact key58 0 a b (by omega) (by omega) (by show a = a + 0; omega) (by show b = b + 0; omega)
    exact key48 0 0 0 (by omega) (by omega) rfl rfl
