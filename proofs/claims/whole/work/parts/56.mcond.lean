/-! the model: sums by levels, conditions -/
theorem msum_loop {d : Nat} (hd : 2 ≤ d) {σ : kS} {T B n : Int} (hB : MB σ T B n) {dp : Int} (hdp : dp ≤ 6) {A : Int → gR} (hA : Md σ T B n dp (fun _ => True) d MX12_term [(2, 166)] A) (hAd : gAdv (mby σ T B) n A) {Q : Int → kS → Prop} : ∀ (f : Nat) (s : kS) (q v : Int) (os : List Int), MS σ s q (-1) dp → 0 ≤ q → q ≤ n → 120 ≤ sk (mby σ T B) n q + f → gVal (mL σ) os v → MR σ T B n dp (fun _ => True) s Q (gChain (mby σ T B) n A 43 45 f (sk (mby σ T B) n q) os) → LX12_sum_5 d kN Q 166 v s := by
  intro f
  have hn := hB.2.2.2.2.1
  induction f with
  | zero =>
    intro s q v os hs q0 qn hf hv ⟨hR1, hR2⟩
    have hk := sk_facts (b := mby σ T B) q qn
    have hkk := sk_sk (b := mby σ T B) (n := n) (p := q) qn
    refine SX12_sum_5 ?_
    rw [hs.2.2.2.2.1]
    refine ⟨o_166, fun e => absurd rfl e, fun _ => M_look (by omega) hB hs q0 qn (fun s1 hs1 => ?_)⟩
    rw [gat_out (by omega)]
    refine ⟨fun e => by omega, fun _ => M_look (by omega) hB hs1 (by omega) (by omega) (fun s2 hs2 => ?_)⟩
    rw [hkk] at hs2 ⊢
    rw [gat_out (by omega)]
    exact ⟨fun _ => hR1 s2 _ _ os v rfl hkk hv trivial hs2 (by omega) (by omega), fun e => absurd (by decide) e⟩
  | succ f ih =>
    intro s q v os hs q0 qn hf hv ⟨hR1, hR2⟩
    have hk := sk_facts (b := mby σ T B) q qn
    have hkk := sk_sk (b := mby σ T B) (n := n) (p := q) qn
    refine SX12_sum_5 ?_
    rw [hs.2.2.2.2.1]
    refine ⟨o_166, fun e => absurd rfl e, fun _ => M_look (by omega) hB hs q0 qn (fun s1 hs1 => ?_)⟩
    generalize hp : sk (mby σ T B) n q = p at *
    have go : ∀ (c : Int), gat (mby σ T B) n p = c → (c = 43 ∨ c = 45) → ∀ (s3 : kS), MS σ s3 (p + 1) (-1) dp → Ci d MX12_term [(2, 166)] kN s3 (fun x s4 => ∀ s5, s5 = s4 → LX12_sum_5 d kN Q 166 (gBd (gJoin c v x)) s5) := by
      intro c hc h42 s3 hs3
      unfold gChain at hR1 hR2
      rw [if_pos (by rw [hc]; exact h42)] at hR1 hR2
      have hin := gat_in hc (by omega)
      have hk2 := sk_next (b := mby σ T B) hin.1 hin.2
      have hadv := hAd _ (by omega) hk2.2.1 hk2.2.2
      refine hA s3 (p + 1) _ hs3 (by omega) (by omega) ⟨fun s4 q4 p4 o4 w e4 k4 hw _ hs4 q40 q4n s5 e5 => ?_, fun s4 q4 pf dp4 w e4 pf0 _ hs4 hq4 d1 d2 s5 e5 => ?_⟩
      · subst e5
        have h2 := hadv.2 p4 o4 e4
        rw [e4] at hR1 hR2
        rw [hc] at hR1 hR2
        refine ih s5 q4 _ (os ++ (o4 ++ [20000 + c])) hs4 q40 q4n (by rw [k4]; omega) (gVal_bin hv hw (by omega)) ?_
        rw [k4]
        exact ⟨hR1, hR2⟩
      · subst e5
        refine SX12_sum_5 ?_
        rw [hs4.2.2.2.2.1]
        refine ⟨o_166, fun _ => hR2 s5 q4 pf dp4 _ ?_ pf0 trivial hs4 hq4 d1 d2, fun e => by omega⟩
        rcases e4 with e4 | ⟨o4, e4, hdg⟩
        · exact Or.inl (by rw [e4]; rfl)
        · exact Or.inr ⟨_, by rw [e4]; exact chain_fail (by decide) hdg, hdg⟩
    refine ⟨fun c => M_look (by omega) hB hs1 (by omega) (by omega) (fun s2 hs2 => ?_), fun c => M_look (by omega) hB hs1 (by omega) (by omega) (fun s2 hs2 => ?_)⟩
    · rw [hkk] at hs2 ⊢
      refine ⟨fun e => absurd c e, fun _ => ?_⟩
      rw [hs2.2.2.2.1]
      exact ⟨by omega, fun s3 e3 => (go 43 c (Or.inl rfl) s3 (by rw [e3]; exact hs2.at')).mono (fun x s4 h4 => M_within (by omega) (h4 s4 rfl))⟩
    · rw [hkk] at hs2 ⊢
      refine ⟨fun c2 => ?_, fun c2 => M_look (by omega) hB hs2 (by omega) (by omega) (fun s3 hs3 => ?_)⟩
      · unfold gChain at hR1
        rw [if_neg (by omega)] at hR1
        exact hR1 s2 p p os v rfl hkk hv trivial hs2 (by omega) (by omega)
      · have c2 := Classical.not_not.mp c2
        rw [hkk] at hs3 ⊢
        refine ⟨fun _ => ?_, fun e => absurd c2 (by have := Classical.not_not.mp e; omega)⟩
        rw [hs3.2.2.2.1]
        exact ⟨by omega, fun s4 e4 => (go 45 c2 (Or.inr rfl) s4 (by rw [e4]; exact hs3.at')).mono (fun x s5 h5 => M_within (by omega) (h5 s5 rfl))⟩
theorem M_sumB {d : Nat} (hd : 2 ≤ d) {σ : kS} {T B n : Int} (hB : MB σ T B n) {dp : Int} (hdp : dp ≤ 6) {A : Int → gR} (hA : Md σ T B n dp (fun _ => True) d MX12_term [(2, 166)] A) (hAd : gAdv (mby σ T B) n A) : Md σ T B n dp (fun _ => True) (d + 1) MX12_sum [(2, 166)] (gList (mby σ T B) n A 43 45) := by
  intro s q Q hs q0 qn ⟨hR1, hR2⟩
  have hk := sk_facts (b := mby σ T B) q qn
  have hkk := sk_sk (b := mby σ T B) (n := n) (p := q) qn
  have hadv := hAd _ (by omega) hk.2.1 hkk
  unfold gList at hR1 hR2
  refine EX12_sum fun _ => SX12_sum_0 ⟨o_166, hA s q _ hs q0 qn ⟨fun s4 q4 p4 o4 w e4 k4 hw _ hs4 q40 q4n => ?_, fun s4 q4 pf dp4 w e4 pf0 _ hs4 hq4 d1 d2 => ?_⟩⟩
  · have h2 := hadv.2 p4 o4 e4
    rw [e4] at hR1 hR2
    refine msum_loop hd hB hdp hA hAd 120 s4 q4 w o4 hs4 q40 q4n (by rw [k4]; omega) hw ?_
    rw [k4]
    exact ⟨hR1, hR2⟩
  · refine SX12_sum_5 ?_
    rw [hs4.2.2.2.2.1]
    refine ⟨o_166, fun _ => hR2 s4 q4 pf dp4 _ ?_ pf0 trivial hs4 hq4 d1 d2, fun e => by omega⟩
    rcases e4 with e4 | ⟨o4, e4, hdg⟩
    · exact Or.inl (by rw [e4]; rfl)
    · exact Or.inr ⟨_, by rw [e4]; exact chain_fail (by decide) hdg, hdg⟩
theorem M_sum {σ : kS} {T B n : Int} (hB : MB σ T B n) : ∀ (k : Nat) (dp : Int), 0 ≤ dp → dp + k = 6 → ∀ d, 9 + 3 * k ≤ d → Md σ T B n dp (fun _ => True) d MX12_sum [(2, 166)] (gSum (mby σ T B) n k) := by
  intro k
  induction k with
  | zero =>
    intro dp h0 h6 d hd
    obtain ⟨e, rfl⟩ : ∃ e, d = e + 3 := ⟨d - 3, by omega⟩
    exact M_sumB (by omega) hB (by omega) (M_term (by omega) hB (by omega) (M_atom (S := none) (by omega) hB (show dp = 6 by omega)) (gAtom_adv (S := none) trivial)) (gList_adv (by decide) (gAtom_adv (S := none) trivial))
  | succ k ih =>
    intro dp h0 h6 d hd
    obtain ⟨e, rfl⟩ : ∃ e, d = e + 3 := ⟨d - 3, by omega⟩
    have h1 := ih (dp + 1) (by omega) (by omega) e (by omega)
    have hA : gAdvO (mby σ T B) n (some (gSum (mby σ T B) n k)) := gSum_adv
    exact M_sumB (by omega) hB (by omega) (M_term (by omega) hB (by omega) (M_atom (S := some (gSum (mby σ T B) n k)) (by omega) hB ⟨⟨h0, by omega⟩, h1⟩) (gAtom_adv hA)) (gList_adv (by decide) (gAtom_adv hA))
theorem mcmp_part {d : Nat} (hd : 2 ≤ d) {σ : kS} {T B n : Int} (hB : MB σ T B n) {dp : Int} (hdp : dp ≤ 6) {Sm : Int → gR} (hS : Md σ T B n dp (fun _ => True) d MX12_sum [(2, 166)] Sm) {s : kS} {q x : Int} {os : List Int} {Q : Int → kS → Prop} (hs : MS σ s q (-1) dp) (q0 : 0 ≤ q) (qn : q ≤ n) (hv : gVal (mL σ) os x) (hR : MR σ T B n dp gBool s Q (gComp (mby σ T B) n Sm (sk (mby σ T B) n q) os)) :
    Ci d MX12_look [(2, 166)] kN s (fun x3 s2 => Ci d MX12_isSign [(0, x3)] kN s2 (fun x4 s3 => (¬ x4 = 0 → (-2147483648 ≤ ((s3 166 18) + 1) ∧ ((s3 166 18) + 1) ≤ 2147483647) ∧ (∀ s4, s4 = kst s3 166 18 ((s3 166 18) + 1) → Ci d MX12_sum [(2, 166)] kN s4 (fun x6 s5 => (¬ x3 = 61 → (¬ x3 = 60 → (x ≤ x6 → Q 0 s5) ∧ (¬ x ≤ x6 → Q 1 s5)) ∧ (¬ (¬ x3 = 60) → (x6 ≤ x → Q 0 s5) ∧ (¬ x6 ≤ x → Q 1 s5))) ∧ (¬ (¬ x3 = 61) → (¬ x = x6 → Q 0 s5) ∧ (¬ (¬ x = x6) → Q 1 s5))))) ∧ (¬ (¬ x4 = 0) → Ci d MX12_fails [(2, 166)] kN s3 (fun x5 s4 => (x5 = 0 ∨ x5 = 1) ∧ (Q x5 s4))))) := by
  obtain ⟨hR1, hR2⟩ := hR
  have hn := hB.2.2.2.2.1
  have hk := sk_facts (b := mby σ T B) q qn
  refine M_look (by omega) hB hs q0 qn (fun s2 hs2 => ?_)
  generalize hp : sk (mby σ T B) n q = p at *
  unfold gComp at hR1 hR2
  refine M_isSign (by omega) (fun c => ⟨fun _ => ?_, fun e => by omega⟩) (fun c => ⟨fun e => absurd rfl e, fun _ => M_fails (by omega) hs2 (fun s4 hs4 => ⟨Or.inl rfl, ?_⟩)⟩)
  · rw [if_pos c] at hR1 hR2
    have hin := gat_in (b := mby σ T B) (n := n) (p := p) rfl (by omega)
    rw [hs2.2.2.2.1]
    refine ⟨by omega, fun s4 e4 => ?_⟩
    have hs4 : MS σ s4 (p + 1) (-1) dp := by rw [e4]; exact hs2.at'
    have three : ∀ (x6 : Int) (s5 : kS), (∀ v, v = gBd (gJoin (gat (mby σ T B) n p) x x6) → Q v s5) → (¬ gat (mby σ T B) n p = 61 → (¬ gat (mby σ T B) n p = 60 → (x ≤ x6 → Q 0 s5) ∧ (¬ x ≤ x6 → Q 1 s5)) ∧ (¬ (¬ gat (mby σ T B) n p = 60) → (x6 ≤ x → Q 0 s5) ∧ (¬ x6 ≤ x → Q 1 s5))) ∧ (¬ (¬ gat (mby σ T B) n p = 61) → (¬ x = x6 → Q 0 s5) ∧ (¬ (¬ x = x6) → Q 1 s5)) := by
      intro x6 s5 hQ
      refine ⟨fun c1 => ⟨fun c2 => ⟨fun c3 => hQ _ ?_, fun c3 => hQ _ ?_⟩, fun c2 => ⟨fun c3 => hQ _ ?_, fun c3 => hQ _ ?_⟩⟩, fun c1 => ⟨fun c3 => hQ _ ?_, fun c3 => hQ _ ?_⟩⟩
      · rw [show gat (mby σ T B) n p = 62 by omega, gJoin_gt, if_neg (by omega)]
      · rw [show gat (mby σ T B) n p = 62 by omega, gJoin_gt, if_pos (by omega)]
      · rw [show gat (mby σ T B) n p = 60 by omega, gJoin_lt, if_neg (by omega)]
      · rw [show gat (mby σ T B) n p = 60 by omega, gJoin_lt, if_pos (by omega)]
      · rw [show gat (mby σ T B) n p = 61 by omega, gJoin_eq, if_neg c3]
      · rw [show gat (mby σ T B) n p = 61 by omega, gJoin_eq, if_pos (Classical.not_not.mp c3)]
    refine hS s4 (p + 1) _ hs4 (by omega) (by omega) ⟨fun s5 q5 p5 o5 w e5 k5 hw _ hs5 q50 q5n => three w s5 (fun v ev => ?_), fun s5 q5 pf dp5 w e5 pf0 _ hs5 hq5 d1 d2 => three w s5 (fun v ev => ?_)⟩
    · rw [e5] at hR1
      rw [ev]
      exact hR1 s5 q5 p5 _ _ rfl k5 (gVal_bin hv hw (by omega)) (gJoin_sign c) hs5 q50 q5n
    · refine hR2 s5 q5 pf dp5 v ?_ pf0 (by rw [ev]; exact gJoin_sign c) hs5 hq5 d1 d2
      rcases e5 with e5 | ⟨o5, e5, hdg⟩
      · exact Or.inl (by rw [e5]; rfl)
      · exact Or.inr ⟨_, by rw [e5]; rfl, hdg⟩
  · rw [if_neg c] at hR2
    rw [if_pos rfl] at hs4
    exact hR2 s4 p p dp 0 (Or.inl rfl) (by omega) (Or.inl rfl) hs4 (by omega) (Int.le_refl _) hdp
theorem M_compares0 {d : Nat} (hd : 2 ≤ d) {σ : kS} {T B n : Int} (hB : MB σ T B n) {dp : Int} (hdp : dp ≤ 6) {Sm : Int → gR} (hS : Md σ T B n dp (fun _ => True) d MX12_sum [(2, 166)] Sm) : Md σ T B n dp gBool (d + 1) MX12_compares [(2, 166), (0, 0), (0, 0)] (fun p => gThen (Sm p) (fun p' os => gComp (mby σ T B) n Sm p' os)) := by
  intro s q Q hs q0 qn ⟨hR1, hR2⟩
  refine EX12_compares fun _ _ _ => SX12_compares_0 ⟨fun _ => ⟨o_166, hS s q _ hs q0 qn ⟨fun s4 q4 p4 o4 w e4 k4 hw _ hs4 q40 q4n => ?_, fun s4 q4 pf dp4 w e4 pf0 _ hs4 hq4 d1 d2 => ?_⟩⟩, fun e => absurd rfl e⟩
  · show (s4 166 19 = -1 → _) ∧ (¬ s4 166 19 = -1 → _)
    rw [hs4.2.2.2.2.1]
    simp only [e4] at hR1 hR2
    refine ⟨fun _ => mcmp_part hd hB hdp hS hs4 q40 q4n hw ?_, fun e => absurd rfl e⟩
    rw [k4]
    exact ⟨hR1, hR2⟩
  · show (s4 166 19 = -1 → _) ∧ (¬ s4 166 19 = -1 → _)
    rw [hs4.2.2.2.2.1]
    refine ⟨fun e => by omega, fun _ => hR2 s4 q4 pf dp4 0 ?_ pf0 (Or.inl rfl) hs4 hq4 d1 d2⟩
    rcases e4 with e4 | ⟨o4, e4, hdg⟩
    · exact Or.inl (by simp only [e4]; rfl)
    · refine Or.inl ?_
      simp only [e4]
      show gComp (mby σ T B) n Sm pf o4 = _
      unfold gComp
      rw [if_neg (by omega)]
theorem M_compares1 {d : Nat} (hd : 2 ≤ d) {σ : kS} {T B n : Int} (hB : MB σ T B n) {dp : Int} (hdp : dp ≤ 6) {Sm : Int → gR} (hS : Md σ T B n dp (fun _ => True) d MX12_sum [(2, 166)] Sm) {s : kS} {q x : Int} {os : List Int} {Q : Int → kS → Prop} (hs : MS σ s q (-1) dp) (q0 : 0 ≤ q) (qn : q ≤ n) (hv : gVal (mL σ) os x) (hR : MR σ T B n dp gBool s Q (gComp (mby σ T B) n Sm (sk (mby σ T B) n q) os)) : Ci (d + 1) MX12_compares [(2, 166), (0, 1), (0, x)] kN s Q := by
  refine EX12_compares fun _ _ _ => SX12_compares_0 ⟨fun e => absurd e (by decide), fun _ => ⟨o_166, ?_⟩⟩
  rw [hs.2.2.2.2.1]
  exact ⟨fun _ => mcmp_part hd hB hdp hS hs q0 qn hv hR, fun e => absurd rfl e⟩
def MdU (σ : kS) (T B n dp : Int) (d : Nat) : Option ((Int → gR) × (Int → gR)) → Prop
  | none => dp = 6
  | some U => (0 ≤ dp ∧ dp < 6) ∧ Md σ T B n (dp + 1) gBool d MX12_unit [(2, 166)] U.1 ∧ Md σ T B n (dp + 1) gBool d MX12_condition [(2, 166), (0, 0), (0, 0)] U.2
theorem M_unitB {d : Nat} (hd : 3 ≤ d) {σ : kS} {T B n : Int} (hB : MB σ T B n) {dp : Int} {Sm : Int → gR} {U : Option ((Int → gR) × (Int → gR))} (hC : Md σ T B n dp gBool d MX12_compares [(2, 166), (0, 0), (0, 0)] (fun p => gThen (Sm p) (fun p' os => gComp (mby σ T B) n Sm p' os))) (hU : MdU σ T B n dp d U) : Md σ T B n dp gBool (d + 1) MX12_unit [(2, 166)] (gUnit (mby σ T B) n Sm U) := by
  intro s q Q hs q0 qn ⟨hR1, hR2⟩
  have hn := hB.2.2.2.2.1
  have hk := sk_facts (b := mby σ T B) q qn
  have hkk := sk_sk (b := mby σ T B) (n := n) (p := q) qn
  refine EX12_unit fun _ => SX12_unit_0 ⟨o_166, M_look (by omega) hB hs q0 qn (fun s1 hs1 => ?_)⟩
  generalize hp : sk (mby σ T B) n q = p at *
  unfold gUnit at hR1 hR2
  refine ⟨fun c1 => ⟨fun c2 => ?_, fun c2 => ?_⟩, fun c1 => ?_⟩
  · rw [if_neg c1, if_neg c2] at hR1 hR2
    have h9 := hC s1 p (fun x s => (x = 0 ∨ x = 1) ∧ Q x s) hs1 (by omega) (by omega)
    rw [hkk] at h9
    exact h9 ⟨fun s4 q4 p4 o4 w e4 k4 hw hb hs4 q40 q4n => ⟨hb, hR1 s4 q4 p4 o4 w e4 k4 hw hb hs4 q40 q4n⟩, fun s4 q4 pf dp4 w e4 pf0 hb hs4 hq4 d1 d2 => ⟨hb, hR2 s4 q4 pf dp4 w e4 pf0 hb hs4 hq4 d1 d2⟩⟩
  · have c2 := Classical.not_not.mp c2
    rw [if_neg c1, if_pos c2] at hR1 hR2
    have hin := gat_in c2 (by decide)
    cases U with
    | none =>
      have h6 : dp = 6 := hU
      exact M_goesIn (by omega) hs1 (by omega) (by omega) (fun e => by omega) (fun _ s3 hs3 => ⟨fun e => absurd rfl e, fun _ => hR2 s3 p p dp 0 (Or.inl rfl) (by omega) (Or.inl rfl) hs3 (by omega) (Int.le_refl _) (by omega)⟩)
    | some U =>
      obtain ⟨h6, hU1, hU2⟩ := hU
      have hR1 : ∀ s' q' p' os v, gThen (U.2 (sk (mby σ T B) n (p + 1))) (fun p' os => if gat (mby σ T B) n p' = 41 then .inr (sk (mby σ T B) n (p' + 1), os) else .inl p') = .inr (p', os) → sk (mby σ T B) n q' = p' → gVal (mL σ) os v → gBool v → MS σ s' q' (-1) dp → 0 ≤ q' → q' ≤ n → Q v s' := hR1
      have hR2 : ∀ s' q' pf dp' v, (gThen (U.2 (sk (mby σ T B) n (p + 1))) (fun p' os => if gat (mby σ T B) n p' = 41 then .inr (sk (mby σ T B) n (p' + 1), os) else .inl p') = .inl pf ∨ ∃ os, gThen (U.2 (sk (mby σ T B) n (p + 1))) (fun p' os => if gat (mby σ T B) n p' = 41 then .inr (sk (mby σ T B) n (p' + 1), os) else .inl p') = .inr (pf, os) ∧ gDig (gat (mby σ T B) n pf)) → 0 ≤ pf → gBool v → MS σ s' q' pf dp' → (0 ≤ q' ∧ q' ≤ n) → dp ≤ dp' → dp' ≤ 6 → Q v s' := hR2
      refine M_goesIn (by omega) hs1 (by omega) (by omega) (fun _ s3 hs3 => ⟨fun _ => ?_, fun e => by omega⟩) (fun e => by omega)
      refine hU2 s3 (p + 1) _ hs3 (by omega) (by omega) ⟨fun s4 q4 p4 os v e4 k4 hv hbv hs4 q40 q4n => ?_, fun s4 q4 pf dp4 v e4 pf0 _ hs4 hq4 d1 d2 => ?_⟩
      · rw [e4] at hR1 hR2
        refine M_takes (by omega) hB (by decide) hs4 q40 q4n (fun _ c9 s5 hs5 => ⟨fun _ => ?_, fun e => by omega⟩) (fun _ c9 s5 hs5 => ⟨fun e => absurd rfl e, fun _ => ?_⟩) (fun e => absurd rfl e)
        · rw [k4] at c9 hs5
          have hin4 := gat_in c9 (by decide)
          rw [hs5.2.2.2.2.2]
          refine ⟨by omega, fun s6 e6 => ⟨hbv, hR1 s6 (p4 + 1) _ os v ?_ rfl hv hbv ?_ (by omega) (by omega)⟩⟩
          · show (if _ then _ else _) = _
            rw [if_pos c9]
          · rw [e6, show dp + 1 - 1 = dp by omega]
            exact hs5.dp' (v := dp)
        · rw [k4] at c9 hs5
          have hk4 := sk_facts (b := mby σ T B) q4 q4n
          refine hR2 s5 p4 p4 (dp + 1) 0 (Or.inl ?_) (by omega) (Or.inl rfl) hs5 (by omega) (by omega) (by omega)
          show (if _ then _ else _) = _
          rw [if_neg c9]
      · refine M_takes (by omega) hB (by decide) hs4 hq4.1 hq4.2 (fun e => by omega) (fun e => by omega) (fun _ => ⟨fun e => absurd rfl e, fun _ => hR2 s4 q4 pf dp4 0 ?_ pf0 (Or.inl rfl) hs4 hq4 (by omega) d2⟩)
        rcases e4 with e4 | ⟨os, e4, hdg⟩
        · exact Or.inl (by rw [e4]; rfl)
        · refine Or.inl ?_
          rw [e4]
          show (if _ then _ else _) = _
          rw [if_neg (show ¬ gat (mby σ T B) n pf = 41 by omega)]
  · have c1 := Classical.not_not.mp c1
    rw [if_pos c1] at hR1 hR2
    have hin := gat_in c1 (by decide)
    cases U with
    | none =>
      have h6 : dp = 6 := hU
      exact M_goesIn (by omega) hs1 (by omega) (by omega) (fun e => by omega) (fun _ s3 hs3 => ⟨fun e => absurd rfl e, fun _ => hR2 s3 p p dp 0 (Or.inl rfl) (by omega) (Or.inl rfl) hs3 (by omega) (Int.le_refl _) (by omega)⟩)
    | some U =>
      obtain ⟨h6, hU1, hU2⟩ := hU
      have hR1 : ∀ s' q' p' os v, gThen (U.1 (sk (mby σ T B) n (p + 1))) (fun p' os => .inr (p', os ++ [20033])) = .inr (p', os) → sk (mby σ T B) n q' = p' → gVal (mL σ) os v → gBool v → MS σ s' q' (-1) dp → 0 ≤ q' → q' ≤ n → Q v s' := hR1
      have hR2 : ∀ s' q' pf dp' v, (gThen (U.1 (sk (mby σ T B) n (p + 1))) (fun p' os => .inr (p', os ++ [20033])) = .inl pf ∨ ∃ os, gThen (U.1 (sk (mby σ T B) n (p + 1))) (fun p' os => .inr (p', os ++ [20033])) = .inr (pf, os) ∧ gDig (gat (mby σ T B) n pf)) → 0 ≤ pf → gBool v → MS σ s' q' pf dp' → (0 ≤ q' ∧ q' ≤ n) → dp ≤ dp' → dp' ≤ 6 → Q v s' := hR2
      refine M_goesIn (by omega) hs1 (by omega) (by omega) (fun _ s3 hs3 => ⟨fun _ => ?_, fun e => by omega⟩) (fun e => by omega)
      have flip : ∀ (v : Int) (s4 : kS), gBool v → (∀ s5, s5 = kst s4 166 20 (s4 166 20 - 1) → Q (1 - v) s5) → ∀ s5, s5 = kst s4 166 20 (s4 166 20 - 1) → (¬ v = 0 → Q 0 s5) ∧ (¬ ¬ v = 0 → Q 1 s5) := by
        intro v s4 hb hq s5 e5
        have h9 := hq s5 e5
        rcases hb with rfl | rfl
        · exact ⟨fun e => absurd rfl e, fun _ => h9⟩
        · exact ⟨fun _ => h9, fun e => absurd (by decide) e⟩
      refine hU1 s3 (p + 1) _ hs3 (by omega) (by omega) ⟨fun s4 q4 p4 os v e4 k4 hv hbv hs4 q40 q4n => ?_, fun s4 q4 pf dp4 v e4 pf0 hbv hs4 hq4 d1 d2 => ?_⟩
      · rw [e4] at hR1
        refine ⟨by rw [hs4.2.2.2.2.2]; omega, flip v s4 hbv (fun s5 e5 => ?_)⟩
        refine hR1 s5 q4 p4 _ _ rfl k4 (gVal_not hv) (by rcases hbv with rfl | rfl; exact Or.inr rfl; exact Or.inl rfl) ?_ q40 q4n
        rw [e5, hs4.2.2.2.2.2, show dp + 1 - 1 = dp by omega]
        exact hs4.dp'
      · refine ⟨by rw [hs4.2.2.2.2.2]; omega, flip v s4 hbv (fun s5 e5 => ?_)⟩
        refine hR2 s5 q4 pf (dp4 - 1) _ ?_ pf0 (by rcases hbv with rfl | rfl; exact Or.inr rfl; exact Or.inl rfl) ?_ hq4 (by omega) (by omega)
        · rcases e4 with e4 | ⟨os, e4, hdg⟩
          · exact Or.inl (by rw [e4]; rfl)
          · exact Or.inr ⟨_, by rw [e4]; rfl, hdg⟩
        · rw [e5, hs4.2.2.2.2.2]
          exact hs4.dp'
