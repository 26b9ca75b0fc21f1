/-! the model: truths, conditions, clauses, whole texts -/
theorem mpart_loop {d : Nat} (hd : 2 ≤ d) {σ : kS} {T B n : Int} (hB : MB σ T B n) {dp : Int} (hdp : dp ≤ 6) {A : Int → gR} (hA : Md σ T B n dp gBool d MX12_unit [(2, 166)] A) (hAd : gAdv (mby σ T B) n A) {Q : Int → kS → Prop} : ∀ (f : Nat) (s : kS) (q v : Int) (os : List Int), MS σ s q (-1) dp → 0 ≤ q → q ≤ n → 120 ≤ sk (mby σ T B) n q + f → gVal (mL σ) os v → gBool v → MR σ T B n dp gBool s Q (gChain (mby σ T B) n A 38 38 f (sk (mby σ T B) n q) os) → LX12_part_18 d kN Q 166 v s := by
  intro f
  have hn := hB.2.2.2.2.1
  induction f with
  | zero =>
    intro s q v os hs q0 qn hf hv hb ⟨hR1, hR2⟩
    have hk := sk_facts (b := mby σ T B) q qn
    have hkk := sk_sk (b := mby σ T B) (n := n) (p := q) qn
    refine SX12_part_18 ?_
    rw [hs.2.2.2.2.1]
    refine ⟨o_166, fun e => absurd rfl e, fun _ => M_look (by omega) hB hs q0 qn (fun s1 hs1 => ?_)⟩
    rw [gat_out (by omega)]
    exact ⟨fun _ => ⟨hb, hR1 s1 _ _ os v rfl hkk hv hb hs1 (by omega) (by omega)⟩, fun e => absurd (by decide) e⟩
  | succ f ih =>
    intro s q v os hs q0 qn hf hv hb ⟨hR1, hR2⟩
    have hk := sk_facts (b := mby σ T B) q qn
    have hkk := sk_sk (b := mby σ T B) (n := n) (p := q) qn
    refine SX12_part_18 ?_
    rw [hs.2.2.2.2.1]
    refine ⟨o_166, fun e => absurd rfl e, fun _ => M_look (by omega) hB hs q0 qn (fun s1 hs1 => ?_)⟩
    generalize hp : sk (mby σ T B) n q = p at *
    refine ⟨fun c => ⟨hb, ?_⟩, fun c => ?_⟩
    · unfold gChain at hR1
      rw [if_neg (by omega)] at hR1
      exact hR1 s1 p p os v rfl hkk hv hb hs1 (by omega) (by omega)
    · have c := Classical.not_not.mp c
      unfold gChain at hR1 hR2
      rw [if_pos (Or.inl c)] at hR1 hR2
      have hin := gat_in c (by omega)
      have hk2 := sk_next (b := mby σ T B) hin.1 hin.2
      have hadv := hAd _ (by omega) hk2.2.1 hk2.2.2
      rw [hs1.2.2.2.1]
      refine ⟨by omega, fun s2 e2 => ?_⟩
      have hs2 : MS σ s2 (p + 1) (-1) dp := by rw [e2]; exact hs1.at'
      have three : ∀ (w : Int) (s3 : kS), gBool w → (∀ x, x = gBd (gJoin 38 v w) → LX12_part_18 d kN Q 166 x s3) → (v = 0 → LX12_part_18 d kN Q 166 0 s3) ∧ (¬ v = 0 → (w = 0 → LX12_part_18 d kN Q 166 0 s3) ∧ (¬ w = 0 → LX12_part_18 d kN Q 166 1 s3)) := by
        intro w s3 hw hq
        rw [gJoin_and hb hw] at hq
        refine ⟨fun e => hq 0 (by rw [if_pos e]), fun e => ⟨fun e2 => hq 0 (by rw [if_neg e, e2]), fun e2 => hq 1 (by rw [if_neg e]; omega)⟩⟩
      refine hA s2 (p + 1) _ hs2 (by omega) (by omega) ⟨fun s4 q4 p4 o4 w e4 k4 hw hwb hs4 q40 q4n => three w s4 hwb (fun x ex => ?_), fun s4 q4 pf dp4 w e4 pf0 hwb hs4 hq4 d1 d2 => three w s4 hwb (fun x ex => ?_)⟩
      · have h2 := hadv.2 p4 o4 e4
        rw [e4] at hR1 hR2
        rw [c] at hR1 hR2
        rw [ex]
        refine ih s4 q4 _ (os ++ (o4 ++ [20000 + 38])) hs4 q40 q4n (by rw [k4]; omega) (gVal_bin hv hw (by omega)) (gAnd_ok (Or.inl rfl) hb hwb) ?_
        rw [k4]
        exact ⟨hR1, hR2⟩
      · refine SX12_part_18 ?_
        rw [hs4.2.2.2.2.1]
        have hxb : gBool x := by rw [ex]; exact gAnd_ok (Or.inl rfl) hb hwb
        refine ⟨o_166, fun _ => ⟨hxb, hR2 s4 q4 pf dp4 _ ?_ pf0 hxb hs4 hq4 d1 d2⟩, fun e => by omega⟩
        rcases e4 with e4 | ⟨o4, e4, hdg⟩
        · exact Or.inl (by rw [e4]; rfl)
        · exact Or.inr ⟨_, by rw [e4]; exact chain_fail (by decide) hdg, hdg⟩
/-- what the loop of truths does behind its first one -/
theorem mpart_in {d : Nat} (hd : 2 ≤ d) {σ : kS} {T B n : Int} (hB : MB σ T B n) {dp : Int} (hdp : dp ≤ 6) {A : Int → gR} (hA : Md σ T B n dp gBool d MX12_unit [(2, 166)] A) (hAd : gAdv (mby σ T B) n A) {Q : Int → kS → Prop} {r : gR} {s : kS} (hR : MR σ T B n dp gBool s Q (gThen r (fun p' os => gChain (mby σ T B) n A 38 38 120 p' os))) : MR σ T B n dp gBool s (fun x s1 => LX12_part_18 d kN Q 166 x s1) r := by
  obtain ⟨hR1, hR2⟩ := hR
  refine ⟨fun s4 q4 p4 o4 w e4 k4 hw hwb hs4 q40 q4n => ?_, fun s4 q4 pf dp4 w e4 pf0 hwb hs4 hq4 d1 d2 => ?_⟩
  · rw [e4] at hR1 hR2
    have hk := sk_facts (b := mby σ T B) q4 q4n
    refine mpart_loop hd hB hdp hA hAd 120 s4 q4 w o4 hs4 q40 q4n (by omega) hw hwb ?_
    rw [k4]
    exact ⟨hR1, hR2⟩
  · refine SX12_part_18 ?_
    rw [hs4.2.2.2.2.1]
    refine ⟨o_166, fun _ => ⟨hwb, hR2 s4 q4 pf dp4 _ ?_ pf0 hwb hs4 hq4 d1 d2⟩, fun e => by omega⟩
    rcases e4 with e4 | ⟨o4, e4, hdg⟩
    · exact Or.inl (by rw [e4]; rfl)
    · exact Or.inr ⟨_, by rw [e4]; exact chain_fail (by decide) hdg, hdg⟩
theorem M_part0 {d : Nat} (hd : 2 ≤ d) {σ : kS} {T B n : Int} (hB : MB σ T B n) {dp : Int} (hdp : dp ≤ 6) {A : Int → gR} (hA : Md σ T B n dp gBool d MX12_unit [(2, 166)] A) (hAd : gAdv (mby σ T B) n A) : Md σ T B n dp gBool (d + 1) MX12_part [(2, 166), (0, 0), (0, 0)] (gList (mby σ T B) n A 38 38) := by
  intro s q Q hs q0 qn hR
  exact EX12_part fun _ _ _ => SX12_part_0 ⟨fun _ => ⟨o_166, hA s q _ hs q0 qn (mpart_in hd hB hdp hA hAd hR)⟩, fun e => absurd rfl e⟩
theorem M_part1 {d : Nat} (hd : 3 ≤ d) {σ : kS} {T B n : Int} (hB : MB σ T B n) {dp : Int} (hdp : dp ≤ 6) {A Sm : Int → gR} (hS : Md σ T B n dp (fun _ => True) (d - 1) MX12_sum [(2, 166)] Sm) (hA : Md σ T B n dp gBool d MX12_unit [(2, 166)] A) (hAd : gAdv (mby σ T B) n A) {s : kS} {q x : Int} {os : List Int} {Q : Int → kS → Prop} (hs : MS σ s q (-1) dp) (q0 : 0 ≤ q) (qn : q ≤ n) (hv : gVal (mL σ) os x) (hR : MR σ T B n dp gBool s Q (gThen (gComp (mby σ T B) n Sm (sk (mby σ T B) n q) os) (fun p' os => gChain (mby σ T B) n A 38 38 120 p' os))) : Ci (d + 1) MX12_part [(2, 166), (0, 1), (0, x)] kN s Q := by
  obtain ⟨e, rfl⟩ : ∃ e, d = e + 1 := ⟨d - 1, by omega⟩
  exact EX12_part fun _ _ _ => SX12_part_0 ⟨fun e => absurd e (by decide), fun _ => ⟨o_166, M_compares1 (by omega) hB hdp hS hs q0 qn hv (mpart_in (by omega) hB hdp hA hAd hR)⟩⟩
theorem mcond_loop {d : Nat} (hd : 2 ≤ d) {σ : kS} {T B n : Int} (hB : MB σ T B n) {dp : Int} (hdp : dp ≤ 6) {A : Int → gR} (hA : Md σ T B n dp gBool d MX12_part [(2, 166), (0, 0), (0, 0)] A) (hAd : gAdv (mby σ T B) n A) {Q : Int → kS → Prop} : ∀ (f : Nat) (s : kS) (q v : Int) (os : List Int), MS σ s q (-1) dp → 0 ≤ q → q ≤ n → 120 ≤ sk (mby σ T B) n q + f → gVal (mL σ) os v → gBool v → MR σ T B n dp gBool s Q (gChain (mby σ T B) n A 124 124 f (sk (mby σ T B) n q) os) → LX12_condition_7 d kN Q 166 v s := by
  intro f
  have hn := hB.2.2.2.2.1
  induction f with
  | zero =>
    intro s q v os hs q0 qn hf hv hb ⟨hR1, hR2⟩
    have hk := sk_facts (b := mby σ T B) q qn
    have hkk := sk_sk (b := mby σ T B) (n := n) (p := q) qn
    refine SX12_condition_7 ?_
    rw [hs.2.2.2.2.1]
    refine ⟨o_166, fun e => absurd rfl e, fun _ => M_look (by omega) hB hs q0 qn (fun s1 hs1 => ?_)⟩
    rw [gat_out (by omega)]
    exact ⟨fun _ => ⟨hb, hR1 s1 _ _ os v rfl hkk hv hb hs1 (by omega) (by omega)⟩, fun e => absurd (by decide) e⟩
  | succ f ih =>
    intro s q v os hs q0 qn hf hv hb ⟨hR1, hR2⟩
    have hk := sk_facts (b := mby σ T B) q qn
    have hkk := sk_sk (b := mby σ T B) (n := n) (p := q) qn
    refine SX12_condition_7 ?_
    rw [hs.2.2.2.2.1]
    refine ⟨o_166, fun e => absurd rfl e, fun _ => M_look (by omega) hB hs q0 qn (fun s1 hs1 => ?_)⟩
    generalize hp : sk (mby σ T B) n q = p at *
    refine ⟨fun c => ⟨hb, ?_⟩, fun c => ?_⟩
    · unfold gChain at hR1
      rw [if_neg (by omega)] at hR1
      exact hR1 s1 p p os v rfl hkk hv hb hs1 (by omega) (by omega)
    · have c := Classical.not_not.mp c
      unfold gChain at hR1 hR2
      rw [if_pos (Or.inl c)] at hR1 hR2
      have hin := gat_in c (by omega)
      have hk2 := sk_next (b := mby σ T B) hin.1 hin.2
      have hadv := hAd _ (by omega) hk2.2.1 hk2.2.2
      rw [hs1.2.2.2.1]
      refine ⟨by omega, fun s2 e2 => ?_⟩
      have hs2 : MS σ s2 (p + 1) (-1) dp := by rw [e2]; exact hs1.at'
      have three : ∀ (w : Int) (s3 : kS), gBool w → (∀ x, x = gBd (gJoin 124 v w) → LX12_condition_7 d kN Q 166 x s3) → (¬ v = 0 → LX12_condition_7 d kN Q 166 1 s3) ∧ (¬ ¬ v = 0 → (w = 0 → LX12_condition_7 d kN Q 166 0 s3) ∧ (¬ w = 0 → LX12_condition_7 d kN Q 166 1 s3)) := by
        intro w s3 hw hq
        rw [gJoin_or hb hw] at hq
        refine ⟨fun e => hq 1 (by rw [if_neg e]), fun e => ⟨fun e2 => hq 0 (by rw [if_pos (Classical.not_not.mp e), e2]), fun e2 => hq 1 (by rw [if_pos (Classical.not_not.mp e)]; omega)⟩⟩
      refine hA s2 (p + 1) _ hs2 (by omega) (by omega) ⟨fun s4 q4 p4 o4 w e4 k4 hw hwb hs4 q40 q4n => three w s4 hwb (fun x ex => ?_), fun s4 q4 pf dp4 w e4 pf0 hwb hs4 hq4 d1 d2 => three w s4 hwb (fun x ex => ?_)⟩
      · have h2 := hadv.2 p4 o4 e4
        rw [e4] at hR1 hR2
        rw [c] at hR1 hR2
        rw [ex]
        refine ih s4 q4 _ (os ++ (o4 ++ [20000 + 124])) hs4 q40 q4n (by rw [k4]; omega) (gVal_bin hv hw (by omega)) (gOr_ok (Or.inl rfl) hb hwb) ?_
        rw [k4]
        exact ⟨hR1, hR2⟩
      · refine SX12_condition_7 ?_
        rw [hs4.2.2.2.2.1]
        have hxb : gBool x := by rw [ex]; exact gOr_ok (Or.inl rfl) hb hwb
        refine ⟨o_166, fun _ => ⟨hxb, hR2 s4 q4 pf dp4 _ ?_ pf0 hxb hs4 hq4 d1 d2⟩, fun e => by omega⟩
        rcases e4 with e4 | ⟨o4, e4, hdg⟩
        · exact Or.inl (by rw [e4]; rfl)
        · exact Or.inr ⟨_, by rw [e4]; exact chain_fail (by decide) hdg, hdg⟩
theorem mcond_in {d : Nat} (hd : 2 ≤ d) {σ : kS} {T B n : Int} (hB : MB σ T B n) {dp : Int} (hdp : dp ≤ 6) {A : Int → gR} (hA : Md σ T B n dp gBool d MX12_part [(2, 166), (0, 0), (0, 0)] A) (hAd : gAdv (mby σ T B) n A) {Q : Int → kS → Prop} {r : gR} {s : kS} (hR : MR σ T B n dp gBool s Q (gThen r (fun p' os => gChain (mby σ T B) n A 124 124 120 p' os))) : MR σ T B n dp gBool s (fun x s1 => LX12_condition_7 d kN Q 166 x s1) r := by
  obtain ⟨hR1, hR2⟩ := hR
  refine ⟨fun s4 q4 p4 o4 w e4 k4 hw hwb hs4 q40 q4n => ?_, fun s4 q4 pf dp4 w e4 pf0 hwb hs4 hq4 d1 d2 => ?_⟩
  · rw [e4] at hR1 hR2
    have hk := sk_facts (b := mby σ T B) q4 q4n
    refine mcond_loop hd hB hdp hA hAd 120 s4 q4 w o4 hs4 q40 q4n (by omega) hw hwb ?_
    rw [k4]
    exact ⟨hR1, hR2⟩
  · refine SX12_condition_7 ?_
    rw [hs4.2.2.2.2.1]
    refine ⟨o_166, fun _ => ⟨hwb, hR2 s4 q4 pf dp4 _ ?_ pf0 hwb hs4 hq4 d1 d2⟩, fun e => by omega⟩
    rcases e4 with e4 | ⟨o4, e4, hdg⟩
    · exact Or.inl (by rw [e4]; rfl)
    · exact Or.inr ⟨_, by rw [e4]; exact chain_fail (by decide) hdg, hdg⟩
theorem M_cond0 {d : Nat} (hd : 2 ≤ d) {σ : kS} {T B n : Int} (hB : MB σ T B n) {dp : Int} (hdp : dp ≤ 6) {A : Int → gR} (hA : Md σ T B n dp gBool d MX12_part [(2, 166), (0, 0), (0, 0)] A) (hAd : gAdv (mby σ T B) n A) : Md σ T B n dp gBool (d + 1) MX12_condition [(2, 166), (0, 0), (0, 0)] (gList (mby σ T B) n A 124 124) := by
  intro s q Q hs q0 qn hR
  exact EX12_condition fun _ _ _ => SX12_condition_0 ⟨o_166, hA s q _ hs q0 qn (mcond_in hd hB hdp hA hAd hR)⟩
/-- units and conditions at k levels -/
theorem M_uc {σ : kS} {T B n : Int} (hB : MB σ T B n) : ∀ (k : Nat) (dp : Int), 0 ≤ dp → dp + k = 6 → ∀ d, 13 + 3 * k ≤ d → Md σ T B n dp gBool d MX12_unit [(2, 166)] (gUn (mby σ T B) n k) ∧ Md σ T B n dp gBool d MX12_part [(2, 166), (0, 0), (0, 0)] (gList (mby σ T B) n (gUn (mby σ T B) n k) 38 38) ∧ Md σ T B n dp gBool d MX12_condition [(2, 166), (0, 0), (0, 0)] (gCond (mby σ T B) n k) := by
  have lift : ∀ (k : Nat) (dp : Int), 0 ≤ dp → dp + k = 6 → (∀ d, 10 + 3 * k ≤ d → MdU σ T B n dp d (gUD (mby σ T B) n k)) → ∀ d, 13 + 3 * k ≤ d → Md σ T B n dp gBool d MX12_unit [(2, 166)] (gUn (mby σ T B) n k) ∧ Md σ T B n dp gBool d MX12_part [(2, 166), (0, 0), (0, 0)] (gList (mby σ T B) n (gUn (mby σ T B) n k) 38 38) ∧ Md σ T B n dp gBool d MX12_condition [(2, 166), (0, 0), (0, 0)] (gCond (mby σ T B) n k) := by
    intro k dp h0 h6 hU d hd
    obtain ⟨e, rfl⟩ : ∃ e, d = e + 4 := ⟨d - 4, by omega⟩
    have u1 : ∀ d, 11 + 3 * k ≤ d → Md σ T B n dp gBool d MX12_unit [(2, 166)] (gUn (mby σ T B) n k) := fun d h => by
      obtain ⟨f, rfl⟩ : ∃ f, d = f + 2 := ⟨d - 2, by omega⟩
      exact M_unitB (by omega) hB (M_compares0 (by omega) hB (by omega) (M_sum hB k dp h0 h6 f (by omega))) (hU (f + 1) (by omega))
    have t1 : ∀ d, 12 + 3 * k ≤ d → Md σ T B n dp gBool d MX12_part [(2, 166), (0, 0), (0, 0)] (gList (mby σ T B) n (gUn (mby σ T B) n k) 38 38) := fun d h => by
      obtain ⟨f, rfl⟩ : ∃ f, d = f + 1 := ⟨d - 1, by omega⟩
      exact M_part0 (by omega) hB (by omega) (u1 f (by omega)) gUn_adv
    exact ⟨u1 _ (by omega), t1 _ (by omega), M_cond0 (by omega) hB (by omega) (t1 (e + 3) (by omega)) gTru_adv⟩
  intro k
  induction k with
  | zero => exact fun dp h0 h6 => lift 0 dp h0 h6 (fun d _ => show dp = 6 by omega)
  | succ k ih =>
    intro dp h0 h6
    refine lift (k + 1) dp h0 h6 (fun d hd => ?_)
    have h9 := ih (dp + 1) (by omega) (by omega) d (by omega)
    exact ⟨⟨h0, by omega⟩, h9.1, h9.2.2⟩
theorem M_condG {σ : kS} {T B n : Int} (hB : MB σ T B n) {d : Nat} (hd : 33 ≤ d) {s : kS} {q x : Int} {os : List Int} {Q : Int → kS → Prop} (hs : MS σ s q (-1) 0) (q0 : 0 ≤ q) (qn : q ≤ n) (hv : gVal (mL σ) os x) (hR : MR σ T B n 0 gBool s Q (gCondG (mby σ T B) n 6 (sk (mby σ T B) n q) os)) : Ci d MX12_condition [(2, 166), (0, 1), (0, x)] kN s Q := by
  obtain ⟨e, rfl⟩ : ∃ e, d = e + 2 := ⟨d - 2, by omega⟩
  have h9 := M_uc hB 6 0 (by omega) (by omega) e (by omega)
  have h8 := M_uc hB 6 0 (by omega) (by omega) (e + 1) (by omega)
  exact EX12_condition fun _ _ _ => SX12_condition_0 ⟨o_166, M_part1 (by omega) hB (by omega) (M_sum hB 6 0 (by omega) (by omega) (e - 1) (by omega)) h9.1 gUn_adv hs q0 qn hv (mcond_in (by omega) hB (by omega) h8.2.1 gTru_adv hR)⟩
