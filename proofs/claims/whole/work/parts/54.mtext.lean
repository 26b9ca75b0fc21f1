/-! the model: its reader, the small ones -/
def gby (x : Int) : Int := if x < 0 then x + 256 else x
theorem kand255 {x : Int} (h : -128 ≤ x ∧ x ≤ 127) : kand x 255 = gby x := by
  have key : ∀ k : Fin 256, kand ((k : Int) - 128) 255 = gby ((k : Int) - 128) := by decide +kernel
  have := key ⟨(x + 128).toNat, by omega⟩
  have e : (((x + 128).toNat : Nat) : Int) - 128 = x := by omega
  simp only [e] at this
  exact this
def gAsc (k : Int) : Int := ([117, 100, 119, 102, 109, 115, 103, 116] : List Int).getD k.toNat 0
theorem gLet_mem {x : Int} (h : gLet x ≠ -1) : (x = 117 ∨ x = 100 ∨ x = 119 ∨ x = 102 ∨ x = 109 ∨ x = 115 ∨ x = 103 ∨ x = 116) ∧ gAsc (gLet x) = x := by
  have hm : x = 117 ∨ x = 100 ∨ x = 119 ∨ x = 102 ∨ x = 109 ∨ x = 115 ∨ x = 103 ∨ x = 116 := by
    unfold gLet at h
    by_cases c1 : x = 117
    · exact Or.inl c1
    by_cases c2 : x = 100
    · omega
    by_cases c3 : x = 119
    · omega
    by_cases c4 : x = 102
    · omega
    by_cases c5 : x = 109
    · omega
    by_cases c6 : x = 115
    · omega
    by_cases c7 : x = 103
    · omega
    by_cases c8 : x = 116
    · omega
    rw [if_neg c1, if_neg c2, if_neg c3, if_neg c4, if_neg c5, if_neg c6, if_neg c7, if_neg c8] at h
    exact absurd rfl h
  refine ⟨hm, ?_⟩
  rcases hm with rfl | rfl | rfl | rfl | rfl | rfl | rfl | rfl <;> decide
/-- what the model's reader stands on -/
def MB (σ : kS) (T B n : Int) : Prop := Lay σ ∧ σ 166 12 = T ∧ (σ 166 16 = B ∧ σ 166 17 = n) ∧ isA 21 kN T ∧ (0 ≤ B ∧ 0 ≤ n ∧ n ≤ 120 ∧ B + n ≤ klen T) ∧ klen T ≤ 720 ∧ T ≠ 166 ∧ ∀ i, 0 ≤ i → i < n → (-128 ≤ σ T (B + i) ∧ σ T (B + i) ≤ 127) ∧ σ T (B + i) ≠ 0
def mby (σ : kS) (T B : Int) (i : Int) : Int := gby (σ T (B + i))
def MS (σ s : kS) (q ft dp : Int) : Prop := off [166] σ s ∧ (∀ j, j ≠ 18 → j ≠ 19 → j ≠ 20 → s 166 j = σ 166 j) ∧ Lay s ∧ s 166 18 = q ∧ s 166 19 = ft ∧ s 166 20 = dp
theorem MS.f {σ s : kS} {T B n q ft dp : Int} (hB : MB σ T B n) (h : MS σ s q ft dp) : s 166 12 = T ∧ s 166 16 = B ∧ s 166 17 = n ∧ s T = σ T := by
  have hT := hB.2.2.2.2.2.2.1
  refine ⟨by rw [h.2.1 12 (by decide) (by decide) (by decide)]; exact hB.2.1, by rw [h.2.1 16 (by decide) (by decide) (by decide)]; exact hB.2.2.1.1, by rw [h.2.1 17 (by decide) (by decide) (by decide)]; exact hB.2.2.1.2, h.1 T (by simp only [List.mem_singleton]; exact hT)⟩
theorem MS.at' {σ s : kS} {q ft dp v : Int} (h : MS σ s q ft dp) : MS σ (kst s 166 18 v) v ft dp := by
  obtain ⟨h1, h2, h3, h4, h5, h6⟩ := h
  exact ⟨h1.kst (by decide), fun j j1 j2 j3 => by rw [kst_kj j1]; exact h2 j j1 j2 j3, h3.kstO 18 o_166 (by decide), kst_eq, by rw [kst_kj (by decide)]; exact h5, by rw [kst_kj (by decide)]; exact h6⟩
theorem MS.ft' {σ s : kS} {q ft dp v : Int} (h : MS σ s q ft dp) : MS σ (kst s 166 19 v) q v dp := by
  obtain ⟨h1, h2, h3, h4, h5, h6⟩ := h
  exact ⟨h1.kst (by decide), fun j j1 j2 j3 => by rw [kst_kj j2]; exact h2 j j1 j2 j3, h3.kstO 19 o_166 (by decide), by rw [kst_kj (by decide)]; exact h4, kst_eq, by rw [kst_kj (by decide)]; exact h6⟩
theorem MS.dp' {σ s : kS} {q ft dp v : Int} (h : MS σ s q ft dp) : MS σ (kst s 166 20 v) q ft v := by
  obtain ⟨h1, h2, h3, h4, h5, h6⟩ := h
  exact ⟨h1.kst (by decide), fun j j1 j2 j3 => by rw [kst_kj j3]; exact h2 j j1 j2 j3, h3.kstO 20 o_166 (by decide), by rw [kst_kj (by decide)]; exact h4, by rw [kst_kj (by decide)]; exact h5, kst_eq⟩
theorem mby_at {σ : kS} {T B n i : Int} (hB : MB σ T B n) (h : 0 ≤ i ∧ i < n) : gat (mby σ T B) n i = kand (σ T (B + i)) 255 ∧ (1 ≤ gat (mby σ T B) n i ∧ gat (mby σ T B) n i ≤ 255) ∧ (σ T (B + i) = 32 ↔ mby σ T B i = 32) ∧ (gDig (σ T (B + i)) ↔ gDig (gat (mby σ T B) n i)) ∧ (gDig (σ T (B + i)) → σ T (B + i) = gat (mby σ T B) n i) := by
  have h1 := hB.2.2.2.2.2.2.2 i h.1 h.2
  have e : gat (mby σ T B) n i = gby (σ T (B + i)) := by
    unfold gat
    rw [if_pos h]
    rfl
  rw [e, kand255 h1.1]
  refine ⟨rfl, ?_, ?_, ?_, ?_⟩
  · unfold gby; split <;> omega
  · show _ ↔ gby (σ T (B + i)) = 32
    unfold gby; split <;> omega
  · unfold gby; split <;> omega
  · unfold gby; split <;> omega
theorem gat_out {b : Int → Int} {n p : Int} (h : n ≤ p) : gat b n p = -1 := by
  unfold gat
  rw [if_neg (by omega)]
theorem M_look {d : Nat} (hd : 1 ≤ d) {σ : kS} {T B n : Int} (hB : MB σ T B n) {s : kS} {q ft dp : Int} {Q : Int → kS → Prop} (hs : MS σ s q ft dp) (q0 : 0 ≤ q) (qn : q ≤ n) (h : ∀ s', MS σ s' (sk (mby σ T B) n q) ft dp → Q (gat (mby σ T B) n (sk (mby σ T B) n q)) s') : Ci d MX12_look [(2, 166)] kN s Q := by
  obtain ⟨d, rfl⟩ : ∃ e, d = e + 1 := ⟨d - 1, by omega⟩
  have key : ∀ q : Int, 0 ≤ q → q ≤ n → ∀ s : kS, MS σ s q ft dp → (∀ s', MS σ s' (sk (mby σ T B) n q) ft dp → Q (gat (mby σ T B) n (sk (mby σ T B) n q)) s') → LX12_look_0 d kN Q 166 s := by
    refine up_to (e := n) ?_
    intro q ih q0 qn s hs h
    obtain ⟨e1, e2, e3, e4⟩ := hs.f hB
    have e5 : s 166 18 = q := hs.2.2.2.1
    have hBd := hB.2.2.2.2
    refine SX12_look_0 ?_
    rw [e3, e5, e2, e1, e4]
    refine ⟨o_166, fun c => ⟨fun _ => ?_, fun e => by omega⟩, fun c => ?_⟩
    · rw [sk_stop (by omega), gat_out c] at h
      exact h s hs
    · have hm := mby_at hB (i := q) ⟨q0, by omega⟩
      refine ⟨by omega, hB.2.2.2.1, by omega, fun c2 => ⟨fun e => by omega, fun _ => ?_⟩, fun c2 => ⟨by omega, fun s1 es => ?_⟩⟩
      · rw [sk_stop (fun z => c2 (hm.2.2.1.mpr z.2)), hm.1] at h
        exact h s hs
      · rw [sk_blank (by omega) (hm.2.2.1.mp (Classical.not_not.mp c2))] at h
        subst es
        exact ih (by omega) (by omega) (by omega) _ hs.at' h
  exact EX12_look fun _ => key q q0 qn s hs h
theorem M_fails {d : Nat} (hd : 1 ≤ d) {σ : kS} {s : kS} {q ft dp : Int} {Q : Int → kS → Prop} (hs : MS σ s q ft dp) (h : ∀ s', MS σ s' q (if ft = -1 then q else ft) dp → Q 0 s') : Ci d MX12_fails [(2, 166)] kN s Q := by
  obtain ⟨d, rfl⟩ : ∃ e, d = e + 1 := ⟨d - 1, by omega⟩
  refine EX12_fails fun _ => SX12_fails_0 ?_
  rw [hs.2.2.2.2.1, hs.2.2.2.1]
  refine ⟨o_166, fun c => ?_, fun c s1 es => ?_⟩
  · rw [if_neg c] at h
    exact h s hs
  · rw [if_pos (Classical.not_not.mp c)] at h
    subst es
    exact h _ hs.ft'
theorem EX12_fails_q {d : Nat} (hd : 1 ≤ d) {s : kS} {Q : Int → kS → Prop} (h19 : ¬ s 166 19 = -1) (h : Q 0 s) : Ci d MX12_fails [(2, 166)] kN s Q := by
  obtain ⟨d, rfl⟩ : ∃ e, d = e + 1 := ⟨d - 1, by omega⟩
  exact EX12_fails fun _ => SX12_fails_0 ⟨o_166, fun _ => h, fun c => absurd h19 c⟩
theorem M_goesIn {d : Nat} (hd : 2 ≤ d) {σ : kS} {s : kS} {q dp : Int} {Q : Int → kS → Prop} (hs : MS σ s q (-1) dp) (hq : 0 ≤ q ∧ q ≤ 120) (hdp : 0 ≤ dp ∧ dp ≤ 6) (h1 : dp < 6 → ∀ s', MS σ s' (q + 1) (-1) (dp + 1) → Q 1 s') (h0 : dp = 6 → ∀ s', MS σ s' q q dp → Q 0 s') : Ci d MX12_goesIn [(2, 166)] kN s Q := by
  obtain ⟨d, rfl⟩ : ∃ e, d = e + 1 := ⟨d - 1, by omega⟩
  refine EX12_goesIn fun _ => SX12_goesIn_0 ?_
  have e6 : s 166 20 = dp := hs.2.2.2.2.2
  rw [e6]
  refine ⟨o_166, fun c => ⟨by omega, fun s1 e1 => ?_⟩, fun c => M_fails (by omega) hs (fun s' hs' => ⟨Or.inl rfl, h0 (by omega) s' ?_⟩)⟩
  · have hs1 : MS σ s1 q (-1) (dp + 1) := by rw [e1]; exact hs.dp'
    rw [hs1.2.2.2.1]
    refine ⟨by omega, fun s2 e2 => h1 (by omega) s2 ?_⟩
    rw [e2]
    exact hs1.at'
  · rw [if_pos rfl] at hs'
    exact hs'
theorem M_takes {d : Nat} (hd : 2 ≤ d) {σ : kS} {T B n : Int} (hB : MB σ T B n) {s : kS} {q ft dp c : Int} {Q : Int → kS → Prop} (hc : c ≠ -1) (hs : MS σ s q ft dp) (q0 : 0 ≤ q) (qn : q ≤ n) (h1 : ft = -1 → gat (mby σ T B) n (sk (mby σ T B) n q) = c → ∀ s', MS σ s' (sk (mby σ T B) n q + 1) (-1) dp → Q 1 s') (h0 : ft = -1 → ¬ gat (mby σ T B) n (sk (mby σ T B) n q) = c → ∀ s', MS σ s' (sk (mby σ T B) n q) (sk (mby σ T B) n q) dp → Q 0 s') (hf : ft ≠ -1 → Q 0 s) : Ci d MX12_takes [(2, 166), (0, c)] kN s Q := by
  obtain ⟨d, rfl⟩ : ∃ e, d = e + 1 := ⟨d - 1, by omega⟩
  refine EX12_takes fun _ _ => SX12_takes_0 ?_
  have e5 : s 166 19 = ft := hs.2.2.2.2.1
  rw [e5]
  refine ⟨o_166, fun c1 => ?_, fun c1 => ?_⟩
  · refine EX12_fails_q (by omega) (by rw [e5]; exact c1) ⟨Or.inl rfl, hf c1⟩
  · have c1 := Classical.not_not.mp c1
    subst c1
    refine M_look (by omega) hB hs q0 qn (fun s1 hs1 => ⟨fun c2 => ?_, fun c2 => M_fails (by omega) hs1 (fun s2 hs2 => ⟨Or.inl rfl, h0 rfl c2 s2 ?_⟩)⟩)
    · rw [hs1.2.2.2.1]
      have hk := sk_facts (b := mby σ T B) q qn
      have := hB.2.2.2.2.1
      refine ⟨by omega, fun s2 e2 => h1 rfl c2 s2 ?_⟩
      rw [e2]
      exact hs1.at'
    · rw [if_pos rfl] at hs2
      exact hs2
theorem M_isDigit {d : Nat} (hd : 1 ≤ d) {σ : kS} {T B n : Int} (hB : MB σ T B n) {s : kS} {q ft dp : Int} {Q : Int → kS → Prop} (hs : MS σ s q ft dp) (q0 : 0 ≤ q) (qn : q ≤ n) (h1 : gDig (gat (mby σ T B) n q) → Q 1 s) (h0 : ¬ gDig (gat (mby σ T B) n q) → Q 0 s) : Ci d MX12_isDigit [(2, 166)] kN s Q := by
  obtain ⟨d, rfl⟩ : ∃ e, d = e + 1 := ⟨d - 1, by omega⟩
  obtain ⟨e1, e2, e3, e4⟩ := hs.f hB
  have e5 : s 166 18 = q := hs.2.2.2.1
  have hBd := hB.2.2.2.2
  refine EX12_isDigit fun _ => SX12_isDigit_0 ?_
  rw [e3, e5, e2, e1, e4]
  refine ⟨o_166, fun c => h0 (by rw [gat_out c]; omega), fun c => ?_⟩
  have hm := mby_at hB (i := q) ⟨q0, by omega⟩
  exact ⟨by omega, hB.2.2.2.1, by omega, fun c2 => h0 (fun z => by have := hm.2.2.2.1.mpr z; omega), fun c2 => ⟨fun c3 => h0 (fun z => by have := hm.2.2.2.1.mpr z; omega), fun c3 => h1 (hm.2.2.2.1.mp ⟨by omega, by omega⟩)⟩⟩
theorem M_within {d n : Nat} (hd : 2 ≤ d) {σ : kS} {x : Int} {Q : Int → kS → Prop} (h : Q (gBd x) σ) : Ci d MX12_within [(1, x)] n σ Q := by
  obtain ⟨d, rfl⟩ : ∃ e, d = e + 1 := ⟨d - 1, by omega⟩
  have hb := gBd_b (v := x)
  exact EX12_within fun _ _ => SX12_within_0 (J_minL (by omega) (J_maxL (by omega) ⟨by unfold gBd at hb; omega, h⟩))
theorem M_isSign {d n : Nat} (hd : 1 ≤ d) {σ : kS} {c : Int} {Q : Int → kS → Prop} (h1 : gSign c → Q 1 σ) (h0 : ¬ gSign c → Q 0 σ) : Ci d MX12_isSign [(0, c)] n σ Q := by
  obtain ⟨d, rfl⟩ : ∃ e, d = e + 1 := ⟨d - 1, by omega⟩
  exact EX12_isSign fun _ _ => SX12_isSign_0 ⟨fun e => h1 (by omega), fun e => ⟨fun e2 => h1 (by omega), fun e2 => ⟨fun e3 => h0 (by omega), fun e3 => h1 (by omega)⟩⟩⟩
/-- a method that reads: it fails where the grammar fails, or where a digit is left over -/
def gFail (b : Int → Int) (n : Int) (A : Int → gR) (p pf : Int) : Prop := A p = .inl pf ∨ ∃ os, A p = .inr (pf, os) ∧ gDig (gat b n pf)
def mL (σ : kS) (k : Int) : Int := σ 172 (gAsc k)
def MR (σ : kS) (T B n dp : Int) (P : Int → Prop) (s : kS) (Q : Int → kS → Prop) (r : gR) : Prop :=
  (∀ s' q' p' os v, r = .inr (p', os) → sk (mby σ T B) n q' = p' → gVal (mL σ) os v → P v → MS σ s' q' (-1) dp → 0 ≤ q' → q' ≤ n → Q v s') ∧
  (∀ s' q' pf dp' v, (r = .inl pf ∨ ∃ os, r = .inr (pf, os) ∧ gDig (gat (mby σ T B) n pf)) → 0 ≤ pf → P v → MS σ s' q' pf dp' → (0 ≤ q' ∧ q' ≤ n) → dp ≤ dp' → dp' ≤ 6 → Q v s')
def Md (σ : kS) (T B n dp : Int) (P : Int → Prop) (d : Nat) (M : kM) (as : List kV) (A : Int → gR) : Prop := ∀ (s : kS) (q : Int) (Q : Int → kS → Prop), MS σ s q (-1) dp → 0 ≤ q → q ≤ n → MR σ T B n dp P s Q (A (sk (mby σ T B) n q)) → Ci d M as kN s Q
