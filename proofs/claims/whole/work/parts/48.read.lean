/-! GoerReader (the object 10): reading -/
theorem br2 {a b G H : Prop} (h : (a ∨ b) → G) (h2 : ¬ a → ¬ b → H) : (a → G) ∧ (¬ a → (b → G) ∧ (¬ b → H)) := ⟨fun e => h (Or.inl e), fun e => ⟨fun e2 => h (Or.inr e2), fun e2 => h2 e e2⟩⟩
theorem X4_isComparison {d n : Nat} (hd : 1 ≤ d) {σ : kS} {c : Int} {Q : Int → kS → Prop} (h1 : gSign c → Q 1 σ) (h0 : ¬ gSign c → Q 0 σ) : Ci d MX4_isComparison [(0, c)] n σ Q := by
  obtain ⟨d, rfl⟩ : ∃ e, d = e + 1 := ⟨d - 1, by omega⟩
  exact EX4_isComparison fun _ _ => SX4_isComparison_0 ⟨fun e => h1 (by omega), fun e => ⟨fun e2 => h1 (by omega), fun e2 => ⟨fun e3 => h0 (by omega), fun e3 => h1 (by omega)⟩⟩⟩
theorem X4_letterNumber {d n : Nat} (hd : 1 ≤ d) {σ : kS} {c : Int} {Q : Int → kS → Prop} (h : Q (gLet c) σ) : Ci d MX4_letterNumber [(0, c)] n σ Q := by
  obtain ⟨d, rfl⟩ : ∃ e, d = e + 1 := ⟨d - 1, by omega⟩
  refine EX4_letterNumber fun _ _ => SX4_letterNumber_0 ?_
  refine ⟨fun e => ?_, ?_⟩
  · have : gLet c = -1 := by
      unfold gLet
      rw [if_neg (by omega), if_neg (by omega), if_neg (by omega), if_neg (by omega), if_neg (by omega), if_neg (by omega), if_neg (by omega), if_neg (by omega)]
    rwa [this] at h
  · repeat' (with_reducible refine And.intro ?_ ?_)
    all_goals
      intro e
      subst e
      exact h
/-- what the reader stands on, and where it is -/
def RB (σ : kS) : Prop := σ 10 1 = 8 ∧ RowOK σ 8 ∧ ∀ i, 0 ≤ i → i < σ 8 1 → 1 ≤ σ 9 i ∧ σ 9 i ≤ 255
def RS (σ s : kS) (p : Int) (D : List Int) : Prop := off [10, 11, 12] σ s ∧ (∀ j, j ≠ 2 → s 10 j = σ 10 j) ∧ (∀ j, j ≠ 2 → s 11 j = σ 11 j) ∧ Lay s ∧ s 10 2 = p ∧ (0 ≤ s 11 2 ∧ s 11 2 ≤ 120) ∧ seg (s 12) 0 (s 11 2) = D
theorem RB.n {σ : kS} (h : RB σ) : 0 ≤ σ 8 1 ∧ σ 8 1 ≤ 120 := by
  have k9 : klen (8 + 1) = 120 := kl_9
  have := h.2.1.2
  omega
theorem RS.at1 {σ s : kS} {p : Int} {D : List Int} (hB : RB σ) (h : RS σ s p D) : s 10 1 = 8 ∧ s 8 = σ 8 ∧ s 9 = σ 9 ∧ RowOK s 8 ∧ rowAt s 8 p = gat (σ 9) (σ 8 1) p := by
  have e8 : s 8 = σ 8 := h.1 8 (by decide)
  have e9 : s 9 = σ 9 := h.1 9 (by decide)
  refine ⟨by rw [h.2.1 1 (by decide)]; exact hB.1, e8, e9, ⟨o_8, by rw [e8]; exact hB.2.1.2⟩, ?_⟩
  show (if 0 ≤ p ∧ p < s 8 1 then s 9 p else -1) = _
  rw [e8, e9]
  rfl
theorem RS.move {σ s : kS} {p q : Int} {D : List Int} (h : RS σ s p D) : RS σ (kst s 10 2 q) q D := by
  obtain ⟨h1, h2, h3, h4, h5, h6, h7⟩ := h
  have e11 : kst s 10 2 q 11 = s 11 := kst_k (by decide)
  have e12 : kst s 10 2 q 12 = s 12 := kst_k (by decide)
  exact ⟨h1.kst (by decide), fun j hj => by rw [kst_kj hj]; exact h2 j hj, fun j hj => by rw [e11]; exact h3 j hj, h4.kstO 2 o_10 (by decide), kst_eq, by rw [e11]; exact h6, by rw [e11, e12]; exact h7⟩
theorem X4_skipBlanks {d : Nat} (hd : 1 ≤ d) {σ : kS} (hB : RB σ) {Q : kS → Prop} {D : List Int} {p : Int} (p0 : 0 ≤ p) (pn : p ≤ σ 8 1) {s : kS} (hs : RS σ s p D) (h : ∀ s', RS σ s' (sk (σ 9) (σ 8 1) p) D → Q s') : Cv d MX4_skipBlanks [(2, 10)] kN s Q := by
  obtain ⟨d, rfl⟩ : ∃ e, d = e + 1 := ⟨d - 1, by omega⟩
  have key : ∀ p : Int, 0 ≤ p → p ≤ σ 8 1 → ∀ s : kS, RS σ s p D → (∀ s', RS σ s' (sk (σ 9) (σ 8 1) p) D → Q s') → LX4_skipBlanks_0 d kN Q 10 s := by
    refine up_to (e := σ 8 1) ?_
    intro p ih p0 pn s hs h
    have hn := hB.n
    obtain ⟨e1, e8, e9, hr, -⟩ := hs.at1 hB
    have e2 : s 10 2 = p := hs.2.2.2.2.1
    have k9 : klen 9 = 120 := kl_9
    refine SX4_skipBlanks_0 ?_
    rw [e1, e2, row_0 hs.2.2.2.1 hr]
    show isO 4 kN 10 ∧ (isO 8 kN 8 ∧ ((s 8 1 ≤ p → Q s) ∧ (¬ s 8 1 ≤ p → isA 20 kN 9 ∧ ((0 ≤ p ∧ p < klen 9) ∧ ((¬ s 9 p = 32 → Q s) ∧ (¬ ¬ s 9 p = 32 → _ ∧ _))))))
    rw [e8, e9]
    refine ⟨o_10, o_8, fun c => ?_, fun c => ⟨a_9, by omega, fun c2 => ?_, fun c2 => ⟨by omega, fun s1 es => ?_⟩⟩⟩
    · rw [sk_stop (by omega)] at h
      exact h s hs
    · rw [sk_stop (by omega)] at h
      exact h s hs
    · rw [sk_blank (by omega) (Classical.not_not.mp c2)] at h
      subst es
      exact ih (by omega) (by omega) (by omega) _ hs.move h
  exact EX4_skipBlanks fun _ => key p p0 pn s hs h
theorem X4_takes {d : Nat} (hd : 2 ≤ d) {σ : kS} (hB : RB σ) {Q : Int → kS → Prop} {D : List Int} {p c : Int} (hc : c ≠ -1) {s : kS} (hs : RS σ s p D) (h1 : gat (σ 9) (σ 8 1) p = c → ∀ s', RS σ s' (sk (σ 9) (σ 8 1) (p + 1)) D → Q 1 s') (h0 : ¬ gat (σ 9) (σ 8 1) p = c → Q 0 s) : Ci d MX4_takes [(2, 10), (0, c)] kN s Q := by
  obtain ⟨d, rfl⟩ : ∃ e, d = e + 1 := ⟨d - 1, by omega⟩
  have hn := hB.n
  obtain ⟨e1, e8, e9, hr, hat⟩ := hs.at1 hB
  have e2 : s 10 2 = p := hs.2.2.2.2.1
  refine EX4_takes fun _ _ => SX4_takes_0 ?_
  rw [e1, e2]
  refine ⟨o_10, o_8, Row_at (by omega) hs.2.2.2.1 hr ?_⟩
  rw [hat, e2]
  refine ⟨fun e => ?_, h0⟩
  have hin := gat_in e hc
  refine ⟨by omega, fun s2 es => ?_⟩
  subst es
  exact X4_skipBlanks (by omega) hB (by omega) (by omega) hs.move (h1 e)
theorem Draft_add {d : Nat} (hd : 1 ≤ d) {σ s : kS} {Q : kS → Prop} {D : List Int} {p o : Int} (hs : RS σ s p D) (hD : (D.length : Int) < 120) (h : ∀ s', RS σ s' p (D ++ [o]) → Q s') : Cv d MX3_add [(2, 11), (0, o)] kN s Q := by
  obtain ⟨d, rfl⟩ : ∃ e, d = e + 1 := ⟨d - 1, by omega⟩
  obtain ⟨h1, h2, h3, h4, h5, h6, h7⟩ := hs
  have k12 : klen 12 = 120 := kl_12
  have hl : s 11 2 = D.length := by
    rw [← h7, seg_len]
    omega
  refine EX3_add fun _ _ => SX3_add_0 ?_
  rw [ly_11_0 h4]
  refine ⟨o_11, a_12, fun e => by omega, fun _ => ⟨by omega, fun s1 e1 => ?_⟩⟩
  have f11 : s1 11 2 = s 11 2 := by rw [e1, kst_k (by decide)]
  rw [f11]
  refine ⟨by omega, fun s2 e2 => h s2 ?_⟩
  have g12 : s2 12 = s1 12 := by rw [e2, kst_k (by decide)]
  have g11 : s2 11 2 = s 11 2 + 1 := by rw [e2, kst_eq]
  refine ⟨by rw [e2, e1]; exact (h1.kst (by decide)).kst (by decide), fun j hj => by rw [e2, kst_k (by decide), e1, kst_k (by decide)]; exact h2 j hj, fun j hj => by rw [e2, kst_kj hj, e1, kst_k (by decide)]; exact h3 j hj, by rw [e2, e1]; exact (h4.kstA a_12).kstO 2 o_11 (by decide), by rw [e2, kst_k (by decide), e1, kst_k (by decide)]; exact h5, by omega, ?_⟩
  rw [g11, seg_snoc h6.1, g12, e1]
  congr 1
  · rw [← h7]
    apply seg_cong
    intro i i0 i1
    rw [kst_kj (by omega)]
  · rw [show (0 : Int) + s 11 2 = s 11 2 by omega, kst_eq]
theorem X4_number {d : Nat} (hd : 2 ≤ d) {σ : kS} (hB : RB σ) {Q : Int → kS → Prop} {D : List Int} {p : Int} (p0 : 0 ≤ p) {s : kS} (hs : RS σ s p D) (h : ∀ s', RS σ s' (gNum (σ 9) (σ 8 1) 4 p 0).1 D → Q (gNum (σ 9) (σ 8 1) 4 p 0).2 s') : Ci d MX4_number [(2, 10)] kN s Q := by
  obtain ⟨d, rfl⟩ : ∃ e, d = e + 1 := ⟨d - 1, by omega⟩
  have hn := hB.n
  have key : ∀ (f : Nat) (i : Int), 0 ≤ i → i + f = 4 → ∀ (p v : Int) (s : kS), 0 ≤ p → 0 ≤ v → v < 10 ^ (4 - f) → RS σ s p D → (∀ s', RS σ s' (gNum (σ 9) (σ 8 1) f p v).1 D → Q (gNum (σ 9) (σ 8 1) f p v).2 s') → LX4_number_4 d kN Q 10 v i s := by
    intro f
    induction f with
    | zero =>
      intro i i0 hi p v s p0 v0 v1 hs h
      exact SX4_number_4 ⟨fun _ => h s hs, fun e => by omega⟩
    | succ f ih =>
      intro i i0 hi p v s p0 v0 v1 hs h
      obtain ⟨e1, e8, e9, hr, hat⟩ := hs.at1 hB
      have e2 : s 10 2 = p := hs.2.2.2.2.1
      have hv : v ≤ 999 := by
        have : (10 : Int) ^ (4 - (f + 1)) ≤ 1000 := by
          rcases (show f = 0 ∨ f = 1 ∨ f = 2 ∨ f = 3 by omega) with rfl | rfl | rfl | rfl <;> decide
        omega
      have hp10 : (10 : Int) ^ (4 - f) = 10 ^ (4 - (f + 1)) * 10 := by
        rw [← Int.pow_succ]
        congr 1
        omega
      have stop : ¬ gDig (gat (σ 9) (σ 8 1) p) → Q v s := fun q => by
        rw [gNum, if_neg q] at h
        exact h s hs
      refine SX4_number_4 ⟨fun e => by omega, fun _ => ?_⟩
      rw [e1, e2]
      refine ⟨o_10, o_8, Row_at (by omega) hs.2.2.2.1 hr ?_⟩
      rw [hat, e2]
      refine ⟨fun c => stop (fun q => by have := q.1; omega), fun c => ⟨fun c2 => ?_, fun c2 => stop (fun q => c2 q.2)⟩⟩
      have hd9 : gDig (gat (σ 9) (σ 8 1) p) := ⟨by omega, c2⟩
      have hin := gat_in (b := σ 9) (n := σ 8 1) (p := p) rfl (by omega)
      rw [gNum, if_pos hd9] at h
      refine ⟨by omega, by omega, by omega, by omega, fun s2 es => ⟨by omega, ?_⟩⟩
      subst es
      exact ih (i + 1) (by omega) (by omega) (p + 1) _ _ (by omega) (by omega) (by omega) hs.move h
  exact EX4_number fun _ => SX4_number_0 (key 4 0 (Int.le_refl 0) rfl p 0 s p0 (Int.le_refl 0) (by decide) hs h)
/-- a method that reads -/
def Rd (σ : kS) (d : Nat) (M : kM) (as : List kV) (A : Int → gR) : Prop := ∀ (s : kS) (p : Int) (D : List Int) (Q : Int → kS → Prop), RS σ s p D → 0 ≤ p → p ≤ σ 8 1 → sk (σ 9) (σ 8 1) p = p → (D.length : Int) ≤ p → (∀ s' p' os, A p = .inr (p', os) → RS σ s' p' (D ++ os) → Q 1 s') → (∀ s' q D', A p = .inl q → RS σ s' q D' → Q 0 s') → Ci d M as kN s Q
def RdO (σ : kS) (d : Nat) (a : Int) : Option (Int → gR) → Prop
  | none => 6 ≤ a
  | some S => (0 ≤ a ∧ a < 6) ∧ Rd σ d MX4_sum [(2, 10), (0, a + 1)] S ∧ gAdv (σ 9) (σ 8 1) S
theorem X4_atom {d : Nat} {σ : kS} (hB : RB σ) {a : Int} {S : Option (Int → gR)} (hS : RdO σ (d + 2) a S) : Rd σ (d + 3) MX4_atom [(2, 10), (0, a)] (gAtom (σ 9) (σ 8 1) S) := by
  intro s p D Q hs p0 pn hsk hD h1 h0
  have hn := hB.n
  obtain ⟨e1, e8, e9, hr, hat⟩ := hs.at1 hB
  have e2 : s 10 2 = p := hs.2.2.2.2.1
  have hk := sk_next (b := σ 9) (n := σ 8 1) p0
  refine EX4_atom fun _ _ => SX4_atom_0 ?_
  rw [e1, e2]
  refine ⟨o_10, o_8, Row_at (by omega) hs.2.2.2.1 hr ?_⟩
  rw [hat]
  unfold gAtom at h1 h0
  have letter : ¬ gat (σ 9) (σ 8 1) p = 91 → ¬ gDig (gat (σ 9) (σ 8 1) p) → Ci (d + 2) MX4_letterNumber [(0, gat (σ 9) (σ 8 1) p)] kN s (fun x4 s2 => (¬ x4 = (-1) → (-2147483648 ≤ (10000 + x4) ∧ (10000 + x4) ≤ 2147483647) ∧ (isO 3 kN (s2 10 0) ∧ (Cv (d + 2) MX3_add [(2, (s2 10 0)), (0, (10000 + x4))] kN s2 (fun s3 => Ci (d + 2) MX4_takes [(2, 10), (0, gat (σ 9) (σ 8 1) p)] kN s3 (fun x8 s4 => (x8 = 0 ∨ x8 = 1) ∧ (Q x8 s4)))))) ∧ (¬ (¬ x4 = (-1)) → Q 0 s2)) := by
    intro c1 c2
    rw [if_neg c1, if_neg c2] at h1 h0
    refine X4_letterNumber (by omega) ⟨fun c3 => ?_, fun c3 => ?_⟩
    · rw [if_neg c3] at h1
      have hl := gLet_b c3
      have hin := gat_in (b := σ 9) (n := σ 8 1) (p := p) rfl hl.2
      rw [ly_10_0 hs.2.2.2.1]
      refine ⟨by omega, o_11, Draft_add (by omega) hs (by omega) (fun s3 hs3 => ?_)⟩
      exact X4_takes (by omega) hB hl.2 hs3 (fun _ s4 hs4 => ⟨Or.inr rfl, h1 s4 _ _ rfl hs4⟩) (fun e => absurd rfl e)
    · rw [if_pos (Classical.not_not.mp c3)] at h0
      exact h0 s p D rfl hs
  refine ⟨fun c1 => ⟨fun c2 => letter c1 (fun q => by have := q.1; omega), fun c2 => ⟨fun c3 => letter c1 (fun q => by have := q.2; omega), fun c3 => ?_⟩⟩, fun c1 => ?_⟩
  · have c4 : gDig (gat (σ 9) (σ 8 1) p) := ⟨by omega, by omega⟩
    rw [if_neg c1, if_pos c4] at h1
    have hin := gat_in (b := σ 9) (n := σ 8 1) (p := p) rfl (by omega)
    have hf := gNum_facts (b := σ 9) (n := σ 8 1) 4 p 0 p0 pn (Int.le_refl 0)
    refine X4_number (by omega) hB p0 hs (fun s2 hs2 => ?_)
    rw [ly_10_0 hs.2.2.2.1]
    refine ⟨o_11, Draft_add (by omega) hs2 (by omega) (fun s3 hs3 => ?_)⟩
    exact X4_skipBlanks (by omega) hB (by omega) (by omega) hs3 (fun s4 hs4 => h1 s4 _ _ rfl hs4)
  · have c := Classical.not_not.mp c1
    rw [if_pos c] at h1 h0
    have hin := gat_in c (by decide)
    have hk := hk hin.2
    cases S with
    | none =>
      have : 6 ≤ a := hS
      exact ⟨fun _ => h0 s p D rfl hs, fun e => absurd this e⟩
    | some S =>
      obtain ⟨ha, hR, hA⟩ := hS
      refine ⟨fun e => by omega, fun _ => X4_takes (by omega) hB (by decide) hs (fun _ s2 hs2 => ⟨fun e => by omega, fun _ => ⟨by omega, ?_⟩⟩) (fun e => absurd c e)⟩
      have hadv := hA _ (by omega) hk.2.1 hk.2.2
      refine hR s2 _ D _ hs2 (by omega) hk.2.1 hk.2.2 (by omega) (fun s3 p' os e hs3 => ⟨fun e => by omega, fun _ => ?_⟩) (fun s3 q D' e hs3 => ⟨fun _ => ?_, fun e => absurd rfl e⟩)
      · refine X4_takes (by omega) hB (by decide) hs3 (fun c9 s4 hs4 => ⟨fun e => by omega, fun _ => ?_⟩) (fun c9 => ⟨fun _ => ?_, fun e => absurd rfl e⟩)
        · refine h1 s4 _ os ?_ hs4
          show gThen (S _) _ = _
          rw [e]
          show (if _ then _ else _) = _
          rw [if_pos c9]
        · refine h0 s3 p' _ ?_ hs3
          show gThen (S _) _ = _
          rw [e]
          show (if _ then _ else _) = _
          rw [if_neg c9]
      · refine h0 s3 q D' ?_ hs3
        show gThen (S _) _ = _
        rw [e]
        rfl
