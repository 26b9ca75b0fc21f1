/-! GoerReader: sums, conditions -/
theorem RS.assoc {σ s : kS} {p : Int} {A B C : List Int} (h : RS σ s p ((A ++ B) ++ C)) : RS σ s p (A ++ (B ++ C)) := by rwa [List.append_assoc] at h
theorem term_loop {d : Nat} (hd : 2 ≤ d) {σ : kS} (hB : RB σ) {a : Int} {A : Int → gR} (hA : Rd σ d MX4_atom [(2, 10), (0, a)] A) (hAd : gAdv (σ 9) (σ 8 1) A) {D : List Int} {Q : Int → kS → Prop} : ∀ (f : Nat) (i : Int), 0 ≤ i → i + f = 120 → ∀ (s : kS) (p : Int) (os : List Int), RS σ s p (D ++ os) → 0 ≤ p → p ≤ σ 8 1 → sk (σ 9) (σ 8 1) p = p → ((D ++ os).length : Int) ≤ p → (∀ s' p' os', gChain (σ 9) (σ 8 1) A 42 47 f p os = .inr (p', os') → RS σ s' p' (D ++ os') → Q 1 s') → (∀ s' q D', gChain (σ 9) (σ 8 1) A 42 47 f p os = .inl q → RS σ s' q D' → Q 0 s') → LX4_term_12 d kN Q 10 a i s := by
  intro f
  have hn := hB.n
  induction f with
  | zero =>
    intro i i0 hi s p os hs p0 pn hsk hl h1 h0
    exact SX4_term_12 ⟨fun _ => h1 s p os rfl hs, fun e => by omega⟩
  | succ f ih =>
    intro i i0 hi s p os hs p0 pn hsk hl h1 h0
    obtain ⟨e1, e8, e9, hr, hat⟩ := hs.at1 hB
    have e2 : s 10 2 = p := hs.2.2.2.2.1
    have hk := sk_next (b := σ 9) (n := σ 8 1) p0
    unfold gChain at h1 h0
    refine SX4_term_12 ⟨fun e => by omega, fun _ => ?_⟩
    rw [e1, e2]
    refine ⟨o_10, o_8, Row_at (by omega) hs.2.2.2.1 hr ?_⟩
    rw [hat]
    refine br2 (fun c => ?_) (fun c1 c2 => ?_)
    · rw [if_pos c] at h1 h0
      have hin := gat_in (b := σ 9) (n := σ 8 1) (p := p) rfl (by omega)
      have hk := hk hin.2
      have hadv := hAd _ (by omega) hk.2.1 hk.2.2
      refine X4_takes (by omega) hB (by omega) hs (fun _ s2 hs2 => ⟨fun e => by omega, fun _ => ?_⟩) (fun e => absurd rfl e)
      refine hA s2 _ (D ++ os) _ hs2 (by omega) hk.2.1 hk.2.2 (by omega) (fun s3 p' os' e hs3 => ⟨fun _ => ?_, fun e => by omega⟩) (fun s3 q D' e hs3 => ⟨fun e => absurd rfl e, fun _ => ?_⟩)
      · have h2 := hadv.2 p' os' e
        rw [e] at h1 h0
        rw [ly_10_0 hs3.2.2.2.1]
        have hlen : (((D ++ os) ++ os').length : Int) = (D ++ os).length + os'.length := by rw [List.length_append]; omega
        refine ⟨by omega, o_11, Draft_add (by omega) hs3 (by omega) (fun s4 hs4 => ⟨by omega, ?_⟩)⟩
        refine ih (i + 1) (by omega) (by omega) s4 p' (os ++ (os' ++ [20000 + gat (σ 9) (σ 8 1) p])) hs4.assoc.assoc (by omega) h2.1.2.1 h2.1.2.2 ?_ h1 h0
        simp only [List.length_append, List.length_singleton] at hl ⊢
        omega
      · refine h0 s3 q D' ?_ hs3
        rw [e]
        rfl
    · rw [if_neg (by omega)] at h1
      exact h1 s p os rfl hs
theorem X4_term {d : Nat} (hd : 2 ≤ d) {σ : kS} (hB : RB σ) {a : Int} {A : Int → gR} (hA : Rd σ d MX4_atom [(2, 10), (0, a)] A) (hAd : gAdv (σ 9) (σ 8 1) A) : Rd σ (d + 1) MX4_term [(2, 10), (0, a)] (gList (σ 9) (σ 8 1) A 42 47) := by
  intro s p D Q hs p0 pn hsk hD h1 h0
  have hadv := hAd p p0 pn hsk
  unfold gList at h1 h0
  refine EX4_term fun _ _ => SX4_term_0 ⟨o_10, hA s p D _ hs p0 pn hsk hD (fun s1 p' os e hs1 => ⟨fun _ => ?_, fun e => by omega⟩) (fun s1 q D' e hs1 => ⟨fun e => absurd rfl e, fun _ => ?_⟩)⟩
  · have h2 := hadv.2 p' os e
    rw [e] at h1 h0
    refine term_loop hd hB hA hAd 120 0 (by omega) (by omega) s1 p' os hs1 (by omega) h2.1.2.1 h2.1.2.2 ?_ h1 h0
    rw [List.length_append]
    omega
  · refine h0 s1 q D' ?_ hs1
    rw [e]
    rfl
theorem sum_loop {d : Nat} (hd : 2 ≤ d) {σ : kS} (hB : RB σ) {a : Int} {A : Int → gR} (hA : Rd σ d MX4_term [(2, 10), (0, a)] A) (hAd : gAdv (σ 9) (σ 8 1) A) {D : List Int} {Q : Int → kS → Prop} : ∀ (f : Nat) (i : Int), 0 ≤ i → i + f = 120 → ∀ (s : kS) (p : Int) (os : List Int), RS σ s p (D ++ os) → 0 ≤ p → p ≤ σ 8 1 → sk (σ 9) (σ 8 1) p = p → ((D ++ os).length : Int) ≤ p → (∀ s' p' os', gChain (σ 9) (σ 8 1) A 43 45 f p os = .inr (p', os') → RS σ s' p' (D ++ os') → Q 1 s') → (∀ s' q D', gChain (σ 9) (σ 8 1) A 43 45 f p os = .inl q → RS σ s' q D' → Q 0 s') → LX4_sum_12 d kN Q 10 a i s := by
  intro f
  have hn := hB.n
  induction f with
  | zero =>
    intro i i0 hi s p os hs p0 pn hsk hl h1 h0
    exact SX4_sum_12 ⟨fun _ => h1 s p os rfl hs, fun e => by omega⟩
  | succ f ih =>
    intro i i0 hi s p os hs p0 pn hsk hl h1 h0
    obtain ⟨e1, e8, e9, hr, hat⟩ := hs.at1 hB
    have e2 : s 10 2 = p := hs.2.2.2.2.1
    have hk := sk_next (b := σ 9) (n := σ 8 1) p0
    unfold gChain at h1 h0
    refine SX4_sum_12 ⟨fun e => by omega, fun _ => ?_⟩
    rw [e1, e2]
    refine ⟨o_10, o_8, Row_at (by omega) hs.2.2.2.1 hr ?_⟩
    rw [hat]
    refine br2 (fun c => ?_) (fun c1 c2 => ?_)
    · rw [if_pos c] at h1 h0
      have hin := gat_in (b := σ 9) (n := σ 8 1) (p := p) rfl (by omega)
      have hk := hk hin.2
      have hadv := hAd _ (by omega) hk.2.1 hk.2.2
      refine X4_takes (by omega) hB (by omega) hs (fun _ s2 hs2 => ⟨fun e => by omega, fun _ => ?_⟩) (fun e => absurd rfl e)
      refine hA s2 _ (D ++ os) _ hs2 (by omega) hk.2.1 hk.2.2 (by omega) (fun s3 p' os' e hs3 => ⟨fun _ => ?_, fun e => by omega⟩) (fun s3 q D' e hs3 => ⟨fun e => absurd rfl e, fun _ => ?_⟩)
      · have h2 := hadv.2 p' os' e
        rw [e] at h1 h0
        rw [ly_10_0 hs3.2.2.2.1]
        have hlen : (((D ++ os) ++ os').length : Int) = (D ++ os).length + os'.length := by rw [List.length_append]; omega
        refine ⟨by omega, o_11, Draft_add (by omega) hs3 (by omega) (fun s4 hs4 => ⟨by omega, ?_⟩)⟩
        refine ih (i + 1) (by omega) (by omega) s4 p' (os ++ (os' ++ [20000 + gat (σ 9) (σ 8 1) p])) hs4.assoc.assoc (by omega) h2.1.2.1 h2.1.2.2 ?_ h1 h0
        simp only [List.length_append, List.length_singleton] at hl ⊢
        omega
      · refine h0 s3 q D' ?_ hs3
        rw [e]
        rfl
    · rw [if_neg (by omega)] at h1
      exact h1 s p os rfl hs
theorem X4_sumB {d : Nat} (hd : 2 ≤ d) {σ : kS} (hB : RB σ) {a : Int} {A : Int → gR} (hA : Rd σ d MX4_term [(2, 10), (0, a)] A) (hAd : gAdv (σ 9) (σ 8 1) A) : Rd σ (d + 1) MX4_sum [(2, 10), (0, a)] (gList (σ 9) (σ 8 1) A 43 45) := by
  intro s p D Q hs p0 pn hsk hD h1 h0
  have hadv := hAd p p0 pn hsk
  unfold gList at h1 h0
  refine EX4_sum fun _ _ => SX4_sum_0 ⟨o_10, hA s p D _ hs p0 pn hsk hD (fun s1 p' os e hs1 => ⟨fun _ => ?_, fun e => by omega⟩) (fun s1 q D' e hs1 => ⟨fun e => absurd rfl e, fun _ => ?_⟩)⟩
  · have h2 := hadv.2 p' os e
    rw [e] at h1 h0
    refine sum_loop hd hB hA hAd 120 0 (by omega) (by omega) s1 p' os hs1 (by omega) h2.1.2.1 h2.1.2.2 ?_ h1 h0
    rw [List.length_append]
    omega
  · refine h0 s1 q D' ?_ hs1
    rw [e]
    rfl
/-- the depth that a sum needs at k levels -/
theorem X4_sum {σ : kS} (hB : RB σ) : ∀ (k : Nat) (a : Int), 0 ≤ a → a + k = 6 → ∀ d, 5 + 3 * k ≤ d → Rd σ d MX4_sum [(2, 10), (0, a)] (gSum (σ 9) (σ 8 1) k) := by
  intro k
  induction k with
  | zero =>
    intro a a0 ha d hd
    obtain ⟨e, rfl⟩ : ∃ e, d = e + 5 := ⟨d - 5, by omega⟩
    exact X4_sumB (by omega) hB (X4_term (by omega) hB (X4_atom (S := none) hB (show 6 ≤ a by omega)) (gAtom_adv (S := none) trivial)) (gList_adv (by decide) (gAtom_adv (S := none) trivial))
  | succ k ih =>
    intro a a0 ha d hd
    obtain ⟨e, rfl⟩ : ∃ e, d = e + 5 := ⟨d - 5, by omega⟩
    have h1 := ih (a + 1) (by omega) (by omega) (e + 2) (by omega)
    have hA : gAdvO (σ 9) (σ 8 1) (some (gSum (σ 9) (σ 8 1) k)) := gSum_adv
    exact X4_sumB (by omega) hB (X4_term (by omega) hB (X4_atom (S := some (gSum (σ 9) (σ 8 1) k)) hB ⟨⟨a0, by omega⟩, h1, gSum_adv⟩) (gAtom_adv hA)) (gList_adv (by decide) (gAtom_adv hA))
/-- a method that goes on behind orders that stand already -/
def RdG (σ : kS) (d : Nat) (M : kM) (as : List kV) (B : Int → List Int → gR) : Prop := ∀ (s : kS) (p : Int) (D os : List Int) (Q : Int → kS → Prop), RS σ s p (D ++ os) → 0 ≤ p → p ≤ σ 8 1 → ((D ++ os).length : Int) ≤ p → (∀ o ∈ os, okO o) → (∀ s' p' os', B p os = .inr (p', os') → RS σ s' p' (D ++ os') → Q 1 s') → (∀ s' q D', B p os = .inl q → RS σ s' q D' → Q 0 s') → Ci d M as kN s Q
theorem comp_part {d : Nat} (hd : 2 ≤ d) {σ : kS} (hB : RB σ) {a : Int} {Sm : Int → gR} (hS : Rd σ d MX4_sum [(2, 10), (0, a)] Sm) (hSd : gAdv (σ 9) (σ 8 1) Sm) {s : kS} {p : Int} {D os : List Int} {Q : Int → kS → Prop} (hs : RS σ s p (D ++ os)) (p0 : 0 ≤ p) (pn : p ≤ σ 8 1) (hl : ((D ++ os).length : Int) ≤ p) (h1 : ∀ s' p' os', gComp (σ 9) (σ 8 1) Sm p os = .inr (p', os') → RS σ s' p' (D ++ os') → Q 1 s') (h0 : ∀ s' q D', gComp (σ 9) (σ 8 1) Sm p os = .inl q → RS σ s' q D' → Q 0 s') :
    isO 8 kN (s 10 1) ∧ (Ci d MX8_at [(2, (s 10 1)), (0, (s 10 2))] kN s (fun x3 s1 => Ci d MX4_isComparison [(0, x3)] kN s1 (fun x4 s2 => (x4 = 0 → Q 0 s2) ∧ (¬ x4 = 0 → Ci d MX4_takes [(2, 10), (0, x3)] kN s2 (fun x5 s3 => (x5 = 0 → Q 0 s3) ∧ (¬ x5 = 0 → Ci d MX4_sum [(2, 10), (0, a)] kN s3 (fun x6 s4 => (¬ x6 = 0 → (-2147483648 ≤ (20000 + x3) ∧ (20000 + x3) ≤ 2147483647) ∧ (isO 3 kN (s4 10 0) ∧ (Cv d MX3_add [(2, (s4 10 0)), (0, (20000 + x3))] kN s4 (fun s5 => Q 1 s5)))) ∧ (¬ (¬ x6 = 0) → Q 0 s4)))))))) := by
  have hn := hB.n
  obtain ⟨e1, e8, e9, hr, hat⟩ := hs.at1 hB
  have e2 : s 10 2 = p := hs.2.2.2.2.1
  unfold gComp at h1 h0
  rw [e1, e2]
  refine ⟨o_8, Row_at (by omega) hs.2.2.2.1 hr ?_⟩
  rw [hat]
  refine X4_isComparison (by omega) (fun c => ⟨fun e => by omega, fun _ => ?_⟩) (fun c => ⟨fun _ => ?_, fun e => absurd rfl e⟩)
  · rw [if_pos c] at h1 h0
    have hin := gat_in (b := σ 9) (n := σ 8 1) (p := p) rfl (by omega)
    have hk := sk_next (b := σ 9) (n := σ 8 1) p0 hin.2
    have hadv := hSd _ (by omega) hk.2.1 hk.2.2
    refine X4_takes (by omega) hB (by omega) hs (fun _ s2 hs2 => ⟨fun e => by omega, fun _ => ?_⟩) (fun e => absurd rfl e)
    refine hS s2 _ (D ++ os) _ hs2 (by omega) hk.2.1 hk.2.2 (by omega) (fun s3 p' os' e hs3 => ⟨fun _ => ?_, fun e => by omega⟩) (fun s3 q D' e hs3 => ⟨fun e => absurd rfl e, fun _ => ?_⟩)
    · have h2 := hadv.2 p' os' e
      rw [e] at h1 h0
      rw [ly_10_0 hs3.2.2.2.1]
      have hlen : (((D ++ os) ++ os').length : Int) = (D ++ os).length + os'.length := by rw [List.length_append]; omega
      exact ⟨by omega, o_11, Draft_add (by omega) hs3 (by omega) (fun s4 hs4 => h1 s4 p' _ rfl hs4.assoc.assoc)⟩
    · refine h0 s3 q D' ?_ hs3
      rw [e]
      rfl
  · rw [if_neg c] at h0
    exact h0 s p _ rfl hs
def RdU (σ : kS) (d : Nat) (a : Int) : Option ((Int → gR) × (Int → gR)) → Prop
  | none => 6 ≤ a
  | some U => (0 ≤ a ∧ a < 6) ∧ (Rd σ d MX4_unit [(2, 10), (0, a + 1), (0, 0)] U.1 ∧ Rd σ d MX4_condition [(2, 10), (0, a + 1), (0, 0)] U.2) ∧ gAdv (σ 9) (σ 8 1) U.1 ∧ gAdv (σ 9) (σ 8 1) U.2
theorem X4_unitB {d : Nat} (hd : 2 ≤ d) {σ : kS} (hB : RB σ) {a : Int} {Sm : Int → gR} {T : Option ((Int → gR) × (Int → gR))} (hS : Rd σ d MX4_sum [(2, 10), (0, a)] Sm) (hSd : gAdv (σ 9) (σ 8 1) Sm) (hT : RdU σ d a T) : Rd σ (d + 1) MX4_unit [(2, 10), (0, a), (0, 0)] (gUnit (σ 9) (σ 8 1) Sm T) := by
  intro s p D Q hs p0 pn hsk hD h1 h0
  have hn := hB.n
  obtain ⟨e1, e8, e9, hr, hat⟩ := hs.at1 hB
  have e2 : s 10 2 = p := hs.2.2.2.2.1
  have hk := sk_next (b := σ 9) (n := σ 8 1) p0
  unfold gUnit at h1 h0
  refine EX4_unit fun _ _ _ => SX4_unit_0 ⟨fun e => absurd rfl e, fun _ => ?_⟩
  rw [e1, e2]
  refine ⟨o_10, o_8, Row_at (by omega) hs.2.2.2.1 hr ?_⟩
  rw [hat]
  refine ⟨fun c1 => ⟨fun e => absurd rfl e, fun _ => ?_⟩, fun c1 => ?_⟩
  · rw [if_neg c1] at h1 h0
    rw [e1, e2]
    refine ⟨o_8, Row_at (by omega) hs.2.2.2.1 hr ?_⟩
    rw [hat]
    refine ⟨fun c2 => ⟨fun e => absurd rfl e, fun _ => ?_⟩, fun c2 => ?_⟩
    · rw [if_neg c2] at h1 h0
      have hadv := hSd p p0 pn hsk
      refine hS s p D _ hs p0 pn hsk hD (fun s1 p' os e hs1 => ⟨fun _ => ?_, fun e => by omega⟩) (fun s1 q D' e hs1 => ⟨fun e => absurd rfl e, fun _ => ?_⟩)
      · have h2 := hadv.2 p' os e
        rw [e] at h1 h0
        exact comp_part hd hB hS hSd hs1 (by omega) h2.1.2.1 (by rw [List.length_append]; omega) h1 h0
      · refine h0 s1 q D' ?_ hs1
        rw [e]
        rfl
    · have c := Classical.not_not.mp c2
      rw [if_pos c] at h1 h0
      have hin := gat_in c (by decide)
      have hk := hk hin.2
      cases T with
      | none =>
        have : 6 ≤ a := hT
        exact ⟨fun _ => h0 s p D rfl hs, fun e => absurd this e⟩
      | some U =>
        obtain ⟨ha, hR, hA⟩ := hT
        refine ⟨fun e => by omega, fun _ => X4_takes (by omega) hB (by decide) hs (fun _ s2 hs2 => ⟨fun e => by omega, fun _ => ⟨by omega, ?_⟩⟩) (fun e => absurd c e)⟩
        have hadv := hA.2 _ (by omega) hk.2.1 hk.2.2
        refine hR.2 s2 _ D _ hs2 (by omega) hk.2.1 hk.2.2 (by omega) (fun s3 p' os e hs3 => ⟨fun e => by omega, fun _ => ?_⟩) (fun s3 q D' e hs3 => ⟨fun _ => ?_, fun e => absurd rfl e⟩)
        · refine X4_takes (by omega) hB (by decide) hs3 (fun c9 s4 hs4 => ⟨fun e => by omega, fun _ => ?_⟩) (fun c9 => ⟨fun _ => ?_, fun e => absurd rfl e⟩)
          · refine h1 s4 _ os ?_ hs4
            show gThen (U.2 _) _ = _
            rw [e]
            show (if _ then _ else _) = _
            rw [if_pos c9]
          · refine h0 s3 p' _ ?_ hs3
            show gThen (U.2 _) _ = _
            rw [e]
            show (if _ then _ else _) = _
            rw [if_neg c9]
        · refine h0 s3 q D' ?_ hs3
          show gThen (U.2 _) _ = _
          rw [e]
          rfl
  · have c := Classical.not_not.mp c1
    rw [if_pos c] at h1 h0
    have hin := gat_in c (by decide)
    have hk := hk hin.2
    cases T with
    | none =>
      have : 6 ≤ a := hT
      exact ⟨fun _ => h0 s p D rfl hs, fun e => absurd this e⟩
    | some U =>
      obtain ⟨ha, hR, hA⟩ := hT
      refine ⟨fun e => by omega, fun _ => X4_takes (by omega) hB (by decide) hs (fun _ s2 hs2 => ⟨fun e => by omega, fun _ => ⟨by omega, ?_⟩⟩) (fun e => absurd c e)⟩
      have hadv := hA.1 _ (by omega) hk.2.1 hk.2.2
      refine hR.1 s2 _ D _ hs2 (by omega) hk.2.1 hk.2.2 (by omega) (fun s3 p' os e hs3 => ⟨fun _ => ?_, fun e => by omega⟩) (fun s3 q D' e hs3 => ⟨fun e => absurd rfl e, fun _ => ?_⟩)
      · have h2 := hadv.2 p' os e
        rw [ly_10_0 hs3.2.2.2.1]
        have hlen : ((D ++ os).length : Int) = D.length + os.length := by rw [List.length_append]; omega
        refine ⟨o_11, Draft_add (by omega) hs3 (by omega) (fun s4 hs4 => h1 s4 p' (os ++ [20033]) ?_ hs4.assoc)⟩
        show gThen (U.1 _) _ = _
        rw [e]
        rfl
      · refine h0 s3 q D' ?_ hs3
        show gThen (U.1 _) _ = _
        rw [e]
        rfl
theorem X4_unitG {d : Nat} (hd : 2 ≤ d) {σ : kS} (hB : RB σ) {a : Int} {Sm : Int → gR} (hS : Rd σ d MX4_sum [(2, 10), (0, a)] Sm) (hSd : gAdv (σ 9) (σ 8 1) Sm) : RdG σ (d + 1) MX4_unit [(2, 10), (0, a), (0, 1)] (gComp (σ 9) (σ 8 1) Sm) := by
  intro s p D os Q hs p0 pn hl _ h1 h0
  exact EX4_unit fun _ _ _ => SX4_unit_0 ⟨fun _ => ⟨fun _ => ⟨fun _ => ⟨o_10, comp_part hd hB hS hSd hs p0 pn hl h1 h0⟩, fun e => absurd (by decide) e⟩, fun e => absurd (by decide) e⟩, fun e => absurd (by decide) e⟩
theorem truth_loop {d : Nat} (hd : 2 ≤ d) {σ : kS} (hB : RB σ) {a : Int} {A : Int → gR} (hA : Rd σ d MX4_unit [(2, 10), (0, a), (0, 0)] A) (hAd : gAdv (σ 9) (σ 8 1) A) {D : List Int} {Q : Int → kS → Prop} : ∀ (f : Nat) (i : Int), 0 ≤ i → i + f = 120 → ∀ (s : kS) (p : Int) (os : List Int), RS σ s p (D ++ os) → 0 ≤ p → p ≤ σ 8 1 → ((D ++ os).length : Int) ≤ p → (∀ s' p' os', gChain (σ 9) (σ 8 1) A 38 38 f p os = .inr (p', os') → RS σ s' p' (D ++ os') → Q 1 s') → (∀ s' q D', gChain (σ 9) (σ 8 1) A 38 38 f p os = .inl q → RS σ s' q D' → Q 0 s') → LX4_truth_13 d kN Q 10 a i s := by
  intro f
  have hn := hB.n
  induction f with
  | zero =>
    intro i i0 hi s p os hs p0 pn hl h1 h0
    exact SX4_truth_13 ⟨fun _ => h1 s p os rfl hs, fun e => by omega⟩
  | succ f ih =>
    intro i i0 hi s p os hs p0 pn hl h1 h0
    have hk := sk_next (b := σ 9) (n := σ 8 1) p0
    unfold gChain at h1 h0
    refine SX4_truth_13 ⟨fun e => by omega, fun _ => ⟨o_10, X4_takes (by omega) hB (by decide) hs (fun c s2 hs2 => ⟨fun e => by omega, fun _ => ?_⟩) (fun c => ⟨fun _ => ?_, fun e => absurd rfl e⟩)⟩⟩
    · rw [if_pos (Or.inl c)] at h1 h0
      rw [c] at h1 h0
      have hin := gat_in c (by decide)
      have hk := hk hin.2
      have hadv := hAd _ (by omega) hk.2.1 hk.2.2
      refine hA s2 _ (D ++ os) _ hs2 (by omega) hk.2.1 hk.2.2 (by omega) (fun s3 p' os' e hs3 => ⟨fun _ => ?_, fun e => by omega⟩) (fun s3 q D' e hs3 => ⟨fun e => absurd rfl e, fun _ => ?_⟩)
      · have h2 := hadv.2 p' os' e
        rw [e] at h1 h0
        rw [ly_10_0 hs3.2.2.2.1]
        have hlen : (((D ++ os) ++ os').length : Int) = (D ++ os).length + os'.length := by rw [List.length_append]; omega
        refine ⟨o_11, Draft_add (by omega) hs3 (by omega) (fun s4 hs4 => ⟨by omega, ?_⟩)⟩
        refine ih (i + 1) (by omega) (by omega) s4 p' (os ++ (os' ++ [20000 + 38])) hs4.assoc.assoc (by omega) h2.1.2.1 ?_ h1 h0
        simp only [List.length_append, List.length_singleton] at hl ⊢
        omega
      · refine h0 s3 q D' ?_ hs3
        rw [e]
        rfl
    · rw [if_neg (by omega)] at h1
      exact h1 s p os rfl hs
theorem X4_truthB {d : Nat} (hd : 2 ≤ d) {σ : kS} (hB : RB σ) {a : Int} {A : Int → gR} (hA : Rd σ d MX4_unit [(2, 10), (0, a), (0, 0)] A) (hAd : gAdv (σ 9) (σ 8 1) A) : Rd σ (d + 1) MX4_truth [(2, 10), (0, a), (0, 0)] (gList (σ 9) (σ 8 1) A 38 38) := by
  intro s p D Q hs p0 pn hsk hD h1 h0
  have hadv := hAd p p0 pn hsk
  unfold gList at h1 h0
  refine EX4_truth fun _ _ _ => SX4_truth_0 ⟨o_10, hA s p D _ hs p0 pn hsk hD (fun s1 p' os e hs1 => ⟨fun _ => ?_, fun e => by omega⟩) (fun s1 q D' e hs1 => ⟨fun e => absurd rfl e, fun _ => ?_⟩)⟩
  · have h2 := hadv.2 p' os e
    rw [e] at h1 h0
    refine truth_loop hd hB hA hAd 120 0 (by omega) (by omega) s1 p' os hs1 (by omega) h2.1.2.1 ?_ h1 h0
    rw [List.length_append]
    omega
  · refine h0 s1 q D' ?_ hs1
    rw [e]
    rfl
theorem X4_truthG {d : Nat} (hd : 2 ≤ d) {σ : kS} (hB : RB σ) {a : Int} {A Sm : Int → gR} (hSd : gAdv (σ 9) (σ 8 1) Sm) (hG : RdG σ d MX4_unit [(2, 10), (0, a), (0, 1)] (gComp (σ 9) (σ 8 1) Sm)) (hA : Rd σ d MX4_unit [(2, 10), (0, a), (0, 0)] A) (hAd : gAdv (σ 9) (σ 8 1) A) : RdG σ (d + 1) MX4_truth [(2, 10), (0, a), (0, 1)] (fun p os => gThen (gComp (σ 9) (σ 8 1) Sm p os) (fun p1 o1 => gChain (σ 9) (σ 8 1) A 38 38 120 p1 o1)) := by
  intro s p D os Q hs p0 pn hl ho h1 h0
  have hlo : ((D ++ os).length : Int) = D.length + os.length := by rw [List.length_append]; omega
  refine EX4_truth fun _ _ _ => SX4_truth_0 ⟨o_10, hG s p D os _ hs p0 pn hl ho (fun s1 p' os' e hs1 => ⟨fun _ => ?_, fun e => by omega⟩) (fun s1 q D' e hs1 => ⟨fun e => absurd rfl e, fun _ => ?_⟩)⟩
  · have h2 := (gComp_adv hSd (p0 := p - os.length) p0 pn (by omega) ho).2 p' os' e
    simp only [e] at h1 h0
    refine truth_loop hd hB hA hAd 120 0 (by omega) (by omega) s1 p' os' hs1 (by omega) h2.1.2.1 ?_ h1 h0
    rw [List.length_append]
    omega
  · refine h0 s1 q D' ?_ hs1
    simp only [e]
    rfl
theorem cond_loop {d : Nat} (hd : 2 ≤ d) {σ : kS} (hB : RB σ) {a : Int} {A : Int → gR} (hA : Rd σ d MX4_truth [(2, 10), (0, a), (0, 0)] A) (hAd : gAdv (σ 9) (σ 8 1) A) {D : List Int} {Q : Int → kS → Prop} : ∀ (f : Nat) (i : Int), 0 ≤ i → i + f = 120 → ∀ (s : kS) (p : Int) (os : List Int), RS σ s p (D ++ os) → 0 ≤ p → p ≤ σ 8 1 → ((D ++ os).length : Int) ≤ p → (∀ s' p' os', gChain (σ 9) (σ 8 1) A 124 124 f p os = .inr (p', os') → RS σ s' p' (D ++ os') → Q 1 s') → (∀ s' q D', gChain (σ 9) (σ 8 1) A 124 124 f p os = .inl q → RS σ s' q D' → Q 0 s') → LX4_condition_13 d kN Q 10 a i s := by
  intro f
  have hn := hB.n
  induction f with
  | zero =>
    intro i i0 hi s p os hs p0 pn hl h1 h0
    exact SX4_condition_13 ⟨fun _ => h1 s p os rfl hs, fun e => by omega⟩
  | succ f ih =>
    intro i i0 hi s p os hs p0 pn hl h1 h0
    have hk := sk_next (b := σ 9) (n := σ 8 1) p0
    unfold gChain at h1 h0
    refine SX4_condition_13 ⟨fun e => by omega, fun _ => ⟨o_10, X4_takes (by omega) hB (by decide) hs (fun c s2 hs2 => ⟨fun e => by omega, fun _ => ?_⟩) (fun c => ⟨fun _ => ?_, fun e => absurd rfl e⟩)⟩⟩
    · rw [if_pos (Or.inl c)] at h1 h0
      rw [c] at h1 h0
      have hin := gat_in c (by decide)
      have hk := hk hin.2
      have hadv := hAd _ (by omega) hk.2.1 hk.2.2
      refine hA s2 _ (D ++ os) _ hs2 (by omega) hk.2.1 hk.2.2 (by omega) (fun s3 p' os' e hs3 => ⟨fun _ => ?_, fun e => by omega⟩) (fun s3 q D' e hs3 => ⟨fun e => absurd rfl e, fun _ => ?_⟩)
      · have h2 := hadv.2 p' os' e
        rw [e] at h1 h0
        rw [ly_10_0 hs3.2.2.2.1]
        have hlen : (((D ++ os) ++ os').length : Int) = (D ++ os).length + os'.length := by rw [List.length_append]; omega
        refine ⟨o_11, Draft_add (by omega) hs3 (by omega) (fun s4 hs4 => ⟨by omega, ?_⟩)⟩
        refine ih (i + 1) (by omega) (by omega) s4 p' (os ++ (os' ++ [20000 + 124])) hs4.assoc.assoc (by omega) h2.1.2.1 ?_ h1 h0
        simp only [List.length_append, List.length_singleton] at hl ⊢
        omega
      · refine h0 s3 q D' ?_ hs3
        rw [e]
        rfl
    · rw [if_neg (by omega)] at h1
      exact h1 s p os rfl hs
theorem X4_condB {d : Nat} (hd : 2 ≤ d) {σ : kS} (hB : RB σ) {a : Int} {A : Int → gR} (hA : Rd σ d MX4_truth [(2, 10), (0, a), (0, 0)] A) (hAd : gAdv (σ 9) (σ 8 1) A) : Rd σ (d + 1) MX4_condition [(2, 10), (0, a), (0, 0)] (gList (σ 9) (σ 8 1) A 124 124) := by
  intro s p D Q hs p0 pn hsk hD h1 h0
  have hadv := hAd p p0 pn hsk
  unfold gList at h1 h0
  refine EX4_condition fun _ _ _ => SX4_condition_0 ⟨o_10, hA s p D _ hs p0 pn hsk hD (fun s1 p' os e hs1 => ⟨fun _ => ?_, fun e => by omega⟩) (fun s1 q D' e hs1 => ⟨fun e => absurd rfl e, fun _ => ?_⟩)⟩
  · have h2 := hadv.2 p' os e
    rw [e] at h1 h0
    refine cond_loop hd hB hA hAd 120 0 (by omega) (by omega) s1 p' os hs1 (by omega) h2.1.2.1 ?_ h1 h0
    rw [List.length_append]
    omega
  · refine h0 s1 q D' ?_ hs1
    rw [e]
    rfl
theorem X4_condG {d : Nat} (hd : 2 ≤ d) {σ : kS} (hB : RB σ) {a : Int} {A : Int → gR} {B : Int → List Int → gR} (hG : RdG σ d MX4_truth [(2, 10), (0, a), (0, 1)] B) (hBd : ∀ p os p' os', 0 ≤ p → p ≤ σ 8 1 → (∀ o ∈ os, okO o) → B p os = .inr (p', os') → (p ≤ p' ∧ p' ≤ σ 8 1) ∧ (os'.length : Int) ≤ os.length + (p' - p)) (hA : Rd σ d MX4_truth [(2, 10), (0, a), (0, 0)] A) (hAd : gAdv (σ 9) (σ 8 1) A) : RdG σ (d + 1) MX4_condition [(2, 10), (0, a), (0, 1)] (fun p os => gThen (B p os) (fun p1 o1 => gChain (σ 9) (σ 8 1) A 124 124 120 p1 o1)) := by
  intro s p D os Q hs p0 pn hl ho h1 h0
  have hlo : ((D ++ os).length : Int) = D.length + os.length := by rw [List.length_append]; omega
  refine EX4_condition fun _ _ _ => SX4_condition_0 ⟨o_10, hG s p D os _ hs p0 pn hl ho (fun s1 p' os' e hs1 => ⟨fun _ => ?_, fun e => by omega⟩) (fun s1 q D' e hs1 => ⟨fun e => absurd rfl e, fun _ => ?_⟩)⟩
  · have h2 := hBd p os p' os' p0 pn ho e
    simp only [e] at h1 h0
    refine cond_loop hd hB hA hAd 120 0 (by omega) (by omega) s1 p' os' hs1 (by omega) h2.1.2 ?_ h1 h0
    rw [List.length_append]
    omega
  · refine h0 s1 q D' ?_ hs1
    simp only [e]
    rfl
/-- units and conditions at k levels -/
theorem X4_uc {σ : kS} (hB : RB σ) : ∀ (k : Nat) (a : Int), 0 ≤ a → a + k = 6 → ∀ d, 8 + 3 * k ≤ d → Rd σ d MX4_unit [(2, 10), (0, a), (0, 0)] (gUn (σ 9) (σ 8 1) k) ∧ Rd σ d MX4_truth [(2, 10), (0, a), (0, 0)] (gList (σ 9) (σ 8 1) (gUn (σ 9) (σ 8 1) k) 38 38) ∧ Rd σ d MX4_condition [(2, 10), (0, a), (0, 0)] (gCond (σ 9) (σ 8 1) k) := by
  intro k
  induction k with
  | zero =>
    intro a a0 ha d hd
    obtain ⟨e, rfl⟩ : ∃ e, d = e + 3 := ⟨d - 3, by omega⟩
    have hU : ∀ d, 5 ≤ d → Rd σ (d + 1) MX4_unit [(2, 10), (0, a), (0, 0)] (gUn (σ 9) (σ 8 1) 0) := fun d h5 => X4_unitB (by omega) hB (T := none) (X4_sum hB 0 a a0 ha d (by omega)) gSum_adv (show 6 ≤ a by omega)
    have hT : ∀ d, 6 ≤ d → Rd σ (d + 1) MX4_truth [(2, 10), (0, a), (0, 0)] (gList (σ 9) (σ 8 1) (gUn (σ 9) (σ 8 1) 0) 38 38) := fun d h6 => by
      obtain ⟨e, rfl⟩ : ∃ e, d = e + 1 := ⟨d - 1, by omega⟩
      exact X4_truthB (by omega) hB (hU e (by omega)) gUn_adv
    exact ⟨hU (e + 2) (by omega), hT (e + 2) (by omega), X4_condB (by omega) hB (hT (e + 1) (by omega)) gTru_adv⟩
  | succ k ih =>
    intro a a0 ha d hd
    obtain ⟨e, rfl⟩ : ∃ e, d = e + 3 := ⟨d - 3, by omega⟩
    have hU : ∀ d, 8 + 3 * k ≤ d → Rd σ (d + 1) MX4_unit [(2, 10), (0, a), (0, 0)] (gUn (σ 9) (σ 8 1) (k + 1)) := fun d h5 => by
      have h9 := ih (a + 1) (by omega) (by omega) d h5
      exact X4_unitB (by omega) hB (T := some (gUn (σ 9) (σ 8 1) k, gCond (σ 9) (σ 8 1) k)) (X4_sum hB (k + 1) a a0 ha d (by omega)) gSum_adv ⟨⟨a0, by omega⟩, ⟨h9.1, h9.2.2⟩, gUn_adv, gCond_adv⟩
    have hT : ∀ d, 9 + 3 * k ≤ d → Rd σ (d + 1) MX4_truth [(2, 10), (0, a), (0, 0)] (gList (σ 9) (σ 8 1) (gUn (σ 9) (σ 8 1) (k + 1)) 38 38) := fun d h6 => by
      obtain ⟨e, rfl⟩ : ∃ e, d = e + 1 := ⟨d - 1, by omega⟩
      exact X4_truthB (by omega) hB (hU e (by omega)) gUn_adv
    exact ⟨hU (e + 2) (by omega), hT (e + 2) (by omega), X4_condB (by omega) hB (hT (e + 1) (by omega)) gTru_adv⟩
theorem X4_cond1 {σ : kS} (hB : RB σ) {d : Nat} (hd : 26 ≤ d) : RdG σ d MX4_condition [(2, 10), (0, 0), (0, 1)] (gCondG (σ 9) (σ 8 1) 6) := by
  obtain ⟨e, rfl⟩ : ∃ e, d = e + 3 := ⟨d - 3, by omega⟩
  have h1 := X4_unitG (d := e) (by omega) hB (X4_sum hB 6 0 (by omega) (by omega) e (by omega)) gSum_adv
  have h2 : ∀ d, 24 ≤ d → Rd σ d MX4_unit [(2, 10), (0, 0), (0, 0)] (gUn (σ 9) (σ 8 1) 6) := fun d h => by
    obtain ⟨f, rfl⟩ : ∃ f, d = f + 1 := ⟨d - 1, by omega⟩
    have h9 := X4_uc hB 5 1 (by omega) (by omega) f (by omega)
    exact X4_unitB (by omega) hB (T := some (gUn (σ 9) (σ 8 1) 5, gCond (σ 9) (σ 8 1) 5)) (X4_sum hB 6 0 (by omega) (by omega) f (by omega)) gSum_adv ⟨by omega, ⟨h9.1, h9.2.2⟩, gUn_adv, gCond_adv⟩
  have h3 := X4_truthG (by omega) hB gSum_adv h1 (h2 (e + 1) (by omega)) gUn_adv
  have h4 := X4_truthB (d := e + 1) (by omega) hB (h2 (e + 1) (by omega)) gUn_adv
  refine X4_condG (by omega) hB h3 (fun p os p' os' p0 pn ho e => ?_) h4 gTru_adv
  obtain ⟨p1, o1, e1, e2⟩ := gThen_r e
  have g1 := (gComp_adv gSum_adv (p0 := p - os.length) p0 pn (by omega) ho).2 p1 o1 e1
  have g2 := (gChain_adv (by decide) gUn_adv 120 p1 o1 (p - os.length) (by omega) g1.1.2.1 g1.1.2.2 g1.2.1 g1.2.2).2 p' os' e2
  omega
/-! clauses, goers -/
theorem Draft_lead {d : Nat} (hd : 1 ≤ d) {σ s : kS} {Q : kS → Prop} {D1 D2 : List Int} {p x : Int} (hs : RS σ s p (D1 ++ x :: D2)) (h : ∀ s', RS σ s' p (D1 ++ (30000 + ((D1.length : Int) + D2.length + 1)) :: D2) → Q s') : Cv d MX3_leadOn [(2, 11), (0, (D1.length : Int))] kN s Q := by
  obtain ⟨d, rfl⟩ : ∃ e, d = e + 1 := ⟨d - 1, by omega⟩
  obtain ⟨h1, h2, h3, h4, h5, h6, h7⟩ := hs
  have k12 : klen 12 = 120 := kl_12
  have hl : s 11 2 = D1.length + D2.length + 1 := by
    have := seg_len (f := s 12) (b := 0) (n := s 11 2)
    rw [h7] at this
    simp only [List.length_append, List.length_cons] at this
    omega
  refine EX3_leadOn fun _ _ => SX3_leadOn_0 ?_
  rw [ly_11_0 h4]
  refine ⟨fun e => by omega, fun _ => ⟨o_11, fun e => by omega, fun _ => ⟨by omega, a_12, by omega, fun s1 e1 => h s1 ?_⟩⟩⟩
  refine ⟨by rw [e1]; exact h1.kst (by decide), fun j hj => by rw [e1, kst_k (by decide)]; exact h2 j hj, fun j hj => by rw [e1, kst_k (by decide)]; exact h3 j hj, by rw [e1]; exact h4.kstA a_12, by rw [e1, kst_k (by decide)]; exact h5, by rw [e1, kst_k (by decide)]; exact h6, ?_⟩
  have f11 : s1 11 2 = s 11 2 := by rw [e1, kst_k (by decide)]
  have spl : ∀ f : Int → Int, seg f 0 (D1.length + D2.length + 1) = seg f 0 D1.length ++ (f D1.length :: seg f (D1.length + 1) D2.length) := fun f => by
    rw [show ((D1.length : Int) + D2.length + 1) = D1.length + (D2.length + 1) by omega, seg_app (by omega) (by omega), seg_cons (n := (D2.length : Int) + 1) (by omega), Int.zero_add, show ((D2.length : Int) + 1 - 1) = D2.length by omega]
  rw [hl, spl] at h7
  have h8 := List.append_inj h7 (by rw [seg_len]; omega)
  have h9 := List.cons.inj h8.2
  rw [f11, hl, spl]
  congr 1
  · refine Eq.trans ?_ h8.1
    apply seg_cong
    intro i i0 i1
    rw [e1, kst_kj (by omega)]
  · congr 1
    · rw [e1, kst_eq, hl]
    · refine Eq.trans ?_ h9.2
      apply seg_cong
      intro i i0 i1
      rw [e1, kst_kj (by omega)]
theorem tail_part {d : Nat} (hd : 23 ≤ d) {σ : kS} (hB : RB σ) {s : kS} {p : Int} {D o : List Int} {Q : Int → kS → Prop} (hs : RS σ s p (D ++ o)) (p0 : 0 ≤ p) (pn : p ≤ σ 8 1) (hl : ((D ++ o).length : Int) + 2 ≤ p) (h1 : ∀ s' p' os', gTail (σ 9) (σ 8 1) D.length p o = .inr (p', os') → RS σ s' p' (D ++ os') → Q 1 s') (h0 : ∀ s' q D', gTail (σ 9) (σ 8 1) D.length p o = .inl q → RS σ s' q D' → Q 0 s') :
    Ci d MX4_takes [(2, 10), (0, 63)] kN s (fun x7 s5 => (¬ x7 = 0 → isO 3 kN (s5 10 0) ∧ (Cv d MX3_add [(2, (s5 10 0)), (0, 30000)] kN s5 (fun s6 => Ci d MX4_sum [(2, 10), (0, 0)] kN s6 (fun x10 s7 => (¬ x10 = 0 → isO 3 kN (s7 10 0) ∧ (Cv d MX3_add [(2, (s7 10 0)), (0, 40000)] kN s7 (fun s8 => isO 3 kN (s8 10 0) ∧ (Cv d MX3_leadOn [(2, (s8 10 0)), (0, (s5 (s5 10 0) 2))] kN s8 (fun s9 => Q 1 s9))))) ∧ (¬ (¬ x10 = 0) → Q 0 s7))))) ∧ (¬ (¬ x7 = 0) → Q 0 s5)) := by
  have hn := hB.n
  unfold gTail at h1 h0
  refine X4_takes (by omega) hB (by decide) hs (fun c s5 hs5 => ⟨fun _ => ?_, fun e => by omega⟩) (fun c => ⟨fun e => absurd rfl e, fun _ => ?_⟩)
  · rw [if_pos c] at h1 h0
    have hin := gat_in c (by decide)
    have hk := sk_next (b := σ 9) (n := σ 8 1) p0 hin.2
    have hadv := gSum_adv (b := σ 9) (n := σ 8 1) (k := 6) _ (by omega) hk.2.1 hk.2.2
    have e5 : s5 11 2 = (D ++ o).length := by
      have := seg_len (f := s5 12) (b := 0) (n := s5 11 2)
      rw [hs5.2.2.2.2.2.2] at this
      have := hs5.2.2.2.2.2.1
      omega
    rw [ly_10_0 hs5.2.2.2.1, e5]
    refine ⟨o_11, Draft_add (by omega) hs5 (by omega) (fun s6 hs6 => ?_)⟩
    have l6 : (((D ++ o) ++ [30000]).length : Int) = (D ++ o).length + 1 := by rw [List.length_append]; rfl
    refine X4_sum hB 6 0 (by omega) (by omega) d (by omega) s6 _ ((D ++ o) ++ [30000]) _ hs6 (by omega) hk.2.1 hk.2.2 (by omega) (fun s7 p' o' e hs7 => ⟨fun _ => ?_, fun e => by omega⟩) (fun s7 q D' e hs7 => ⟨fun e => absurd rfl e, fun _ => ?_⟩)
    · have h2 := hadv.2 p' o' e
      rw [e] at h1 h0
      rw [ly_10_0 hs7.2.2.2.1]
      have l7 : ((((D ++ o) ++ [30000]) ++ o').length : Int) = (D ++ o).length + 1 + o'.length := by rw [List.length_append]; omega
      refine ⟨o_11, Draft_add (by omega) hs7 (by omega) (fun s8 hs8 => ?_)⟩
      rw [ly_10_0 hs8.2.2.2.1]
      have e8 : ((((D ++ o) ++ [30000]) ++ o') ++ [40000]) = (D ++ o) ++ 30000 :: (o' ++ [40000]) := by simp
      rw [e8] at hs8
      refine ⟨o_11, Draft_lead (by omega) hs8 (fun s9 hs9 => h1 s9 p' _ rfl ?_)⟩
      have e9 : (30000 + (((D ++ o).length : Int) + ((o' ++ [40000]).length : Int) + 1)) = 30000 + ((D.length : Int) + o.length + o'.length + 2) := by
        simp only [List.length_append, List.length_singleton]
        omega
      rw [e9, List.append_assoc] at hs9
      exact hs9
    · refine h0 s7 q D' ?_ hs7
      rw [e]
      rfl
  · rw [if_neg c] at h0
    exact h0 s p _ rfl hs
