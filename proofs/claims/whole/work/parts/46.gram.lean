/-! goers' texts: the grammar, pure. b the bytes, n how many; a result: where it fails, or where it ends and the orders -/
abbrev gR : Type := Int ⊕ (Int × List Int)
def gat (b : Int → Int) (n p : Int) : Int := if 0 ≤ p ∧ p < n then b p else -1
theorem gat_in {b : Int → Int} {n p c : Int} (h : gat b n p = c) (hc : c ≠ -1) : 0 ≤ p ∧ p < n := by
  unfold gat at h
  split at h
  · assumption
  · exact absurd h.symm hc
def skF (b : Int → Int) (n : Int) : Nat → Int → Int
  | 0, p => p
  | f + 1, p => if p < n ∧ b p = 32 then skF b n f (p + 1) else p
def sk (b : Int → Int) (n p : Int) : Int := skF b n (n - p).toNat p
theorem sk_blank {b : Int → Int} {n p : Int} (h : p < n) (h2 : b p = 32) : sk b n p = sk b n (p + 1) := by
  unfold sk
  rw [show (n - p).toNat = (n - (p + 1)).toNat + 1 by omega, skF, if_pos ⟨h, h2⟩]
theorem sk_stop {b : Int → Int} {n p : Int} (h : ¬ (p < n ∧ b p = 32)) : sk b n p = p := by
  unfold sk
  cases (n - p).toNat with
  | zero => rfl
  | succ f => rw [skF, if_neg h]
theorem sk_facts {b : Int → Int} {n : Int} : ∀ p, p ≤ n → (p ≤ sk b n p ∧ sk b n p ≤ n ∧ ¬ (sk b n p < n ∧ b (sk b n p) = 32)) := by
  refine up_to (e := n) ?_
  intro p ih hp
  by_cases h : p < n ∧ b p = 32
  · rw [sk_blank h.1 h.2]
    have := ih h.1 (by omega)
    exact ⟨by omega, this.2⟩
  · rw [sk_stop h]
    exact ⟨Int.le_refl _, hp, h⟩
theorem sk_sk {b : Int → Int} {n p : Int} (hp : p ≤ n) : sk b n (sk b n p) = sk b n p := sk_stop (sk_facts p hp).2.2
abbrev gDig (x : Int) : Prop := 48 ≤ x ∧ x ≤ 57
abbrev gSign (x : Int) : Prop := x = 61 ∨ x = 60 ∨ x = 62
def gLet (x : Int) : Int := if x = 117 then 0 else if x = 100 then 1 else if x = 119 then 2 else if x = 102 then 3 else if x = 109 then 4 else if x = 115 then 5 else if x = 103 then 6 else if x = 116 then 7 else -1
theorem gLet_b {x : Int} (h : gLet x ≠ -1) : (0 ≤ gLet x ∧ gLet x ≤ 7) ∧ x ≠ -1 := by
  unfold gLet at h ⊢
  repeat' (split at h)
  all_goals (first | exact absurd rfl h | (subst x; decide) | (rename_i e; subst e; decide))
def gNum (b : Int → Int) (n : Int) : Nat → Int → Int → Int × Int
  | 0, p, v => (p, v)
  | f + 1, p, v => if gDig (gat b n p) then gNum b n f (p + 1) (v * 10 + gat b n p - 48) else (p, v)
def gThen (r : gR) (k : Int → List Int → gR) : gR := match r with | .inl q => .inl q | .inr x => k x.1 x.2
theorem gThen_r {r : gR} {k : Int → List Int → gR} {x : Int × List Int} (h : gThen r k = .inr x) : ∃ p os, r = .inr (p, os) ∧ k p os = .inr x := by
  cases r with
  | inl q => exact absurd h (by show ¬ (Sum.inl q : gR) = Sum.inr x; intro e; cases e)
  | inr y => exact ⟨y.1, y.2, rfl, h⟩
theorem gThen_l {r : gR} {k : Int → List Int → gR} {q : Int} (h : gThen r k = .inl q) : r = .inl q ∨ ∃ p os, r = .inr (p, os) ∧ k p os = .inl q := by
  cases r with
  | inl q' => exact Or.inl h
  | inr y => exact Or.inr ⟨y.1, y.2, rfl, h⟩
def gChain (b : Int → Int) (n : Int) (A : Int → gR) (c1 c2 : Int) : Nat → Int → List Int → gR
  | 0, p, os => .inr (p, os)
  | f + 1, p, os => if gat b n p = c1 ∨ gat b n p = c2 then gThen (A (sk b n (p + 1))) (fun p' os' => gChain b n A c1 c2 f p' (os ++ (os' ++ [20000 + gat b n p]))) else .inr (p, os)
def gList (b : Int → Int) (n : Int) (A : Int → gR) (c1 c2 p : Int) : gR := gThen (A p) (fun p' os => gChain b n A c1 c2 120 p' os)
def gAtom (b : Int → Int) (n : Int) (S : Option (Int → gR)) (p : Int) : gR :=
  if gat b n p = 91 then match S with
    | none => .inl p
    | some S => gThen (S (sk b n (p + 1))) (fun p' os => if gat b n p' = 93 then .inr (sk b n (p' + 1), os) else .inl p')
  else if gDig (gat b n p) then .inr (sk b n (gNum b n 4 p 0).1, [(gNum b n 4 p 0).2])
  else if gLet (gat b n p) = -1 then .inl p else .inr (sk b n (p + 1), [10000 + gLet (gat b n p)])
def gSumB (b : Int → Int) (n : Int) (S : Option (Int → gR)) (p : Int) : gR := gList b n (gList b n (gAtom b n S) 42 47) 43 45 p
def gSub (b : Int → Int) (n : Int) : Nat → Option (Int → gR)
  | 0 => none
  | k + 1 => some (gSumB b n (gSub b n k))
def gSum (b : Int → Int) (n : Int) (k : Nat) : Int → gR := gSumB b n (gSub b n k)
def gComp (b : Int → Int) (n : Int) (Sm : Int → gR) (p : Int) (os : List Int) : gR :=
  if gSign (gat b n p) then gThen (Sm (sk b n (p + 1))) (fun p' os' => .inr (p', os ++ (os' ++ [20000 + gat b n p]))) else .inl p
def gUnit (b : Int → Int) (n : Int) (Sm : Int → gR) (D : Option ((Int → gR) × (Int → gR))) (p : Int) : gR :=
  if gat b n p = 33 then match D with
    | none => .inl p
    | some U => gThen (U.1 (sk b n (p + 1))) (fun p' os => .inr (p', os ++ [20033]))
  else if gat b n p = 40 then match D with
    | none => .inl p
    | some U => gThen (U.2 (sk b n (p + 1))) (fun p' os => if gat b n p' = 41 then .inr (sk b n (p' + 1), os) else .inl p')
  else gThen (Sm p) (fun p' os => gComp b n Sm p' os)
def gCondB (b : Int → Int) (n : Int) (U : Int → gR) (p : Int) : gR := gList b n (gList b n U 38 38) 124 124 p
def gUD (b : Int → Int) (n : Int) : Nat → Option ((Int → gR) × (Int → gR))
  | 0 => none
  | k + 1 => some (gUnit b n (gSum b n k) (gUD b n k), gCondB b n (gUnit b n (gSum b n k) (gUD b n k)))
def gUn (b : Int → Int) (n : Int) (k : Nat) : Int → gR := gUnit b n (gSum b n k) (gUD b n k)
def gCond (b : Int → Int) (n : Int) (k : Nat) : Int → gR := gCondB b n (gUn b n k)
def gTruG (b : Int → Int) (n : Int) (k : Nat) (p : Int) (os : List Int) : gR := gThen (gComp b n (gSum b n k) p os) (fun p1 o1 => gChain b n (gUn b n k) 38 38 120 p1 o1)
def gCondG (b : Int → Int) (n : Int) (k : Nat) (p : Int) (os : List Int) : gR := gThen (gTruG b n k p os) (fun p2 o2 => gChain b n (gList b n (gUn b n k) 38 38) 124 124 120 p2 o2)
def gTail (b : Int → Int) (n m p : Int) (o : List Int) : gR :=
  if gat b n p = 63 then gThen (gSum b n 6 (sk b n (p + 1))) (fun p' o' => .inr (p', o ++ (30000 + (m + o.length + o'.length + 2)) :: (o' ++ [40000]))) else .inl p
def gClause (b : Int → Int) (n m p : Int) : gR :=
  if gat b n p = 121 then
    if gat b n (sk b n (p + 1)) = 58 then
      if gat b n (sk b n (sk b n (p + 1) + 1)) = 33 ∨ gat b n (sk b n (sk b n (p + 1) + 1)) = 40 then gThen (gCond b n 6 (sk b n (sk b n (p + 1) + 1))) (gTail b n m)
      else gThen (gSum b n 6 (sk b n (sk b n (p + 1) + 1))) (fun p3 o1 => if gSign (gat b n p3) then gThen (gCondG b n 6 p3 o1) (gTail b n m) else .inr (p3, o1 ++ [40000]))
    else .inl (sk b n (p + 1))
  else .inl p
def gGoer (b : Int → Int) (n : Int) : Nat → Int → List Int → gR
  | 0, p, _ => .inl p
  | f + 1, p, os => gThen (gClause b n os.length p) (fun p' o => if n ≤ p' then .inr (p', os ++ o) else if gat b n p' = 59 then gGoer b n f (sk b n (p' + 1)) (os ++ o) else .inl p')
def gText (b : Int → Int) (n : Int) : gR := gGoer b n 120 (sk b n 0) []
/-! how far they go -/
abbrev okO (o : Int) : Prop := (0 ≤ o ∧ o < 10008) ∨ (20033 ≤ o ∧ o < 20200)
def gAdv (b : Int → Int) (n : Int) (A : Int → gR) : Prop := ∀ p, 0 ≤ p → p ≤ n → sk b n p = p → (∀ q, A p = .inl q → p ≤ q ∧ q ≤ n) ∧ ∀ p' os, A p = .inr (p', os) → (p < p' ∧ p' ≤ n ∧ sk b n p' = p') ∧ (os.length : Int) ≤ p' - p ∧ ∀ o ∈ os, okO o
theorem sk_next {b : Int → Int} {n p : Int} (h0 : 0 ≤ p) (h : p < n) : p < sk b n (p + 1) ∧ sk b n (p + 1) ≤ n ∧ sk b n (sk b n (p + 1)) = sk b n (p + 1) := by
  have h1 := sk_facts (b := b) (p + 1) (show p + 1 ≤ n by omega)
  exact ⟨by omega, h1.2.1, sk_sk (by omega)⟩
theorem gNum_facts {b : Int → Int} {n : Int} : ∀ (f : Nat) (p v : Int), 0 ≤ p → p ≤ n → 0 ≤ v → (p ≤ (gNum b n f p v).1 ∧ (gNum b n f p v).1 ≤ n) ∧ 0 ≤ (gNum b n f p v).2 ∧ (gNum b n f p v).2 < (v + 1) * 10 ^ f := by
  intro f
  induction f with
  | zero => intro p v p0 pn v0; exact ⟨⟨Int.le_refl _, pn⟩, v0, by show v < (v + 1) * 10 ^ 0; omega⟩
  | succ f ih =>
    intro p v p0 pn v0
    have hpow : (0 : Int) < 10 ^ f := Int.pow_pos (by decide)
    have e : ((10 : Int) ^ (f + 1)) = 10 ^ f * 10 := Int.pow_succ _ _
    unfold gNum
    by_cases h : gDig (gat b n p)
    · rw [if_pos h]
      have hin := gat_in (b := b) (n := n) (p := p) rfl (by have := h.1; omega)
      have h1 := ih (p + 1) (v * 10 + gat b n p - 48) (by omega) (by omega) (by have := h.1; omega)
      refine ⟨by omega, h1.2.1, ?_⟩
      have h2 : (v * 10 + gat b n p - 48 + 1) * 10 ^ f ≤ ((v + 1) * 10) * 10 ^ f := Int.mul_le_mul_of_nonneg_right (by have := h.2; omega) (by omega)
      have h3 : (v + 1) * 10 ^ (f + 1) = ((v + 1) * 10) * 10 ^ f := by rw [e, Int.mul_comm (10 ^ f) 10, Int.mul_assoc]
      omega
    · rw [if_neg h]
      refine ⟨⟨Int.le_refl _, pn⟩, v0, ?_⟩
      have h3 : (v + 1) * 1 ≤ (v + 1) * 10 ^ (f + 1) := Int.mul_le_mul_of_nonneg_left (by omega) (by omega)
      show v < _
      omega
theorem gChain_adv {b : Int → Int} {n : Int} {A : Int → gR} {c1 c2 : Int} (hc : (33 ≤ c1 ∧ c1 < 200) ∧ 33 ≤ c2 ∧ c2 < 200) (hA : gAdv b n A) : ∀ (f : Nat) (p : Int) (os : List Int) (p0 : Int), 0 ≤ p → p ≤ n → sk b n p = p → (os.length : Int) ≤ p - p0 → (∀ o ∈ os, okO o) → (∀ q, gChain b n A c1 c2 f p os = .inl q → p ≤ q ∧ q ≤ n) ∧ ∀ p' os', gChain b n A c1 c2 f p os = .inr (p', os') → (p ≤ p' ∧ p' ≤ n ∧ sk b n p' = p') ∧ (os'.length : Int) ≤ p' - p0 ∧ ∀ o ∈ os', okO o := by
  intro f
  induction f with
  | zero =>
    intro p os p0 h0 hn hs hl ho
    exact ⟨fun q h => (by cases h), fun p' os' h => by cases h; exact ⟨⟨Int.le_refl _, hn, hs⟩, hl, ho⟩⟩
  | succ f ih =>
    intro p os p0 h0 hn hs hl ho
    unfold gChain
    by_cases h : gat b n p = c1 ∨ gat b n p = c2
    · rw [if_pos h]
      have hin : 0 ≤ p ∧ p < n := gat_in (b := b) rfl (by omega)
      have hk := sk_next (b := b) hin.1 hin.2
      have h1 := hA _ (by omega) hk.2.1 hk.2.2
      cases hr : A (sk b n (p + 1)) with
      | inl q' =>
        have h2 := h1.1 q' hr
        exact ⟨fun q e => by cases e; exact ⟨by omega, h2.2⟩, fun p' os' e => by cases e⟩
      | inr x =>
        obtain ⟨p1, o1⟩ := x
        have h2 := h1.2 p1 o1 hr
        have hlen : ((os ++ (o1 ++ [20000 + gat b n p])).length : Int) = os.length + o1.length + 1 := by simp only [List.length_append, List.length_singleton]; omega
        have h3 := ih p1 (os ++ (o1 ++ [20000 + gat b n p])) p0 (by omega) h2.1.2.1 h2.1.2.2 (by omega) (fun o hm => by
          rcases List.mem_append.mp hm with hm | hm
          · exact ho o hm
          · rcases List.mem_append.mp hm with hm | hm
            · exact h2.2.2 o hm
            · rw [List.mem_singleton] at hm
              right
              omega)
        exact ⟨fun q e => by have := h3.1 q e; omega, fun p' os' e => by have := h3.2 p' os' e; exact ⟨⟨by omega, this.1.2⟩, this.2⟩⟩
    · rw [if_neg h]
      exact ⟨fun q e => (by cases e), fun p' os' e => by cases e; exact ⟨⟨Int.le_refl _, hn, hs⟩, hl, ho⟩⟩
theorem gList_adv {b : Int → Int} {n : Int} {A : Int → gR} {c1 c2 : Int} (hc : (33 ≤ c1 ∧ c1 < 200) ∧ 33 ≤ c2 ∧ c2 < 200) (hA : gAdv b n A) : gAdv b n (gList b n A c1 c2) := by
  intro p h0 hn hs
  unfold gList
  have h1 := hA p h0 hn hs
  cases hr : A p with
  | inl q' => exact ⟨fun q e => by cases e; exact h1.1 _ hr, fun p' os' e => by cases e⟩
  | inr x =>
    obtain ⟨p1, o1⟩ := x
    have h2 := h1.2 p1 o1 hr
    have h3 := gChain_adv hc hA 120 p1 o1 p (by omega) h2.1.2.1 h2.1.2.2 h2.2.1 h2.2.2
    exact ⟨fun q e => by have := h3.1 q e; omega, fun p' os' e => by have := h3.2 p' os' e; exact ⟨⟨by omega, this.1.2⟩, this.2⟩⟩
def gAdvO (b : Int → Int) (n : Int) : Option (Int → gR) → Prop
  | none => True
  | some S => gAdv b n S
theorem gAtom_adv {b : Int → Int} {n : Int} {S : Option (Int → gR)} (hS : gAdvO b n S) : gAdv b n (gAtom b n S) := by
  intro p h0 hn hs
  unfold gAtom
  by_cases c1 : gat b n p = 91
  · rw [if_pos c1]
    have hin := gat_in c1 (by decide)
    have hk := sk_next (b := b) hin.1 hin.2
    cases S with
    | none => exact ⟨fun q e => by cases e; exact ⟨Int.le_refl _, hn⟩, fun p' os' e => by cases e⟩
    | some S =>
      have h1 := hS _ (by omega) hk.2.1 hk.2.2
      refine ⟨fun q e => ?_, fun p' os' e => ?_⟩
      · rcases gThen_l e with e | ⟨p1, o1, e1, e2⟩
        · have := h1.1 q e; omega
        · have h2 := h1.2 p1 o1 e1
          split at e2
          · cases e2
          · cases e2; omega
      · obtain ⟨p1, o1, e1, e2⟩ := gThen_r e
        have h2 := h1.2 p1 o1 e1
        split at e2
        · rename_i c2
          have hin2 := gat_in c2 (by decide)
          have hk2 := sk_next (b := b) hin2.1 hin2.2
          cases e2
          exact ⟨⟨by omega, hk2.2.1, hk2.2.2⟩, by omega, h2.2.2⟩
        · cases e2
  · rw [if_neg c1]
    by_cases c2 : gDig (gat b n p)
    · rw [if_pos c2]
      have hin := gat_in (b := b) (n := n) (p := p) rfl (by have := c2.1; omega)
      have h1 := gNum_facts (b := b) (n := n) 3 (p + 1) (0 * 10 + gat b n p - 48) (by omega) (by omega) (by have := c2.1; omega)
      have e4 : gNum b n 4 p 0 = gNum b n 3 (p + 1) (0 * 10 + gat b n p - 48) := by rw [gNum, if_pos c2]
      have h9 := gNum_facts (b := b) (n := n) 4 p 0 h0 hn (Int.le_refl 0)
      rw [e4] at h9 ⊢
      have hk := sk_facts (b := b) _ h1.1.2
      refine ⟨fun q e => (by cases e), fun p' os' e => ?_⟩
      cases e
      refine ⟨⟨by omega, hk.2.1, sk_sk h1.1.2⟩, ?_, fun o hm => ?_⟩
      · simp only [List.length_singleton]
        omega
      · rw [List.mem_singleton] at hm
        rw [hm]
        left
        have := h9.2.2
        simp only [Int.zero_add, Int.one_mul] at this
        omega
    · rw [if_neg c2]
      by_cases c3 : gLet (gat b n p) = -1
      · rw [if_pos c3]
        exact ⟨fun q e => by cases e; exact ⟨Int.le_refl _, hn⟩, fun p' os' e => by cases e⟩
      · rw [if_neg c3]
        have hl := gLet_b c3
        have hin := gat_in (b := b) (n := n) (p := p) rfl hl.2
        have hk := sk_next (b := b) hin.1 hin.2
        refine ⟨fun q e => (by cases e), fun p' os' e => ?_⟩
        cases e
        refine ⟨⟨by omega, hk.2.1, hk.2.2⟩, ?_, fun o hm => ?_⟩
        · simp only [List.length_singleton]
          omega
        · rw [List.mem_singleton] at hm
          rw [hm]
          left
          omega
theorem gSumB_adv {b : Int → Int} {n : Int} {S : Option (Int → gR)} (hS : gAdvO b n S) : gAdv b n (gSumB b n S) := gList_adv (by decide) (gList_adv (by decide) (gAtom_adv hS))
theorem gSub_adv {b : Int → Int} {n : Int} : ∀ k, gAdvO b n (gSub b n k) := by
  intro k
  induction k with
  | zero => trivial
  | succ k ih => exact gSumB_adv ih
theorem gSum_adv {b : Int → Int} {n : Int} {k : Nat} : gAdv b n (gSum b n k) := gSumB_adv (gSub_adv k)
theorem gComp_adv {b : Int → Int} {n : Int} {Sm : Int → gR} (hS : gAdv b n Sm) {p p0 : Int} {os : List Int} (h0 : 0 ≤ p) (hn : p ≤ n) (hl : (os.length : Int) ≤ p - p0) (ho : ∀ o ∈ os, okO o) : (∀ q, gComp b n Sm p os = .inl q → p ≤ q ∧ q ≤ n) ∧ ∀ p' os', gComp b n Sm p os = .inr (p', os') → (p ≤ p' ∧ p' ≤ n ∧ sk b n p' = p') ∧ (os'.length : Int) ≤ p' - p0 ∧ ∀ o ∈ os', okO o := by
  unfold gComp
  by_cases c : gSign (gat b n p)
  · rw [if_pos c]
    have hin := gat_in (b := b) (n := n) (p := p) rfl (by omega)
    have hk := sk_next (b := b) hin.1 hin.2
    have h1 := hS _ (by omega) hk.2.1 hk.2.2
    refine ⟨fun q e => ?_, fun p' os' e => ?_⟩
    · rcases gThen_l e with e | ⟨p1, o1, e1, e2⟩
      · have := h1.1 q e; omega
      · cases e2
    · obtain ⟨p1, o1, e1, e2⟩ := gThen_r e
      have h2 := h1.2 p1 o1 e1
      cases e2
      refine ⟨⟨by omega, h2.1.2⟩, ?_, fun o hm => ?_⟩
      · simp only [List.length_append, List.length_singleton]
        omega
      · rcases List.mem_append.mp hm with hm | hm
        · exact ho o hm
        · rcases List.mem_append.mp hm with hm | hm
          · exact h2.2.2 o hm
          · rw [List.mem_singleton] at hm
            right
            omega
  · rw [if_neg c]
    exact ⟨fun q e => by cases e; exact ⟨Int.le_refl _, hn⟩, fun p' os' e => by cases e⟩
def gAdvU (b : Int → Int) (n : Int) : Option ((Int → gR) × (Int → gR)) → Prop
  | none => True
  | some U => gAdv b n U.1 ∧ gAdv b n U.2
theorem gUnit_adv {b : Int → Int} {n : Int} {Sm : Int → gR} {D : Option ((Int → gR) × (Int → gR))} (hS : gAdv b n Sm) (hD : gAdvU b n D) : gAdv b n (gUnit b n Sm D) := by
  intro p h0 hn hs
  unfold gUnit
  by_cases c1 : gat b n p = 33
  · rw [if_pos c1]
    have hin := gat_in c1 (by decide)
    have hk := sk_next (b := b) hin.1 hin.2
    cases D with
    | none => exact ⟨fun q e => by cases e; exact ⟨Int.le_refl _, hn⟩, fun p' os' e => by cases e⟩
    | some U =>
      have h1 := hD.1 _ (by omega) hk.2.1 hk.2.2
      refine ⟨fun q e => ?_, fun p' os' e => ?_⟩
      · rcases gThen_l e with e | ⟨p1, o1, e1, e2⟩
        · have := h1.1 q e; omega
        · cases e2
      · obtain ⟨p1, o1, e1, e2⟩ := gThen_r e
        have h2 := h1.2 p1 o1 e1
        cases e2
        refine ⟨⟨by omega, h2.1.2⟩, ?_, fun o hm => ?_⟩
        · simp only [List.length_append, List.length_singleton]
          omega
        · rcases List.mem_append.mp hm with hm | hm
          · exact h2.2.2 o hm
          · rw [List.mem_singleton] at hm
            right
            omega
  · rw [if_neg c1]
    by_cases c2 : gat b n p = 40
    · rw [if_pos c2]
      have hin := gat_in c2 (by decide)
      have hk := sk_next (b := b) hin.1 hin.2
      cases D with
      | none => exact ⟨fun q e => by cases e; exact ⟨Int.le_refl _, hn⟩, fun p' os' e => by cases e⟩
      | some U =>
        have h1 := hD.2 _ (by omega) hk.2.1 hk.2.2
        refine ⟨fun q e => ?_, fun p' os' e => ?_⟩
        · rcases gThen_l e with e | ⟨p1, o1, e1, e2⟩
          · have := h1.1 q e; omega
          · have h2 := h1.2 p1 o1 e1
            split at e2
            · cases e2
            · cases e2; omega
        · obtain ⟨p1, o1, e1, e2⟩ := gThen_r e
          have h2 := h1.2 p1 o1 e1
          split at e2
          · rename_i c3
            have hin2 := gat_in c3 (by decide)
            have hk2 := sk_next (b := b) hin2.1 hin2.2
            cases e2
            exact ⟨⟨by omega, hk2.2.1, hk2.2.2⟩, by omega, h2.2.2⟩
          · cases e2
    · rw [if_neg c2]
      have h1 := hS p h0 hn hs
      refine ⟨fun q e => ?_, fun p' os' e => ?_⟩
      · rcases gThen_l e with e | ⟨p1, o1, e1, e2⟩
        · exact h1.1 q e
        · have h2 := h1.2 p1 o1 e1
          have := (gComp_adv hS (p0 := p) (by omega) h2.1.2.1 h2.2.1 h2.2.2).1 q e2
          omega
      · obtain ⟨p1, o1, e1, e2⟩ := gThen_r e
        have h2 := h1.2 p1 o1 e1
        have := (gComp_adv hS (p0 := p) (by omega) h2.1.2.1 h2.2.1 h2.2.2).2 p' os' e2
        exact ⟨⟨by omega, this.1.2⟩, this.2⟩
theorem gCondB_adv {b : Int → Int} {n : Int} {U : Int → gR} (hU : gAdv b n U) : gAdv b n (gCondB b n U) := gList_adv (by decide) (gList_adv (by decide) hU)
theorem gUD_adv {b : Int → Int} {n : Int} : ∀ k, gAdvU b n (gUD b n k) := by
  intro k
  induction k with
  | zero => trivial
  | succ k ih => exact ⟨gUnit_adv gSum_adv ih, gCondB_adv (gUnit_adv gSum_adv ih)⟩
theorem gUn_adv {b : Int → Int} {n : Int} {k : Nat} : gAdv b n (gUn b n k) := gUnit_adv gSum_adv (gUD_adv k)
theorem gTru_adv {b : Int → Int} {n : Int} {k : Nat} : gAdv b n (gList b n (gUn b n k) 38 38) := gList_adv (by decide) gUn_adv
theorem gCond_adv {b : Int → Int} {n : Int} {k : Nat} : gAdv b n (gCond b n k) := gCondB_adv gUn_adv
