/-! the grammars see the bytes 0 .. n alone -/
section GC
variable {b b' : Int → Int} {n : Int}
theorem gat_c (hb : ∀ i, 0 ≤ i → i < n → b i = b' i) : gat b n = gat b' n := by
  funext p
  unfold gat
  by_cases c : 0 ≤ p ∧ p < n
  · rw [if_pos c, if_pos c, hb p c.1 c.2]
  · rw [if_neg c, if_neg c]
theorem sk_c (hb : ∀ i, 0 ≤ i → i < n → b i = b' i) : ∀ p, 0 ≤ p → sk b n p = sk b' n p ∧ 0 ≤ sk b n p := by
  refine up_to (e := n) ?_
  intro p ih p0
  by_cases c : p < n ∧ b p = 32
  · have c' : b' p = 32 := by rw [← hb p p0 c.1]; exact c.2
    rw [sk_blank c.1 c.2, sk_blank c.1 c']
    exact ih c.1 (by omega)
  · have c' : ¬ (p < n ∧ b' p = 32) := fun z => c ⟨z.1, by rw [hb p p0 z.1]; exact z.2⟩
    rw [sk_stop c, sk_stop c']
    exact ⟨rfl, p0⟩
def gE (A A' : Int → gR) : Prop := ∀ p, 0 ≤ p → A p = A' p ∧ ∀ x, A p = .inr x → 0 ≤ x.1
theorem thenC {r r' : gR} {k k' : Int → List Int → gR} (hr : r = r') (hn : ∀ x, r = .inr x → 0 ≤ x.1) (hk : ∀ p os, 0 ≤ p → k p os = k' p os ∧ ∀ x, k p os = .inr x → 0 ≤ x.1) : gThen r k = gThen r' k' ∧ ∀ x, gThen r k = .inr x → 0 ≤ x.1 := by
  subst hr
  cases r with
  | inl q => exact ⟨rfl, fun x h => by cases h⟩
  | inr y => exact hk y.1 y.2 (hn y rfl)
theorem numC (hb : ∀ i, 0 ≤ i → i < n → b i = b' i) : ∀ (f : Nat) (p v : Int), 0 ≤ p → gNum b n f p v = gNum b' n f p v ∧ 0 ≤ (gNum b n f p v).1 := by
  intro f
  induction f with
  | zero => intro p v hp; exact ⟨rfl, hp⟩
  | succ f ih =>
    intro p v hp
    rw [gNum, gNum, gat_c hb]
    by_cases c : gDig (gat b' n p)
    · simp only [if_pos c]
      exact ih _ _ (by omega)
    · simp only [if_neg c]
      exact ⟨trivial, hp⟩
theorem inr_nn {p : Int} {os : List Int} (hp : 0 ≤ p) : ∀ x, (.inr (p, os) : gR) = .inr x → 0 ≤ x.1 := fun x h => by
  cases h
  exact hp
theorem inl_nn {p : Int} : ∀ x, (.inl p : gR) = .inr x → 0 ≤ x.1 := fun x h => by cases h
theorem chainC (hb : ∀ i, 0 ≤ i → i < n → b i = b' i) {A A' : Int → gR} (hA : gE A A') {c1 c2 : Int} : ∀ (f : Nat) (p : Int) (os : List Int), 0 ≤ p → gChain b n A c1 c2 f p os = gChain b' n A' c1 c2 f p os ∧ ∀ x, gChain b n A c1 c2 f p os = .inr x → 0 ≤ x.1 := by
  intro f
  induction f with
  | zero => intro p os hp; exact ⟨rfl, inr_nn hp⟩
  | succ f ih =>
    intro p os hp
    rw [gChain, gChain, gat_c hb]
    by_cases c : gat b' n p = c1 ∨ gat b' n p = c2
    · have hs := sk_c hb (p + 1) (by omega)
      have hA' := hA _ hs.2
      rw [← hs.1]
      simp only [if_pos c]
      exact thenC hA'.1 hA'.2 (fun p' os' hp' => ih p' _ hp')
    · simp only [if_neg c]
      exact ⟨trivial, inr_nn hp⟩
theorem listC (hb : ∀ i, 0 ≤ i → i < n → b i = b' i) {A A' : Int → gR} (hA : gE A A') {c1 c2 : Int} : gE (gList b n A c1 c2) (gList b' n A' c1 c2) := by
  intro p hp
  unfold gList
  exact thenC (hA p hp).1 (hA p hp).2 (fun p' os h => chainC hb hA 120 p' os h)
def gEO (S S' : Option (Int → gR)) : Prop := (S = none ∧ S' = none) ∨ ∃ A A', S = some A ∧ S' = some A' ∧ gE A A'
theorem atomC (hb : ∀ i, 0 ≤ i → i < n → b i = b' i) {S S' : Option (Int → gR)} (hS : gEO S S') : gE (gAtom b n S) (gAtom b' n S') := by
  intro p hp
  unfold gAtom
  rw [gat_c hb]
  by_cases c1 : gat b' n p = 91
  · simp only [if_pos c1]
    rcases hS with ⟨rfl, rfl⟩ | ⟨A, A', rfl, rfl, hA⟩
    · exact ⟨rfl, inl_nn⟩
    · have hs := sk_c hb (p + 1) (by omega)
      have hA' := hA _ hs.2
      rw [← hs.1]
      refine thenC hA'.1 hA'.2 (fun p' os hp' => ?_)
      have hs' := sk_c hb (p' + 1) (by omega)
      rw [← hs'.1]
      by_cases c2 : gat b' n p' = 93
      · simp only [if_pos c2]
        exact ⟨trivial, inr_nn hs'.2⟩
      · simp only [if_neg c2]
        exact ⟨trivial, inl_nn⟩
  · simp only [if_neg c1]
    by_cases c2 : gDig (gat b' n p)
    · simp only [if_pos c2]
      have hN := numC hb 4 p 0 hp
      have hs := sk_c hb _ hN.2
      rw [← hN.1, ← hs.1]
      exact ⟨rfl, inr_nn hs.2⟩
    · simp only [if_neg c2]
      by_cases c3 : gLet (gat b' n p) = -1
      · simp only [if_pos c3]
        exact ⟨trivial, inl_nn⟩
      · simp only [if_neg c3]
        have hs := sk_c hb (p + 1) (by omega)
        rw [← hs.1]
        exact ⟨rfl, inr_nn hs.2⟩
theorem sumBC (hb : ∀ i, 0 ≤ i → i < n → b i = b' i) {S S' : Option (Int → gR)} (hS : gEO S S') : gE (gSumB b n S) (gSumB b' n S') := listC hb (listC hb (atomC hb hS))
theorem subC (hb : ∀ i, 0 ≤ i → i < n → b i = b' i) : ∀ k : Nat, gEO (gSub b n k) (gSub b' n k) := by
  intro k
  induction k with
  | zero => exact Or.inl ⟨rfl, rfl⟩
  | succ k ih => exact Or.inr ⟨_, _, rfl, rfl, sumBC hb ih⟩
theorem sumC (hb : ∀ i, 0 ≤ i → i < n → b i = b' i) (k : Nat) : gE (gSum b n k) (gSum b' n k) := sumBC hb (subC hb k)
theorem compC (hb : ∀ i, 0 ≤ i → i < n → b i = b' i) {A A' : Int → gR} (hA : gE A A') : ∀ p os, 0 ≤ p → gComp b n A p os = gComp b' n A' p os ∧ ∀ x, gComp b n A p os = .inr x → 0 ≤ x.1 := by
  intro p os hp
  unfold gComp
  rw [gat_c hb]
  by_cases c : gSign (gat b' n p)
  · have hs := sk_c hb (p + 1) (by omega)
    have hA' := hA _ hs.2
    rw [← hs.1]
    simp only [if_pos c]
    exact thenC hA'.1 hA'.2 (fun p' os' hp' => ⟨rfl, inr_nn hp'⟩)
  · simp only [if_neg c]
    exact ⟨trivial, inl_nn⟩
def gED (D D' : Option ((Int → gR) × (Int → gR))) : Prop := (D = none ∧ D' = none) ∨ ∃ U U', D = some U ∧ D' = some U' ∧ gE U.1 U'.1 ∧ gE U.2 U'.2
theorem unitC (hb : ∀ i, 0 ≤ i → i < n → b i = b' i) {A A' : Int → gR} (hA : gE A A') {D D' : Option ((Int → gR) × (Int → gR))} (hD : gED D D') : gE (gUnit b n A D) (gUnit b' n A' D') := by
  intro p hp
  have hs := sk_c hb (p + 1) (by omega)
  unfold gUnit
  rw [gat_c hb]
  by_cases c1 : gat b' n p = 33
  · simp only [if_pos c1]
    rcases hD with ⟨rfl, rfl⟩ | ⟨U, U', rfl, rfl, h1, h2⟩
    · exact ⟨rfl, inl_nn⟩
    · have hA' := h1 _ hs.2
      rw [← hs.1]
      exact thenC hA'.1 hA'.2 (fun p' os' hp' => ⟨rfl, inr_nn hp'⟩)
  · simp only [if_neg c1]
    by_cases c2 : gat b' n p = 40
    · simp only [if_pos c2]
      rcases hD with ⟨rfl, rfl⟩ | ⟨U, U', rfl, rfl, h1, h2⟩
      · exact ⟨rfl, inl_nn⟩
      · have hA' := h2 _ hs.2
        rw [← hs.1]
        refine thenC hA'.1 hA'.2 (fun p' os hp' => ?_)
        have hs' := sk_c hb (p' + 1) (by omega)
        rw [← hs'.1]
        by_cases c3 : gat b' n p' = 41
        · simp only [if_pos c3]
          exact ⟨trivial, inr_nn hs'.2⟩
        · simp only [if_neg c3]
          exact ⟨trivial, inl_nn⟩
    · simp only [if_neg c2]
      exact thenC (hA p hp).1 (hA p hp).2 (fun p' os' hp' => compC hb hA p' os' hp')
theorem condBC (hb : ∀ i, 0 ≤ i → i < n → b i = b' i) {A A' : Int → gR} (hA : gE A A') : gE (gCondB b n A) (gCondB b' n A') := listC hb (listC hb hA)
theorem udC (hb : ∀ i, 0 ≤ i → i < n → b i = b' i) : ∀ k : Nat, gED (gUD b n k) (gUD b' n k) := by
  intro k
  induction k with
  | zero => exact Or.inl ⟨rfl, rfl⟩
  | succ k ih => exact Or.inr ⟨_, _, rfl, rfl, unitC hb (sumC hb k) ih, condBC hb (unitC hb (sumC hb k) ih)⟩
theorem unC (hb : ∀ i, 0 ≤ i → i < n → b i = b' i) (k : Nat) : gE (gUn b n k) (gUn b' n k) := unitC hb (sumC hb k) (udC hb k)
theorem condC (hb : ∀ i, 0 ≤ i → i < n → b i = b' i) (k : Nat) : gE (gCond b n k) (gCond b' n k) := condBC hb (unC hb k)
theorem truGC (hb : ∀ i, 0 ≤ i → i < n → b i = b' i) (k : Nat) : ∀ p os, 0 ≤ p → gTruG b n k p os = gTruG b' n k p os ∧ ∀ x, gTruG b n k p os = .inr x → 0 ≤ x.1 := by
  intro p os hp
  have h := compC hb (sumC hb k) p os hp
  unfold gTruG
  exact thenC h.1 h.2 (fun p' os' hp' => chainC hb (unC hb k) 120 p' os' hp')
theorem condGC (hb : ∀ i, 0 ≤ i → i < n → b i = b' i) (k : Nat) : ∀ p os, 0 ≤ p → gCondG b n k p os = gCondG b' n k p os ∧ ∀ x, gCondG b n k p os = .inr x → 0 ≤ x.1 := by
  intro p os hp
  have h := truGC hb k p os hp
  unfold gCondG
  exact thenC h.1 h.2 (fun p' os' hp' => chainC hb (listC hb (unC hb k)) 120 p' os' hp')
theorem tailC (hb : ∀ i, 0 ≤ i → i < n → b i = b' i) {m : Int} : ∀ p os, 0 ≤ p → gTail b n m p os = gTail b' n m p os ∧ ∀ x, gTail b n m p os = .inr x → 0 ≤ x.1 := by
  intro p os hp
  have hs := sk_c hb (p + 1) (by omega)
  have h := sumC hb 6 _ hs.2
  unfold gTail
  rw [gat_c hb, ← hs.1]
  by_cases c : gat b' n p = 63
  · simp only [if_pos c]
    exact thenC h.1 h.2 (fun p' os' hp' => ⟨rfl, inr_nn hp'⟩)
  · simp only [if_neg c]
    exact ⟨trivial, inl_nn⟩
theorem clauseC (hb : ∀ i, 0 ≤ i → i < n → b i = b' i) {m : Int} : gE (gClause b n m) (gClause b' n m) := by
  intro p hp
  have hs := sk_c hb (p + 1) (by omega)
  have hs2 := sk_c hb (sk b n (p + 1) + 1) (by omega)
  unfold gClause
  rw [gat_c hb, ← hs.1, ← hs2.1]
  by_cases c1 : gat b' n p = 121
  · simp only [if_pos c1]
    by_cases c2 : gat b' n (sk b n (p + 1)) = 58
    · simp only [if_pos c2]
      by_cases c3 : gat b' n (sk b n (sk b n (p + 1) + 1)) = 33 ∨ gat b' n (sk b n (sk b n (p + 1) + 1)) = 40
      · simp only [if_pos c3]
        have h := condC hb 6 _ hs2.2
        exact thenC h.1 h.2 (fun p' os' hp' => tailC hb p' os' hp')
      · simp only [if_neg c3]
        have h := sumC hb 6 _ hs2.2
        refine thenC h.1 h.2 (fun p' os' hp' => ?_)
        by_cases c4 : gSign (gat b' n p')
        · simp only [if_pos c4]
          have h2 := condGC hb 6 p' os' hp'
          exact thenC h2.1 h2.2 (fun p2 o2 hp2 => tailC hb p2 o2 hp2)
        · simp only [if_neg c4]
          exact ⟨trivial, inr_nn hp'⟩
    · simp only [if_neg c2]
      exact ⟨trivial, inl_nn⟩
  · simp only [if_neg c1]
    exact ⟨trivial, inl_nn⟩
theorem goerC (hb : ∀ i, 0 ≤ i → i < n → b i = b' i) : ∀ (f : Nat) (p : Int) (os : List Int), 0 ≤ p → gGoer b n f p os = gGoer b' n f p os ∧ ∀ x, gGoer b n f p os = .inr x → 0 ≤ x.1 := by
  intro f
  induction f with
  | zero => intro p os hp; exact ⟨rfl, inl_nn⟩
  | succ f ih =>
    intro p os hp
    have h := clauseC hb (m := os.length) p hp
    rw [gGoer, gGoer, gat_c hb]
    refine thenC h.1 h.2 (fun p' o hp' => ?_)
    have hs := sk_c hb (p' + 1) (by omega)
    rw [← hs.1]
    by_cases c1 : n ≤ p'
    · simp only [if_pos c1]
      exact ⟨trivial, inr_nn hp'⟩
    · simp only [if_neg c1]
      by_cases c2 : gat b' n p' = 59
      · simp only [if_pos c2]
        exact ih _ _ hs.2
      · simp only [if_neg c2]
        exact ⟨trivial, inl_nn⟩
theorem gText_cong (hb : ∀ i, 0 ≤ i → i < n → b i = b' i) : gText b n = gText b' n := by
  have hs := sk_c hb 0 (Int.le_refl 0)
  unfold gText
  rw [← hs.1]
  exact (goerC hb 120 _ _ hs.2).1
theorem bkM_cong (hb : ∀ i, 0 ≤ i → i < n → b i = b' i) {p : Int} (hp : 0 ≤ p) : bkM b n p = bkM b' n p ∧ 0 ≤ (bkM b n p).2 := by
  unfold bkM
  rw [gat_c hb]
  by_cases c : gDig (gat b' n (p + 1))
  · simp only [if_pos c]
    exact ⟨trivial, by omega⟩
  · simp only [if_neg c]
    exact ⟨trivial, by omega⟩
theorem bkL_cong (hb : ∀ i, 0 ≤ i → i < n → b i = b' i) {tw : Int} : ∀ (f : Nat) (p : Int) (st to : List Int), 0 ≤ p → bkL b n tw f p st to = bkL b' n tw f p st to := by
  intro f
  induction f with
  | zero => intro p st to _; rfl
  | succ f ih =>
    intro p st to hp
    have hm := bkM_cong hb hp
    have hs := sk_c hb _ hm.2
    have hs2 := sk_c hb (sk b n (bkM b n p).2 + 1) (by omega)
    rw [bkL, bkL, ← hm.1, ← hs.1, ← hs2.1]
    unfold bkT
    rw [gat_c hb, ih _ _ _ hs2.2]
theorem bk_cong (hb : ∀ i, 0 ≤ i → i < n → b i = b' i) {tw : Int} : bk b n tw = bk b' n tw := by
  have hs := sk_c hb 0 (Int.le_refl 0)
  have hs2 := sk_c hb (sk b n 0 + 1) (by omega)
  unfold bk bkT
  rw [← hs.1, ← hs2.1, gat_c hb, bkL_cong hb _ _ _ _ hs2.2]
end GC
