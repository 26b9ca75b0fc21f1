/-! goers' texts: what the orders work out, pure -/
def gJoin (s a b : Int) : Int := if s = 38 then kland a b else if s = 42 then klmul a b else if s = 43 then kladd a b else if s = 45 then klsub a b else if s = 47 then (if b = 0 then 0 else kldiv a b) else if s = 60 then (if a < b then 1 else 0) else if s = 61 then (if a = b then 1 else 0) else if s = 62 then (if b < a then 1 else 0) else klor a b
def gBd (v : Int) : Int := max (-1000000) (min 1000000 v)
theorem gBd_b {v : Int} : -1000000 ≤ gBd v ∧ gBd v ≤ 1000000 := by unfold gBd; omega
def gNot : List Int → List Int
  | a :: t => (1 - a) :: t
  | [] => []
def gBin (s : Int) : List Int → List Int
  | c :: a :: t => gBd (gJoin s a c) :: t
  | t => t
def gStep (L : Int → Int) (o : Int) (st : List Int) : List Int :=
  if o < 10000 then o :: st else if o < 10008 then L (o - 10000) :: st else if o = 20033 then gNot st else gBin (o - 20000) st
def gEv (L : Int → Int) : List Int → List Int → List Int
  | [], st => st
  | o :: os, st => gEv L os (gStep L o st)
theorem gEv_app {L : Int → Int} : ∀ {os os' st : List Int}, gEv L (os ++ os') st = gEv L os' (gEv L os st)
  | [], _, _ => rfl
  | _ :: os, _, _ => gEv_app (os := os)
def gVal (L : Int → Int) (os : List Int) (v : Int) : Prop := ∀ st, gEv L os st = v :: st
theorem gVal.uniq {L : Int → Int} {os : List Int} {v w : Int} (h : gVal L os v) (h' : gVal L os w) : v = w := by
  have := (h []).symm.trans (h' [])
  exact (List.cons.inj this).1
theorem gVal_bin {L : Int → Int} {os os' : List Int} {v w c : Int} (h : gVal L os v) (h' : gVal L os' w) (hc : 34 ≤ c) : gVal L (os ++ (os' ++ [20000 + c])) (gBd (gJoin c v w)) := by
  intro st
  rw [gEv_app, h st, gEv_app, h' (v :: st)]
  show gStep L (20000 + c) (w :: v :: st) = _
  unfold gStep
  rw [if_neg (by omega), if_neg (by omega), if_neg (by omega), show 20000 + c - 20000 = c by omega]
  rfl
theorem gVal_not {L : Int → Int} {os : List Int} {v : Int} (h : gVal L os v) : gVal L (os ++ [20033]) (1 - v) := by
  intro st
  rw [gEv_app, h st]
  rfl
theorem gVal_num {L : Int → Int} {o : Int} (h : o < 10000) : gVal L [o] o := by
  intro st
  show gStep L o st = _
  unfold gStep
  rw [if_pos h]
theorem gVal_let {L : Int → Int} {k : Int} (h : 0 ≤ k ∧ k ≤ 7) : gVal L [10000 + k] (L k) := by
  intro st
  show gStep L (10000 + k) st = _
  unfold gStep
  rw [if_neg (by omega), if_pos (by omega), show 10000 + k - 10000 = k by omega]
abbrev gBool (v : Int) : Prop := v = 0 ∨ v = 1
def gPr (L : Int → Int) (P : Int → Prop) (A : Int → gR) : Prop := ∀ p p' os, A p = .inr (p', os) → ∃ v, P v ∧ gVal L os v
theorem gChain_val {b : Int → Int} {n : Int} {A : Int → gR} {c1 c2 : Int} {L : Int → Int} {P : Int → Prop} (hc : 34 ≤ c1 ∧ 34 ≤ c2) (hA : gPr L P A) (hP : ∀ c v w, (c = c1 ∨ c = c2) → P v → P w → P (gBd (gJoin c v w))) : ∀ (f : Nat) (p : Int) (os : List Int) (v : Int), P v → gVal L os v → ∀ p' os', gChain b n A c1 c2 f p os = .inr (p', os') → ∃ v, P v ∧ gVal L os' v := by
  intro f
  induction f with
  | zero => intro p os v hv h p' os' e; cases e; exact ⟨v, hv, h⟩
  | succ f ih =>
    intro p os v hv h p' os' e
    unfold gChain at e
    by_cases c : gat b n p = c1 ∨ gat b n p = c2
    · rw [if_pos c] at e
      obtain ⟨p1, o1, e1, e2⟩ := gThen_r e
      obtain ⟨w, hw, hv1⟩ := hA _ _ _ e1
      exact ih p1 _ _ (hP _ v w c hv hw) (gVal_bin h hv1 (by omega)) p' os' e2
    · rw [if_neg c] at e
      cases e
      exact ⟨v, hv, h⟩
theorem gList_val {b : Int → Int} {n : Int} {A : Int → gR} {c1 c2 : Int} {L : Int → Int} {P : Int → Prop} (hc : 34 ≤ c1 ∧ 34 ≤ c2) (hA : gPr L P A) (hP : ∀ c v w, (c = c1 ∨ c = c2) → P v → P w → P (gBd (gJoin c v w))) : gPr L P (gList b n A c1 c2) := by
  intro p p' os e
  obtain ⟨p1, o1, e1, e2⟩ := gThen_r e
  obtain ⟨v, hv, h⟩ := hA _ _ _ e1
  exact gChain_val hc hA hP 120 p1 o1 v hv h p' os e2
theorem gNum_b {b : Int → Int} {n p : Int} (hd : gDig (gat b n p)) : 0 ≤ (gNum b n 4 p 0).2 ∧ (gNum b n 4 p 0).2 < 10000 := by
  have hin := gat_in (b := b) (n := n) (p := p) rfl (by have := hd.1; omega)
  have h9 := gNum_facts (b := b) (n := n) 4 p 0 hin.1 (by omega) (Int.le_refl 0)
  have := h9.2.2
  simp only [Int.zero_add, Int.one_mul] at this
  omega
def gPrO (L : Int → Int) (P : Int → Prop) : Option (Int → gR) → Prop
  | none => True
  | some S => gPr L P S
theorem gAtom_val {b : Int → Int} {n : Int} {S : Option (Int → gR)} {L : Int → Int} (hS : gPrO L (fun _ => True) S) : gPr L (fun _ => True) (gAtom b n S) := by
  intro p p' os e
  unfold gAtom at e
  by_cases c1 : gat b n p = 91
  · rw [if_pos c1] at e
    cases S with
    | none => cases e
    | some S =>
      obtain ⟨p1, o1, e1, e2⟩ := gThen_r e
      split at e2
      · cases e2
        exact hS _ _ _ e1
      · cases e2
  · rw [if_neg c1] at e
    by_cases c2 : gDig (gat b n p)
    · rw [if_pos c2] at e
      cases e
      exact ⟨_, trivial, gVal_num (gNum_b c2).2⟩
    · rw [if_neg c2] at e
      by_cases c3 : gLet (gat b n p) = -1
      · rw [if_pos c3] at e
        cases e
      · rw [if_neg c3] at e
        cases e
        exact ⟨_, trivial, gVal_let (gLet_b c3).1⟩
theorem gSumB_val {b : Int → Int} {n : Int} {S : Option (Int → gR)} {L : Int → Int} (hS : gPrO L (fun _ => True) S) : gPr L (fun _ => True) (gSumB b n S) :=
  gList_val (by decide) (gList_val (by decide) (gAtom_val hS) (fun _ _ _ _ _ _ => trivial)) (fun _ _ _ _ _ _ => trivial)
theorem gSub_val {b : Int → Int} {n : Int} {L : Int → Int} : ∀ k, gPrO L (fun _ => True) (gSub b n k) := by
  intro k
  induction k with
  | zero => trivial
  | succ k ih => exact gSumB_val ih
theorem gSum_val {b : Int → Int} {n : Int} {L : Int → Int} {k : Nat} : gPr L (fun _ => True) (gSum b n k) := gSumB_val (gSub_val k)
theorem gJoin_and {v w : Int} (hv : gBool v) (hw : gBool w) : gBd (gJoin 38 v w) = if v = 0 then 0 else w := by
  rcases hv with rfl | rfl <;> rcases hw with rfl | rfl <;> decide
theorem gJoin_or {v w : Int} (hv : gBool v) (hw : gBool w) : gBd (gJoin 124 v w) = if v = 0 then w else 1 := by
  rcases hv with rfl | rfl <;> rcases hw with rfl | rfl <;> decide
theorem gJoin_eq {v w : Int} : gBd (gJoin 61 v w) = if v = w then 1 else 0 := by
  show gBd (if v = w then 1 else 0) = _
  split <;> decide
theorem gJoin_lt {v w : Int} : gBd (gJoin 60 v w) = if v < w then 1 else 0 := by
  show gBd (if v < w then 1 else 0) = _
  split <;> decide
theorem gJoin_gt {v w : Int} : gBd (gJoin 62 v w) = if w < v then 1 else 0 := by
  show gBd (if w < v then 1 else 0) = _
  split <;> decide
theorem gJoin_sign {c v w : Int} (h : gSign c) : gBool (gBd (gJoin c v w)) := by
  rcases h with rfl | rfl | rfl
  · rw [gJoin_eq]; split
    · exact Or.inr rfl
    · exact Or.inl rfl
  · rw [gJoin_lt]; split
    · exact Or.inr rfl
    · exact Or.inl rfl
  · rw [gJoin_gt]; split
    · exact Or.inr rfl
    · exact Or.inl rfl
theorem gComp_val {b : Int → Int} {n : Int} {Sm : Int → gR} {L : Int → Int} (hS : gPr L (fun _ => True) Sm) {p p' v : Int} {os os' : List Int} (h : gVal L os v) (e : gComp b n Sm p os = .inr (p', os')) : ∃ w, gBool w ∧ gVal L os' w := by
  unfold gComp at e
  by_cases c : gSign (gat b n p)
  · rw [if_pos c] at e
    obtain ⟨p1, o1, e1, e2⟩ := gThen_r e
    obtain ⟨w, _, hw⟩ := hS _ _ _ e1
    cases e2
    exact ⟨_, gJoin_sign c, gVal_bin h hw (by omega)⟩
  · rw [if_neg c] at e
    cases e
def gPrU (L : Int → Int) : Option ((Int → gR) × (Int → gR)) → Prop
  | none => True
  | some U => gPr L gBool U.1 ∧ gPr L gBool U.2
theorem gUnit_val {b : Int → Int} {n : Int} {Sm : Int → gR} {D : Option ((Int → gR) × (Int → gR))} {L : Int → Int} (hS : gPr L (fun _ => True) Sm) (hD : gPrU L D) : gPr L gBool (gUnit b n Sm D) := by
  intro p p' os e
  unfold gUnit at e
  by_cases c1 : gat b n p = 33
  · rw [if_pos c1] at e
    cases D with
    | none => cases e
    | some U =>
      obtain ⟨p1, o1, e1, e2⟩ := gThen_r e
      obtain ⟨w, hb, hw⟩ := hD.1 _ _ _ e1
      cases e2
      exact ⟨1 - w, by rcases hb with rfl | rfl; exact Or.inr rfl; exact Or.inl rfl, gVal_not hw⟩
  · rw [if_neg c1] at e
    by_cases c2 : gat b n p = 40
    · rw [if_pos c2] at e
      cases D with
      | none => cases e
      | some U =>
        obtain ⟨p1, o1, e1, e2⟩ := gThen_r e
        split at e2
        · cases e2
          exact hD.2 _ _ _ e1
        · cases e2
    · rw [if_neg c2] at e
      obtain ⟨p1, o1, e1, e2⟩ := gThen_r e
      obtain ⟨w, _, hw⟩ := hS _ _ _ e1
      exact gComp_val hS hw e2
theorem gTru_val {b : Int → Int} {n : Int} {U : Int → gR} {L : Int → Int} (hU : gPr L gBool U) : gPr L gBool (gList b n U 38 38) :=
  gList_val (by decide) hU (fun c v w hc hv hw => by
    rw [show c = 38 by omega, gJoin_and hv hw]
    split
    · exact Or.inl rfl
    · exact hw)
theorem gOr_ok {c v w : Int} (hc : c = 124 ∨ c = 124) (hv : gBool v) (hw : gBool w) : gBool (gBd (gJoin c v w)) := by
  rw [show c = 124 by omega, gJoin_or hv hw]
  split
  · exact hw
  · exact Or.inr rfl
theorem gAnd_ok {c v w : Int} (hc : c = 38 ∨ c = 38) (hv : gBool v) (hw : gBool w) : gBool (gBd (gJoin c v w)) := by
  rw [show c = 38 by omega, gJoin_and hv hw]
  split
  · exact Or.inl rfl
  · exact hw
theorem gCondB_val {b : Int → Int} {n : Int} {U : Int → gR} {L : Int → Int} (hU : gPr L gBool U) : gPr L gBool (gCondB b n U) :=
  gList_val (by decide) (gTru_val hU) (fun _ _ _ hc hv hw => gOr_ok hc hv hw)
theorem gUD_val {b : Int → Int} {n : Int} {L : Int → Int} : ∀ k, gPrU L (gUD b n k) := by
  intro k
  induction k with
  | zero => trivial
  | succ k ih => exact ⟨gUnit_val gSum_val ih, gCondB_val (gUnit_val gSum_val ih)⟩
theorem gUn_val {b : Int → Int} {n : Int} {L : Int → Int} {k : Nat} : gPr L gBool (gUn b n k) := gUnit_val gSum_val (gUD_val k)
theorem gCond_val {b : Int → Int} {n : Int} {L : Int → Int} {k : Nat} : gPr L gBool (gCond b n k) := gCondB_val gUn_val
theorem gCondG_val {b : Int → Int} {n : Int} {L : Int → Int} {k : Nat} {p p' v : Int} {os os' : List Int} (h : gVal L os v) (e : gCondG b n k p os = .inr (p', os')) : ∃ w, gBool w ∧ gVal L os' w := by
  obtain ⟨p2, o2, e2, e3⟩ := gThen_r e
  obtain ⟨p1, o1, e1, e4⟩ := gThen_r e2
  obtain ⟨w, hb, hw⟩ := gComp_val gSum_val h e1
  obtain ⟨w2, hb2, hw2⟩ := gChain_val (by decide) gUn_val (fun _ _ _ hc hv hw => gAnd_ok hc hv hw) 120 p1 o1 w hb hw _ _ e4
  exact gChain_val (by decide) (gTru_val gUn_val) (fun _ _ _ hc hv hw => gOr_ok hc hv hw) 120 p2 o2 w2 hb2 hw2 _ _ e3
/-! the worth of a text -/
def gVof (L : Int → Int) (os : List Int) : Int := (gEv L os []).headD 0
theorem gVof_val {L : Int → Int} {os : List Int} {v : Int} (h : gVal L os v) : gVof L os = v := by
  unfold gVof
  rw [h []]
  rfl
def gRun (r : gR) (k : Int → List Int → Int) : Int := match r with | .inl _ => 0 | .inr x => k x.1 x.2
def gTailV (b : Int → Int) (n : Int) (L : Int → Int) (nx : Int → Int) (p : Int) (o : List Int) : Int := gRun (gSum b n 6 (sk b n (p + 1))) (fun p' o' => if gVof L o = 0 then nx p' else gVof L o')
def gGoV (b : Int → Int) (n : Int) (L : Int → Int) : Nat → Int → Int
  | 0, _ => 0
  | f + 1, p =>
    if gat b n (sk b n (sk b n (p + 1) + 1)) = 33 ∨ gat b n (sk b n (sk b n (p + 1) + 1)) = 40 then gRun (gCond b n 6 (sk b n (sk b n (p + 1) + 1))) (gTailV b n L (fun p' => if n ≤ p' then 0 else gGoV b n L f (sk b n (p' + 1))))
    else gRun (gSum b n 6 (sk b n (sk b n (p + 1) + 1))) (fun p3 o1 => if gSign (gat b n p3) then gRun (gCondG b n 6 p3 o1) (gTailV b n L (fun p' => if n ≤ p' then 0 else gGoV b n L f (sk b n (p' + 1)))) else gVof L o1)
def gWorth (b : Int → Int) (n : Int) (L : Int → Int) : Int := gGoV b n L 120 (sk b n 0)
