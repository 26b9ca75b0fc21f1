/-! Goer: worth of a whole text -/
theorem clause_split {b : Int → Int} {n m p p' : Int} {o : List Int} (p0 : 0 ≤ p) (e : gClause b n m p = .inr (p', o)) :
    (∃ o1, o = o1 ++ [40000] ∧ (∀ x ∈ o1, okO x) ∧ ∀ L, (∃ v, gVal L o1 v) ∧ ∀ f, gGoV b n L (f + 1) p = gVof L o1) ∨
    (∃ oc o', o = oc ++ (30000 + (m + oc.length + o'.length + 2)) :: (o' ++ [40000]) ∧ ((∀ x ∈ oc, okO x) ∧ ∀ x ∈ o', okO x) ∧ ∀ L, (∃ v, gBool v ∧ gVal L oc v) ∧ (∃ v, gVal L o' v) ∧ ∀ f, gGoV b n L (f + 1) p = if gVof L oc = 0 then (if n ≤ p' then 0 else gGoV b n L f (sk b n (p' + 1))) else gVof L o') := by
  have tl : ∀ {p3 : Int} {oc : List Int}, 0 ≤ p3 → gTail b n m p3 oc = .inr (p', o) → ∃ o', o = oc ++ (30000 + (m + oc.length + o'.length + 2)) :: (o' ++ [40000]) ∧ (∀ x ∈ o', okO x) ∧ ∀ L, (∃ v, gVal L o' v) ∧ ∀ nx, gTailV b n L nx p3 oc = if gVof L oc = 0 then nx p' else gVof L o' := by
    intro p3 oc p30 e3
    unfold gTail at e3
    by_cases c : gat b n p3 = 63
    · rw [if_pos c] at e3
      have hin := gat_in c (by decide)
      have hk := sk_next (b := b) p30 hin.2
      obtain ⟨p1, o1, e1, e2⟩ := gThen_r e3
      have h2 := (gSum_adv (b := b) (n := n) (k := 6) _ (by omega) hk.2.1 hk.2.2).2 p1 o1 e1
      cases e2
      refine ⟨o1, rfl, h2.2.2, fun L => ⟨?_, fun nx => ?_⟩⟩
      · obtain ⟨v, _, hv⟩ := gSum_val (L := L) _ _ _ e1
        exact ⟨v, hv⟩
      · unfold gTailV
        rw [e1]
        rfl
    · rw [if_neg c] at e3
      cases e3
  unfold gClause at e
  by_cases c1 : gat b n p = 121
  · rw [if_pos c1] at e
    have hin := gat_in c1 (by decide)
    have hk := sk_next (b := b) p0 hin.2
    by_cases c2 : gat b n (sk b n (p + 1)) = 58
    · rw [if_pos c2] at e
      have hin2 := gat_in c2 (by decide)
      have hk2 := sk_next (b := b) (p := sk b n (p + 1)) (by omega) hin2.2
      by_cases c3 : gat b n (sk b n (sk b n (p + 1) + 1)) = 33 ∨ gat b n (sk b n (sk b n (p + 1) + 1)) = 40
      · rw [if_pos c3] at e
        obtain ⟨p3, oc, e1, e2⟩ := gThen_r e
        have h2 := (gCond_adv (b := b) (n := n) (k := 6) _ (by omega) hk2.2.1 hk2.2.2).2 p3 oc e1
        obtain ⟨o', t1, t2, t3⟩ := tl (by omega) e2
        refine Or.inr ⟨oc, o', t1, ⟨h2.2.2, t2⟩, fun L => ⟨gCond_val _ _ _ e1, (t3 L).1, fun f => ?_⟩⟩
        rw [gGoV, if_pos c3, e1]
        exact (t3 L).2 (fun p' => if n ≤ p' then 0 else gGoV b n L f (sk b n (p' + 1)))
      · rw [if_neg c3] at e
        obtain ⟨p3, o3, e1, e2⟩ := gThen_r e
        have h2 := (gSum_adv (b := b) (n := n) (k := 6) _ (by omega) hk2.2.1 hk2.2.2).2 p3 o3 e1
        by_cases c4 : gSign (gat b n p3)
        · rw [if_pos c4] at e2
          obtain ⟨p4, oc, e3, e4⟩ := gThen_r e2
          have h3 := gCondG_adv (by omega) h2.1.2.1 h2.2.2 e3
          obtain ⟨o', t1, t2, t3⟩ := tl (by omega) e4
          refine Or.inr ⟨oc, o', t1, ⟨h3.2.2, t2⟩, fun L => ⟨?_, (t3 L).1, fun f => ?_⟩⟩
          · obtain ⟨v, _, hv⟩ := gSum_val (L := L) _ _ _ e1
            exact gCondG_val hv e3
          · rw [gGoV, if_neg c3, e1]
            show (if _ then _ else _) = _
            rw [if_pos c4, e3]
            exact (t3 L).2 (fun p' => if n ≤ p' then 0 else gGoV b n L f (sk b n (p' + 1)))
        · rw [if_neg c4] at e2
          cases e2
          refine Or.inl ⟨o3, rfl, h2.2.2, fun L => ⟨?_, fun f => ?_⟩⟩
          · obtain ⟨v, _, hv⟩ := gSum_val (L := L) _ _ _ e1
            exact ⟨v, hv⟩
          · rw [gGoV, if_neg c3, e1]
            show (if _ then _ else _) = _
            rw [if_neg c4]
    · rw [if_neg c2] at e
      cases e
  · rw [if_neg c1] at e
    cases e
theorem gGoer_pre {b : Int → Int} {n : Int} : ∀ (f : Nat) (p : Int) (os : List Int) (x : Int × List Int), gGoer b n f p os = .inr x → ∃ t, x.2 = os ++ t := by
  intro f
  induction f with
  | zero => intro p os x e; cases e
  | succ f ih =>
    intro p os x e
    unfold gGoer at e
    obtain ⟨p', o, e1, e2⟩ := gThen_r e
    split at e2
    · cases e2
      exact ⟨o, rfl⟩
    · split at e2
      · obtain ⟨t, ht⟩ := ih _ _ _ e2
        exact ⟨o ++ t, by rw [ht, List.append_assoc]⟩
      · cases e2
theorem seg_sub {f : Int → Int} {N : Int} {A B C : List Int} (h : seg f 0 N = A ++ (B ++ C)) : seg f A.length B.length = B := by
  have hl := congrArg List.length h
  rw [seg_len] at hl
  simp only [List.length_append] at hl
  by_cases h0 : N < 0
  · have hB : B = [] := List.eq_nil_of_length_eq_zero (by omega)
    subst hB
    exact seg_nil (Int.le_refl 0)
  have hN : N = A.length + (B.length + C.length) := by omega
  rw [hN, seg_app (by omega) (by omega), seg_app (b := 0 + (A.length : Int)) (by omega) (by omega)] at h
  have h1 := (List.append_inj h (by rw [seg_len]; omega)).2
  have h2 := (List.append_inj h1 (by rw [seg_len]; omega)).1
  rwa [Int.zero_add] at h2
theorem seg_one {f : Int → Int} {N x : Int} {A C : List Int} (h : seg f 0 N = A ++ x :: C) : f A.length = x := by
  have h1 := seg_sub (B := [x]) (C := C) h
  rw [List.length_singleton, seg_cons (by decide)] at h1
  exact (List.cons.inj h1).1
theorem worth_ends {d : Nat} {σ s : kS} {g i v : Int} {Q : Int → kS → Prop} (hg : 0 ≤ g ∧ g < 6) (hs : WS σ s (97 + 4 * g) [v]) (hi : 0 ≤ i ∧ i < σ (97 + 4 * g) 2) (hsz : σ (97 + 4 * g) 2 ≤ 120) (ho : σ (97 + 4 * g + 1) i = 40000) (h : Q v s) : LX3_worth_4 d kN Q (97 + 4 * g) 34 1 i s := by
  obtain ⟨g1, ⟨g2, g3, g4⟩, ⟨g5, g6⟩, ⟨g7, g8⟩, g9⟩ := goer_f hs.2.1 hg
  have k34 := kl_34
  have es1 : s (97 + 4 * g) = σ (97 + 4 * g) := hs.1 _ (by simp only [List.mem_singleton]; omega)
  have es2 : s (97 + 4 * g + 1) = σ (97 + 4 * g + 1) := hs.1 _ (by simp only [List.mem_singleton]; omega)
  have p1 := (stk_pop hs.2.2).2
  refine SX3_worth_4 ?_
  rw [g2, g3, es1, es2, k34, ho]
  refine ⟨g1, fun e => by omega, fun _ => ⟨g7, fun e => by omega, fun _ => ⟨g5, by omega, fun _ => ⟨a_34, by omega, fun _ => ⟨fun e => absurd rfl e, fun _ => ⟨fun e => by omega, fun _ => ⟨by omega, by omega, ?_⟩⟩⟩, fun e => by omega⟩, fun e => by omega⟩⟩⟩
  rw [show ((1 : Int) - 1) = (([] : List Int).length : Int) by rfl, p1]
  exact h
theorem worth_skip {d : Nat} (hd : 1 ≤ d) {σ s : kS} {g i v to : Int} {Q : Int → kS → Prop} (hg : 0 ≤ g ∧ g < 6) (hs : WS σ s (97 + 4 * g) [v]) (hi : 0 ≤ i ∧ i < σ (97 + 4 * g) 2) (hsz : σ (97 + 4 * g) 2 ≤ 120) (ho : σ (97 + 4 * g + 1) i = 30000 + to) (hto : i < to ∧ to ≤ 120) (h1 : v ≠ 0 → LX3_worth_4 d kN Q (97 + 4 * g) 34 0 (i + 1) s) (h0 : v = 0 → LX3_worth_4 d kN Q (97 + 4 * g) 34 0 to s) : LX3_worth_4 d kN Q (97 + 4 * g) 34 1 i s := by
  obtain ⟨g1, ⟨g2, g3, g4⟩, ⟨g5, g6⟩, ⟨g7, g8⟩, g9⟩ := goer_f hs.2.1 hg
  have k34 := kl_34
  have es1 : s (97 + 4 * g) = σ (97 + 4 * g) := hs.1 _ (by simp only [List.mem_singleton]; omega)
  have es2 : s (97 + 4 * g + 1) = σ (97 + 4 * g + 1) := hs.1 _ (by simp only [List.mem_singleton]; omega)
  have p1 := (stk_pop hs.2.2).2
  refine SX3_worth_4 ?_
  rw [g2, g3, es1, es2, k34, ho]
  refine ⟨g1, fun e => by omega, fun _ => ⟨g7, fun e => by omega, fun _ => ⟨g5, by omega, fun _ => ⟨a_34, by omega, fun _ => ⟨fun _ => ⟨fun e => by omega, fun _ => ⟨by omega, J_max (by omega) ?_⟩⟩, fun e => by omega⟩, fun e => by omega⟩, fun e => by omega⟩⟩⟩
  rw [g3]
  have e0 : max ((1 : Int) - 1) 0 = 0 := by decide
  rw [e0]
  have p2 : s (97 + 4 * g + 2) 0 = v := p1
  rw [p2]
  refine ⟨g7, by omega, fun c => ⟨by omega, h1 c⟩, fun c => ⟨by omega, by omega, J_max (by omega) ⟨by omega, ?_⟩⟩⟩
  rw [show max i (30000 + to - 30000 - 1) + 1 = to by omega]
  exact h0 (Classical.not_not.mp c)
theorem goer_run {d : Nat} (hd : 1 ≤ d) {σ : kS} {g : Int} {Q : Int → kS → Prop} (hg : 0 ≤ g ∧ g < 6) (hsz : 0 ≤ σ (97 + 4 * g) 2 ∧ σ (97 + 4 * g) 2 ≤ 120) (h34 : ∀ k, 0 ≤ k → k < 8 → -1000000 ≤ σ 34 k ∧ σ 34 k ≤ 1000000) {b : Int → Int} {n : Int} {pE : Int} : ∀ (f : Nat) (p : Int) (os : List Int), 0 ≤ p → gGoer b n f p os = .inr (pE, seg (σ (97 + 4 * g + 1)) 0 (σ (97 + 4 * g) 2)) → ∀ s, off [97 + 4 * g + 2] σ s → Lay s → (∀ s', off [97 + 4 * g + 2] σ s' → Lay s' → Q (gGoV b n (σ 34) f p) s') → LX3_worth_4 d kN Q (97 + 4 * g) 34 0 os.length s := by
  intro f
  induction f with
  | zero => intro p os p0 e; cases e
  | succ f ih =>
    intro p os p0 e s ho hLs h
    unfold gGoer at e
    obtain ⟨p', o, e1, e2⟩ := gThen_r e
    have hcl := gClause_adv p0 e1
    have hW0 : ∀ s, off [97 + 4 * g + 2] σ s → Lay s → WS σ s (97 + 4 * g) [] := fun s h1 h2 => ⟨h1, h2, seg_nil (Int.le_refl 0)⟩
    have hO : ∃ t, seg (σ (97 + 4 * g + 1)) 0 (σ (97 + 4 * g) 2) = (os ++ o) ++ t := by
      split at e2
      · have := congrArg (fun r : gR => match r with | .inl _ => [] | .inr x => x.2) e2
        exact ⟨[], by rw [List.append_nil]; exact this.symm⟩
      · split at e2
        · exact gGoer_pre _ _ _ _ e2
        · cases e2
    obtain ⟨t, hO⟩ := hO
    have hlen : σ (97 + 4 * g) 2 = os.length + o.length + t.length := by
      have := congrArg List.length hO
      rw [seg_len] at this
      simp only [List.length_append] at this
      omega
    rcases clause_split p0 e1 with ⟨o1, t1, t2, t3⟩ | ⟨oc, o', t1, ⟨t2, t2'⟩, t3⟩
    · obtain ⟨⟨v, hv⟩, t4⟩ := t3 (σ 34)
      rw [t4 f, gVof_val hv] at h
      subst t1
      have hlo : (((o1 ++ [40000]).length : Nat) : Int) = o1.length + 1 := by simp only [List.length_append, List.length_singleton]; omega
      have hO1 : seg (σ (97 + 4 * g + 1)) 0 (σ (97 + 4 * g) 2) = os ++ (o1 ++ (40000 :: t)) := by rw [hO]; simp
      refine worth_seg hd hg hsz.2 h34 o1 os.length s [] t2 (seg_sub hO1) (by omega) (by omega) (hW0 s ho hLs) (by simp only [List.length_nil]; omega) (fun a ha => by cases ha) (fun s1 hs1 hl1 hb1 => ?_)
      rw [hv []] at hs1 ⊢
      refine worth_ends hg hs1 ⟨by omega, by omega⟩ hsz.2 ?_ (h s1 hs1.1 hs1.2.1)
      have := seg_one (A := os ++ o1) (x := 40000) (C := t) (by rw [hO1]; simp)
      rw [← this]
      congr 1
      simp only [List.length_append]
      omega
    · obtain ⟨⟨v, hbv, hv⟩, ⟨v', hv'⟩, t4⟩ := t3 (σ 34)
      rw [t4 f, gVof_val hv, gVof_val hv'] at h
      have hlo : (o.length : Int) = oc.length + o'.length + 2 := by
        rw [t1]
        simp only [List.length_append, List.length_cons, List.length_nil]
        omega
      have hO1 : seg (σ (97 + 4 * g + 1)) 0 (σ (97 + 4 * g) 2) = os ++ (oc ++ ((30000 + ((os.length : Int) + oc.length + o'.length + 2)) :: (o' ++ (40000 :: t)))) := by rw [hO, t1]; simp
      have hO2 : seg (σ (97 + 4 * g + 1)) 0 (σ (97 + 4 * g) 2) = (os ++ oc) ++ ((30000 + ((os.length : Int) + oc.length + o'.length + 2)) :: (o' ++ (40000 :: t))) := by rw [hO1]; simp
      have hO3 : seg (σ (97 + 4 * g + 1)) 0 (σ (97 + 4 * g) 2) = ((os ++ oc) ++ [30000 + ((os.length : Int) + oc.length + o'.length + 2)]) ++ (o' ++ (40000 :: t)) := by rw [hO2]; simp
      have hO4 : seg (σ (97 + 4 * g + 1)) 0 (σ (97 + 4 * g) 2) = (((os ++ oc) ++ [30000 + ((os.length : Int) + oc.length + o'.length + 2)]) ++ o') ++ (40000 :: t) := by rw [hO3]; simp
      refine worth_seg hd hg hsz.2 h34 oc os.length s [] t2 (seg_sub hO1) (by omega) (by omega) (hW0 s ho hLs) (by simp only [List.length_nil]; omega) (fun a ha => by cases ha) (fun s1 hs1 hl1 hb1 => ?_)
      rw [hv []] at hs1 ⊢
      refine worth_skip hd hg hs1 ⟨by omega, by omega⟩ hsz.2 ?_ (to := (os.length : Int) + oc.length + o'.length + 2) ⟨by omega, by omega⟩ (fun c => ?_) (fun c => ?_)
      · have := seg_one hO2
        rw [← this]
        congr 1
        simp only [List.length_append]
        omega
      · rw [if_neg c] at h
        have h5 := seg_sub hO3
        have hla : ((((os ++ oc) ++ [30000 + ((os.length : Int) + oc.length + o'.length + 2)]).length : Nat) : Int) = os.length + oc.length + 1 := by simp only [List.length_append, List.length_singleton]; omega
        rw [hla] at h5
        refine worth_seg hd hg hsz.2 h34 o' _ s1 [] t2' h5 (by omega) (by omega) (hW0 s1 hs1.1 hs1.2.1) (by simp only [List.length_nil]; omega) (fun a ha => by cases ha) (fun s2 hs2 hl2 hb2 => ?_)
        rw [hv' []] at hs2 ⊢
        refine worth_ends hg hs2 ⟨by omega, by omega⟩ hsz.2 ?_ (h s2 hs2.1 hs2.2.1)
        have := seg_one hO4
        rw [← this]
        congr 1
        simp only [List.length_append, List.length_singleton]
        omega
      · rw [if_pos c] at h
        have e5 : ((os.length : Int) + oc.length + o'.length + 2) = ((os ++ o).length : Int) := by rw [List.length_append]; omega
        rw [e5]
        by_cases c5 : n ≤ p'
        · rw [if_pos c5] at e2 h
          have e6 : os ++ o = seg (σ (97 + 4 * g + 1)) 0 (σ (97 + 4 * g) 2) := congrArg (fun r : gR => match r with | .inl _ => [] | .inr x => x.2) e2
          have e7 : ((os ++ o).length : Int) = σ (97 + 4 * g) 2 := by rw [e6, seg_len]; omega
          obtain ⟨g1, ⟨g2, g3, g4⟩, ⟨g5, g6⟩, ⟨g7, g8⟩, g9⟩ := goer_f hs1.2.1 hg
          have es1 : s1 (97 + 4 * g) = σ (97 + 4 * g) := hs1.1 _ (by simp only [List.mem_singleton]; omega)
          refine SX3_worth_4 ⟨g1, fun _ => h s1 hs1.1 hs1.2.1, fun c => absurd ?_ c⟩
          rw [es1, e7]
          exact Int.le_refl _
        · rw [if_neg c5] at e2 h
          split at e2
          · rename_i c6
            have hin := gat_in c6 (by decide)
            have hk := sk_next (b := b) hin.1 hin.2
            exact ih _ (os ++ o) (by omega) e2 s1 hs1.1 hs1.2.1 h
          · cases e2
/-- worth, of a goer whose orders are a text's -/
theorem Goer_worth {d : Nat} (hd : 2 ≤ d) {σ : kS} {g : Int} {Q : Int → kS → Prop} (hL : Lay σ) (hg : 0 ≤ g ∧ g < 6) (hsz : 0 ≤ σ (97 + 4 * g) 2 ∧ σ (97 + 4 * g) 2 ≤ 120) (h34 : ∀ k, 0 ≤ k → k < 8 → -1000000 ≤ σ 34 k ∧ σ 34 k ≤ 1000000) {b : Int → Int} {n pE : Int} (hn : 0 ≤ n) (e : gText b n = .inr (pE, seg (σ (97 + 4 * g + 1)) 0 (σ (97 + 4 * g) 2))) (h : ∀ s', off [97 + 4 * g + 2] σ s' → Lay s' → Q (gWorth b n (σ 34)) s') : Ci d MX3_worth [(2, 97 + 4 * g), (2, 34)] kN σ Q := by
  obtain ⟨d, rfl⟩ : ∃ e, d = e + 1 := ⟨d - 1, by omega⟩
  have hk := sk_facts (b := b) 0 hn
  exact EX3_worth fun _ => SX3_worth_0 (goer_run (by omega) hg hsz h34 120 (sk b n 0) [] (by omega) e σ off.rfl' hL h)
