/-! the model: a clause, a whole goer -/
def MT (σ s : kS) (q ft dp hf fd : Int) : Prop := off [166] σ s ∧ (∀ j, j ≠ 18 → j ≠ 19 → j ≠ 20 → j ≠ 22 → j ≠ 25 → s 166 j = σ 166 j) ∧ Lay s ∧ s 166 18 = q ∧ s 166 19 = ft ∧ s 166 20 = dp ∧ s 166 25 = hf ∧ s 166 22 = fd
theorem MT.base {σ s : kS} {T B n q ft dp hf fd : Int} (hB : MB σ T B n) (h : MT σ s q ft dp hf fd) : MB s T B n ∧ MS s s q ft dp ∧ mby s T B = mby σ T B ∧ mL s = mL σ := by
  have hT := hB.2.2.2.2.2.2.1
  have e1 : s T = σ T := h.1 T (by simp only [List.mem_singleton]; exact hT)
  obtain ⟨h1, h2, h3, h4, h5, h6, h7, h8⟩ := h
  refine ⟨⟨h3, by rw [h2 12 (by decide) (by decide) (by decide) (by decide) (by decide)]; exact hB.2.1, ⟨by rw [h2 16 (by decide) (by decide) (by decide) (by decide) (by decide)]; exact hB.2.2.1.1, by rw [h2 17 (by decide) (by decide) (by decide) (by decide) (by decide)]; exact hB.2.2.1.2⟩, hB.2.2.2.1, hB.2.2.2.2.1, hB.2.2.2.2.2.1, hT, by rw [e1]; exact hB.2.2.2.2.2.2.2⟩, ⟨off.rfl', fun _ _ _ _ => rfl, h3, h4, h5, h6⟩, ?_, ?_⟩
  · funext i
    unfold mby
    rw [e1]
  · funext k
    unfold mL
    rw [h1 172 (by decide)]
theorem MT.on {σ s s' : kS} {q ft dp hf fd q' ft' dp' : Int} (h : MT σ s q ft dp hf fd) (h' : MS s s' q' ft' dp') : MT σ s' q' ft' dp' hf fd := by
  obtain ⟨h1, h2, h3, h4, h5, h6, h7, h8⟩ := h
  obtain ⟨k1, k2, k3, k4, k5, k6⟩ := h'
  exact ⟨h1.trans k1, fun j j1 j2 j3 j4 j5 => (k2 j j1 j2 j3).trans (h2 j j1 j2 j3 j4 j5), k3, k4, k5, k6, by rw [k2 25 (by decide) (by decide) (by decide)]; exact h7, by rw [k2 22 (by decide) (by decide) (by decide)]; exact h8⟩
/-- what a clause leaves: it counts (c) with a value v -/
def MC (σ : kS) (q dp hf fd : Int) (Q : kS → Prop) (c v : Int) (q' : Int) : Prop := ∀ s', MT σ s' q' (-1) dp (if hf = 0 ∧ c ≠ 0 then 1 else hf) (if hf = 0 ∧ c ≠ 0 then v else fd) → Q s'
theorem mtail_part {d : Nat} (hd : 27 ≤ d) {σ s : kS} {T B n : Int} (hB : MB σ T B n) {q w hf fd : Int} {Q : kS → Prop} (h21 : σ 166 21 = 121) (hs : MT σ s q (-1) 0 hf fd) (q0 : 0 ≤ q) (qn : q ≤ n) {m : Int} {oc : List Int}
    (h1 : ∀ q' p' o o' v s', gTail (mby σ T B) n m (sk (mby σ T B) n q) oc = .inr (p', o) → gSum (mby σ T B) n 6 (sk (mby σ T B) n (sk (mby σ T B) n q + 1)) = .inr (p', o') → sk (mby σ T B) n q' = p' → (0 ≤ q' ∧ q' ≤ n) → gVal (mL σ) o' v → MT σ s' q' (-1) 0 (if hf = 0 ∧ w ≠ 0 then 1 else hf) (if hf = 0 ∧ w ≠ 0 then v else fd) → Q s')
    (h0 : ∀ q' pf dp' hf' fd' s', (gTail (mby σ T B) n m (sk (mby σ T B) n q) oc = .inl pf ∨ ∃ os, gTail (mby σ T B) n m (sk (mby σ T B) n q) oc = .inr (pf, os) ∧ gDig (gat (mby σ T B) n pf)) → 0 ≤ pf → MT σ s' q' pf dp' hf' fd' → Q s') :
    Ci d MX12_takes [(2, 166), (0, 63)] kN s (fun x8 s7 => (¬ x8 = 0 → Ci d MX12_sum [(2, 166)] kN s7 (fun x9 s8 => (¬ (s8 166 19) = (-1) → Q s8) ∧ (¬ (¬ (s8 166 19) = (-1)) → (¬ (s8 166 25) = 0 → Q s8) ∧ (¬ (¬ (s8 166 25) = 0) → (¬ 121 = (s8 166 21) → Q s8) ∧ (¬ (¬ 121 = (s8 166 21)) → (¬ w = 0 → ∀ s9, s9 = kst s8 166 25 1 → ∀ s10, s10 = kst s9 166 22 x9 → Q s10) ∧ (¬ (¬ w = 0) → Q s8)))))) ∧ (¬ (¬ x8 = 0) → Q s7)) := by
  obtain ⟨hBs, hMS, eb, eL⟩ := hs.base hB
  have hn := hB.2.2.2.2.1
  have hk := sk_facts (b := mby σ T B) q qn
  have hkk := sk_sk (b := mby σ T B) (n := n) (p := q) qn
  rw [← eb] at h1 h0 hk hkk
  rw [← eL] at h1
  generalize hp : sk (mby s T B) n q = p at *
  refine M_takes (by omega) hBs (by decide) hMS q0 qn (fun _ c s7 hs7 => ⟨fun _ => ?_, fun e => by omega⟩) (fun _ c s7 hs7 => ⟨fun e => absurd rfl e, fun _ => ?_⟩) (fun e => absurd rfl e)
  · rw [hp] at c hs7
    have hin := gat_in c (by decide)
    have ht7 := hs.on hs7
    have hS := M_sum hBs 6 0 (by omega) (by omega) d (by omega)
    refine hS s7 (p + 1) _ hs7 (by omega) (by omega) ⟨fun s8 q8 p8 o8 v e8 k8 hv _ hs8 q80 q8n => ?_, fun s8 q8 pf dp8 v e8 pf0 _ hs8 hq8 d1 d2 => ?_⟩
    · have ht8 := hs.on hs8
      have hT : gTail (mby s T B) n m p oc = .inr (p8, oc ++ (30000 + (m + oc.length + o8.length + 2)) :: (o8 ++ [40000])) := by
        unfold gTail
        rw [if_pos c, e8]
        rfl
      show (¬ s8 166 19 = -1 → _) ∧ (¬ ¬ s8 166 19 = -1 → _)
      rw [ht8.2.2.2.2.1, ht8.2.2.2.2.2.2.1, ht8.2.1 21 (by decide) (by decide) (by decide) (by decide) (by decide), h21]
      refine ⟨fun e => absurd rfl e, fun _ => ⟨fun c2 => ?_, fun c2 => ⟨fun e => absurd rfl e, fun _ => ⟨fun c3 s9 e9 s10 e10 => ?_, fun c3 => ?_⟩⟩⟩⟩
      · have := h1 q8 p8 _ o8 v s8 hT e8 k8 ⟨q80, q8n⟩ hv
        rw [if_neg (fun z => c2 z.1), if_neg (fun z => c2 z.1)] at this
        exact this ht8
      · have := h1 q8 p8 _ o8 v s10 hT e8 k8 ⟨q80, q8n⟩ hv
        rw [if_pos ⟨Classical.not_not.mp c2, c3⟩, if_pos ⟨Classical.not_not.mp c2, c3⟩] at this
        refine this ?_
        rw [e10, e9]
        obtain ⟨g1, g2, g3, g4, g5, g6, g7, g8⟩ := ht8
        refine ⟨(g1.kst (by decide)).kst (by decide), fun j j1 j2 j3 j4 j5 => by rw [kst_kj j4, kst_kj j5]; exact g2 j j1 j2 j3 j4 j5, (g3.kstO 25 o_166 (by decide)).kstO 22 o_166 (by decide), ?_, ?_, ?_, ?_, kst_eq⟩
        · rw [kst_kj (by decide), kst_kj (by decide)]; exact g4
        · rw [kst_kj (by decide), kst_kj (by decide)]; exact g5
        · rw [kst_kj (by decide), kst_kj (by decide)]; exact g6
        · rw [kst_kj (by decide), kst_eq]
      · have := h1 q8 p8 _ o8 v s8 hT e8 k8 ⟨q80, q8n⟩ hv
        rw [if_neg (fun z => c3 z.2), if_neg (fun z => c3 z.2)] at this
        exact this ht8
    · have ht8 := hs.on hs8
      show (¬ s8 166 19 = -1 → _) ∧ (¬ ¬ s8 166 19 = -1 → _)
      rw [ht8.2.2.2.2.1]
      refine ⟨fun _ => h0 q8 pf dp8 _ _ s8 ?_ pf0 ht8, fun e => by omega⟩
      unfold gTail
      rw [if_pos c]
      rcases e8 with e8 | ⟨o8, e8, hdg⟩
      · exact Or.inl (by rw [e8]; rfl)
      · exact Or.inr ⟨_, by rw [e8]; rfl, hdg⟩
  · rw [hp] at c hs7
    refine h0 p p 0 _ _ s7 (Or.inl ?_) (by omega) (hs.on hs7)
    unfold gTail
    rw [if_neg c]
theorem M_clause {d : Nat} (hd : 34 ≤ d) {σ s : kS} {T B n : Int} (hB : MB σ T B n) {q hf fd : Int} {Q : kS → Prop} (h21 : σ 166 21 = 121) (hs : MT σ s q (-1) 0 hf fd) (q0 : 0 ≤ q) (qn : q ≤ n) {m : Int}
    (h1 : ∀ (q' p' : Int) (o : List Int) (c v : Int) (s' : kS), gClause (mby σ T B) n m (sk (mby σ T B) n q) = .inr (p', o) → sk (mby σ T B) n q' = p' → (0 ≤ q' ∧ q' ≤ n) → (∀ f, gGoV (mby σ T B) n (mL σ) (f + 1) (sk (mby σ T B) n q) = if c = 0 then (if n ≤ p' then 0 else gGoV (mby σ T B) n (mL σ) f (sk (mby σ T B) n (p' + 1))) else v) → MT σ s' q' (-1) 0 (if hf = 0 ∧ c ≠ 0 then 1 else hf) (if hf = 0 ∧ c ≠ 0 then v else fd) → Q s')
    (h0 : ∀ q' pf dp' hf' fd' s', (gClause (mby σ T B) n m (sk (mby σ T B) n q) = .inl pf ∨ ∃ os, gClause (mby σ T B) n m (sk (mby σ T B) n q) = .inr (pf, os) ∧ gDig (gat (mby σ T B) n pf)) → 0 ≤ pf → MT σ s' q' pf dp' hf' fd' → Q s') : Cv d MX12_clause [(2, 166)] kN s Q := by
  obtain ⟨d, rfl⟩ : ∃ e, d = e + 1 := ⟨d - 1, by omega⟩
  obtain ⟨hBs, hMS, eb, eL⟩ := hs.base hB
  have hn := hB.2.2.2.2.1
  have hk := sk_facts (b := mby σ T B) q qn
  have hkk := sk_sk (b := mby σ T B) (n := n) (p := q) qn
  refine EX12_clause fun _ => SX12_clause_0 ⟨o_166, M_look (by omega) hBs hMS q0 qn (fun s1 hs1 => ?_)⟩
  rw [eb] at hs1 ⊢
  generalize hp : sk (mby σ T B) n q = p at *
  have ht1 := hs.on hs1
  unfold gClause at h1 h0
  refine M_isAmong (t := -5) (by omega) (Or.inl rfl) (fun c => ⟨fun _ => ?_, fun e => by omega⟩) (fun c => ⟨fun e => absurd rfl e, fun _ => ?_⟩)
  · have c : gat (mby σ T B) n p = 121 := c
    rw [if_pos c] at h1 h0
    rw [c]
    have hin := gat_in c (by decide)
    have hk1 := sk_next (b := mby σ T B) hin.1 hin.2
    rw [hs1.2.2.2.1]
    refine ⟨by omega, fun s3 e3 => ?_⟩
    have hs3 : MS s s3 (p + 1) (-1) 0 := by rw [e3]; exact hs1.at'
    have ht3 := hs.on hs3
    refine M_takes (by omega) hBs (by decide) hs3 (by omega) (by omega) (fun _ c2 s4 hs4 => ⟨fun _ => ?_, fun e => by omega⟩) (fun _ c2 s4 hs4 => ⟨fun e => absurd rfl e, fun _ => ?_⟩) (fun e => absurd rfl e)
    · rw [eb] at c2 hs4
      rw [if_pos c2] at h1 h0
      have hin2 := gat_in c2 (by decide)
      have hk2 := sk_next (b := mby σ T B) hin2.1 hin2.2
      refine M_look (by omega) hBs hs4 (by omega) (by omega) (fun s5 hs5 => ?_)
      rw [eb] at hs5 ⊢
      generalize hP2 : sk (mby σ T B) n (sk (mby σ T B) n (p + 1) + 1) = P2 at *
      have ht5 := hs.on hs5
      obtain ⟨hB5, hM5, eb5, eL5⟩ := ht5.base hB
      have hkP : sk (mby σ T B) n P2 = P2 := hk2.2.2
      have tail : ∀ (w : Int) (p3 q3 : Int) (oc : List Int) (s6 : kS), MT σ s6 q3 (-1) 0 hf fd → (0 ≤ q3 ∧ q3 ≤ n) → sk (mby σ T B) n q3 = p3 → gBool w → gVal (mL σ) oc w →
          (∀ pf, gTail (mby σ T B) n m p3 oc = .inl pf → gClause (mby σ T B) n m p = .inl pf) → (∀ x, gTail (mby σ T B) n m p3 oc = .inr x → gClause (mby σ T B) n m p = .inr x) → (∀ f, gGoV (mby σ T B) n (mL σ) (f + 1) p = gTailV (mby σ T B) n (mL σ) (fun p' => if n ≤ p' then 0 else gGoV (mby σ T B) n (mL σ) f (sk (mby σ T B) n (p' + 1))) p3 oc) →
          Ci d MX12_takes [(2, 166), (0, 63)] kN s6 (fun x8 s7 => (¬ x8 = 0 → Ci d MX12_sum [(2, 166)] kN s7 (fun x9 s8 => (¬ (s8 166 19) = (-1) → Q s8) ∧ (¬ (¬ (s8 166 19) = (-1)) → (¬ (s8 166 25) = 0 → Q s8) ∧ (¬ (¬ (s8 166 25) = 0) → (¬ 121 = (s8 166 21) → Q s8) ∧ (¬ (¬ 121 = (s8 166 21)) → (¬ w = 0 → ∀ s9, s9 = kst s8 166 25 1 → ∀ s10, s10 = kst s9 166 22 x9 → Q s10) ∧ (¬ (¬ w = 0) → Q s8)))))) ∧ (¬ (¬ x8 = 0) → Q s7)) := by
        intro w p3 q3 oc s6 ht6 hq3 k3 hwb hw g1 g2 g3
        refine mtail_part (by omega) hB h21 ht6 hq3.1 hq3.2 (m := m) (oc := oc) (fun q' p' o o' v s' t1 t2 t3 t4 t5 t6 => ?_) (fun q' pf dp' hf' fd' s' t1 t2 t3 => ?_)
        · rw [k3] at t1 t2
          have e9 := g2 _ t1
          unfold gClause at e9
          rw [if_pos c, if_pos c2, hP2] at e9
          refine h1 q' p' o w v s' e9 t3 t4 (fun f => ?_) t6
          rw [g3 f]
          unfold gTailV
          rw [t2]
          show (if gVof (mL σ) oc = 0 then _ else gVof (mL σ) o') = _
          rw [gVof_val hw, gVof_val t5]
        · rw [k3] at t1
          refine h0 q' pf dp' hf' fd' s' ?_ t2 t3
          rcases t1 with t1 | ⟨os, t1, hdg⟩
          · have e9 := g1 _ t1
            unfold gClause at e9
            rw [if_pos c, if_pos c2, hP2] at e9
            exact Or.inl e9
          · have e9 := g2 _ t1
            unfold gClause at e9
            rw [if_pos c, if_pos c2, hP2] at e9
            exact Or.inr ⟨os, e9, hdg⟩
      have failT : ∀ (pf : Int) (s6 : kS), pf ≠ -1 → s6 166 19 = pf → Q s6 → ∀ (w : Int), Ci d MX12_takes [(2, 166), (0, 63)] kN s6 (fun x8 s7 => (¬ x8 = 0 → Ci d MX12_sum [(2, 166)] kN s7 (fun x9 s8 => (¬ (s8 166 19) = (-1) → Q s8) ∧ (¬ (¬ (s8 166 19) = (-1)) → (¬ (s8 166 25) = 0 → Q s8) ∧ (¬ (¬ (s8 166 25) = 0) → (¬ 121 = (s8 166 21) → Q s8) ∧ (¬ (¬ 121 = (s8 166 21)) → (¬ w = 0 → ∀ s9, s9 = kst s8 166 25 1 → ∀ s10, s10 = kst s9 166 22 x9 → Q s10) ∧ (¬ (¬ w = 0) → Q s8)))))) ∧ (¬ (¬ x8 = 0) → Q s7)) := by
        intro pf s6 hpf h6 hQ w
        obtain ⟨e, rfl⟩ : ∃ e, d = e + 1 := ⟨d - 1, by omega⟩
        refine EX12_takes fun _ _ => SX12_takes_0 ⟨o_166, fun _ => EX12_fails_q (by omega) (by rw [h6]; exact hpf) ⟨Or.inl rfl, fun e => absurd rfl e, fun _ => hQ⟩, fun e => absurd h6 (by have := Classical.not_not.mp e; omega)⟩
      have cnd : (gat (mby σ T B) n P2 = 33 ∨ gat (mby σ T B) n P2 = 40) → Ci d MX12_condition [(2, 166), (0, 0), (0, 0)] kN s5 (fun x7 s6 => Ci d MX12_takes [(2, 166), (0, 63)] kN s6 (fun x8 s7 => (¬ x8 = 0 → Ci d MX12_sum [(2, 166)] kN s7 (fun x9 s8 => (¬ (s8 166 19) = (-1) → Q s8) ∧ (¬ (¬ (s8 166 19) = (-1)) → (¬ (s8 166 25) = 0 → Q s8) ∧ (¬ (¬ (s8 166 25) = 0) → (¬ 121 = (s8 166 21) → Q s8) ∧ (¬ (¬ 121 = (s8 166 21)) → (¬ x7 = 0 → ∀ s9, s9 = kst s8 166 25 1 → ∀ s10, s10 = kst s9 166 22 x9 → Q s10) ∧ (¬ (¬ x7 = 0) → Q s8)))))) ∧ (¬ (¬ x8 = 0) → Q s7))) := by
        intro c3
        have hC := (M_uc hB5 6 0 (by omega) (by omega) d (by omega)).2.2
        refine hC s5 P2 _ hM5 (by omega) (by omega) ?_
        rw [eb5, hkP]
        refine ⟨fun s6 q6 p6 oc w e6 k6 hw hwb hs6 q60 q6n => ?_, fun s6 q6 pf dp6 w e6 pf0 hwb hs6 hq6 d1 d2 => ?_⟩
        · rw [eb5] at k6
          rw [eL5] at hw
          refine tail w p6 q6 oc s6 (ht5.on hs6) ⟨q60, q6n⟩ k6 hwb hw (fun pf e => ?_) (fun x e => ?_) (fun f => ?_)
          · unfold gClause
            rw [if_pos c, if_pos c2, hP2, if_pos c3, e6]
            exact e
          · unfold gClause
            rw [if_pos c, if_pos c2, hP2, if_pos c3, e6]
            exact e
          · rw [gGoV, hP2, if_pos c3, e6]
            rfl
        · refine failT pf s6 (by omega) hs6.2.2.2.2.1 ?_ w
          refine h0 q6 pf dp6 _ _ s6 ?_ pf0 (ht5.on hs6)
          rw [if_pos c3]
          rcases e6 with e6 | ⟨os, e6, hdg⟩
          · exact Or.inl (by rw [e6]; rfl)
          · refine Or.inl ?_
            rw [e6]
            rw [eb5] at hdg
            show gTail (mby σ T B) n m pf os = _
            unfold gTail
            rw [if_neg (by omega)]
      refine ⟨fun c3 => cnd (Or.inl c3), fun c3 => ⟨fun c4 => ?_, fun c4 => cnd (Or.inr (Classical.not_not.mp c4))⟩⟩
      have c34 : ¬ (gat (mby σ T B) n P2 = 33 ∨ gat (mby σ T B) n P2 = 40) := by omega
      have hS := M_sum hB5 6 0 (by omega) (by omega) d (by omega)
      rw [if_neg c34] at h1 h0
      refine hS s5 P2 _ hM5 (by omega) (by omega) ?_
      rw [eb5, hkP]
      refine ⟨fun s6 q6 p6 o6 v e6 k6 hv _ hs6 q60 q6n => ?_, fun s6 q6 pf dp6 v e6 pf0 _ hs6 hq6 d1 d2 => ?_⟩
      · rw [eb5] at k6
        rw [eL5] at hv
        have ht6 := ht5.on hs6
        obtain ⟨hB6, hM6, eb6, eL6⟩ := ht6.base hB
        show (¬ s6 166 19 = -1 → _) ∧ (¬ ¬ s6 166 19 = -1 → _)
        rw [ht6.2.2.2.2.1]
        refine ⟨fun e => absurd rfl e, fun _ => M_look (by omega) hB6 hM6 q60 q6n (fun s7 hs7 => ?_)⟩
        rw [eb6, k6] at hs7 ⊢
        have ht7 := ht6.on hs7
        have hk6 := sk_facts (b := mby σ T B) q6 q6n
        have hkk6 := sk_sk (b := mby σ T B) (n := n) (p := q6) q6n
        rw [k6] at hk6 hkk6
        obtain ⟨hB7, hM7, eb7, eL7⟩ := ht7.base hB
        refine M_isSign (by omega) (fun c5 => ⟨fun e => by omega, fun _ => ?_⟩) (fun c5 => ⟨fun _ => ?_, fun e => absurd rfl e⟩)
        · refine M_condG hB7 (by omega) hM7 (by omega) (by omega) (by rw [eL7]; exact hv) ?_
          rw [eb7, hkk6]
          refine ⟨fun s8 q8 p8 oc w e8 k8 hw hwb hs8 q80 q8n => ?_, fun s8 q8 pf dp8 w e8 pf0 hwb hs8 hq8 d1 d2 => ?_⟩
          · rw [eb7] at k8
            rw [eL7] at hw
            have big : ∀ r : gR, gTail (mby σ T B) n m p8 oc = r → gClause (mby σ T B) n m p = r := by
              intro r e
              unfold gClause
              rw [if_pos c, if_pos c2, hP2, if_neg c34, e6]
              show (if _ then _ else _) = _
              rw [if_pos c5, e8]
              exact e
            refine tail w p8 q8 oc s8 (ht7.on hs8) ⟨q80, q8n⟩ k8 hwb hw (fun pf e => big _ e) (fun x e => big _ e) (fun f => ?_)
            rw [gGoV, hP2, if_neg c34, e6]
            show (if _ then _ else _) = _
            rw [if_pos c5, e8]
            rfl
          · refine failT pf s8 (by omega) hs8.2.2.2.2.1 ?_ w
            refine h0 q8 pf dp8 _ _ s8 ?_ pf0 (ht7.on hs8)
            rw [e6]
            rcases e8 with e8 | ⟨os, e8, hdg⟩
            · refine Or.inl ?_
              show (if _ then _ else _) = _
              rw [if_pos c5, e8]
              rfl
            · refine Or.inl ?_
              show (if _ then _ else _) = _
              rw [if_pos c5, e8]
              rw [eb7] at hdg
              show gTail (mby σ T B) n m pf os = _
              unfold gTail
              rw [if_neg (by omega)]
        · have fin : ∀ s', MT σ s' p6 (-1) 0 (if hf = 0 ∧ (1 : Int) ≠ 0 then 1 else hf) (if hf = 0 ∧ (1 : Int) ≠ 0 then v else fd) → Q s' := fun s' ht' => by
            refine h1 p6 p6 (o6 ++ [40000]) 1 v s' ?_ hkk6 (by omega) (fun f => ?_) ht'
            · rw [e6]
              show (if _ then _ else _) = _
              rw [if_neg c5]
            · rw [gGoV, hP2, if_neg c34, e6]
              show (if _ then _ else _) = _
              rw [if_neg c5, gVof_val hv]
              rfl
          rw [ht7.2.2.2.2.1, ht7.2.2.2.2.2.2.1, ht7.2.1 21 (by decide) (by decide) (by decide) (by decide) (by decide), h21]
          refine ⟨fun e => absurd rfl e, fun _ => ⟨fun c6 => ?_, fun c6 => ⟨fun e => absurd rfl e, fun _ s9 e9 s10 e10 => ?_⟩⟩⟩
          · have := fin s7
            rw [if_neg (fun z => c6 z.1), if_neg (fun z => c6 z.1)] at this
            exact this ht7
          · have := fin s10
            rw [if_pos ⟨Classical.not_not.mp c6, by decide⟩, if_pos ⟨Classical.not_not.mp c6, by decide⟩] at this
            refine this ?_
            rw [e10, e9]
            obtain ⟨g1, g2, g3, g4, g5, g6, g7, g8⟩ := ht7
            refine ⟨(g1.kst (by decide)).kst (by decide), fun j j1 j2 j3 j4 j5 => by rw [kst_kj j4, kst_kj j5]; exact g2 j j1 j2 j3 j4 j5, (g3.kstO 25 o_166 (by decide)).kstO 22 o_166 (by decide), ?_, ?_, ?_, ?_, kst_eq⟩
            · rw [kst_kj (by decide), kst_kj (by decide)]; exact g4
            · rw [kst_kj (by decide), kst_kj (by decide)]; exact g5
            · rw [kst_kj (by decide), kst_kj (by decide)]; exact g6
            · rw [kst_kj (by decide), kst_eq]
      · have ht6 := ht5.on hs6
        show (¬ s6 166 19 = -1 → _) ∧ (¬ ¬ s6 166 19 = -1 → _)
        rw [ht6.2.2.2.2.1]
        refine ⟨fun _ => ⟨fun _ => h0 q6 pf dp6 _ _ s6 ?_ pf0 ht6, fun e => by omega⟩, fun e => by omega⟩
        rcases e6 with e6 | ⟨os, e6, hdg⟩
        · exact Or.inl (by rw [e6]; rfl)
        · rw [eb5] at hdg
          refine Or.inr ⟨os ++ [40000], ?_, hdg⟩
          rw [e6]
          show (if _ then _ else _) = _
          rw [if_neg (show ¬ gSign (gat (mby σ T B) n pf) by omega)]
    · rw [eb] at c2 hs4
      rw [if_neg c2] at h0
      exact h0 _ _ 0 _ _ s4 (Or.inl rfl) (by omega) (hs.on hs4)
  · have c : ¬ gat (mby σ T B) n p = 121 := c
    rw [if_neg c] at h0
    refine M_fails (by omega) hs1 (fun s3 hs3 => ?_)
    rw [if_pos rfl] at hs3
    exact h0 p p 0 _ _ s3 (Or.inl rfl) (by omega) (hs.on hs3)
