/-! BOOKS: the model's reading -/
theorem M_readTown {d : Nat} (hd : 2 ≤ d) {σ : kS} {T B n tw : Int} (hB : MB σ T B n) (htw : σ 166 3 = tw ∧ 0 ≤ tw ∧ tw ≤ 8) {s : kS} {q dp : Int} {Q : Int → kS → Prop} (hs : MS σ s q (-1) dp) (q0 : 0 ≤ q) (qn : q ≤ n) (h1 : bkT (mby σ T B) n tw (sk (mby σ T B) n q) → ∀ s', MS σ s' (sk (mby σ T B) n q + 1) (-1) dp → Q (gat (mby σ T B) n (sk (mby σ T B) n q) - 97) s') (h0 : ¬ bkT (mby σ T B) n tw (sk (mby σ T B) n q) → ∀ s', MS σ s' (sk (mby σ T B) n q) (sk (mby σ T B) n q) dp → Q (-1) s') : Ci d MX12_readTown [(2, 166)] kN s Q := by
  obtain ⟨d, rfl⟩ : ∃ e, d = e + 1 := ⟨d - 1, by omega⟩
  have hsk := sk_facts (b := mby σ T B) q qn
  have hBd := hB.2.2.2.2.1
  refine EX12_readTown fun _ => SX12_readTown_0 ⟨o_166, M_look (by omega) hB hs q0 qn (fun s1 hs1 => ?_)⟩
  have e3 : s1 166 3 = tw := by rw [hs1.2.1 3 (by decide) (by decide) (by decide)]; exact htw.1
  have hno : ∀ s', MS σ s' (sk (mby σ T B) n q) (if (-1 : Int) = -1 then sk (mby σ T B) n q else -1) dp → MS σ s' (sk (mby σ T B) n q) (sk (mby σ T B) n q) dp := fun s' h => by rwa [if_pos rfl] at h
  rw [e3]
  refine ⟨fun c => M_fails (by omega) hs1 (fun s2 hs2 => h0 (fun z => by omega) s2 (hno s2 hs2)), fun c => ⟨by omega, fun c2 => ?_, fun c2 => M_fails (by omega) hs1 (fun s2 hs2 => h0 (fun z => by omega) s2 (hno s2 hs2))⟩⟩
  rw [hs1.2.2.2.1]
  exact ⟨by omega, fun s2 e2 => ⟨by omega, h1 ⟨by omega, c2⟩ s2 (by rw [e2]; exact hs1.at')⟩⟩
/-- so the model's book stands while it reads -/
def BM (τ s : kS) (c q ft : Int) (st to : List Int) : Prop := off [166, 173, 174, 175, 176] τ s ∧ (∀ j, j ≠ 18 → j ≠ 19 → j ≠ 20 → s 166 j = τ 166 j) ∧ Lay s ∧ s 166 18 = q ∧ s 166 19 = ft ∧ (s 173 c = to.length ∧ ∀ j, j ≠ c → s 173 j = τ 173 j) ∧ (∀ k : Int, 0 ≤ k → k < to.length → s 174 (60 * c + k) = st.getD k.toNat 0 ∧ s 175 (60 * c + k) = st.getD (k + 1).toNat 0 ∧ s 176 (60 * c + k) = to.getD k.toNat 0) ∧ ∀ j, ¬ (60 * c ≤ j ∧ j < 60 * c + 60) → s 174 j = τ 174 j ∧ s 175 j = τ 175 j ∧ s 176 j = τ 176 j
theorem BM.ms {τ s s' : kS} {c q ft q' ft' dp : Int} {st to : List Int} (h : BM τ s c q ft st to) (hm : MS s s' q' ft' dp) : BM τ s' c q' ft' st to := by
  obtain ⟨h1, h2, h3, h4, h5, h6, h7, h8⟩ := h
  obtain ⟨m1, m2, m3, m4, m5, m6⟩ := hm
  have e : ∀ k, k ≠ 166 → s' k = s k := fun k hk => m1 k (by simp only [List.mem_cons, List.not_mem_nil, or_false]; exact hk)
  refine ⟨h1.trans (m1.mono (by simp)), fun j j1 j2 j3 => (m2 j j1 j2 j3).trans (h2 j j1 j2 j3), m3, m4, m5, ?_, ?_, ?_⟩
  · rw [e 173 (by decide)]; exact h6
  · rw [e 174 (by decide), e 175 (by decide), e 176 (by decide)]; exact h7
  · rw [e 174 (by decide), e 175 (by decide), e 176 (by decide)]; exact h8
theorem BM.mb {τ s : kS} {c q ft n : Int} {st to : List Int} (hB : MB τ 169 0 n) (h : BM τ s c q ft st to) : MB s 169 0 n ∧ mby s 169 0 = mby τ 169 0 := by
  have e : s 169 = τ 169 := h.1 169 (by decide)
  obtain ⟨b1, b2, ⟨b3, b4⟩, b5, b6, b7, b8, b9⟩ := hB
  refine ⟨⟨h.2.2.1, by rw [h.2.1 12 (by decide) (by decide) (by decide)]; exact b2, ⟨by rw [h.2.1 16 (by decide) (by decide) (by decide)]; exact b3, by rw [h.2.1 17 (by decide) (by decide) (by decide)]; exact b4⟩, b5, b6, b7, b8, by rw [e]; exact b9⟩, ?_⟩
  funext i
  unfold mby
  rw [e]
theorem BM.self {τ s : kS} {c q ft : Int} {st to : List Int} (h : BM τ s c q ft st to) : MS s s q ft (s 166 20) := ⟨off.rfl', fun _ _ _ _ => rfl, h.2.2.1, h.2.2.2.1, h.2.2.2.2.1, rfl⟩
def mbF (d : Nat) (Q : kS → Prop) (u : kS) (x m fr : Int) : Prop := (-2147483648 ≤ 60 * (u 166 15) ∧ 60 * (u 166 15) ≤ 2147483647) ∧ (isA 20 kN (u 166 8) ∧ (((0 : Int) ≤ (u 166 15) ∧ (u 166 15) < klen (u 166 8)) ∧ ((-2147483648 ≤ (60 * (u 166 15)) + (u (u 166 8) (u 166 15)) ∧ (60 * (u 166 15)) + (u (u 166 8) (u 166 15)) ≤ 2147483647) ∧ (isA 20 kN (u 166 9) ∧ (((0 : Int) ≤ ((60 * (u 166 15)) + (u (u 166 8) (u 166 15))) ∧ ((60 * (u 166 15)) + (u (u 166 8) (u 166 15))) < klen (u 166 9)) ∧ (∀ s6, s6 = kst u (u 166 9) ((60 * (u 166 15)) + (u (u 166 8) (u 166 15))) fr → isA 20 kN (s6 166 10) ∧ (((0 : Int) ≤ ((60 * (u 166 15)) + (u (u 166 8) (u 166 15))) ∧ ((60 * (u 166 15)) + (u (u 166 8) (u 166 15))) < klen (s6 166 10)) ∧ (∀ s7, s7 = kst s6 (s6 166 10) ((60 * (u 166 15)) + (u (u 166 8) (u 166 15))) x → isA 20 kN (s7 166 11) ∧ (((0 : Int) ≤ ((60 * (u 166 15)) + (u (u 166 8) (u 166 15))) ∧ ((60 * (u 166 15)) + (u (u 166 8) (u 166 15))) < klen (s7 166 11)) ∧ (∀ s8, s8 = kst s7 (s7 166 11) ((60 * (u 166 15)) + (u (u 166 8) (u 166 15))) m → isA 20 kN (s8 166 8) ∧ (((0 : Int) ≤ (s8 166 15) ∧ (s8 166 15) < klen (s8 166 8)) ∧ ((-2147483648 ≤ (s8 (s8 166 8) (s8 166 15)) + 1 ∧ (s8 (s8 166 8) (s8 166 15)) + 1 ≤ 2147483647) ∧ (∀ s9, s9 = kst s8 (s8 166 8) (s8 166 15) ((s8 (s8 166 8) (s8 166 15)) + 1) → LX12_readBook_28 d kN Q 166 x s9)))))))))))))
theorem M_store {d : Nat} {τ u : kS} {c q x m fr : Int} {st to : List Int} {Q : kS → Prop} (h : BM τ u c q (-1) st to) (h15 : τ 166 15 = c) (hc : 0 ≤ c ∧ c ≤ 4) (hk : to.length < 60) (hst : st.length = to.length + 1) (hfr : fr = st.getD to.length 0) (hq : ∀ s, BM τ s c q (-1) (st ++ [x]) (to ++ [m]) → LX12_readBook_28 d kN Q 166 x s) : mbF d Q u x m fr := by
  have k173 := kl_173
  have k174 := kl_174
  have k175 := kl_175
  have k176 := kl_176
  obtain ⟨h1, h2, h3, h4, h5, ⟨h6, h6'⟩, h7, h8⟩ := h
  have e15 : u 166 15 = c := by rw [h2 15 (by decide) (by decide) (by decide), h15]
  unfold mbF
  rw [e15, ly_166_8 h3, ly_166_9 h3, h6]
  refine ⟨by omega, a_173, by omega, by omega, a_174, by omega, fun s6 e6 => ?_⟩
  have L6 : Lay s6 := by rw [e6]; exact h3.kstA a_174
  rw [ly_166_10 L6]
  refine ⟨a_175, by omega, fun s7 e7 => ?_⟩
  have L7 : Lay s7 := by rw [e7]; exact L6.kstA a_175
  rw [ly_166_11 L7]
  refine ⟨a_176, by omega, fun s8 e8 => ?_⟩
  have L8 : Lay s8 := by rw [e8]; exact L7.kstA a_176
  have g15 : s8 166 15 = c := by rw [e8, kst_k (by decide), e7, kst_k (by decide), e6, kst_k (by decide), e15]
  have g173 : s8 173 = u 173 := by rw [e8, kst_k (by decide), e7, kst_k (by decide), e6, kst_k (by decide)]
  rw [ly_166_8 L8, g15, g173, h6]
  refine ⟨a_173, by omega, by omega, fun s9 e9 => hq s9 ?_⟩
  have f174 : ∀ j, s9 174 j = if j = 60 * c + to.length then fr else u 174 j := fun j => by
    rw [e9, kst_k (by decide), e8, kst_k (by decide), e7, kst_k (by decide), e6, kst_ap]
    by_cases ej : j = 60 * c + to.length
    · rw [if_pos ⟨rfl, ej⟩, if_pos ej]
    · rw [if_neg (fun z => ej z.2), if_neg ej]
  have f175 : ∀ j, s9 175 j = if j = 60 * c + to.length then x else u 175 j := fun j => by
    rw [e9, kst_k (by decide), e8, kst_k (by decide), e7, kst_ap]
    by_cases ej : j = 60 * c + to.length
    · rw [if_pos ⟨rfl, ej⟩, if_pos ej]
    · rw [if_neg (fun z => ej z.2), if_neg ej, e6, kst_k (by decide)]
  have f176 : ∀ j, s9 176 j = if j = 60 * c + to.length then m else u 176 j := fun j => by
    rw [e9, kst_k (by decide), e8, kst_ap]
    by_cases ej : j = 60 * c + to.length
    · rw [if_pos ⟨rfl, ej⟩, if_pos ej]
    · rw [if_neg (fun z => ej z.2), if_neg ej, e7, kst_k (by decide), e6, kst_k (by decide)]
  have f166 : s9 166 = u 166 := by rw [e9, kst_k (by decide), e8, kst_k (by decide), e7, kst_k (by decide), e6, kst_k (by decide)]
  have fo : off [173, 174, 175, 176] u s9 := by
    rw [e9, e8, e7, e6]
    exact (((off.rfl'.kst (by decide)).kst (by decide)).kst (by decide)).kst (by decide)
  have g1 : (st ++ [x]).getD (to.length + 1) 0 = x := by
    have := gd_r st [x] 0
    rw [Nat.add_zero, hst] at this
    exact this
  have g2 : (to ++ [m]).getD to.length 0 = m := by
    have := gd_r to [m] 0
    rw [Nat.add_zero] at this
    exact this
  refine ⟨h1.trans (fo.mono (by simp)), fun j j1 j2 j3 => by rw [f166]; exact h2 j j1 j2 j3, by rw [e9]; exact L8.kstA a_173, by rw [f166]; exact h4, by rw [f166]; exact h5, ⟨?_, fun j hj => ?_⟩, fun k k0 k1 => ?_, fun j hj => ?_⟩
  · rw [e9, kst_eq, List.length_append]
    rfl
  · rw [e9, kst_kj hj, g173]
    exact h6' j hj
  · rw [List.length_append] at k1
    have k1 : k < ((to.length + 1 : Nat) : Int) := k1
    rw [f174, f175, f176]
    by_cases ek : k = to.length
    · rw [if_pos (by omega), if_pos (by omega), if_pos (by omega), ek, show (((to.length : Nat) : Int)).toNat = to.length by omega, show (((to.length : Nat) : Int) + 1).toNat = to.length + 1 by omega, g1, g2, gd_l _ _ _ (by omega)]
      exact ⟨hfr, rfl, rfl⟩
    · rw [if_neg (by omega), if_neg (by omega), if_neg (by omega), gd_l _ _ _ (by omega), gd_l _ _ _ (by omega), gd_l _ _ _ (by omega)]
      exact h7 k k0 (by omega)
  · have := h8 j hj
    rw [f174, f175, f176, if_neg (by omega), if_neg (by omega), if_neg (by omega)]
    exact this
theorem M_readLoop {d : Nat} (hd : 3 ≤ d) {τ : kS} {c n tw : Int} {Q : kS → Prop} (hB : MB τ 169 0 n) (h15 : τ 166 15 = c) (hc : 0 ≤ c ∧ c ≤ 4) (htw : τ 166 3 = tw ∧ 0 ≤ tw ∧ tw ≤ 8) (h1 : ∀ st to, bk (mby τ 169 0) n tw = .inr (st, to) → ∀ s q, BM τ s c q (-1) st to → Q s) (h0 : ∀ pf, bk (mby τ 169 0) n tw = .inl pf → 0 ≤ pf → ∀ s q st to, BM τ s c q pf st to → Q s) : ∀ f : Nat, ∀ k q : Int, ∀ st to, ∀ s : kS, (f : Int) + k = 121 → 0 ≤ k → 2 * k + 1 ≤ q → q ≤ n → (to.length : Int) = k → st.length = to.length + 1 → BM τ s c q (-1) st to → bkL (mby τ 169 0) n tw f (sk (mby τ 169 0) n q) st to = bk (mby τ 169 0) n tw → LX12_readBook_28 d kN Q 166 (st.getD to.length 0) s := by
  have hn := hB.2.2.2.2.1
  intro f
  induction f with
  | zero => intro k q st to s hf k0 hq qn _ _ _ _; omega
  | succ f ih =>
    intro k q st to s hf k0 hq qn hto hst hs hg
    have k173 := kl_173
    have hm := hs.mb hB
    have hsk := sk_facts (b := mby τ 169 0) q qn
    have e5 : s 166 19 = -1 := hs.2.2.2.2.1
    have eb : bkL (mby τ 169 0) n tw (f + 1) (sk (mby τ 169 0) n q) st to = if n ≤ sk (mby τ 169 0) n q ∧ 0 < to.length then .inr (st, to) else if gDig (gat (mby τ 169 0) n (sk (mby τ 169 0) n q)) then (if bkT (mby τ 169 0) n tw (sk (mby τ 169 0) n (bkM (mby τ 169 0) n (sk (mby τ 169 0) n q)).2) then bkL (mby τ 169 0) n tw f (sk (mby τ 169 0) n (sk (mby τ 169 0) n (bkM (mby τ 169 0) n (sk (mby τ 169 0) n q)).2 + 1)) (st ++ [gat (mby τ 169 0) n (sk (mby τ 169 0) n (bkM (mby τ 169 0) n (sk (mby τ 169 0) n q)).2) - 97]) (to ++ [(bkM (mby τ 169 0) n (sk (mby τ 169 0) n q)).1]) else .inl (sk (mby τ 169 0) n (bkM (mby τ 169 0) n (sk (mby τ 169 0) n q)).2)) else .inl (sk (mby τ 169 0) n q) := rfl
    rw [eb] at hg
    refine SX12_readBook_28 ⟨o_166, fun z => absurd e5 z, fun _ => M_look (by omega) hm.1 hs.self (by omega) qn (fun s1 hs1 => ?_)⟩
    rw [hm.2] at hs1 ⊢
    have hb1 := hs.ms hs1
    have hm1 := hb1.mb hB
    have q15 : s1 166 15 = c := by rw [hb1.2.1 15 (by decide) (by decide) (by decide), h15]
    refine ⟨fun z => M_isDigit (by omega) hm1.1 hb1.self (by omega) hsk.2.1 (fun z2 => ⟨fun _ => ?_, fun e => by omega⟩) (fun z2 => ⟨fun e => absurd rfl e, fun _ => M_fails (by omega) hb1.self (fun s3 hs3 => ?_)⟩), fun z => ?_⟩
    · -- a digit
      rw [hm1.2] at z2
      have hp := gat_in (c := gat (mby τ 169 0) n (sk (mby τ 169 0) n q)) rfl (by omega)
      have hbM := bkM_b z2
      rw [if_neg (fun y => by omega), if_pos z2] at hg
      have hat := mby_at hm1.1 (i := sk (mby τ 169 0) n q) hp
      rw [hm1.2] at hat
      have f12 : s1 166 12 = 169 := hm1.1.2.1
      have f16 : s1 166 16 = 0 := hm1.1.2.2.1.1
      have f18 : s1 166 18 = sk (mby τ 169 0) n q := hb1.2.2.2.1
      have hdig := hat.2.2.2.2 (hat.2.2.2.1.mpr z2)
      rw [f12, f16, f18, hdig]
      refine ⟨by omega, hm1.1.2.2.2.1, by omega, by omega, by omega, fun s3 e3 => ?_⟩
      have hb3 : BM τ s3 c (sk (mby τ 169 0) n q + 1) (-1) st to := hb1.ms (by rw [e3]; exact hb1.self.at')
      have hm3 := hb3.mb hB
      have fin : ∀ (s4 : kS) (p : Int), BM τ s4 c p (-1) st to → bkM (mby τ 169 0) n (sk (mby τ 169 0) n q) = ((bkM (mby τ 169 0) n (sk (mby τ 169 0) n q)).1, p) → Ci d MX12_readTown [(2, 166)] kN s4 (fun x s5 => (s5 166 19 = -1 → mbF d Q s5 x (bkM (mby τ 169 0) n (sk (mby τ 169 0) n q)).1 (st.getD to.length 0)) ∧ (¬ s5 166 19 = -1 → Q s5)) := by
        intro s4 p hb4 hp4
        have hpp : (bkM (mby τ 169 0) n (sk (mby τ 169 0) n q)).2 = p := congrArg Prod.snd hp4
        rw [hpp] at hbM hg
        have hm4 := hb4.mb hB
        have hsk4 := sk_facts (b := mby τ 169 0) p hbM.2.1.2
        have e43 : s4 166 3 = tw := by rw [hb4.2.1 3 (by decide) (by decide) (by decide)]; exact htw.1
        refine M_readTown (tw := tw) (by omega) hm4.1 ⟨e43, htw.2⟩ hb4.self (by omega) hbM.2.1.2 (fun hT s5 hs5 => ?_) (fun hT s5 hs5 => ?_)
        · rw [hm4.2] at hT hs5 ⊢
          rw [if_pos hT] at hg
          have hg3 := gat_in (c := gat (mby τ 169 0) n (sk (mby τ 169 0) n p)) rfl (by omega)
          have hb5 := hb4.ms hs5
          refine ⟨fun _ => M_store hb5 h15 hc (by omega) hst rfl (fun s9 hb9 => ?_), fun y => absurd hb5.2.2.2.2.1 y⟩
          have := ih (k + 1) (sk (mby τ 169 0) n p + 1) _ _ s9 (by omega) (by omega) (by omega) (by omega) (by simp only [List.length_append, List.length_cons, List.length_nil]; omega) (by simp only [List.length_append, List.length_cons, List.length_nil]; omega) hb9 hg
          have g1 : (st ++ [gat (mby τ 169 0) n (sk (mby τ 169 0) n p) - 97]).getD (to ++ [(bkM (mby τ 169 0) n (sk (mby τ 169 0) n q)).1]).length 0 = gat (mby τ 169 0) n (sk (mby τ 169 0) n p) - 97 := by
            have h9 := gd_r st [gat (mby τ 169 0) n (sk (mby τ 169 0) n p) - 97] 0
            rw [Nat.add_zero, hst] at h9
            rw [List.length_append]
            exact h9
          rw [g1] at this
          exact this
        · rw [hm4.2] at hT hs5
          rw [if_neg hT] at hg
          have hb5 := hb4.ms hs5
          exact ⟨fun y => by have := hb5.2.2.2.2.1; omega, fun _ => h0 _ hg.symm (by omega) s5 _ st to hb5⟩
      refine M_isDigit (by omega) hm3.1 hb3.self (by omega) (by omega) (fun z3 => ⟨fun e => by omega, fun _ => ?_⟩) (fun z3 => ⟨fun _ => ?_, fun e => absurd rfl e⟩)
      · rw [hm3.2] at z3
        have hp3 := gat_in (c := gat (mby τ 169 0) n (sk (mby τ 169 0) n q + 1)) rfl (by omega)
        have hat3 := mby_at hm3.1 (i := sk (mby τ 169 0) n q + 1) hp3
        rw [hm3.2] at hat3
        have hdig3 := hat3.2.2.2.2 (hat3.2.2.2.1.mpr z3)
        have g12 : s3 166 12 = 169 := hm3.1.2.1
        have g16 : s3 166 16 = 0 := hm3.1.2.2.1.1
        have g18 : s3 166 18 = sk (mby τ 169 0) n q + 1 := hb3.2.2.2.1
        have eM : bkM (mby τ 169 0) n (sk (mby τ 169 0) n q) = ((gat (mby τ 169 0) n (sk (mby τ 169 0) n q) - 48) * 10 + gat (mby τ 169 0) n (sk (mby τ 169 0) n q + 1) - 48, sk (mby τ 169 0) n q + 2) := if_pos z3
        rw [g12, g16, g18, hdig3]
        refine ⟨by omega, by omega, hm3.1.2.2.2.1, by omega, by omega, by omega, by omega, fun s5 e5' => ?_⟩
        have hb5 : BM τ s5 c (sk (mby τ 169 0) n q + 1 + 1) (-1) st to := hb3.ms (by rw [e5']; exact hb3.self.at')
        have := fin s5 (sk (mby τ 169 0) n q + 1 + 1) hb5 (by rw [eM]; congr 1; omega)
        rw [eM] at this
        rw [show 10 * (gat (mby τ 169 0) n (sk (mby τ 169 0) n q) - 48) + gat (mby τ 169 0) n (sk (mby τ 169 0) n q + 1) - 48 = (gat (mby τ 169 0) n (sk (mby τ 169 0) n q) - 48) * 10 + gat (mby τ 169 0) n (sk (mby τ 169 0) n q + 1) - 48 by omega]
        exact this
      · rw [hm3.2] at z3
        have eM : bkM (mby τ 169 0) n (sk (mby τ 169 0) n q) = (gat (mby τ 169 0) n (sk (mby τ 169 0) n q) - 48, sk (mby τ 169 0) n q + 1) := if_neg z3
        have := fin s3 (sk (mby τ 169 0) n q + 1) hb3 (by rw [eM])
        rw [eM] at this
        exact this
    · rw [hm1.2] at z2
      rw [if_pos rfl] at hs3
      have hlt : sk (mby τ 169 0) n q < n := by
        by_cases y : n ≤ sk (mby τ 169 0) n q
        · exact absurd (gat_out y) z
        · omega
      rw [if_neg (fun y => by omega), if_neg z2] at hg
      exact h0 _ hg.symm (by omega) s3 _ st to (hb1.ms hs3)
    · have z := Classical.not_not.mp z
      have hle : n ≤ sk (mby τ 169 0) n q := by
        by_cases y : n ≤ sk (mby τ 169 0) n q
        · exact y
        · have hat := mby_at hm1.1 (i := sk (mby τ 169 0) n q) ⟨by omega, by omega⟩
          rw [hm1.2] at hat
          omega
      have hl : s1 173 c = to.length := hb1.2.2.2.2.2.1.1
      rw [ly_166_8 hb1.2.2.1, q15, hl]
      refine ⟨a_173, by omega, fun y => ?_, fun y => ?_⟩
      · rw [if_pos ⟨hle, by omega⟩] at hg
        exact h1 st to hg.symm s1 _ hb1
      · rw [if_neg (fun w => by omega), if_neg (by omega)] at hg
        refine M_isDigit (by omega) hm1.1 hb1.self (by omega) hsk.2.1 (fun z2 => by rw [hm1.2] at z2; omega) (fun z2 => ⟨fun e => absurd rfl e, fun _ => M_fails (by omega) hb1.self (fun s3 hs3 => ?_)⟩)
        rw [if_pos rfl] at hs3
        exact h0 _ hg.symm (by omega) s3 _ st to (hb1.ms hs3)
