/-! Ways: spread, follow, lay -/
theorem fin_all {S : Int → Int} (h : ∀ c, 0 ≤ c → c < 120 → S c = 1073741824) : sm (fin1 S) 120 = 0 := by
  have := sm_b (f := fin1 S) (B := 0) (n := 120) (fun i h0 h1 => by unfold fin1; rw [if_pos (h i h0 (by omega))]; omega)
  omega
theorem Ways_spread {d : Nat} (hd : 2 ≤ d) {σ : kS} {b a st : Int} {Q : kS → Prop} (hL : Lay σ) (hB : Bes σ) (ht : TolOK (σ 28)) (hst : 0 ≤ st ∧ st < 120) (hb : b = 0 ∨ b = 1) (hab : a = 29 ∨ a = 30) (h : ∀ s, wOff a σ s → Lay s → GD (nbW b) (wgW b (σ 28)) st (s a) → (∀ c, 0 ≤ c → c < 120 → s a c ≤ 153600120) → Q s) : Cv d MX10_spread [(2, 26), (0, st), (0, b), (2, a)] kN σ Q := by
  obtain ⟨d, rfl⟩ : ∃ e, d = e + 1 := ⟨d - 1, by omega⟩
  have k27 := kl_27
  have k28 := kl_28
  have k31 := kl_31
  have hA : isA 20 kN a ∧ klen a = 120 := by
    rcases hab with rfl | rfl
    · exact ⟨a_29, kl_29⟩
    · exact ⟨a_30, kl_30⟩
  have hw := gw_W (b := b) ht
  have key57 : ∀ i u : Int, 0 ≤ i → i < 120 → (∀ s', SI b a st σ s' (i + 1) → LX10_spread_33 d kN Q 26 b a (i + 1) s') → ∀ j : Int, ∀ s : kS, 0 ≤ j → SJ b a st σ s (i + 1) u j → LX10_spread_57 d kN Q 26 b a i u j s := by
    intro i u i0 i1 hcont
    refine up_to (e := 8) ?_
    intro j ih s hj hs
    obtain ⟨⟨h1, h1'⟩, h2, h3, h4, h5, h6⟩ := id hs
    refine SX10_spread_57 ⟨fun c => ⟨by omega, hcont s ⟨⟨h1, h1'⟩, h2, h3, h4, h5, h6.done c⟩⟩, fun c => ?_⟩
    have hu := h6.2.2.2.2.2.1
    have huf := h6.2.2.2.2.2.2.1
    have hub := h6.2.2.1 u hu.1 hu.2 huf
    have e27 : s 27 = σ 27 := h1 27 (by simp only [List.mem_cons, List.not_mem_nil, or_false]; omega)
    have e28 : s 28 = σ 28 := h1 28 (by simp only [List.mem_cons, List.not_mem_nil, or_false]; omega)
    rw [ly_26_0 h2, ly_26_1 h2, kxor4 ⟨hj, by omega⟩, e27, e28]
    have ho := opp_b (d := j) ⟨hj, by omega⟩
    have nx : ∀ s', SJ b a st σ s' (i + 1) u (j + 1) → (-2147483648 ≤ j + 1 ∧ j + 1 ≤ 2147483647) ∧ LX10_spread_57 d kN Q 26 b a i u (j + 1) s' := fun s' hs' => ⟨by omega, ih (by omega) s' (by omega) hs'⟩
    have sk : nbW b u j = -1 → SJ b a st σ s (i + 1) u (j + 1) := fun e => ⟨⟨h1, h1'⟩, h2, h3, h4, h5, h6.skip hj (fun q => absurd e q)⟩
    rcases hb with rfl | rfl
    · have e1 : σ 27 (u * 8 + j) = nbW 0 u j := by
        unfold nbW
        rw [if_pos rfl]
        exact hB u j hu.1 hu.2 hj (by omega)
      rw [e1]
      refine ⟨o_26, by omega, fun _ => ⟨by omega, a_27, by omega, fun e => nx s (sk e), fun e => ⟨fun _ => ?_, fun q => absurd rfl q⟩⟩, fun q => absurd rfl q⟩
      have hg := hw u j hu.1 hu.2 hj (by omega) e
      have e2 : s a u + σ 28 (u * 8 + j) * 128 + 1 = s a u + wgW 0 (σ 28) u j := by
        unfold wgW
        rw [if_pos rfl]
        omega
      have e3 : wgW 0 (σ 28) u j = σ 28 (u * 8 + j) * 128 + 1 := by
        unfold wgW
        rw [if_pos rfl]
      rw [e2]
      exact ⟨hA.1, by omega, a_28, by omega, by omega, by omega, by omega, hs.go (by omega) hab ht (by omega) ⟨hj, by omega⟩ e nx⟩
    · have e1 : σ 27 (u * 8 + opp j) = nbW 1 u j := by
        unfold nbW
        rw [if_neg (by decide)]
        exact hB u (opp j) hu.1 hu.2 ho.1 ho.2
      rw [e1]
      refine ⟨o_26, by omega, fun q => absurd q (by decide), fun _ => ⟨by omega, a_27, by omega, fun e => nx s (sk e), fun e => ⟨fun q => absurd q (by decide), fun _ => ?_⟩⟩⟩
      have hg := hw u j hu.1 hu.2 hj (by omega) e
      have e2 : s a u + σ 28 (nbW 1 u j * 8 + j) * 128 + 1 = s a u + wgW 1 (σ 28) u j := by
        unfold wgW
        rw [if_neg (by decide)]
        omega
      have e3 : wgW 1 (σ 28) u j = σ 28 (nbW 1 u j * 8 + j) * 128 + 1 := by
        unfold wgW
        rw [if_neg (by decide)]
      rw [e2]
      exact ⟨by omega, by omega, hA.1, by omega, a_28, by omega, by omega, by omega, by omega, hs.go (by omega) hab ht (by omega) ⟨hj, by omega⟩ e nx⟩
  have key33 : ∀ i : Int, ∀ s : kS, 0 ≤ i → i ≤ 120 → SI b a st σ s i → LX10_spread_33 d kN Q 26 b a i s := by
    refine up_to (e := 120) ?_
    intro i ih s hi hi2 hs
    obtain ⟨⟨h1, h1'⟩, h2, h3, h4, h5, h6⟩ := id hs
    have fb := fin_b (S := s a)
    have ex : s 26 5 ≤ 0 → Q s := fun e => by
      have h7 := h6.out hw hi2 hst (conn_W hst) (fun y hy => by
        obtain ⟨k, k0, k1, _⟩ := hy
        omega)
      exact h s ⟨h1, h1'⟩ h2 h7.1 h7.2
    refine SX10_spread_33 ⟨fun c => ex (by omega), fun c => ⟨o_26, ex, fun c2 => ?_⟩⟩
    refine Ways_takeLeast (by omega) h2 hab ⟨by omega, by omega⟩ (fun y hy => (h6.2.1 y hy).1) h4 (fun u s1 hu hm ho hk hLs hsz hop hod => ?_)
    have ea : s1 a = s a := ho a (by simp only [List.mem_cons, List.not_mem_nil, or_false]; omega)
    refine key57 i u hi (by omega) (fun s' hs' => ih (by omega) s' (by omega) (by omega) hs') 0 s1 (Int.le_refl 0) ⟨⟨h1.trans (ho.mono (fun k hk => by simp only [List.mem_cons, List.not_mem_nil, or_false] at hk ⊢; omega)), fun j hj => (hk j hj).trans (h1' j hj)⟩, hLs, by omega, hod, by rw [ea]; omega, ?_⟩
    rw [ea]
    exact h6.pop hu hm hop
  refine EX10_spread fun _ _ _ => SX10_spread_0 (X_isCell (by omega) (fun _ => ⟨fun _ => J_fill (by omega) hA.1 ⟨hA.1, by omega, fun s3 e3 => ?_⟩, fun q => absurd (by decide) q⟩) (fun e => absurd hst e))
  have hL3 : Lay s3 := by
    rw [e3]
    refine Lay.kstA ?_ hA.1
    refine lay_offI hL (L := [a]) ((off.rfl').fil (by simp)) (fun k hk => ?_)
    rw [List.mem_singleton] at hk
    rw [hk]
    exact Or.inl hA.1
  rw [ly_26_4 hL3]
  refine ⟨o_26, a_31, by omega, fun s4 e4 s5 e5 => ?_⟩
  have ga : s5 a = s3 a := by rw [e5, e4, kst_k (by omega), kst_k (by omega)]
  have g3 : ∀ c, 0 ≤ c → c < 120 → s5 a c = if c = st then 0 else 1073741824 := fun c c0 c1 => by
    rw [ga, e3, kst_ap]
    by_cases e : c = st
    · rw [if_pos ⟨rfl, e⟩, if_pos e]
    · rw [if_neg (fun q => e q.2), if_neg e, kfill_a (by omega)]
  have g5 : s5 26 5 = 1 := by rw [e5, kst_eq]
  have g31 : s5 31 0 = st := by rw [e5, e4, kst_k (by omega), kst_eq]
  have hop : ∀ y, OP s5 y ↔ y = st := fun y => by
    unfold OP
    rw [g5]
    constructor
    · rintro ⟨k, k0, k1, hk⟩
      rw [show k = 0 by omega, g31] at hk
      exact hk.symm
    · intro e
      exact ⟨0, by omega, by omega, by rw [g31, e]⟩
  refine key33 0 s5 (by omega) (by omega) ⟨⟨?_, fun j hj => ?_⟩, ?_, by omega, fun i j i0 ij j1 => by omega, ?_, DH.start hst (by rw [g3 st hst.1 hst.2, if_pos rfl]) (fun c hc c0 c1 => by rw [g3 c c0 c1, if_neg hc]) hop⟩
  · rw [e5, e4, e3]
    exact ((((off.rfl').fil (by simp)).kst (by simp)).kst (by simp)).kst (by simp)
  · rw [e5, kst_kj hj, e4, kst_k (by omega), e3, kst_k (by omega), kfill_k (by omega)]
  · rw [e5, e4]
    exact (hL3.kstA a_31).s5
  · have h8 := sm_up (f := fin1 (fun _ => 1073741824)) (g := fin1 (s5 a)) (c := st) (n := 120) hst.1 hst.2 (fun i i0 i1 hi => by unfold fin1; rw [g3 i i0 (by omega), if_neg hi])
    rw [h8, fin_all (fun _ _ _ => rfl), g5]
    unfold fin1
    rw [g3 st hst.1 hst.2, if_pos rfl]
    simp
theorem Ways_spreadTo {d : Nat} (hd : 3 ≤ d) {σ : kS} {st : Int} {Q : kS → Prop} (hL : Lay σ) (hB : Bes σ) (ht : TolOK (σ 28)) (hst : 0 ≤ st ∧ st < 120) (h : ∀ s, wOff 29 σ s → Lay s → GD (nbW 1) (wgW 1 (σ 28)) st (s 29) → (∀ c, 0 ≤ c → c < 120 → s 29 c ≤ 153600120) → Q s) : Cv d MX10_spreadTo [(2, 26), (0, st)] kN σ Q := by
  obtain ⟨d, rfl⟩ : ∃ e, d = e + 1 := ⟨d - 1, by omega⟩
  refine EX10_spreadTo fun _ _ => SX10_spreadTo_0 ⟨o_26, ?_⟩
  rw [ly_26_2 hL]
  exact Ways_spread (by omega) hL hB ht hst (Or.inr rfl) (Or.inl rfl) h
theorem Ways_spreadFrom {d : Nat} (hd : 3 ≤ d) {σ : kS} {st : Int} {Q : kS → Prop} (hL : Lay σ) (hB : Bes σ) (ht : TolOK (σ 28)) (hst : 0 ≤ st ∧ st < 120) (h : ∀ s, wOff 30 σ s → Lay s → GD (nbW 0) (wgW 0 (σ 28)) st (s 30) → (∀ c, 0 ≤ c → c < 120 → s 30 c ≤ 153600120) → Q s) : Cv d MX10_spreadFrom [(2, 26), (0, st)] kN σ Q := by
  obtain ⟨d, rfl⟩ : ∃ e, d = e + 1 := ⟨d - 1, by omega⟩
  refine EX10_spreadFrom fun _ _ => SX10_spreadFrom_0 ⟨o_26, ?_⟩
  rw [ly_26_3 hL]
  exact Ways_spread (by omega) hL hB ht hst (Or.inl rfl) (Or.inr rfl) h
/-! the way -/
/-- a least sum goes on there -/
def good (U : Int) (t S : Int → Int) (c k : Int) : Prop := stp c k ≠ -1 ∧ S c = S (stp c k) + (t (c * 8 + k) * U + 1)
def IsNext (G : Int → Int → Prop) (c y : Int) : Prop := ∃ k, (0 ≤ k ∧ k < 8) ∧ G c k ∧ (∀ k', 0 ≤ k' → k' < k → ¬ G c k') ∧ y = stp c k
def IsWay (G : Int → Int → Prop) (g : Int) (f : Int → Int) (n : Int) : Prop := 0 ≤ n ∧ f n = g ∧ ∀ j, 0 ≤ j → j < n → f j ≠ g ∧ IsNext G (f j) (f (j + 1))
theorem IsNext.uniq {G : Int → Int → Prop} {c y y' : Int} (h : IsNext G c y) (h' : IsNext G c y') : y = y' := by
  obtain ⟨k, _, h2, h3, h4⟩ := h
  obtain ⟨l, _, m2, m3, m4⟩ := h'
  have : k = l := by
    rcases (show k < l ∨ k = l ∨ l < k by omega) with q | q | q
    · exact absurd h2 (m3 k (by omega) q)
    · exact q
    · exact absurd m2 (h3 l (by omega) q)
  rw [h4, m4, this]
theorem IsNext.cong {G G' : Int → Int → Prop} {c y : Int} (hG : ∀ k, 0 ≤ k → k < 8 → (G c k ↔ G' c k)) (h : IsNext G c y) : IsNext G' c y := by
  obtain ⟨k, h1, h2, h3, h4⟩ := h
  exact ⟨k, h1, (hG k h1.1 h1.2).mp h2, fun k' k0 k1 hk => h3 k' k0 k1 ((hG k' k0 (by omega)).mpr hk), h4⟩
theorem IsWay.uniq {G : Int → Int → Prop} {g : Int} {f f' : Int → Int} {n n' : Int} (h : IsWay G g f n) (h' : IsWay G g f' n') (h0 : f 0 = f' 0) : n = n' ∧ ∀ j, 0 ≤ j → j ≤ n → f j = f' j := by
  obtain ⟨a1, a2, a3⟩ := h
  obtain ⟨b1, b2, b3⟩ := h'
  have key : ∀ j : Nat, (j : Int) ≤ n → (j : Int) ≤ n' → f j = f' j := by
    intro j
    induction j with
    | zero => exact fun _ _ => h0
    | succ j ih =>
      intro h1 h2
      have e := ih (by omega) (by omega)
      have p := (a3 j (by omega) (by omega)).2
      have q := (b3 j (by omega) (by omega)).2
      rw [e] at p
      exact p.uniq q
  have key' : ∀ j : Int, 0 ≤ j → j ≤ n → j ≤ n' → f j = f' j := fun j j0 j1 j2 => by
    have := key j.toNat (by omega) (by omega)
    rwa [k_toNat j0] at this
  have hn : n = n' := by
    rcases (show n < n' ∨ n = n' ∨ n' < n by omega) with q | q | q
    · have := key' n a1 (by omega) (by omega)
      rw [a2] at this
      exact absurd this.symm (b3 n a1 q).1
    · exact q
    · have := key' n' b1 (by omega) (by omega)
      rw [b2] at this
      exact absurd this (a3 n' b1 q).1
  exact ⟨hn, fun j j0 j1 => key' j j0 j1 (by omega)⟩
/-- how many cells are nearer -/
def rank (S : Int → Int) (c : Int) : Int := sm (fun z => if S z < S c then 1 else 0) 120
theorem rank_lt {S : Int → Int} {c y : Int} (hy : 0 ≤ y ∧ y < 120) (h : S y < S c) : rank S y + 1 ≤ rank S c := by
  unfold rank
  have h1 := sm_up (f := fun z => if S z < S y then 1 else 0) (g := fun z => if z = y then 1 else if S z < S y then 1 else 0) (c := y) (n := 120) hy.1 hy.2 (fun i _ _ hi => by simp only [hi, if_false])
  have h2 := sm_le (f := fun z => if z = y then 1 else if S z < S y then 1 else 0) (g := fun z => if S z < S c then (1 : Int) else 0) (n := 120) (fun i _ _ => by
    by_cases e : i = y
    · subst e
      simp only [if_true, h]
      exact Int.le_refl _
    · simp only [e, if_false]
      by_cases e2 : S i < S y
      · rw [if_pos e2, if_pos (by omega)]
        exact Int.le_refl _
      · rw [if_neg e2]
        split <;> omega)
  simp only [if_true, Int.lt_irrefl, if_false] at h1
  omega
theorem rank_b {S : Int → Int} {c : Int} (hc : 0 ≤ c ∧ c < 120) : 0 ≤ rank S c ∧ rank S c ≤ 119 := by
  unfold rank
  have h0 := sm_1 (f := fun z => if S z < S c then 1 else 0) (n := 120) (fun i _ _ => by split <;> omega)
  have h1 := sm_up (f := fun z => if S z < S c then 1 else 0) (g := fun z => if z = c then 1 else if S z < S c then 1 else 0) (c := c) (n := 120) hc.1 hc.2 (fun i _ _ hi => by simp only [hi, if_false])
  have h2 := sm_1 (f := fun z => if z = c then 1 else if S z < S c then 1 else 0) (n := 120) (fun i _ _ => by split <;> (try split) <;> omega)
  simp only [if_true, Int.lt_irrefl, if_false] at h1
  omega
theorem good_ex {t S : Int → Int} {g : Int} (h : GD (nbW 1) (wgW 1 t) g S) {c : Int} (c0 : 0 ≤ c) (c1 : c < 120) (hc : c ≠ g) : ∃ k, (0 ≤ k ∧ k < 8) ∧ good 128 t S c k := by
  obtain ⟨x, k, hx, hk, e1, e2⟩ := h.2.2.2 c c0 c1 hc
  unfold nbW at e1
  rw [if_neg (by decide)] at e1
  unfold wgW nbW at e2
  rw [if_neg (by decide), if_neg (by decide), e1] at e2
  have h3 := stp_fwd hk (x := x) (by omega)
  rw [e1] at h3
  exact ⟨k, hk, by omega, by rw [h3]; exact e2⟩
theorem good_lt {t S : Int → Int} {c k : Int} (ht : TolOK t) (c0 : 0 ≤ c) (c1 : c < 120) (hk : 0 ≤ k ∧ k < 8) (h : good 128 t S c k) : S (stp c k) < S c := by
  have := ht c k c0 c1 hk.1 hk.2 h.1
  have := h.2
  omega
theorem Ways_nextOn {d : Nat} (hd : 1 ≤ d) {σ : kS} {c : Int} {Q : Int → kS → Prop} (hL : Lay σ) (hB : Bes σ) (ht : TolOK (σ 28)) (hc : 0 ≤ c ∧ c < 120) (hS : ∀ c, 0 ≤ c → c < 120 → 0 ≤ σ 29 c ∧ σ 29 c ≤ 153600120) (hg : ∃ k, (0 ≤ k ∧ k < 8) ∧ good 128 (σ 28) (σ 29) c k) (h : ∀ y, IsNext (good 128 (σ 28) (σ 29)) c y → Q y σ) : Ci d MX10_nextOn [(2, 26), (0, c)] kN σ Q := by
  obtain ⟨d, rfl⟩ : ∃ e, d = e + 1 := ⟨d - 1, by omega⟩
  have k27 := kl_27
  have k28 := kl_28
  have k29 := kl_29
  have key : ∀ i : Int, 0 ≤ i → (∀ k, 0 ≤ k → k < i → ¬ good 128 (σ 28) (σ 29) c k) → LX10_nextOn_2 d kN Q 26 c i σ := by
    refine up_to (e := 8) ?_
    intro i ih hi hno
    refine SX10_nextOn_2 ⟨fun e => ?_, fun e => ?_⟩
    · obtain ⟨k, hk, hgk⟩ := hg
      exact absurd hgk (hno k hk.1 (by omega))
    · rw [ly_26_0 hL, ly_26_1 hL, ly_26_2 hL, hB c i hc.1 hc.2 hi (by omega)]
      have nx : ¬ good 128 (σ 28) (σ 29) c i → (-2147483648 ≤ i + 1 ∧ i + 1 ≤ 2147483647) ∧ LX10_nextOn_2 d kN Q 26 c (i + 1) σ := fun hn => ⟨by omega, ih (by omega) (by omega) (fun k k0 k1 => by
        by_cases ek : k = i
        · rw [ek]; exact hn
        · exact hno k k0 (by omega))⟩
      refine ⟨by omega, by omega, o_26, a_27, by omega, fun e1 => nx (fun q => q.1 e1), fun e1 => ?_⟩
      have hs := stp_cell e1
      have h1 := hS _ hs.2.2.1.1 hs.2.2.1.2
      have h2 := ht c i hc.1 hc.2 hi (by omega) e1
      refine ⟨a_29, by omega, by omega, a_28, by omega, by omega, by omega, by omega, fun e2 => nx (fun q => e2 (by have := q.2; omega)), fun e2 => h _ ⟨i, ⟨hi, by omega⟩, ⟨e1, ?_⟩, hno, rfl⟩⟩
      have := Classical.not_not.mp e2
      omega
  exact EX10_nextOn fun _ _ => SX10_nextOn_0 (key 0 (Int.le_refl 0) (fun k k0 k1 => by omega))
