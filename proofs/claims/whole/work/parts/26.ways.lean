/-! Ways (the object 26): the spreading -/
def FAR : Int := 1073741824
def nbW (b x k : Int) : Int := if b = 0 then stp x k else stp x (opp k)
def wgW (b : Int) (t : Int → Int) (x k : Int) : Int := (if b = 0 then t (x * 8 + k) else t (nbW b x k * 8 + k)) * 128 + 1
def Bes (σ : kS) : Prop := ∀ c k, 0 ≤ c → c < 120 → 0 ≤ k → k < 8 → σ 27 (c * 8 + k) = stp c k
def TolOK (t : Int → Int) : Prop := ∀ c k, 0 ≤ c → c < 120 → 0 ≤ k → k < 8 → stp c k ≠ -1 → 1 ≤ t (c * 8 + k) ∧ t (c * 8 + k) ≤ 10000
theorem stp_fwd {x k : Int} (hk : 0 ≤ k ∧ k < 8) (h : stp x (opp k) ≠ -1) : stp (stp x (opp k)) k = x := by
  have := stp_back h
  rwa [opp_opp hk] at this
theorem gw_W {b : Int} {t : Int → Int} (ht : TolOK t) : GW (nbW b) (wgW b t) 1280001 := by
  intro x k x0 x1 k0 k1 hn
  unfold wgW
  unfold nbW at hn ⊢
  by_cases hb : b = 0
  · rw [if_pos hb] at hn ⊢
    rw [if_pos hb]
    have h1 := ht x k x0 x1 k0 k1 hn
    have h2 := stp_cell hn
    exact ⟨h2.2.2.1, by omega, by omega⟩
  · rw [if_neg hb] at hn ⊢
    rw [if_neg hb]
    have h2 := stp_cell hn
    have h3 := stp_fwd ⟨k0, k1⟩ hn
    have h1 := ht (stp x (opp k)) k h2.2.2.1.1 h2.2.2.1.2 k0 k1 (by rw [h3]; omega)
    exact ⟨h2.2.2.1, by omega, by omega⟩
theorem conn_W {b st : Int} (hst : 0 ≤ st ∧ st < 120) : ∀ c, 0 ≤ c → c < 120 → c ≠ st → ∃ x k, (0 ≤ x ∧ x < 120) ∧ (0 ≤ k ∧ k < 8) ∧ nbW b x k = c ∧ apart x st < apart c st := by
  intro c c0 c1 hc
  obtain ⟨d, hd, hlt⟩ := toward ⟨c0, c1⟩ hst hc
  have h2 := stp_cell hd
  have h3 := stp_back hd
  unfold nbW
  by_cases hb : b = 0
  · exact ⟨stp c d, opp d, h2.2.2.1, opp_b h2.2.1, by rw [if_pos hb]; exact h3, hlt⟩
  · exact ⟨stp c d, d, h2.2.2.1, h2.2.1, by rw [if_neg hb]; exact h3, hlt⟩
theorem Ways_least {d : Nat} (hd : 2 ≤ d) {σ : kS} {c : Int} {Q : Int → kS → Prop} (hL : Lay σ) (hc : 0 ≤ c ∧ c < 120) (h0 : 0 ≤ σ 29 c) (h : Q (σ 29 c / 128) σ) : Ci d MX10_least [(2, 26), (0, c)] kN σ Q := by
  obtain ⟨d, rfl⟩ : ∃ e, d = e + 1 := ⟨d - 1, by omega⟩
  have k29 := kl_29
  refine EX10_least fun _ _ => SX10_least_0 (X_isCell (by omega) (fun _ => ⟨fun e => by omega, fun _ => ?_⟩) (fun e => absurd hc e))
  rw [ly_26_2 hL]
  exact ⟨o_26, a_29, by omega, h0, h⟩
theorem Ways_through {d : Nat} (hd : 2 ≤ d) {σ : kS} {c : Int} {Q : Int → kS → Prop} (hL : Lay σ) (hc : 0 ≤ c ∧ c < 120) (h0 : 0 ≤ σ 29 c ∧ σ 29 c ≤ 153600120) (h1 : 0 ≤ σ 30 c ∧ σ 30 c ≤ 153600120) (h : Q (σ 30 c / 128 + σ 29 c / 128) σ) : Ci d MX10_through [(2, 26), (0, c)] kN σ Q := by
  obtain ⟨d, rfl⟩ : ∃ e, d = e + 1 := ⟨d - 1, by omega⟩
  have k29 := kl_29
  have k30 := kl_30
  refine EX10_through fun _ _ => SX10_through_0 (X_isCell (by omega) (fun _ => ⟨fun e => by omega, fun _ => ?_⟩) (fun e => absurd hc e))
  rw [ly_26_2 hL, ly_26_3 hL]
  exact ⟨o_26, a_30, by omega, h1.1, a_29, by omega, h0.1, by omega, h⟩
theorem Ways_toll {d : Nat} (hd : 1 ≤ d) {σ : kS} {c k : Int} {Q : Int → kS → Prop} (hL : Lay σ) (hc : 0 ≤ c ∧ c < 120) (hk : 0 ≤ k ∧ k < 8) (h : Q (σ 28 (c * 8 + k)) σ) : Ci d MX10_toll [(2, 26), (0, c), (0, k)] kN σ Q := by
  obtain ⟨d, rfl⟩ : ∃ e, d = e + 1 := ⟨d - 1, by omega⟩
  have k28 := kl_28
  refine EX10_toll fun _ _ _ => SX10_toll_0 ?_
  rw [ly_26_1 hL]
  exact ⟨by omega, by omega, fun e => by omega, fun _ => ⟨o_26, a_28, fun e => by omega, fun _ => ⟨by omega, h⟩⟩⟩
/-- the open cells -/
def OP (s : kS) (y : Int) : Prop := ∃ i, 0 ≤ i ∧ i < s 26 5 ∧ s 31 i = y
def OD (s : kS) : Prop := ∀ i j, 0 ≤ i → i < j → j < s 26 5 → s 31 i ≠ s 31 j
def wOff (a : Int) (σ s : kS) : Prop := off [26, 31, a] σ s ∧ ∀ j, j ≠ 5 → s 26 j = σ 26 j
theorem Lay.s5 {σ : kS} {v : Int} (h : Lay σ) : Lay (kst σ 26 5 v) := h.kstO 5 o_26 (by decide)
theorem Ways_takeLeast {d : Nat} (hd : 1 ≤ d) {σ : kS} {a : Int} {Q : Int → kS → Prop} (hL : Lay σ) (ha : a = 29 ∨ a = 30) (hn : 0 < σ 26 5 ∧ σ 26 5 ≤ 120) (hc : ∀ y, OP σ y → 0 ≤ y ∧ y < 120) (hD : OD σ) (h : ∀ u s, OP σ u → (∀ y, OP σ y → σ a u ≤ σ a y) → off [26, 31] σ s → (∀ j, j ≠ 5 → s 26 j = σ 26 j) → Lay s → s 26 5 = σ 26 5 - 1 → (∀ y, OP s y ↔ OP σ y ∧ y ≠ u) → OD s → Q u s) : Ci d MX10_takeLeast [(2, 26), (2, a)] kN σ Q := by
  obtain ⟨d, rfl⟩ : ∃ e, d = e + 1 := ⟨d - 1, by omega⟩
  have k31 := kl_31
  have hA : isA 20 kN a ∧ klen a = 120 := by
    rcases ha with rfl | rfl
    · exact ⟨a_29, kl_29⟩
    · exact ⟨a_30, kl_30⟩
  have e4 := ly_26_4 hL
  have key : ∀ i : Int, ∀ m : Int, 0 ≤ m → m < σ 26 5 → 1 ≤ i → i ≤ σ 26 5 → (∀ k, 0 ≤ k → k < i → σ a (σ 31 m) ≤ σ a (σ 31 k)) → LX10_takeLeast_4 d kN Q 26 a m i σ := by
    refine up_to (e := σ 26 5) ?_
    intro i ih m m0 m1 hi hi2 hle
    refine SX10_takeLeast_4 ⟨o_26, fun c => ?_, fun c => ?_⟩
    · rw [e4]
      refine ⟨a_31, by omega, by omega, fun s1 e1 => ?_⟩
      have f1 : s1 26 4 = 31 := by rw [e1, kst_kj (by omega)]; exact e4
      have f2 : s1 26 5 = σ 26 5 - 1 := by rw [e1, kst_eq]
      have f3 : s1 31 = σ 31 := by rw [e1, kst_k (by omega)]
      rw [f1, f2, f3]
      refine ⟨a_31, by omega, by omega, fun s2 e2 => ?_⟩
      have g1 : s2 26 = s1 26 := by rw [e2, kst_k (by omega)]
      have g2 : ∀ k, s2 31 k = if k = m then σ 31 (σ 26 5 - 1) else σ 31 k := fun k => by
        rw [e2, kst_ap, f3]
        by_cases e : k = m
        · rw [if_pos ⟨rfl, e⟩, if_pos e]
        · rw [if_neg (fun q => e q.2), if_neg e]
      have g3 : s2 26 5 = σ 26 5 - 1 := by rw [g1, f2]
      have hLs : Lay s2 := by
        rw [e2, e1]
        exact (hL.s5).kstA a_31
      refine h _ s2 ⟨m, m0, m1, rfl⟩ (fun y hy => ?_) ?_ ?_ hLs g3 (fun y => ?_) ?_
      · obtain ⟨k, k0, k1, rfl⟩ := hy
        exact hle k k0 (by omega)
      · rw [e2, e1]
        exact (off.rfl'.kst (by simp)).kst (by simp)
      · intro j hj
        rw [g1, e1, kst_kj hj]
      · constructor
        · rintro ⟨k, k0, k1, hk⟩
          rw [g3] at k1
          rw [g2] at hk
          by_cases e : k = m
          · rw [if_pos e] at hk
            refine ⟨⟨σ 26 5 - 1, by omega, by omega, hk⟩, fun ey => ?_⟩
            exact hD m (σ 26 5 - 1) m0 (by omega) (by omega) (by rw [hk, ey])
          · rw [if_neg e] at hk
            refine ⟨⟨k, k0, by omega, hk⟩, fun ey => ?_⟩
            rcases (show k < m ∨ m < k by omega) with q | q
            · exact hD k m k0 q m1 (by rw [hk, ey])
            · exact hD m k m0 q (by omega) (by rw [hk, ey])
        · rintro ⟨⟨k, k0, k1, hk⟩, ey⟩
          have hkm : k ≠ m := fun e => ey (by rw [← hk, e])
          by_cases e : k = σ 26 5 - 1
          · exact ⟨m, m0, by omega, by rw [g2, if_pos rfl, ← e]; exact hk⟩
          · exact ⟨k, k0, by omega, by rw [g2, if_neg hkm]; exact hk⟩
      · intro p q p0 pq qn
        rw [g3] at qn
        rw [g2, g2]
        by_cases ep : p = m
        · rw [if_pos ep, if_neg (by omega)]
          exact (hD q (σ 26 5 - 1) (by omega) qn (by omega)).symm
        · rw [if_neg ep]
          by_cases eq : q = m
          · rw [if_pos eq]
            exact hD p (σ 26 5 - 1) p0 (by omega) (by omega)
          · rw [if_neg eq]
            exact hD p q p0 pq (by omega)
    · rw [e4]
      have c1 := hc _ ⟨i, by omega, by omega, rfl⟩
      have c2 := hc _ ⟨m, m0, m1, rfl⟩
      refine ⟨a_31, by omega, hA.1, by omega, by omega, by omega, fun e => ⟨by omega, ih (by omega) m m0 m1 (by omega) (by omega) (fun k k0 k1 => ?_)⟩, fun e => ⟨by omega, ih (by omega) i (by omega) (by omega) (by omega) (by omega) (fun k k0 k1 => ?_)⟩⟩
      · by_cases ek : k = i
        · rw [ek]; exact e
        · exact hle k k0 (by omega)
      · by_cases ek : k = i
        · rw [ek]; exact Int.le_refl _
        · have := hle k k0 (by omega)
          omega
  exact EX10_takeLeast fun _ => SX10_takeLeast_0 (key 1 0 (by omega) hn.1 (by omega) (by omega) (fun k k0 k1 => by rw [show k = 0 by omega]; exact Int.le_refl _))
theorem Ways_reach {d : Nat} (hd : 1 ≤ d) {σ : kS} {a y v : Int} {Q : kS → Prop} (hL : Lay σ) (ha : a = 29 ∨ a = 30) (hy : 0 ≤ y ∧ y < 120) (hn : 0 ≤ σ 26 5 ∧ σ 26 5 ≤ 120) (hf : σ a y = 1073741824 → σ 26 5 < 120) (h1 : v < σ a y → σ a y ≠ 1073741824 → Q (kst σ a y v)) (h2 : v < σ a y → σ a y = 1073741824 → Q (kst (kst (kst σ 31 (σ 26 5) y) 26 5 (σ 26 5 + 1)) a y v)) (h0 : σ a y ≤ v → Q σ) : Cv d MX10_reach [(2, 26), (0, y), (0, v), (2, a)] kN σ Q := by
  obtain ⟨d, rfl⟩ : ∃ e, d = e + 1 := ⟨d - 1, by omega⟩
  have k31 := kl_31
  have hA : isA 20 kN a ∧ klen a = 120 := by
    rcases ha with rfl | rfl
    · exact ⟨a_29, kl_29⟩
    · exact ⟨a_30, kl_30⟩
  have e4 := ly_26_4 hL
  refine EX10_reach fun _ _ _ => SX10_reach_0 ?_
  rw [e4]
  refine ⟨hA.1, by omega, fun c => ⟨fun c1 s1 e1 => ?_, fun c1 => ⟨o_26, a_31, fun c2 => ?_, fun c2 => ⟨by omega, fun s1 e1 => ?_⟩⟩⟩, fun c => h0 (by omega)⟩
  · subst e1
    exact h1 c c1
  · have := hf (Classical.not_not.mp c1)
    omega
  · have f : s1 26 5 = σ 26 5 := by rw [e1, kst_k (by omega)]
    rw [f]
    refine ⟨by omega, fun s2 e2 s3 e3 => ?_⟩
    rw [e3, e2, e1]
    exact h2 c (Classical.not_not.mp c1)
def fin1 (S : Int → Int) (c : Int) : Int := if S c = 1073741824 then 0 else 1
def SI (b a st : Int) (σ s : kS) (i : Int) : Prop := wOff a σ s ∧ Lay s ∧ 0 ≤ s 26 5 ∧ OD s ∧ sm (fin1 (s a)) 120 = i + s 26 5 ∧ DH (nbW b) (wgW b (σ 28)) st (s a) (OP s) i
def SJ (b a st : Int) (σ s : kS) (p u j : Int) : Prop := wOff a σ s ∧ Lay s ∧ 0 ≤ s 26 5 ∧ OD s ∧ sm (fin1 (s a)) 120 = p + s 26 5 ∧ DI (nbW b) (wgW b (σ 28)) st (s a) (OP s) p u j
theorem fin_b {S : Int → Int} : 0 ≤ sm (fin1 S) 120 ∧ sm (fin1 S) 120 ≤ 120 := by
  have := sm_1 (f := fin1 S) (n := 120) (fun i _ _ => by unfold fin1; split <;> omega)
  omega
theorem fin_far {S : Int → Int} {c : Int} (hc : 0 ≤ c ∧ c < 120) (h : S c = 1073741824) : sm (fin1 S) 120 < 120 := by
  have h1 := sm_up (f := fin1 S) (g := fun z => if z = c then 1 else fin1 S z) (c := c) (n := 120) hc.1 hc.2 (fun i _ _ hi => by simp only [hi, if_false])
  have h2 := sm_1 (f := fun z => if z = c then 1 else fin1 S z) (n := 120) (fun i _ _ => by unfold fin1; split <;> (try split) <;> omega)
  have h3 : fin1 S c = 0 := by unfold fin1; rw [if_pos h]
  simp only [if_true] at h1
  omega
/-- one step of the inner loop -/
theorem SJ.go {b a st : Int} {σ s : kS} {p u j : Int} {Q : kS → Prop} {d : Nat} (hd : 1 ≤ d) (hab : a = 29 ∨ a = 30) (ht : TolOK (σ 28)) (hp : p ≤ 120) (h : SJ b a st σ s p u j) (hj : 0 ≤ j ∧ j < 8) (hn : nbW b u j ≠ -1) (hQ : ∀ s', SJ b a st σ s' p u (j + 1) → Q s') : Cv d MX10_reach [(2, 26), (0, nbW b u j), (0, s a u + wgW b (σ 28) u j), (2, a)] kN s Q := by
  obtain ⟨⟨h1, h1'⟩, h2, h3, h4, h5, h6⟩ := h
  have hw := gw_W (b := b) ht
  have hu := h6.2.2.2.2.2.1
  have hy := hw u j hu.1 hu.2 hj.1 hj.2 hn
  have hfb := fin_b (S := s a)
  have hp0 : 0 ≤ p := by
    have := h6.2.2.1 u hu.1 hu.2 h6.2.2.2.2.2.2.1
    omega
  have hup : s a u ≤ (p - 1) * 1280001 := h6.2.2.2.2.2.2.2.2
  have hA : isA 20 kN a := by
    rcases hab with rfl | rfl
    · exact a_29
    · exact a_30
  have upd : ∀ z : kS, z a = s a → ∀ c, kst z a (nbW b u j) (s a u + wgW b (σ 28) u j) a c = if c = nbW b u j then s a u + wgW b (σ 28) u j else s a c := fun z hz c => by
    rw [kst_ap, hz]
    by_cases e : c = nbW b u j
    · rw [if_pos ⟨rfl, e⟩, if_pos e]
    · rw [if_neg (fun q => e q.2), if_neg e]
  have cnt : ∀ S' : Int → Int, (∀ c, S' c = if c = nbW b u j then s a u + wgW b (σ 28) u j else s a c) → sm (fin1 S') 120 = sm (fin1 (s a)) 120 + (1 - fin1 (s a) (nbW b u j)) := fun S' hS => by
    have e : fin1 S' (nbW b u j) = 1 := by
      unfold fin1
      rw [hS, if_pos rfl, if_neg (by omega)]
    have h8 := sm_up (f := fin1 (s a)) (g := fin1 S') (c := nbW b u j) (n := 120) hy.1.1 hy.1.2 (fun i _ _ hi => by unfold fin1; rw [hS, if_neg hi])
    rw [h8, e]
  refine Ways_reach hd h2 hab hy.1 ⟨h3, by omega⟩ (fun hf => ?_) (fun hlt hf => hQ _ ?_) (fun hlt hf => hQ _ ?_) (fun hle => hQ _ ⟨⟨h1, h1'⟩, h2, h3, h4, h5, h6.skip hj.1 (fun _ => hle)⟩)
  · have := fin_far hy.1 hf
    omega
  · have e26 : kst s a (nbW b u j) (s a u + wgW b (σ 28) u j) 26 = s 26 := kst_k (by omega)
    have e31 : kst s a (nbW b u j) (s a u + wgW b (σ 28) u j) 31 = s 31 := kst_k (by omega)
    have hOP : ∀ z, OP (kst s a (nbW b u j) (s a u + wgW b (σ 28) u j)) z ↔ OP s z := fun z => by unfold OP; rw [e26, e31]
    have hin : OP s (nbW b u j) := Classical.byContradiction fun hno => by
      have := (h6.2.2.2.1 _ hy.1.1 hy.1.2 hf hno).1
      omega
    refine ⟨⟨h1.kst (by simp), fun k hk => by rw [e26]; exact h1' k hk⟩, h2.kstA hA, by rw [e26]; exact h3, by unfold OD; rw [e26, e31]; exact h4, ?_, h6.relax hw hp hj hn hlt (upd s rfl) (fun z => ?_)⟩
    · rw [cnt _ (upd s rfl), e26, h5]
      have : fin1 (s a) (nbW b u j) = 1 := by unfold fin1; rw [if_neg hf]
      omega
    · rw [hOP]
      constructor
      · exact Or.inl
      · rintro (q | q)
        · exact q
        · rw [q]; exact hin
  · have ea : kst (kst s 31 (s 26 5) (nbW b u j)) 26 5 (s 26 5 + 1) a = s a := by rw [kst_k (by omega), kst_k (by omega)]
    have g5 : kst (kst (kst s 31 (s 26 5) (nbW b u j)) 26 5 (s 26 5 + 1)) a (nbW b u j) (s a u + wgW b (σ 28) u j) 26 5 = s 26 5 + 1 := by rw [kst_k (by omega), kst_eq]
    have g31 : ∀ k, kst (kst (kst s 31 (s 26 5) (nbW b u j)) 26 5 (s 26 5 + 1)) a (nbW b u j) (s a u + wgW b (σ 28) u j) 31 k = if k = s 26 5 then nbW b u j else s 31 k := fun k => by
      rw [kst_k (by omega), kst_k (by omega), kst_ap]
      by_cases e : k = s 26 5
      · rw [if_pos ⟨rfl, e⟩, if_pos e]
      · rw [if_neg (fun q => e q.2), if_neg e]
    have hno : ¬ OP s (nbW b u j) := fun ho => (h6.2.1 _ ho).2.1 hf
    refine ⟨⟨((h1.kst (by simp)).kst (by simp)).kst (by simp), fun k hk => by rw [kst_k (by omega), kst_kj hk, kst_k (by omega)]; exact h1' k hk⟩, ((h2.kstA a_31).s5).kstA hA, by rw [g5]; omega, ?_, ?_, h6.relax hw hp hj hn hlt (upd _ ea) (fun z => ?_)⟩
    · intro k l k0 kl ln
      rw [g5] at ln
      rw [g31, g31, if_neg (by omega)]
      by_cases e : l = s 26 5
      · rw [if_pos e]
        exact fun q => hno ⟨k, k0, by omega, q⟩
      · rw [if_neg e]
        exact h4 k l k0 kl (by omega)
    · rw [cnt _ (upd _ ea), g5, h5]
      have : fin1 (s a) (nbW b u j) = 0 := by unfold fin1; rw [if_pos hf]
      omega
    · unfold OP
      rw [g5]
      constructor
      · rintro ⟨k, k0, k1, hk⟩
        rw [g31] at hk
        by_cases e : k = s 26 5
        · rw [if_pos e] at hk
          exact Or.inr hk.symm
        · rw [if_neg e] at hk
          exact Or.inl ⟨k, k0, by omega, hk⟩
      · rintro (⟨k, k0, k1, hk⟩ | hk)
        · exact ⟨k, k0, by omega, by rw [g31, if_neg (by omega)]; exact hk⟩
        · exact ⟨s 26 5, h3, by omega, by rw [g31, if_pos rfl]; exact hk.symm⟩
