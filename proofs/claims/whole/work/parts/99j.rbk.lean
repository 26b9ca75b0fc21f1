/-! worths see the bytes 0 .. n alone; what books are; the model's fault -/
section GC2
variable {b b' : Int → Int} {n : Int}
theorem runC {r r' : gR} {k k' : Int → List Int → Int} (hr : r = r') (hn : ∀ x, r = .inr x → 0 ≤ x.1) (hk : ∀ p os, 0 ≤ p → k p os = k' p os) : gRun r k = gRun r' k' := by
  subst hr
  cases r with
  | inl q => rfl
  | inr y => exact hk y.1 y.2 (hn y rfl)
theorem tailVC (hb : ∀ i, 0 ≤ i → i < n → b i = b' i) {L : Int → Int} {nx nx' : Int → Int} (hx : ∀ p, 0 ≤ p → nx p = nx' p) : ∀ p o, 0 ≤ p → gTailV b n L nx p o = gTailV b' n L nx' p o := by
  intro p o hp
  have hs := sk_c hb (p + 1) (by omega)
  have h := sumC hb 6 _ hs.2
  unfold gTailV
  rw [← hs.1]
  refine runC h.1 h.2 (fun p' o' hp' => ?_)
  by_cases c : gVof L o = 0
  · simp only [if_pos c]
    exact hx p' hp'
  · simp only [if_neg c]
theorem goVC (hb : ∀ i, 0 ≤ i → i < n → b i = b' i) {L : Int → Int} : ∀ (f : Nat) (p : Int), 0 ≤ p → gGoV b n L f p = gGoV b' n L f p := by
  intro f
  induction f with
  | zero => intro p _; rfl
  | succ f ih =>
    intro p hp
    have hs := sk_c hb (p + 1) (by omega)
    have hs2 := sk_c hb (sk b n (p + 1) + 1) (by omega)
    have hx : ∀ q, 0 ≤ q → (fun p' => if n ≤ p' then 0 else gGoV b n L f (sk b n (p' + 1))) q = (fun p' => if n ≤ p' then 0 else gGoV b' n L f (sk b' n (p' + 1))) q := fun q hq => by
      have hs3 := sk_c hb (q + 1) (by omega)
      show (if n ≤ q then 0 else gGoV b n L f (sk b n (q + 1))) = if n ≤ q then 0 else gGoV b' n L f (sk b' n (q + 1))
      rw [← hs3.1, ih _ hs3.2]
    rw [gGoV, gGoV, ← hs.1, ← hs2.1, gat_c hb]
    by_cases c3 : gat b' n (sk b n (sk b n (p + 1) + 1)) = 33 ∨ gat b' n (sk b n (sk b n (p + 1) + 1)) = 40
    · simp only [if_pos c3]
      have h := condC hb 6 _ hs2.2
      exact runC h.1 h.2 (fun p' o hp' => tailVC hb hx p' o hp')
    · simp only [if_neg c3]
      have h := sumC hb 6 _ hs2.2
      refine runC h.1 h.2 (fun p' o hp' => ?_)
      by_cases c4 : gSign (gat b' n p')
      · simp only [if_pos c4]
        have h2 := condGC hb 6 p' o hp'
        exact runC h2.1 h2.2 (fun p2 o2 hp2 => tailVC hb hx p2 o2 hp2)
      · simp only [if_neg c4]
theorem kindP_cb (hb : ∀ i, 0 ≤ i → i < n → b i = b' i) {load wet kind : Int} : kindP b n load wet kind = kindP b' n load wet kind := by
  have hs := sk_c hb 0 (Int.le_refl 0)
  unfold kindP gWorth
  rw [← hs.1, goVC hb 120 _ hs.2]
/-- a book that is read -/
def bkOK (n tw : Int) (st to : List Int) : Prop := (2 * (to.length : Int) + 1 ≤ n ∧ st.length = to.length + 1) ∧ (∀ x ∈ st, 0 ≤ x ∧ x < tw) ∧ ∀ m ∈ to, 0 ≤ m ∧ m ≤ 99
theorem bkL_ok {tw : Int} (hn : n ≤ 120) : ∀ (f : Nat) (p : Int) (st to : List Int), (to.length : Int) + f = 121 → 2 * (to.length : Int) + 1 ≤ p → p ≤ n → sk b n p = p → st.length = to.length + 1 → (∀ x ∈ st, 0 ≤ x ∧ x < tw) → (∀ m ∈ to, 0 ≤ m ∧ m ≤ 99) → ∀ st' to', bkL b n tw f p st to = .inr (st', to') → 1 ≤ to'.length ∧ bkOK n tw st' to' := by
  intro f
  induction f with
  | zero => intro p st to h1 h2 h3 _ _ _ _ st' to' _; omega
  | succ f ih =>
    intro p st to h1 h2 h3 h4 h5 h6 h7 st' to' h
    rw [bkL] at h
    by_cases c1 : n ≤ p ∧ 0 < to.length
    · rw [if_pos c1] at h
      cases h
      exact ⟨c1.2, ⟨by omega, h5⟩, h6, h7⟩
    · rw [if_neg c1] at h
      by_cases c2 : gDig (gat b n p)
      · rw [if_pos c2] at h
        have hm := bkM_b c2
        have hsk := sk_facts (b := b) (n := n) (bkM b n p).2 hm.2.1.2
        by_cases c3 : bkT b n tw (sk b n (bkM b n p).2)
        · rw [if_pos c3] at h
          have hg := gat_in (c := gat b n (sk b n (bkM b n p).2)) rfl (by omega)
          have hnx := sk_next (b := b) (n := n) (p := sk b n (bkM b n p).2) (by omega) hg.2
          refine ih _ _ _ (by simp only [List.length_append, List.length_cons, List.length_nil]; omega) (by simp only [List.length_append, List.length_cons, List.length_nil]; omega) (by omega) hnx.2.2 (by simp only [List.length_append, List.length_cons, List.length_nil]; omega) (fun x hx => ?_) (fun m hx => ?_) st' to' h
          · rcases List.mem_append.mp hx with hx | hx
            · exact h6 x hx
            · rw [List.mem_singleton] at hx
              omega
          · rcases List.mem_append.mp hx with hx | hx
            · exact h7 m hx
            · rw [List.mem_singleton] at hx
              rw [hx]
              exact hm.1
        · rw [if_neg c3] at h
          cases h
      · rw [if_neg c2] at h
        cases h
theorem bk_ok {tw : Int} (hn : 0 ≤ n ∧ n ≤ 120) {st to : List Int} (h : bk b n tw = .inr (st, to)) : 1 ≤ to.length ∧ bkOK n tw st to := by
  unfold bk at h
  have hsk := sk_facts (b := b) (n := n) 0 hn.1
  by_cases c : bkT b n tw (sk b n 0)
  · rw [if_pos c] at h
    have hg := gat_in (c := gat b n (sk b n 0)) rfl (by omega)
    have hnx := sk_next (b := b) (n := n) (p := sk b n 0) (by omega) hg.2
    refine bkL_ok hn.2 121 _ _ _ rfl (by simp only [List.length_nil]; omega) (by omega) hnx.2.2 rfl (fun x hx => ?_) (fun m hm => by cases hm) st to h
    rw [List.mem_singleton] at hx
    omega
  · rw [if_neg c] at h
    cases h
end GC2
/-! the model's fault -/
def tpOK (s : kS) : Prop := (0 ≤ s 166 13 ∧ s 166 13 ≤ 120) ∧ ∀ i, 0 ≤ i → i < s 166 13 → (-128 ≤ s 169 i ∧ s 169 i ≤ 127) ∧ s 169 i ≠ 0
theorem cTape.tp {s : kS} (h : cTape s) : tpOK s ∧ (∀ i, 0 ≤ i → i < s 166 13 → s 9 i = mby s 169 0 i) ∧ s 166 13 = s 8 1 ∧ ∀ i, 0 ≤ i → i < s 8 1 → 1 ≤ s 9 i ∧ s 9 i ≤ 255 := by
  have k9 : klen (8 + 1) = 120 := kl_9
  obtain ⟨h1, h2, h3⟩ := h
  have := h1.2
  refine ⟨⟨by omega, fun i i0 i1 => ⟨(h3 i i0 (by omega)).2.2, fun e => ?_⟩⟩, fun i i0 i1 => ?_, h2, fun i i0 i1 => (h3 i i0 i1).1⟩
  · have h4 := h3 i i0 (by omega)
    rw [e] at h4
    have : gby 0 = 0 := rfl
    omega
  · have h4 := h3 i i0 (by omega)
    unfold mby
    rw [Int.zero_add]
    exact h4.2.1.symm
def FZ (s u : kS) : Prop := off [166] s u ∧ (∀ j, j ≠ 0 → j ≠ 12 → ¬ (16 ≤ j ∧ j ≤ 22) → j ≠ 25 → u 166 j = s 166 j) ∧ Lay u
theorem M_fault0 {d : Nat} (hd : 36 ≤ d) {s : kS} {Q : Int → kS → Prop} (hL : Lay s) (ht : tpOK s) (h1 : ∀ x, gText (mby s 169 0) (s 166 13) = .inr x → ∀ u, FZ s u → Q (-1) u) (h0 : ∀ pf, gText (mby s 169 0) (s 166 13) = .inl pf → 0 ≤ pf → ∀ u, FZ s u → Q pf u) : Ci d MX12_fault [(2, 166), (0, 0)] kN s Q := by
  obtain ⟨d, rfl⟩ : ∃ e, d = e + 1 := ⟨d - 1, by omega⟩
  have k169 := kl_169
  have ht13 := ht.1
  refine EX12_fault fun _ _ => SX12_fault_0 ⟨o_166, fun s1 e1 => ?_⟩
  have L1 : Lay s1 := by rw [e1]; exact hL.kstO 0 o_166 (by decide)
  have e169 : s1 169 = s 169 := by rw [e1, kst_k (by decide)]
  have f1 : ∀ j, j ≠ 0 → s1 166 j = s 166 j := fun j hj => by rw [e1, kst_kj hj]
  have em : mby s1 169 0 = mby s 169 0 := by
    funext i
    unfold mby
    rw [e169]
  refine M_isIn (by omega) (fun _ => ⟨fun _ => ⟨fun q => absurd rfl q, fun _ => ?_⟩, fun e => by omega⟩) (fun c => by omega)
  rw [ly_166_4 L1, f1 13 (by decide)]
  have fz : ∀ u, MG s1 u → FZ s u := fun u hu => ⟨(show off [166] s s1 by rw [e1]; exact off.rfl'.kst (by decide)).trans hu.1, fun j j1 j2 j3 j4 => (hu.2.1 j j2 j3 j4).trans (f1 j j1), hu.2.2⟩
  refine M_goThrough (by omega) L1 (a_169 : isA 21 kN 169) ⟨by omega, ht.1.1, ht.1.2, by omega⟩ (by omega) (fun i i0 i1 => by rw [e169, Int.zero_add]; exact ht.2 i i0 i1) (fun u x hx hu h19 _ => ?_) (fun u pf hx hp hu h19 => ?_)
  · rw [em] at hx
    rw [h19]
    exact h1 x hx u (fz u hu)
  · rw [em] at hx
    rw [h19]
    exact h0 pf hx hp u (fz u hu)
/-- what reading a book changes in the model -/
def FB (s u : kS) (c : Int) : Prop := off [166, 173, 174, 175, 176] s u ∧ (∀ j, j ≠ 0 → j ≠ 12 → ¬ (16 ≤ j ∧ j ≤ 22) → j ≠ 25 → u 166 j = s 166 j) ∧ Lay u ∧ (∀ j, j ≠ c → u 173 j = s 173 j) ∧ ∀ j, ¬ (60 * c ≤ j ∧ j < 60 * c + 60) → u 174 j = s 174 j ∧ u 175 j = s 175 j ∧ u 176 j = s 176 j
def BV (u : kS) (c : Int) (st to : List Int) : Prop := u 173 c = to.length ∧ ∀ k : Int, 0 ≤ k → k < to.length → u 174 (60 * c + k) = st.getD k.toNat 0 ∧ u 175 (60 * c + k) = st.getD (k + 1).toNat 0 ∧ u 176 (60 * c + k) = to.getD k.toNat 0
theorem M_readBook {d : Nat} (hd : 5 ≤ d) {s : kS} {c tw : Int} {Q : kS → Prop} (hL : Lay s) (ht : tpOK s) (h15 : s 166 15 = c) (hc : 0 ≤ c ∧ c ≤ 4) (htw : s 166 3 = tw ∧ 0 ≤ tw ∧ tw ≤ 8) (h1 : ∀ st to, bk (mby s 169 0) (s 166 13) tw = .inr (st, to) → ∀ u, FB s u c → BV u c st to → u 166 19 = -1 → Q u) (h0 : ∀ pf, bk (mby s 169 0) (s 166 13) tw = .inl pf → 0 ≤ pf → ∀ u, FB s u c → u 166 19 = pf → Q u) : Cv d MX12_readBook [(2, 166)] kN s Q := by
  obtain ⟨d, rfl⟩ : ∃ e, d = e + 1 := ⟨d - 1, by omega⟩
  obtain ⟨e, rfl⟩ : ∃ e, d = e + 1 := ⟨d - 1, by omega⟩
  have k169 := kl_169
  have ht13 := ht.1
  have k173 := kl_173
  refine EX12_readBook fun _ => SX12_readBook_0 ⟨o_166, EX12_begin fun _ _ _ => SX12_begin_0 ⟨o_166, fun s1 e1 s2 e2 s3 e3 s4 e4 s5 e5 => ?_⟩⟩
  rw [ly_166_4 hL] at e1
  have hL1 : Lay s1 := by rw [e1]; exact hL.kstR (by decide +kernel)
  have L5 : Lay s5 := by
    rw [e5, e4, e3, e2]
    exact (((hL1.kstO 16 o_166 (by decide)).kstO 17 o_166 (by decide)).kstO 18 o_166 (by decide)).kstO 19 o_166 (by decide)
  have oth : ∀ k, k ≠ 166 → s5 k = s k := fun k hk => by
    rw [e5, e4, e3, e2, e1]
    simp only [kst_k hk]
  have own : ∀ j, s5 166 j = if j = 19 then -1 else if j = 18 then 0 else if j = 17 then s 166 13 else if j = 16 then 0 else if j = 12 then 169 else s 166 j := fun j => by
    rw [e5, e4, e3, e2, e1]
    simp only [kst_ap, true_and]
  rw [ly_166_8 L5, show s5 166 15 = c by rw [own]; exact h15]
  refine ⟨a_173, by omega, fun t et => ?_⟩
  have Lt : Lay t := by rw [et]; exact L5.kstA a_173
  have t166 : t 166 = s5 166 := by rw [et, kst_k (by decide)]
  have toth : ∀ k, k ≠ 166 → k ≠ 173 → t k = s k := fun k h1 h2 => by rw [et, kst_k h2, oth k h1]
  have t169 : t 169 = s 169 := toth 169 (by decide) (by decide)
  have em : mby t 169 0 = mby s 169 0 := by
    funext i
    unfold mby
    rw [t169]
  have hMB : MB t 169 0 (s 166 13) := ⟨Lt, by rw [t166, own]; rfl, ⟨by rw [t166, own]; rfl, by rw [t166, own]; rfl⟩, a_169, ⟨by omega, ht.1.1, ht.1.2, by omega⟩, by omega, by decide, fun i i0 i1 => by rw [t169, Int.zero_add]; exact ht.2 i i0 i1⟩
  have t15 : t 166 15 = c := by rw [t166, own]; exact h15
  have t3 : t 166 3 = tw := by rw [t166, own]; exact htw.1
  have hMS : MS t t 0 (-1) (t 166 20) := ⟨off.rfl', fun _ _ _ _ => rfl, Lt, by rw [t166, own]; rfl, by rw [t166, own]; rfl, rfl⟩
  have t173 : ∀ j, t 173 j = if j = c then 0 else s 173 j := fun j => by
    rw [et, kst_ap]
    by_cases ej : j = c
    · rw [if_pos ⟨rfl, ej⟩, if_pos ej]
    · rw [if_neg (fun z => ej z.2), if_neg ej, oth 173 (by decide)]
  have fb : ∀ u q ft st to, BM t u c q ft st to → FB s u c := fun u q ft st to hu => by
    obtain ⟨u1, u2, u3, u4, u5, ⟨u6, u6'⟩, u7, u8⟩ := hu
    refine ⟨fun k hk => ?_, fun j j1 j2 j3 j4 => ?_, u3, fun j hj => ?_, fun j hj => ?_⟩
    · rw [u1 k hk]
      simp only [List.mem_cons, List.not_mem_nil, or_false] at hk
      exact toth k (by omega) (by omega)
    · rw [u2 j (by omega) (by omega) (by omega), t166, own, if_neg (by omega), if_neg (by omega), if_neg (by omega), if_neg (by omega), if_neg (by omega)]
    · rw [u6' j hj, t173, if_neg hj]
    · have := u8 j hj
      rw [toth 174 (by decide) (by decide), toth 175 (by decide) (by decide), toth 176 (by decide) (by decide)] at this
      exact this
  have hsk := sk_facts (b := mby t 169 0) (n := s 166 13) 0 ht.1.1
  have hbk : bk (mby t 169 0) (s 166 13) tw = bk (mby t 169 0) (s 166 13) tw := rfl
  conv at hbk => rhs; unfold bk
  have base : ∀ (u : kS) (q ft : Int) (x : List Int), MS t u q ft (t 166 20) → BM t u c q ft x [] := fun u q ft x hu => by
    obtain ⟨m1, m2, m3, m4, m5, m6⟩ := hu
    have e' : ∀ k, k ≠ 166 → u k = t k := fun k hk => m1 k (by simp only [List.mem_cons, List.not_mem_nil, or_false]; exact hk)
    refine ⟨m1.mono (by simp), fun j j1 j2 j3 => m2 j j1 j2 j3, m3, m4, m5, ⟨?_, fun j hj => by rw [e' 173 (by decide)]⟩, fun k k0 k1 => ?_, fun j hj => ⟨by rw [e' 174 (by decide)], by rw [e' 175 (by decide)], by rw [e' 176 (by decide)]⟩⟩
    · rw [e' 173 (by decide), t173, if_pos rfl]
      rfl
    · have k1 : k < 0 := k1
      omega
  rw [← em] at h1 h0
  refine M_readTown (tw := tw) (by omega) hMB ⟨t3, htw.2⟩ hMS (by omega) ht.1.1 (fun hT s' hs' => ?_) (fun hT s' hs' => ?_)
  · rw [if_pos hT] at hbk
    have hg := gat_in (c := gat (mby t 169 0) (s 166 13) (sk (mby t 169 0) (s 166 13) 0)) rfl (by omega)
    exact M_readLoop (by omega) hMB t15 hc ⟨t3, htw.2⟩ (fun st to hb u q hu => h1 st to hb u (fb u _ _ _ _ hu) ⟨hu.2.2.2.2.2.1.1, hu.2.2.2.2.2.2.1⟩ hu.2.2.2.2.1) (fun pf hb hp u q st to hu => h0 pf hb hp u (fb u _ _ _ _ hu) hu.2.2.2.2.1) 121 0 (sk (mby t 169 0) (s 166 13) 0 + 1) [gat (mby t 169 0) (s 166 13) (sk (mby t 169 0) (s 166 13) 0) - 97] [] s' (by omega) (by omega) (by omega) (by omega) rfl rfl (base s' _ _ _ hs') hbk.symm
  · rw [if_neg hT] at hbk
    have hu := base s' _ _ [] hs'
    have h19 := hu.2.2.2.2.1
    exact SX12_readBook_28 ⟨o_166, fun _ => h0 _ hbk (by omega) s' (fb s' _ _ _ _ hu) h19, fun z => by omega⟩
theorem M_fault1 {d : Nat} (hd : 7 ≤ d) {s : kS} {c tw : Int} {Q : Int → kS → Prop} (hL : Lay s) (ht : tpOK s) (h15 : s 166 15 = c) (hc : 0 ≤ c ∧ c ≤ 4) (htw : s 166 3 = tw ∧ 0 ≤ tw ∧ tw ≤ 8) (h1 : ∀ st to, bk (mby s 169 0) (s 166 13) tw = .inr (st, to) → ∀ u, FB s u c → BV u c st to → Q (-1) u) (h0 : ∀ pf, bk (mby s 169 0) (s 166 13) tw = .inl pf → 0 ≤ pf → ∀ u, FB s u c → Q pf u) : Ci d MX12_fault [(2, 166), (0, 1)] kN s Q := by
  obtain ⟨d, rfl⟩ : ∃ e, d = e + 1 := ⟨d - 1, by omega⟩
  refine EX12_fault fun _ _ => SX12_fault_0 ⟨o_166, fun s1 e1 => ?_⟩
  have L1 : Lay s1 := by rw [e1]; exact hL.kstO 0 o_166 (by decide)
  have e169 : s1 169 = s 169 := by rw [e1, kst_k (by decide)]
  have f1 : ∀ j, j ≠ 0 → s1 166 j = s 166 j := fun j hj => by rw [e1, kst_kj hj]
  have o1 : off [166] s s1 := by rw [e1]; exact off.rfl'.kst (by decide)
  have em : mby s1 169 0 = mby s 169 0 := by
    funext i
    unfold mby
    rw [e169]
  have fb : ∀ u, FB s1 u c → FB s u c := fun u hu => by
    obtain ⟨u1, u2, u3, u4, u5⟩ := hu
    refine ⟨(o1.mono (by simp)).trans u1, fun j j1 j2 j3 j4 => (u2 j j1 j2 j3 j4).trans (f1 j j1), u3, fun j hj => by rw [u4 j hj, o1 173 (by decide)], fun j hj => ?_⟩
    have := u5 j hj
    rw [o1 174 (by decide), o1 175 (by decide), o1 176 (by decide)] at this
    exact this
  refine M_isIn (by omega) (fun _ => ⟨fun _ => ⟨fun q => ?_, fun q => by omega⟩, fun e => by omega⟩) (fun c => by omega)
  refine M_readBook (c := c) (tw := tw) (by omega) L1 (by unfold tpOK; rw [f1 13 (by decide), e169]; exact ht) (by rw [f1 15 (by decide)]; exact h15) hc (by rw [f1 3 (by decide)]; exact htw) (fun st to hb u hu hv h19 => ?_) (fun pf hb hp u hu h19 => ?_)
  · rw [em, f1 13 (by decide)] at hb
    rw [h19]
    exact h1 st to hb u (fb u hu) hv
  · rw [em, f1 13 (by decide)] at hb
    rw [h19]
    exact h0 pf hb hp u (fb u hu)
