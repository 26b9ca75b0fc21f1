/-! the model: goThrough -/
def gRest (b : Int → Int) (n : Int) (f : Nat) (p' : Int) (os : List Int) : gR := if n ≤ p' then .inr (p', os) else if gat b n p' = 59 then gGoer b n f (sk b n (p' + 1)) os else .inl p'
theorem through_loop {d : Nat} (hd : 34 ≤ d) {σ : kS} {T B n : Int} (hB : MB σ T B n) (h21 : σ 166 21 = 121) {Q : kS → Prop} : ∀ (f : Nat) (s : kS) (q p' : Int) (os : List Int) (hf fd : Int), MT σ s q (-1) 0 hf fd → 0 ≤ q → q ≤ n → sk (mby σ T B) n q = p' → 120 ≤ p' + f → (hf = 0 → fd = 0) →
    (∀ s' q' dp' hf' x, gRest (mby σ T B) n f p' os = .inr x → MT σ s' q' (-1) dp' hf' (if hf = 0 then (if n ≤ p' then 0 else gGoV (mby σ T B) n (mL σ) f (sk (mby σ T B) n (p' + 1))) else fd) → Q s') →
    (∀ s' q' pf dp' hf' fd', gRest (mby σ T B) n f p' os = .inl pf → 0 ≤ pf → MT σ s' q' pf dp' hf' fd' → Q s') → LX12_goThrough_32 d kN Q 166 s := by
  intro f
  have hn := hB.2.2.2.2.1
  induction f with
  | zero =>
    intro s q p' os hf fd hs q0 qn hp hfu hfd h1 h0
    obtain ⟨hBs, hMS, eb, eL⟩ := hs.base hB
    have hk := sk_facts (b := mby σ T B) q qn
    have hkk := sk_sk (b := mby σ T B) (n := n) (p := q) qn
    rw [hp] at hk hkk
    have e0 : gRest (mby σ T B) n 0 p' os = .inr (p', os) := by unfold gRest; rw [if_pos (by omega)]
    refine SX12_goThrough_32 ?_
    rw [hs.2.2.2.2.1]
    refine ⟨o_166, fun e => absurd rfl e, fun _ => M_look (by omega) hBs hMS q0 qn (fun s1 hs1 => ?_)⟩
    rw [eb, hp] at hs1 ⊢
    have ht1 := hs.on hs1
    rw [gat_out (b := mby σ T B) (n := n) (p := p') (by omega), ht1.2.2.2.2.1]
    refine ⟨fun _ => ⟨fun e => absurd rfl e, fun _ => M_look (by omega) hBs hs1 (by omega) (by omega) (fun s2 hs2 => ?_)⟩, fun e => absurd (by decide) e⟩
    rw [eb, hkk] at hs2 ⊢
    rw [gat_out (b := mby σ T B) (n := n) (p := p') (by omega)]
    have ht2 := hs.on hs2
    refine ⟨fun _ => h1 s2 p' 0 hf _ e0 ?_, fun e => absurd rfl e⟩
    by_cases c : hf = 0
    · rw [if_pos c, if_pos (show n ≤ p' by omega)]
      rw [hfd c] at ht2
      exact ht2
    · rw [if_neg c]; exact ht2
  | succ f ih =>
    intro s q p' os hf fd hs q0 qn hp hfu hfd h1 h0
    obtain ⟨hBs, hMS, eb, eL⟩ := hs.base hB
    have hk := sk_facts (b := mby σ T B) q qn
    have hkk := sk_sk (b := mby σ T B) (n := n) (p := q) qn
    rw [hp] at hk hkk
    refine SX12_goThrough_32 ?_
    rw [hs.2.2.2.2.1]
    refine ⟨o_166, fun e => absurd rfl e, fun _ => M_look (by omega) hBs hMS q0 qn (fun s1 hs1 => ?_)⟩
    rw [eb, hp] at hs1 ⊢
    have ht1 := hs.on hs1
    refine ⟨fun c => ?_, fun c => ?_⟩
    · rw [ht1.2.2.2.2.1]
      refine ⟨fun e => absurd rfl e, fun _ => M_look (by omega) hBs hs1 (by omega) (by omega) (fun s2 hs2 => ?_)⟩
      rw [eb, hkk] at hs2 ⊢
      have ht2 := hs.on hs2
      by_cases cn : n ≤ p'
      · rw [gat_out (b := mby σ T B) (n := n) (p := p') cn]
        have e0 : gRest (mby σ T B) n (f + 1) p' os = .inr (p', os) := by unfold gRest; rw [if_pos cn]
        refine ⟨fun _ => h1 s2 p' 0 hf _ e0 ?_, fun e => absurd rfl e⟩
        by_cases c : hf = 0
        · rw [if_pos c, if_pos cn]
          rw [hfd c] at ht2
          exact ht2
        · rw [if_neg c]; exact ht2
      · have hm := (mby_at hB (i := p') ⟨by omega, by omega⟩).2.1
        have e0 : gRest (mby σ T B) n (f + 1) p' os = .inl p' := by unfold gRest; rw [if_neg cn, if_neg c]
        refine ⟨fun e => by omega, fun _ => M_fails (by omega) hs2 (fun s3 hs3 => ?_)⟩
        rw [if_pos rfl] at hs3
        exact h0 s3 p' p' 0 _ _ e0 (by omega) (hs.on hs3)
    · have c := Classical.not_not.mp c
      have hin := gat_in c (by decide)
      have hk2 := sk_next (b := mby σ T B) hin.1 hin.2
      have er : ∀ os, gRest (mby σ T B) n (f + 1) p' os = gGoer (mby σ T B) n (f + 1) (sk (mby σ T B) n (p' + 1)) os := fun os => by unfold gRest; rw [if_neg (by omega), if_pos c]
      rw [er] at h1 h0
      rw [if_neg (show ¬ n ≤ p' by omega)] at h1
      rw [hs1.2.2.2.1]
      refine ⟨by omega, fun s2 e2 => ?_⟩
      have ht2 : MT σ s2 (p' + 1) (-1) 0 hf fd := hs.on (by rw [e2]; exact hs1.at')
      refine M_clause hd hB h21 ht2 (by omega) (by omega) (m := (os.length : Int)) (fun q3 p3 o c3 v s3 e3 k3 hq3 hg hs3 => ?_) (fun q3 pf dp3 hf3 fd3 s3 e3 pf0 hs3 => ?_)
      · have hadv := gClause_adv (by omega) e3
        have eG : gGoer (mby σ T B) n (f + 1) (sk (mby σ T B) n (p' + 1)) os = gRest (mby σ T B) n f p3 (os ++ o) := by
          rw [gGoer, e3]
          rfl
        rw [eG] at h1 h0
        rw [hg f] at h1
        refine ih s3 q3 p3 (os ++ o) _ _ hs3 hq3.1 hq3.2 k3 (by omega) (fun e => ?_) (fun s' q' dp' hf' x ex hs' => h1 s' q' dp' hf' x ex ?_) h0
        · by_cases ch : hf = 0
          · by_cases cc : c3 = 0
            · rw [if_neg (fun z => z.2 cc)]
              exact hfd ch
            · rw [if_pos ⟨ch, cc⟩] at e
              exact absurd e (by decide)
          · rw [if_neg (fun z => ch z.1)] at e
            exact absurd e ch
        · by_cases ch : hf = 0
          · rw [if_pos ch]
            by_cases cc : c3 = 0
            · rw [if_pos cc]
              rw [if_neg (show ¬ (hf = 0 ∧ c3 ≠ 0) from fun z => z.2 cc), if_neg (show ¬ (hf = 0 ∧ c3 ≠ 0) from fun z => z.2 cc), if_pos ch] at hs'
              exact hs'
            · rw [if_neg cc]
              rw [if_pos (show hf = 0 ∧ c3 ≠ 0 from ⟨ch, cc⟩), if_pos (show hf = 0 ∧ c3 ≠ 0 from ⟨ch, cc⟩), if_neg (by decide)] at hs'
              exact hs'
          · rw [if_neg ch]
            rw [if_neg (show ¬ (hf = 0 ∧ c3 ≠ 0) from fun z => ch z.1), if_neg (show ¬ (hf = 0 ∧ c3 ≠ 0) from fun z => ch z.1), if_neg ch] at hs'
            exact hs'
      · refine SX12_goThrough_32 ?_
        rw [hs3.2.2.2.2.1]
        have hfl : gGoer (mby σ T B) n (f + 1) (sk (mby σ T B) n (p' + 1)) os = .inl pf := by
          rw [gGoer]
          rcases e3 with e3 | ⟨o, e3, hdg⟩
          · rw [e3]; rfl
          · rw [e3]
            have hin3 := gat_in (b := mby σ T B) (n := n) (p := pf) rfl (by omega)
            show (if n ≤ pf then _ else _) = _
            rw [if_neg (by omega), if_neg (show ¬ gat (mby σ T B) n pf = 59 by omega)]
        exact ⟨o_166, fun _ => ⟨fun _ => h0 s3 q3 pf dp3 hf3 fd3 hfl pf0 hs3, fun e => by omega⟩, fun e => by omega⟩
/-- what goThrough changes -/
def MG (σ s : kS) : Prop := off [166] σ s ∧ (∀ j, j ≠ 12 → ¬ (16 ≤ j ∧ j ≤ 22) → j ≠ 25 → s 166 j = σ 166 j) ∧ Lay s
theorem M_goThrough {d : Nat} (hd : 35 ≤ d) {σ : kS} (hL : Lay σ) {T B n : Int} (hA : isA 21 kN T) (hb : 0 ≤ B ∧ 0 ≤ n ∧ n ≤ 120 ∧ B + n ≤ klen T) (h720 : klen T ≤ 720) (hby : ∀ i, 0 ≤ i → i < n → (-128 ≤ σ T (B + i) ∧ σ T (B + i) ≤ 127) ∧ σ T (B + i) ≠ 0) {Q : kS → Prop}
    (h1 : ∀ s x, gText (mby σ T B) n = .inr x → MG σ s → s 166 19 = -1 → s 166 22 = gWorth (mby σ T B) n (mL σ) → Q s) (h0 : ∀ s pf, gText (mby σ T B) n = .inl pf → 0 ≤ pf → MG σ s → s 166 19 = pf → Q s) : Cv d MX12_goThrough [(2, 166), (2, T), (0, B), (0, n)] kN σ Q := by
  obtain ⟨d, rfl⟩ : ∃ e, d = e + 1 := ⟨d - 1, by omega⟩
  have hT : T ≠ 166 := fun e => by
    rw [e] at hA
    exact absurd hA.2.2 (by decide)
  obtain ⟨e, rfl⟩ : ∃ e, d = e + 1 := ⟨d - 1, by omega⟩
  refine EX12_goThrough fun _ _ _ => SX12_goThrough_0 ⟨o_166, EX12_begin fun _ _ _ => SX12_begin_0 ⟨o_166, fun s1 e1 s2 e2 s3 e3 s4 e4 s5 e5 s6 e6 s7 e7 s8 e8 s9 e9 => ?_⟩⟩
  have hL1 : Lay s1 := by rw [e1]; exact hL.kstR (by decide +kernel)
  have hL9 : Lay s9 := by
    rw [e9, e8, e7, e6, e5, e4, e3, e2]
    exact (((((((hL1.kstO 16 o_166 (by decide)).kstO 17 o_166 (by decide)).kstO 18 o_166 (by decide)).kstO 19 o_166 (by decide)).kstO 21 o_166 (by decide)).kstO 20 o_166 (by decide)).kstO 25 o_166 (by decide)).kstO 22 o_166 (by decide)
  have oth : ∀ k, k ≠ 166 → s9 k = σ k := fun k hk => by
    rw [e9, e8, e7, e6, e5, e4, e3, e2, e1]
    simp only [kst_k hk]
  have own : ∀ j, s9 166 j = if j = 22 then 0 else if j = 25 then 0 else if j = 20 then 0 else if j = 21 then 121 else if j = 19 then -1 else if j = 18 then 0 else if j = 17 then n else if j = 16 then B else if j = 12 then T else σ 166 j := fun j => by
    rw [e9, e8, e7, e6, e5, e4, e3, e2, e1]
    simp only [kst_ap, true_and]
  have eb : mby s9 T B = mby σ T B := by
    funext i
    unfold mby
    rw [oth T hT]
  have eL : mL s9 = mL σ := by
    funext i
    unfold mL
    rw [oth 172 (by decide)]
  have hB9 : MB s9 T B n := ⟨hL9, by rw [own]; simp, ⟨by rw [own]; simp, by rw [own]; simp⟩, hA, hb, h720, hT, by rw [oth T hT]; exact hby⟩
  have hT9 : MT s9 s9 0 (-1) 0 0 0 := ⟨off.rfl', fun _ _ _ _ _ _ => rfl, hL9, by rw [own]; simp, by rw [own]; simp, by rw [own]; simp, by rw [own]; simp, by rw [own]; simp⟩
  have fin : ∀ s q ft dp hf fd, MT s9 s q ft dp hf fd → MG σ s := fun s q ft dp hf fd h => by
    refine ⟨fun k hk => ?_, fun j j1 j2 j3 => ?_, h.2.2.1⟩
    · rw [h.1 k hk]
      exact oth k (by simpa using hk)
    · rw [h.2.1 j (by omega) (by omega) (by omega) (by omega) (by omega), own]
      rw [if_neg (by omega), if_neg (by omega), if_neg (by omega), if_neg (by omega), if_neg (by omega), if_neg (by omega), if_neg (by omega), if_neg (by omega), if_neg (by omega)]
  have h21 : s9 166 21 = 121 := by rw [own]; simp
  have hk := sk_facts (b := mby σ T B) 0 hb.2.1
  refine M_clause (by omega) hB9 h21 hT9 (Int.le_refl 0) hb.2.1 (m := (([] : List Int).length : Int)) (fun q3 p3 o c3 v s3 e3 k3 hq3 hg hs3 => ?_) (fun q3 pf dp3 hf3 fd3 s3 e3 pf0 hs3 => ?_)
  · rw [eb] at e3 k3 hg
    rw [eL] at hg
    have hadv := gClause_adv (by omega) e3
    have eG : gText (mby σ T B) n = gRest (mby σ T B) n 119 p3 ([] ++ o) := by
      show gGoer (mby σ T B) n (119 + 1) _ _ = _
      rw [gGoer, e3]
      rfl
    have eW : gWorth (mby σ T B) n (mL σ) = if c3 = 0 then (if n ≤ p3 then 0 else gGoV (mby σ T B) n (mL σ) 119 (sk (mby σ T B) n (p3 + 1))) else v := hg 119
    refine through_loop (by omega) hB9 h21 119 s3 q3 p3 ([] ++ o) _ _ hs3 hq3.1 hq3.2 (by rw [eb]; exact k3) (by omega) (fun e => ?_) (fun s' q' dp' hf' x ex hs' => ?_) (fun s' q' pf dp' hf' fd' ex pf0 hs' => ?_)
    · by_cases cc : c3 = 0
      · rw [if_neg (fun z => z.2 cc)]
      · rw [if_pos ⟨rfl, cc⟩] at e
        exact absurd e (by decide)
    · rw [eb] at ex
      refine h1 s' x (by rw [eG]; exact ex) (fin _ _ _ _ _ _ hs') hs'.2.2.2.2.1 ?_
      rw [hs'.2.2.2.2.2.2.2, eW, eb, eL]
      by_cases cc : c3 = 0
      · rw [if_pos cc, if_pos (show (if (0 : Int) = 0 ∧ c3 ≠ 0 then (1 : Int) else 0) = 0 by rw [if_neg (fun z => z.2 cc)])]
      · rw [if_neg cc, if_neg (show ¬ (if (0 : Int) = 0 ∧ c3 ≠ 0 then (1 : Int) else 0) = 0 by rw [if_pos ⟨rfl, cc⟩]; decide), if_pos ⟨rfl, cc⟩]
    · rw [eb] at ex
      exact h0 s' pf (by rw [eG]; exact ex) pf0 (fin _ _ _ _ _ _ hs') hs'.2.2.2.2.1
  · rw [eb] at e3
    refine SX12_goThrough_32 ?_
    rw [hs3.2.2.2.2.1]
    have hfl : gText (mby σ T B) n = .inl pf := by
      show gGoer (mby σ T B) n (119 + 1) _ _ = _
      rw [gGoer]
      rcases e3 with e3 | ⟨o, e3, hdg⟩
      · rw [e3]; rfl
      · rw [e3]
        have hin3 := gat_in (b := mby σ T B) (n := n) (p := pf) rfl (by omega)
        show (if n ≤ pf then _ else _) = _
        rw [if_neg (by omega), if_neg (show ¬ gat (mby σ T B) n pf = 59 by omega)]
    exact ⟨o_166, fun _ => ⟨fun _ => h0 s3 pf hfl pf0 (fin _ _ _ _ _ _ hs3) hs3.2.2.2.2.1, fun e => by omega⟩, fun e => by omega⟩
