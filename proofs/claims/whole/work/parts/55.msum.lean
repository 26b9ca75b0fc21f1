/-! the model: atoms, terms, sums -/
theorem gNum_s {b : Int → Int} {n p v : Int} {f : Nat} : gNum b n (f + 1) p v = if gDig (gat b n p) then gNum b n f (p + 1) (v * 10 + gat b n p - 48) else (p, v) := rfl
def MdO (σ : kS) (T B n dp : Int) (d : Nat) : Option (Int → gR) → Prop
  | none => dp = 6
  | some S => (0 ≤ dp ∧ dp < 6) ∧ Md σ T B n (dp + 1) (fun _ => True) d MX12_sum [(2, 166)] S
theorem M_atom {d : Nat} (hd : 6 ≤ d) {σ : kS} {T B n : Int} (hB : MB σ T B n) {dp : Int} {S : Option (Int → gR)} (hS : MdO σ T B n dp d S) : Md σ T B n dp (fun _ => True) (d + 1) MX12_atom [(2, 166)] (gAtom (mby σ T B) n S) := by
  intro s q Q hs q0 qn hR
  obtain ⟨hR1, hR2⟩ := hR
  have hn := hB.2.2.2.2.1
  have h720 := hB.2.2.2.2.2.1
  have hk := sk_facts (b := mby σ T B) q qn
  have hkk := sk_sk (b := mby σ T B) (n := n) (p := q) qn
  refine EX12_atom fun _ => SX12_atom_0 ⟨o_166, M_look (by omega) hB hs q0 qn (fun s1 hs1 => ?_)⟩
  generalize hp : sk (mby σ T B) n q = p at *
  refine M_isAmong (by omega) (Or.inr rfl) (fun ha => ⟨fun e => by omega, fun _ => ?_⟩) (fun ha => ⟨fun _ => ?_, fun e => absurd rfl e⟩)
  · have ha : gLet (gat (mby σ T B) n p) ≠ -1 := ha
    have hl := gLet_b ha
    have hm := gLet_mem ha
    have hin := gat_in (b := mby σ T B) (n := n) (p := p) rfl hl.2
    rw [hs1.2.2.2.1]
    refine ⟨by omega, fun s3 e3 => ?_⟩
    have hs3 : MS σ s3 (p + 1) (-1) dp := by rw [e3]; exact hs1.at'
    rw [ly_166_7 hs3.2.2.1]
    have k172 := kl_172
    refine ⟨a_172, by omega, ?_⟩
    have e172 : s3 172 = σ 172 := hs3.1 172 (by decide)
    refine hR1 s3 (p + 1) (sk (mby σ T B) n (p + 1)) [10000 + gLet (gat (mby σ T B) n p)] _ ?_ rfl ?_ trivial hs3 (by omega) (by omega)
    · unfold gAtom
      rw [if_neg (by omega), if_neg (by omega), if_neg ha]
    · have h9 := gVal_let (L := mL σ) hl.1
      have e9 : mL σ (gLet (gat (mby σ T B) n p)) = s3 172 (gat (mby σ T B) n p) := by
        show σ 172 (gAsc (gLet (gat (mby σ T B) n p))) = _
        rw [hm.2, e172]
      rwa [e9] at h9
  · have ha : gLet (gat (mby σ T B) n p) = -1 := Classical.not_not.mp ha
    refine ⟨fun c1 => ?_, fun c1 => ?_⟩
    · have number : ∀ (f : Nat) (i : Int), i + f = 4 → 0 ≤ i → ∀ (e v : Int) (s : kS), 0 ≤ e → e ≤ n → 0 ≤ v → v < 10 ^ (4 - f) → MS σ s e (-1) dp → gNum (mby σ T B) n 4 p 0 = gNum (mby σ T B) n f e v → gDig (gat (mby σ T B) n p) → LX12_atom_90 d kN Q 166 v i s := by
        intro f
        induction f with
        | zero =>
          intro i hi i0 e v s e0 en v0 v1 hs hg hdg
          have hnum : gAtom (mby σ T B) n S p = .inr (sk (mby σ T B) n e, [v]) := by
            unfold gAtom
            rw [if_neg c1, if_pos hdg, hg]
            rfl
          have h9 := gNum_b hdg
          rw [hg] at h9
          refine SX12_atom_90 ⟨o_166, M_isDigit (by omega) hB hs e0 en (fun c => ⟨fun e => by omega, fun _ => ?_⟩) (fun c => ⟨fun _ => hR1 s e _ [v] v hnum rfl (gVal_num h9.2) trivial hs e0 en, fun e => absurd rfl e⟩)⟩
          rw [hs.2.2.2.2.1]
          refine ⟨fun e => absurd rfl e, fun _ => ⟨fun e => by omega, fun _ => M_fails (by omega) hs (fun s2 hs2 => ?_)⟩⟩
          rw [if_pos rfl] at hs2
          have hin := gat_in (b := mby σ T B) (n := n) (p := e) rfl (by omega)
          have hst : sk (mby σ T B) n e = e := sk_stop (fun z => by
            have := (mby_at hB hin).2.2.2
            unfold gat at c
            rw [if_pos hin] at c
            omega)
          rw [hst] at hnum
          refine hR2 s2 e e dp 0 (Or.inr ⟨[v], hnum, c⟩) e0 trivial hs2 ⟨e0, en⟩ (Int.le_refl _) ?_
          cases S with
          | none =>
            have : dp = 6 := hS
            omega
          | some S => have := hS.1; omega
        | succ f ih =>
          intro i hi i0 e v s e0 en v0 v1 hs hg hdg
          have hv : v ≤ 999 := by
            have : (10 : Int) ^ (4 - (f + 1)) ≤ 1000 := by
              rcases (show f = 0 ∨ f = 1 ∨ f = 2 ∨ f = 3 by omega) with rfl | rfl | rfl | rfl <;> decide
            omega
          have hp10 : (10 : Int) ^ (4 - f) = 10 ^ (4 - (f + 1)) * 10 := by
            rw [← Int.pow_succ]
            congr 1
            omega
          refine SX12_atom_90 ⟨o_166, M_isDigit (by omega) hB hs e0 en (fun c => ⟨fun e => by omega, fun _ => ?_⟩) (fun c => ⟨fun _ => ?_, fun e => absurd rfl e⟩)⟩
          · have hin := gat_in (b := mby σ T B) (n := n) (p := e) rfl (by omega)
            obtain ⟨e1, e2, e3, e4⟩ := hs.f hB
            have hm := mby_at hB hin
            have hd9 := hm.2.2.2.2 (hm.2.2.2.1.mpr c)
            rw [hs.2.2.2.2.1, hs.2.2.2.1, e2, e1, e4, hd9]
            refine ⟨fun e => absurd rfl e, fun _ => ⟨fun _ => ⟨by omega, by omega, hB.2.2.2.1, by omega, by omega, by omega, by omega, fun s2 es => ⟨by omega, ?_⟩⟩, fun e => by omega⟩⟩
            subst es
            rw [gNum_s (f := f) (p := e) (v := v), if_pos c] at hg
            refine ih (i + 1) (by omega) (by omega) (e + 1) _ _ (by omega) (by omega) (by omega) (by omega) hs.at' ?_ hdg
            rw [hg]
            congr 1
            omega
          · rw [gNum_s (f := f) (p := e) (v := v), if_neg c] at hg
            have hnum : gAtom (mby σ T B) n S p = .inr (sk (mby σ T B) n e, [v]) := by
              unfold gAtom
              rw [if_neg c1, if_pos hdg, hg]
            have h9 := gNum_b hdg
            rw [hg] at h9
            exact hR1 s e _ [v] v hnum rfl (gVal_num h9.2) trivial hs e0 en
      refine M_isDigit (by omega) hB hs1 (by omega) (by omega) (fun c => ⟨fun _ => ?_, fun e => by omega⟩) (fun c => ⟨fun e => absurd rfl e, fun _ => M_fails (by omega) hs1 (fun s4 hs4 => ?_)⟩)
      · exact number 4 0 rfl (Int.le_refl 0) p 0 s1 (by omega) (by omega) (Int.le_refl 0) (by decide) hs1 rfl c
      · rw [if_pos rfl] at hs4
        have hfl : gAtom (mby σ T B) n S p = .inl p := by
          unfold gAtom
          rw [if_neg c1, if_neg c, if_pos ha]
        have h6 : dp ≤ 6 := by
          cases S with
          | none =>
            have : dp = 6 := hS
            omega
          | some S => have := hS.1; omega
        refine SX12_atom_90 ⟨o_166, M_isDigit (by omega) hB hs4 (by omega) (by omega) (fun c2 => absurd c2 c) (fun _ => ⟨fun _ => hR2 s4 p p dp 0 (Or.inl hfl) (by omega) trivial hs4 (by omega) (Int.le_refl _) h6, fun e => absurd rfl e⟩)⟩
    · have c1 := Classical.not_not.mp c1
      have hin := gat_in c1 (by decide)
      cases S with
      | none =>
        have h6 : dp = 6 := hS
        refine M_goesIn (by omega) hs1 (by omega) (by omega) (fun e => by omega) (fun _ s3 hs3 => ⟨fun e => absurd rfl e, fun _ => hR2 s3 p p dp 0 (Or.inl ?_) (by omega) trivial hs3 (by omega) (Int.le_refl _) (by omega)⟩)
        unfold gAtom
        rw [if_pos c1]
      | some S =>
        obtain ⟨h6, hMd⟩ := hS
        have hA : gAtom (mby σ T B) n (some S) p = gThen (S (sk (mby σ T B) n (p + 1))) (fun p' os => if gat (mby σ T B) n p' = 93 then .inr (sk (mby σ T B) n (p' + 1), os) else .inl p') := by
          unfold gAtom
          rw [if_pos c1]
        rw [hA] at hR1 hR2
        refine M_goesIn (by omega) hs1 (by omega) (by omega) (fun _ s3 hs3 => ⟨fun _ => ?_, fun e => by omega⟩) (fun e => by omega)
        refine hMd s3 (p + 1) _ hs3 (by omega) (by omega) ⟨fun s4 q4 p4 os v e4 k4 hv _ hs4 q40 q4n => ?_, fun s4 q4 pf dp4 v e4 pf0 _ hs4 hq4 d1 d2 => ?_⟩
        · rw [e4] at hR1 hR2
          refine M_takes (by omega) hB (by decide) hs4 q40 q4n (fun _ c9 s5 hs5 => ⟨fun _ => ?_, fun e => by omega⟩) (fun _ c9 s5 hs5 => ⟨fun e => absurd rfl e, fun _ => ?_⟩) (fun e => absurd rfl e)
          · rw [k4] at c9 hs5
            have hin4 := gat_in c9 (by decide)
            rw [hs5.2.2.2.2.2]
            refine ⟨by omega, fun s6 e6 => hR1 s6 (p4 + 1) _ os v ?_ rfl hv trivial ?_ (by omega) (by omega)⟩
            · show (if _ then _ else _) = _
              rw [if_pos c9]
            · rw [e6, show dp + 1 - 1 = dp by omega]
              have := hs5.dp' (v := dp)
              exact this
          · rw [k4] at c9 hs5
            have hk4 := sk_facts (b := mby σ T B) q4 q4n
            refine hR2 s5 p4 p4 (dp + 1) 0 (Or.inl ?_) (by omega) trivial hs5 (by omega) (by omega) (by omega)
            show (if _ then _ else _) = _
            rw [if_neg c9]
        · refine M_takes (by omega) hB (by decide) hs4 hq4.1 hq4.2 (fun e => by omega) (fun e => by omega) (fun _ => ⟨fun e => absurd rfl e, fun _ => hR2 s4 q4 pf dp4 0 ?_ pf0 trivial hs4 hq4 (by omega) d2⟩)
          rcases e4 with e4 | ⟨os, e4, hdg⟩
          · exact Or.inl (by rw [e4]; rfl)
          · refine Or.inl ?_
            rw [e4]
            show (if _ then _ else _) = _
            rw [if_neg (show ¬ gat (mby σ T B) n pf = 93 by omega)]
theorem chain_fail {b : Int → Int} {n : Int} {A : Int → gR} {c1 c2 : Int} {pf : Int} {f : Nat} {os : List Int} (hc : ¬ gDig c1 ∧ ¬ gDig c2) (hdg : gDig (gat b n pf)) : gChain b n A c1 c2 f pf os = .inr (pf, os) := by
  cases f with
  | zero => rfl
  | succ f =>
    unfold gChain
    rw [if_neg]
    rintro (e | e)
    · exact hc.1 (by rw [← e]; exact hdg)
    · exact hc.2 (by rw [← e]; exact hdg)
theorem mterm_loop {d : Nat} (hd : 2 ≤ d) {σ : kS} {T B n : Int} (hB : MB σ T B n) {dp : Int} (hdp : dp ≤ 6) {A : Int → gR} (hA : Md σ T B n dp (fun _ => True) d MX12_atom [(2, 166)] A) (hAd : gAdv (mby σ T B) n A) {Q : Int → kS → Prop} : ∀ (f : Nat) (s : kS) (q v : Int) (os : List Int), MS σ s q (-1) dp → 0 ≤ q → q ≤ n → 120 ≤ sk (mby σ T B) n q + f → gVal (mL σ) os v → MR σ T B n dp (fun _ => True) s Q (gChain (mby σ T B) n A 42 47 f (sk (mby σ T B) n q) os) → LX12_term_5 d kN Q 166 v s := by
  intro f
  have hn := hB.2.2.2.2.1
  induction f with
  | zero =>
    intro s q v os hs q0 qn hf hv ⟨hR1, hR2⟩
    have hk := sk_facts (b := mby σ T B) q qn
    have hkk := sk_sk (b := mby σ T B) (n := n) (p := q) qn
    refine SX12_term_5 ?_
    rw [hs.2.2.2.2.1]
    refine ⟨o_166, fun e => absurd rfl e, fun _ => M_look (by omega) hB hs q0 qn (fun s1 hs1 => ?_)⟩
    rw [gat_out (by omega)]
    refine ⟨fun e => by omega, fun _ => M_look (by omega) hB hs1 (by omega) (by omega) (fun s2 hs2 => ?_)⟩
    rw [hkk] at hs2 ⊢
    rw [gat_out (by omega)]
    exact ⟨fun _ => hR1 s2 _ _ os v rfl hkk hv trivial hs2 (by omega) (by omega), fun e => absurd (by decide) e⟩
  | succ f ih =>
    intro s q v os hs q0 qn hf hv ⟨hR1, hR2⟩
    have hk := sk_facts (b := mby σ T B) q qn
    have hkk := sk_sk (b := mby σ T B) (n := n) (p := q) qn
    refine SX12_term_5 ?_
    rw [hs.2.2.2.2.1]
    refine ⟨o_166, fun e => absurd rfl e, fun _ => M_look (by omega) hB hs q0 qn (fun s1 hs1 => ?_)⟩
    generalize hp : sk (mby σ T B) n q = p at *
    have go : ∀ (c : Int), gat (mby σ T B) n p = c → (c = 42 ∨ c = 47) → ∀ (s3 : kS), MS σ s3 (p + 1) (-1) dp → Ci d MX12_atom [(2, 166)] kN s3 (fun x s4 => ∀ s5, s5 = s4 → LX12_term_5 d kN Q 166 (gBd (gJoin c v x)) s5) := by
      intro c hc h42 s3 hs3
      unfold gChain at hR1 hR2
      rw [if_pos (by rw [hc]; exact h42)] at hR1 hR2
      have hin := gat_in hc (by omega)
      have hk2 := sk_next (b := mby σ T B) hin.1 hin.2
      have hadv := hAd _ (by omega) hk2.2.1 hk2.2.2
      refine hA s3 (p + 1) _ hs3 (by omega) (by omega) ⟨fun s4 q4 p4 o4 w e4 k4 hw _ hs4 q40 q4n s5 e5 => ?_, fun s4 q4 pf dp4 w e4 pf0 _ hs4 hq4 d1 d2 s5 e5 => ?_⟩
      · subst e5
        have h2 := hadv.2 p4 o4 e4
        rw [e4] at hR1 hR2
        rw [hc] at hR1 hR2
        refine ih s5 q4 _ (os ++ (o4 ++ [20000 + c])) hs4 q40 q4n (by rw [k4]; omega) (gVal_bin hv hw (by omega)) ?_
        rw [k4]
        exact ⟨hR1, hR2⟩
      · subst e5
        refine SX12_term_5 ?_
        rw [hs4.2.2.2.2.1]
        refine ⟨o_166, fun _ => hR2 s5 q4 pf dp4 _ ?_ pf0 trivial hs4 hq4 d1 d2, fun e => by omega⟩
        rcases e4 with e4 | ⟨o4, e4, hdg⟩
        · exact Or.inl (by rw [e4]; rfl)
        · exact Or.inr ⟨_, by rw [e4]; exact chain_fail (by decide) hdg, hdg⟩
    refine ⟨fun c => M_look (by omega) hB hs1 (by omega) (by omega) (fun s2 hs2 => ?_), fun c => M_look (by omega) hB hs1 (by omega) (by omega) (fun s2 hs2 => ?_)⟩
    · rw [hkk] at hs2 ⊢
      refine ⟨fun e => absurd c e, fun _ => ?_⟩
      rw [hs2.2.2.2.1]
      refine ⟨by omega, fun s3 e3 => (go 42 c (Or.inl rfl) s3 (by rw [e3]; exact hs2.at')).mono (fun x s4 h4 => M_within (by omega) (h4 s4 rfl))⟩
    · rw [hkk] at hs2 ⊢
      refine ⟨fun c2 => ?_, fun c2 => M_look (by omega) hB hs2 (by omega) (by omega) (fun s3 hs3 => ?_)⟩
      · unfold gChain at hR1
        rw [if_neg (by omega)] at hR1
        exact hR1 s2 p p os v rfl hkk hv trivial hs2 (by omega) (by omega)
      · have c2 := Classical.not_not.mp c2
        rw [hkk] at hs3 ⊢
        refine ⟨fun _ => ?_, fun e => absurd c2 (by have := Classical.not_not.mp e; omega)⟩
        rw [hs3.2.2.2.1]
        refine ⟨by omega, fun s4 e4 => (go 47 c2 (Or.inr rfl) s4 (by rw [e4]; exact hs3.at')).mono (fun x s5 h5 => ?_)⟩
        have h5 := h5 s5 rfl
        rw [klcmp_eq]
        refine ⟨fun cx => ⟨cx, M_within (by omega) ?_⟩, fun cx => M_within (by omega) ?_⟩
        · have e : gJoin 47 v x = kldiv v x := by
            show (if x = 0 then 0 else kldiv v x) = _
            rw [if_neg cx]
          rwa [e] at h5
        · have e : gJoin 47 v x = 0 := by
            show (if x = 0 then 0 else kldiv v x) = _
            rw [if_pos (Classical.not_not.mp cx)]
          rwa [e] at h5
theorem M_term {d : Nat} (hd : 2 ≤ d) {σ : kS} {T B n : Int} (hB : MB σ T B n) {dp : Int} (hdp : dp ≤ 6) {A : Int → gR} (hA : Md σ T B n dp (fun _ => True) d MX12_atom [(2, 166)] A) (hAd : gAdv (mby σ T B) n A) : Md σ T B n dp (fun _ => True) (d + 1) MX12_term [(2, 166)] (gList (mby σ T B) n A 42 47) := by
  intro s q Q hs q0 qn ⟨hR1, hR2⟩
  have hk := sk_facts (b := mby σ T B) q qn
  have hkk := sk_sk (b := mby σ T B) (n := n) (p := q) qn
  have hadv := hAd _ (by omega) hk.2.1 hkk
  unfold gList at hR1 hR2
  refine EX12_term fun _ => SX12_term_0 ⟨o_166, hA s q _ hs q0 qn ⟨fun s4 q4 p4 o4 w e4 k4 hw _ hs4 q40 q4n => ?_, fun s4 q4 pf dp4 w e4 pf0 _ hs4 hq4 d1 d2 => ?_⟩⟩
  · have h2 := hadv.2 p4 o4 e4
    rw [e4] at hR1 hR2
    refine mterm_loop hd hB hdp hA hAd 120 s4 q4 w o4 hs4 q40 q4n (by rw [k4]; omega) hw ?_
    rw [k4]
    exact ⟨hR1, hR2⟩
  · refine SX12_term_5 ?_
    rw [hs4.2.2.2.2.1]
    refine ⟨o_166, fun _ => hR2 s4 q4 pf dp4 _ ?_ pf0 trivial hs4 hq4 d1 d2, fun e => by omega⟩
    rcases e4 with e4 | ⟨o4, e4, hdg⟩
    · exact Or.inl (by rw [e4]; rfl)
    · exact Or.inr ⟨_, by rw [e4]; exact chain_fail (by decide) hdg, hdg⟩
