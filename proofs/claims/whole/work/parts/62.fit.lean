/-! Ways: painOf, fit -/
theorem land5T : (List.range 209).all (fun k => !(decide (ksh k = (5, 1))) || (decide (k = 1) || (decide (k = 73) || (decide (k = 79) || (decide (k = 85) || decide (k = 91)))))) = true := by decide +kernel
theorem land_r {r : Int} (hr : isO 5 kN r) : r = 1 ∨ r = 73 ∨ r = 79 ∨ r = 85 ∨ r = 91 := by
  obtain ⟨h0, h1, h2⟩ := hr
  have h3 := all209 land5T h0 h1
  rw [h2] at h3
  simp only [Bool.or_eq_true, Bool.not_eq_true', decide_eq_true_eq, decide_eq_false_iff_not] at h3
  rcases h3 with h3 | h3
  · exact absurd rfl h3
  · omega
/-- what holds of a goer -/
def GF (σ : kS) (g : Int) : Prop := (0 ≤ σ (97 + 4 * g) 2 ∧ σ (97 + 4 * g) 2 ≤ 120) ∧ 0 ≤ tn σ g ∧ ∃ pE, gText (tb σ g) (tn σ g) = .inr (pE, seg (σ (97 + 4 * g + 1)) 0 (σ (97 + 4 * g) 2))
theorem cGoer.gf {σ : kS} (h : cGoer σ) {g : Int} (hg : 0 ≤ g ∧ g < σ 0 6) : GF σ g := by
  have h9 := h.2.2.1 g hg.1 hg.2
  exact ⟨h9.1, h9.2.1.1, h9.2.2.2.1⟩
theorem GF.off {σ s : kS} {g : Int} (h : GF σ g) (h1 : s (97 + 4 * g) = σ (97 + 4 * g)) (h2 : s (97 + 4 * g + 1) = σ (97 + 4 * g + 1)) (h3 : s 170 = σ 170) (h4 : s 171 = σ 171) : GF s g ∧ tb s g = tb σ g ∧ tn s g = tn σ g := by
  have e1 : tb s g = tb σ g := by
    unfold tb mby
    rw [h3]
  have e2 : tn s g = tn σ g := by unfold tn; rw [h4]
  refine ⟨?_, e1, e2⟩
  unfold GF
  rw [e1, e2, h1, h2]
  exact h
def KC (σ : kS) (g load wet : Int) (b : Int → Int) (n : Int) : Prop := σ 26 10 = 97 + 4 * g ∧ σ 26 11 = load ∧ σ 26 12 = wet ∧ ∀ k, 0 ≤ k → k < 3184 → σ 35 k = 0 ∨ σ 35 k = kindP b n load wet k
theorem wet_br {w : Int} {A B : Prop} {R : kS → Prop} (f : Int → kS) (hw : w = 0 ∨ w = 1) (hA : A) (hB : B) (h : ∀ s8, s8 = f w → R s8) : (w = 0 → A ∧ (B ∧ ∀ s8, s8 = f 0 → R s8)) ∧ (¬ w = 0 → A ∧ (B ∧ ∀ s8, s8 = f 1 → R s8)) := by
  rcases hw with rfl | rfl
  · exact ⟨fun _ => ⟨hA, hB, h⟩, fun e => absurd rfl e⟩
  · exact ⟨fun e => absurd e (by decide), fun _ => ⟨hA, hB, h⟩⟩
theorem Ways_painOf {d : Nat} (hd : 3 ≤ d) {σ : kS} {g load wet k : Int} {b : Int → Int} {n : Int} {Q : Int → kS → Prop} (hL : Lay σ) (hg : 0 ≤ g ∧ g < 6) (hG : GF σ g) (hb : tb σ g = b ∧ tn σ g = n) (hw : wet = 0 ∨ wet = 1) (hl : 0 ≤ load ∧ load ≤ 99) (hK : KC σ g load wet b n) (hk : 0 ≤ k ∧ k < 3184) (h : ∀ s, off [34, 35, 97 + 4 * g + 2] σ s → Lay s → KC s g load wet b n → Q (kindP b n load wet k) s) : Ci d MX10_painOf [(2, 26), (0, k)] kN σ Q := by
  obtain ⟨d, rfl⟩ : ∃ e, d = e + 1 := ⟨d - 1, by omega⟩
  obtain ⟨k10, k11, k12, k35⟩ := hK
  have kl34 := kl_34
  have kl35 := kl_35
  have kb := kbits hk
  refine EX10_painOf fun _ _ => SX10_painOf_0 ⟨fun e => by omega, fun _ => ⟨fun e => by omega, fun _ => ⟨o_26, fun _ => ?_, fun e => by omega⟩⟩⟩
  rw [ly_26_9 hL]
  refine ⟨a_35, by omega, fun c => ?_, fun c => ?_⟩
  · rcases k35 k hk.1 hk.2 with e | e
    · exact absurd e c
    · rw [e]
      exact h σ off.rfl' hL ⟨k10, k11, k12, k35⟩
  · refine ⟨by omega, by omega, J_max (by omega) ?_⟩
    rw [ly_26_8 hL]
    refine ⟨a_34, by omega, fun s2 e2 => ⟨by omega, J_max (by omega) ?_⟩⟩
    have l2 : s2 26 = σ 26 := by rw [e2, kst_k (by decide)]
    rw [l2, ly_26_8 hL]
    refine ⟨a_34, by omega, fun s4 e4 => ?_⟩
    have l4 : s4 26 = σ 26 := by rw [e4, kst_k (by decide), l2]
    rw [l4, ly_26_8 hL]
    refine ⟨a_34, by omega, fun s5 e5 => ?_⟩
    have l5 : s5 26 = σ 26 := by rw [e5, kst_k (by decide), l4]
    rw [l5, ly_26_8 hL]
    refine ⟨a_34, by omega, fun s6 e6 => ?_⟩
    have l6 : s6 26 = σ 26 := by rw [e6, kst_k (by decide), l5]
    rw [l6, ly_26_8 hL]
    refine ⟨a_34, by omega, fun s7 e7 => ?_⟩
    have l7 : s7 26 = σ 26 := by rw [e7, kst_k (by decide), l6]
    rw [l7, ly_26_8 hL, k12]
    refine wet_br (fun v => kst s7 34 5 v) hw a_34 (by omega) (fun s8 e8 => ?_)
    have e8 : s8 = kst s7 34 5 wet := e8
    have l8 : s8 26 = σ 26 := by rw [e8, kst_k (by decide), l7]
    rw [l8, ly_26_8 hL, k11]
    refine ⟨a_34, by omega, fun s9 e9 => ?_⟩
    have l9 : s9 26 = σ 26 := by rw [e9, kst_k (by decide), l8]
    rw [l9, ly_26_8 hL]
    refine ⟨a_34, by omega, fun s10 e10 => ?_⟩
    have l10 : s10 26 = σ 26 := by rw [e10, kst_k (by decide), l9]
    have ho10 : off [34] σ s10 := by
      rw [e10, e9, e8, e7, e6, e5, e4, e2]
      exact ((((((((off.rfl').kst (by decide)).kst (by decide)).kst (by decide)).kst (by decide)).kst (by decide)).kst (by decide)).kst (by decide)).kst (by decide)
    have hL10 : Lay s10 := by
      rw [e10, e9, e8, e7, e6, e5, e4, e2]
      exact (((((((hL.kstA a_34).kstA a_34).kstA a_34).kstA a_34).kstA a_34).kstA a_34).kstA a_34).kstA a_34
    have hlet : ∀ j, 0 ≤ j → j ≤ 7 → s10 34 j = kindL load wet k j := by
      intro j j0 j7
      rw [e10, e9, e8, e7, e6, e5, e4, e2]
      unfold kindL
      rcases (show j = 0 ∨ j = 1 ∨ j = 2 ∨ j = 3 ∨ j = 4 ∨ j = 5 ∨ j = 6 ∨ j = 7 by omega) with rfl | rfl | rfl | rfl | rfl | rfl | rfl | rfl
      · rw [kst_kj (by decide), kst_kj (by decide), kst_kj (by decide), kst_kj (by decide), kst_kj (by decide), kst_kj (by decide), kst_kj (by decide), kst_eq]
        rfl
      · rw [kst_kj (by decide), kst_kj (by decide), kst_kj (by decide), kst_kj (by decide), kst_kj (by decide), kst_kj (by decide), kst_eq]
        rfl
      · rw [kst_kj (by decide), kst_kj (by decide), kst_kj (by decide), kst_kj (by decide), kst_kj (by decide), kst_eq]
        rfl
      · rw [kst_kj (by decide), kst_kj (by decide), kst_kj (by decide), kst_kj (by decide), kst_eq]
        rfl
      · rw [kst_kj (by decide), kst_kj (by decide), kst_kj (by decide), kst_eq]
        rfl
      · rw [kst_kj (by decide), kst_kj (by decide), kst_eq]
        rfl
      · rw [kst_kj (by decide), kst_eq]
        rfl
      · rw [kst_eq]
        rfl
    have n34 : ∀ x, x ≠ 34 → s10 x = σ x := fun x hx => ho10 x (by simpa using hx)
    obtain ⟨hG10, t1, t2⟩ := hG.off (n34 _ (by omega)) (n34 _ (by omega)) (n34 170 (by decide)) (n34 171 (by decide))
    obtain ⟨q1, q2, pE, q3⟩ := hG10
    rw [l10, k10, ly_26_8 hL]
    refine ⟨(goer_f hL10 hg).1, Goer_worth (by omega) hL10 hg q1 (fun j j0 j1 => ?_) q2 q3 (fun s11 ho11 hL11 => ?_)⟩
    · rw [hlet j j0 (by omega)]
      unfold kindL
      rw [kb.1, kb.2.1, kb.2.2.1, kb.2.2.2]
      split
      · omega
      split
      · omega
      split
      · omega
      split
      · omega
      split
      · omega
      split
      · omega
      split
      · omega
      · omega
    · refine J_min (by omega) (J_max (by omega) ?_)
      rw [ly_26_9 hL]
      refine ⟨a_35, by omega, fun s14 e14 => ?_⟩
      have l14 : s14 26 = σ 26 := by
        rw [e14, kst_k (by decide), ho11 26 (by simp only [List.mem_singleton]; omega), l10]
      rw [l14, ly_26_9 hL]
      refine ⟨a_35, by omega, ?_⟩
      have ex : max 1 (min 10000 (gWorth (tb s10 g) (tn s10 g) (s10 34))) = kindP b n load wet k := by
        rw [t1, t2, hb.1, hb.2, gWorth_cong hlet]
        rfl
      rw [ex] at e14
      have e35 : ∀ j, s14 35 j = if j = k then kindP b n load wet k else σ 35 j := fun j => by
        rw [e14, kst_ap, ho11 35 (by simp only [List.mem_singleton]; omega), n34 35 (by decide)]
        by_cases ej : j = k
        · rw [if_pos ⟨rfl, ej⟩, if_pos ej]
        · rw [if_neg (fun z => ej z.2), if_neg ej]
      rw [e35 k, if_pos rfl]
      refine h s14 ?_ (by rw [e14]; exact hL11.kstA a_35) ⟨by rw [l14]; exact k10, by rw [l14]; exact k11, by rw [l14]; exact k12, fun j j0 j1 => ?_⟩
      · rw [e14]
        refine ((ho10.mono (by simp)).trans (ho11.mono (fun x hx => ?_))).kst (by simp)
        rw [List.mem_singleton] at hx
        rw [hx]
        simp
      · rw [e35 j]
        by_cases ej : j = k
        · rw [if_pos ej, ej]; exact Or.inr rfl
        · rw [if_neg ej]; exact k35 j j0 j1
/-- what fit leaves -/
def Fitted (σ s : kS) (g load wet : Int) (H : Int → Int → Int) : Prop := off [26, 28, 32, 33, 34, 35, 97 + 4 * g + 2] σ s ∧ (∀ j, ¬ (10 ≤ j ∧ j ≤ 12) → s 26 j = σ 26 j) ∧ Lay s ∧ cKind s ∧ TEq (s 28) (tolT (tb σ g) (tn σ g) H load wet)
theorem Ways_fit {d : Nat} (hd : 4 ≤ d) {σ : kS} {g load wet r : Int} {Q : kS → Prop} (hL : Lay σ) (hB : Bes σ) (hC : cKind σ) (hg : 0 ≤ g ∧ g < σ 0 6) (h06 : σ 0 6 ≤ 6) (hG : GF σ g) (hw : wet = 0 ∨ wet = 1) (hl : 0 ≤ load ∧ load ≤ 99) (hr : isO 5 kN r) (hH : LandB (told σ r)) (h : ∀ s, Fitted σ s g load wet (told σ r) → Q s) : Cv d MX10_fit [(2, 26), (2, 97 + 4 * g), (0, load), (0, wet), (2, r)] kN σ Q := by
  obtain ⟨d, rfl⟩ : ∃ e, d = e + 1 := ⟨d - 1, by omega⟩
  have kl27 := kl_27
  have kl28 := kl_28
  have kl32 := kl_32
  have kl33 := kl_33
  have kl35 := kl_35
  have hrr := land_r hr
  generalize hb : tb σ g = b at *
  generalize hn : tn σ g = n at *
  -- the second loop
  have key2 : ∀ i : Int, ∀ s : kS, 0 ≤ i → i ≤ 960 → off [26, 28, 32, 33, 34, 35, 97 + 4 * g + 2] σ s → (∀ j, ¬ (10 ≤ j ∧ j ≤ 12) → s 26 j = σ 26 j) → Lay s → KC s g load wet b n → (∀ c, 0 ≤ c → c < 120 → s 32 c = told σ r c 0 ∧ s 33 c = told σ r c 1 + 2 * told σ r c 2 + 4 * told σ r c 3) → (∀ j, 0 ≤ j → j < i → stp (j / 8) (j % 8) ≠ -1 → s 28 j = pnP b n (told σ r) load wet (j / 8) (j % 8)) → LX10_fit_118 d kN Q 26 i s := by
    refine up_to (e := 960) ?_
    intro i ih s i0 i1 ho h26 hLs hK hgr ht
    have e27 : s 27 = σ 27 := ho 27 (by simp only [List.mem_cons, List.not_mem_nil, or_false]; omega)
    refine SX10_fit_118 ?_
    rw [ly_26_1 hLs, ly_26_0 hLs, ly_26_6 hLs, ly_26_7 hLs, kl28, kl27, kl32, kl33]
    refine ⟨o_26, a_28, fun c => ?_, fun c => ⟨a_27, by omega, ?_⟩⟩
    · refine h s ⟨ho, h26, hLs, ?_, fun c k c0 c1 k0 k1 hk => ?_⟩
      · obtain ⟨q1, q2, q3, q4⟩ := hK
        refine ⟨by rw [q3]; omega, Or.inr ⟨g, ?_, q1, by rw [q2]; exact hl, fun k k0 k1 => ?_⟩⟩
        · rw [ho 0 (by simp only [List.mem_cons, List.not_mem_nil, or_false]; omega)]
          exact hg
        · have e1 : tb s g = b := by
            rw [← hb]
            unfold tb mby
            rw [ho 170 (by simp only [List.mem_cons, List.not_mem_nil, or_false]; omega)]
          have e2 : tn s g = n := by
            rw [← hn]
            unfold tn
            rw [ho 171 (by simp only [List.mem_cons, List.not_mem_nil, or_false]; omega)]
          rw [e1, e2, q2, q3]
          exact q4 k k0 k1
      · have hi : c * 8 + k < i := by omega
        have e1 : (c * 8 + k) / 8 = c := by omega
        have e2 : (c * 8 + k) % 8 = k := by omega
        have := ht (c * 8 + k) (by omega) hi (by rw [e1, e2]; exact hk)
        rw [this, hb, hn]
        rfl
    · have hst : s 27 i = stp (i / 8) (i % 8) := by
        rw [e27]
        have := hB (i / 8) (i % 8) (by omega) (by omega) (by omega) (by omega)
        rwa [show i / 8 * 8 + i % 8 = i by omega] at this
      rw [hst]
      have nx : ∀ s', off [26, 28, 32, 33, 34, 35, 97 + 4 * g + 2] σ s' → (∀ j, ¬ (10 ≤ j ∧ j ≤ 12) → s' 26 j = σ 26 j) → Lay s' → KC s' g load wet b n → (∀ c, 0 ≤ c → c < 120 → s' 32 c = told σ r c 0 ∧ s' 33 c = told σ r c 1 + 2 * told σ r c 2 + 4 * told σ r c 3) → (∀ j, 0 ≤ j → j < i + 1 → stp (j / 8) (j % 8) ≠ -1 → s' 28 j = pnP b n (told σ r) load wet (j / 8) (j % 8)) → (-2147483648 ≤ i + 1 ∧ i + 1 ≤ 2147483647) ∧ LX10_fit_118 d kN Q 26 (i + 1) s' := fun s' z1 z2 z3 z4 z5 z6 => ⟨by omega, ih (by omega) s' (by omega) (by omega) z1 z2 z3 z4 z5 z6⟩
      refine ⟨fun e => nx s ho h26 hLs hK hgr (fun j j0 j1 hj => ?_), fun e => ?_⟩
      · by_cases ej : j = i
        · rw [ej] at hj; exact absurd e hj
        · exact ht j j0 (by omega) hj
      · have hs := stp_cell e
        have g1 := hgr _ hs.2.2.1.1 hs.2.2.1.2
        have g2 := hgr (i / 8) hs.1.1 hs.1.2
        have b1 := hH.at hs.2.2.1
        have b2 := hH.at hs.1
        have kb := kbits (k := i) ⟨i0, by omega⟩
        have hkb := kindOf_b hH e
        have hkp := kindP_step (b := b) (n := n) (load := load) (wet := wet) hH e
        rw [g1.1, g2.1, g1.2, kb.2.2.2]
        have ek : (told σ r (stp (i / 8) (i % 8)) 0 - told σ r (i / 8) 0 + 99) * 8 + (told σ r (stp (i / 8) (i % 8)) 1 + 2 * told σ r (stp (i / 8) (i % 8)) 2 + 4 * told σ r (stp (i / 8) (i % 8)) 3) = kindOf (told σ r) (i / 8) (i % 8) / 2 := by
          unfold kindOf
          omega
        have ek2 : ((told σ r (stp (i / 8) (i % 8)) 0 - told σ r (i / 8) 0 + 99) * 8 + (told σ r (stp (i / 8) (i % 8)) 1 + 2 * told σ r (stp (i / 8) (i % 8)) 2 + 4 * told σ r (stp (i / 8) (i % 8)) 3)) * 2 + i % 2 = kindOf (told σ r) (i / 8) (i % 8) := by
          unfold kindOf
          omega
        rw [ek2]
        refine ⟨a_32, by omega, by omega, by omega, by omega, by omega, by omega, a_33, by omega, by omega, by omega, by omega, ?_⟩
        have e97 : s (97 + 4 * g) = σ (97 + 4 * g) := ho _ (by simp only [List.mem_cons, List.not_mem_nil, or_false]; omega)
        have e98 : s (97 + 4 * g + 1) = σ (97 + 4 * g + 1) := ho _ (by simp only [List.mem_cons, List.not_mem_nil, or_false]; omega)
        have e170 : s 170 = σ 170 := ho _ (by simp only [List.mem_cons, List.not_mem_nil, or_false]; omega)
        have e171 : s 171 = σ 171 := ho _ (by simp only [List.mem_cons, List.not_mem_nil, or_false]; omega)
        obtain ⟨hGs, t1, t2⟩ := hG.off e97 e98 e170 e171
        refine Ways_painOf (by omega) hLs ⟨hg.1, by omega⟩ hGs ⟨by rw [t1, hb], by rw [t2, hn]⟩ hw hl hK hkb (fun s1 ho1 hL1 hK1 => ?_)
        have f26 : s1 26 = s 26 := ho1 26 (by simp only [List.mem_cons, List.not_mem_nil, or_false]; omega)
        refine ⟨by omega, fun s2 e2 => nx s2 ?_ (fun j hj => ?_) (by rw [e2]; exact hL1.kstA a_28) ?_ (fun c c0 c1 => ?_) (fun j j0 j1 hj => ?_)⟩
        · rw [e2]
          refine (ho.trans (ho1.mono (fun x hx => ?_))).kst (by simp)
          simp only [List.mem_cons, List.not_mem_nil, or_false] at hx ⊢
          omega
        · rw [e2, kst_k (by decide), f26]
          exact h26 j hj
        · obtain ⟨q1, q2, q3, q4⟩ := hK1
          rw [e2]
          refine ⟨by rw [kst_k (by decide)]; exact q1, by rw [kst_k (by decide)]; exact q2, by rw [kst_k (by decide)]; exact q3, fun k k0 k1 => by rw [kst_k (by decide)]; exact q4 k k0 k1⟩
        · rw [e2, kst_k (by decide), kst_k (by decide), ho1 32 (by simp only [List.mem_cons, List.not_mem_nil, or_false]; omega), ho1 33 (by simp only [List.mem_cons, List.not_mem_nil, or_false]; omega)]
          exact hgr c c0 c1
        · rw [e2, kst_ap, ho1 28 (by simp only [List.mem_cons, List.not_mem_nil, or_false]; omega)]
          by_cases ej : j = i
          · rw [if_pos ⟨rfl, ej⟩, ej]
            exact hkp
          · rw [if_neg (fun z => ej z.2)]
            exact ht j j0 (by omega) hj
  -- the first loop
  have key1 : ∀ c : Int, ∀ s : kS, 0 ≤ c → c ≤ 120 → off [26, 32, 33, 35] σ s → (∀ j, ¬ (10 ≤ j ∧ j ≤ 12) → s 26 j = σ 26 j) → Lay s → KC s g load wet b n → (∀ z, 0 ≤ z → z < c → s 32 z = told σ r z 0 ∧ s 33 z = told σ r z 1 + 2 * told σ r z 2 + 4 * told σ r z 3) → LX10_fit_50 d kN Q 26 r c s := by
    refine up_to (e := 120) ?_
    intro c ih s c0 c1 ho h26 hLs hK hgr
    refine SX10_fit_50 ⟨fun e => ?_, fun e => ⟨o_26, hr, Land_toldI (by omega) hLs hr ⟨c0, by omega⟩ (by omega) ?_⟩⟩
    · refine key2 0 s (by omega) (by omega) (ho.mono (fun x hx => ?_)) h26 hLs hK (fun z z0 z1 => hgr z z0 (by omega)) (fun j j0 j1 => by omega)
      simp only [List.mem_cons, List.not_mem_nil, or_false] at hx ⊢
      omega
    · have b0 := hH.at ⟨c0, show c < 120 by omega⟩
      have tl : ∀ (u : kS) (w : Int), off [26, 32, 33, 35] σ u → 0 ≤ w → w < 4 → told u r c w = told σ r c w := fun u w hu w0 w1 => by
        show u (r + 2 + w) c = σ (r + 2 + w) c
        rw [hu (r + 2 + w) (by simp only [List.mem_cons, List.not_mem_nil, or_false]; omega)]
      rw [ly_26_6 hLs, tl s 0 ho (by decide) (by decide)]
      refine ⟨a_32, by omega, fun s2 e2 => ?_⟩
      have ho2 : off [26, 32, 33, 35] σ s2 := by rw [e2]; exact ho.kst (by simp)
      have hL2 : Lay s2 := by rw [e2]; exact hLs.kstA a_32
      refine Land_toldI (by omega) hL2 hr ⟨c0, by omega⟩ (by omega) (Land_toldI (by omega) hL2 hr ⟨c0, by omega⟩ (by omega) ?_)
      rw [tl s2 1 ho2 (by decide) (by decide), tl s2 2 ho2 (by decide) (by decide)]
      refine ⟨by omega, by omega, Land_toldI (by omega) hL2 hr ⟨c0, by omega⟩ (by omega) ?_⟩
      rw [tl s2 3 ho2 (by decide) (by decide), ly_26_7 hL2]
      refine ⟨by omega, by omega, a_33, by omega, fun s6 e6 => ⟨by omega, ih (by omega) s6 (by omega) (by omega) (by rw [e6]; exact ho2.kst (by simp)) (fun j hj => ?_) (by rw [e6]; exact hL2.kstA a_33) ?_ (fun z z0 z1 => ?_)⟩⟩
      · rw [e6, kst_k (by decide), e2, kst_k (by decide)]
        exact h26 j hj
      · obtain ⟨q1, q2, q3, q4⟩ := hK
        rw [e6, e2]
        refine ⟨by rw [kst_k (by decide), kst_k (by decide)]; exact q1, by rw [kst_k (by decide), kst_k (by decide)]; exact q2, by rw [kst_k (by decide), kst_k (by decide)]; exact q3, fun k k0 k1 => by rw [kst_k (by decide), kst_k (by decide)]; exact q4 k k0 k1⟩
      · rw [e6, kst_k (by decide), kst_ap, e2, kst_ap, kst_k (by decide)]
        by_cases ez : z = c
        · rw [if_pos ⟨rfl, ez⟩, if_pos ⟨rfl, ez⟩, ez]
          exact ⟨rfl, rfl⟩
        · rw [if_neg (fun q => ez q.2), if_neg (fun q => ez q.2)]
          exact hgr z z0 (by omega)
  -- the entry
  have fresh : ∀ s1 s2 s3, s1 = kst σ 26 10 (97 + 4 * g) → s2 = kst s1 26 11 load → s3 = kst s2 26 12 wet → Cv d MJm_fill [(2, (s3 26 9)), (0, 0)] kN s3 (fun s4 => LX10_fit_50 d kN Q 26 r 0 s4) := by
    intro s1 s2 s3 e1 e2 e3
    have hL3 : Lay s3 := by
      rw [e3, e2, e1]
      exact (((hL.kstR (k := 26) (j := 10) (by decide +kernel)).kstO 11 o_26 (by decide)).kstO 12 o_26 (by decide))
    rw [ly_26_9 hL3]
    refine J_fill (by omega) a_35 ?_
    have hL4 : Lay (kfill s3 35 0) := lay_offI hL3 (L := [35]) ((off.rfl').fil (by simp)) (fun k hk => by
      rw [List.mem_singleton] at hk
      rw [hk]
      exact Or.inl a_35)
    have f26 : ∀ j, kfill s3 35 0 26 j = if j = 12 then wet else if j = 11 then load else if j = 10 then 97 + 4 * g else σ 26 j := fun j => by
      rw [kfill_k (by decide), e3, e2, e1]
      simp only [kst_ap, true_and]
    refine key1 0 _ (by omega) (by omega) ?_ (fun j hj => ?_) hL4 ⟨?_, ?_, ?_, fun k k0 k1 => Or.inl (kfill_a (by omega))⟩ (fun z z0 z1 => by omega)
    · rw [e3, e2, e1]
      exact ((((off.rfl').kst (by simp)).kst (by simp)).kst (by simp)).fil (by simp)
    · rw [f26, if_neg (by omega), if_neg (by omega), if_neg (by omega)]
    · rw [f26, if_neg (by omega), if_neg (by omega), if_pos rfl]
    · rw [f26, if_neg (by omega), if_pos rfl]
    · rw [f26, if_pos rfl]
  have w01 : (0 : Int) ≤ wet ∧ wet ≤ 1 := by omega
  have h10 : -1 ≤ σ 26 10 := by
    rcases hC.2 with e | ⟨g', q1, q2, _⟩
    · omega
    · omega
  refine EX10_fit fun _ _ _ => SX10_fit_0 ⟨o_26, ⟨h10, by omega⟩, fun _ s1 e1 s2 e2 => ⟨w01, fun s3 e3 => fresh s1 s2 s3 e1 e2 e3⟩, fun c => ⟨fun _ s1 e1 s2 e2 => ⟨w01, fun s3 e3 => fresh s1 s2 s3 e1 e2 e3⟩, fun c2 => ⟨fun c3 => ?_, fun _ s1 e1 s2 e2 => ⟨w01, fun s3 e3 => fresh s1 s2 s3 e1 e2 e3⟩⟩⟩⟩
  have c := Classical.not_not.mp c
  have c2 := Classical.not_not.mp c2
  rcases hC.2 with e | ⟨g', q1, q2, q3, q4⟩
  · omega
  · have eg : g' = g := by omega
    subst eg
    rw [hb, hn, c2, c3] at q4
    exact key1 0 σ (by omega) (by omega) off.rfl' (fun _ _ => rfl) hL ⟨q2, c2, c3, q4⟩ (fun z z0 z1 => by omega)
