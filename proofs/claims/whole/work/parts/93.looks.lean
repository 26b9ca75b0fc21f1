/-! sights: the class's looks -/
theorem hop_cong {H H' : Int → Int} {far a b : Int} (ha : 0 ≤ a ∧ a < 120) (hb : 0 ≤ b ∧ b < 120) (h : ∀ c, 0 ≤ c → c < 120 → H c = H' c) : hop H far a b ↔ hop H' far a b := by
  unfold hop
  rw [sees_cong ha hb h]
theorem HD.cong {H H' : Int → Int} {far g : Int} {T : Int → Int} (h : ∀ c, 0 ≤ c → c < 120 → H c = H' c) (hT : HD H far g T) : HD H' far g T := by
  refine ⟨hT.1, hT.2.1, fun c b c0 c1 b0 b1 hh => hT.2.2.1 c b c0 c1 b0 b1 ((hop_cong ⟨c0, c1⟩ ⟨b0, b1⟩ h).mpr hh), fun c c0 c1 hc => ?_⟩
  obtain ⟨b, hb, hh, e⟩ := hT.2.2.2 c c0 c1 hc
  exact ⟨b, hb, (hop_cong ⟨c0, c1⟩ hb h).mp hh, e⟩
theorem NextHop.cong {H H' T : Int → Int} {far c y : Int} (hc : 0 ≤ c ∧ c < 120) (h : ∀ c, 0 ≤ c → c < 120 → H c = H' c) (hn : NextHop H T far c y) : NextHop H' T far c y := by
  obtain ⟨h1, h2, h3⟩ := hn
  exact ⟨h1, ⟨h2.1, (hop_cong hc h1 h).mp h2.2⟩, fun z z0 z1 hz => h3 z z0 z1 ⟨hz.1, (hop_cong hc ⟨z0, by omega⟩ h).mpr hz.2⟩⟩
theorem HD.le {H : Int → Int} {far g : Int} {T : Int → Int} (hf : 1 ≤ far) (hg : 0 ≤ g ∧ g < 120) (hT : HD H far g T) : ∀ c, 0 ≤ c → c < 120 → T c ≤ 11 := by
  have key : ∀ m : Nat, ∀ c, 0 ≤ c → c < 120 → (apart c g).toNat = m → T c ≤ apart c g := by
    intro m
    induction m using Nat.strongRecOn with
    | ind m ih =>
      intro c c0 c1 hm
      by_cases e : c = g
      · rw [e, hT.1]
        exact apart_nn
      · obtain ⟨x, k, hx, hk, hxk, hlt⟩ := conn_W (b := 0) hg c c0 c1 e
        have hxk : stp x k = c := hxk
        have h1 := apart_nn (a := x) (b := g)
        have h2 := ih (apart x g).toNat (by omega) x hx.1 hx.2 rfl
        have hne : stp x k ≠ -1 := by omega
        have ha := apart_stp hne
        rw [hxk] at ha
        have ha2 : apart c x = 1 := by rw [apart_comm]; exact ha
        have h3 := hT.2.2.1 c x c0 c1 hx.1 hx.2 ⟨by omega, fun i i0 i1 => by omega⟩
        omega
  intro c c0 c1
  have h1 := key _ c c0 c1 rfl
  have h2 := apart_cells (a := c) (b := g) ⟨c0, c1⟩ hg
  omega
noncomputable def nextP (H : Int → Int) (far g c : Int) : Int := Classical.epsilon (fun y => NextHop H (hopT H far g) far c y)
theorem nextP_eq {H : Int → Int} {far g c y : Int} (h : NextHop H (hopT H far g) far c y) : nextP H far g c = y :=
  (Classical.epsilon_spec (p := fun y => NextHop H (hopT H far g) far c y) ⟨y, h⟩).uniq h
noncomputable def hopAt (H : Int → Int) (far g f : Int) : Nat → Int
  | 0 => f
  | n + 1 => nextP H far g (hopAt H far g f n)
theorem X_looks {d : Nat} (hd : 8 ≤ d) {σ : kS} {f g far : Int} {Q : Int → kS → Prop} (hI : Inv σ) (h0 : ¬ (isCel f ∧ isCel g ∧ 1 ≤ far ∧ far ≤ 11) → Q 0 σ) (h1 : isCel f → isCel g → 1 ≤ far → far ≤ 11 → ∀ s, off [41, 42, 43, 44] σ s → Lay s → RowC s 43 → s 43 1 = hopT (σ 167) far g f + 1 → (∀ j, 0 ≤ j → j ≤ hopT (σ 167) far g f → s 44 j = hopAt (σ 167) far g f j.toNat) → Q 1 s) : Ci d MX11_looks [(2, 0), (0, f), (0, g), (0, far)] kN σ Q := by
  obtain ⟨d, rfl⟩ : ∃ e, d = e + 1 := ⟨d - 1, by omega⟩
  have k44 : klen (43 + 1) = 120 := kl_44
  have hle := hI.2.2.1.eq
  have hHe : ∀ c, 0 ≤ c → c < 120 → (fun c => told σ 1 c 0) c = σ 167 c := fun c c0 c1 => by
    show told σ 1 c 0 = σ 167 c
    rw [hle.1 c 0 c0 c1 (by decide) (by decide)]
    unfold landM
    rw [show 120 * 0 + c = c by omega]
  have hH : HOK σ 1 := fun c c0 c1 => by
    rw [hle.1 c 0 c0 c1 (by decide) (by decide)]
    exact (hle.2.at ⟨c0, c1⟩).1
  refine EX11_looks fun _ _ _ _ => SX11_looks_0 (X_isCell (by omega) (fun c1 => ⟨fun e => by omega, fun _ => X_isCell (by omega) (fun c2 => ⟨fun e => by omega, fun _ => ⟨fun q => h0 (fun z => by omega), fun q => ⟨fun q2 => ⟨o_0, ?_⟩, fun q2 => h0 (fun z => by omega)⟩⟩⟩) (fun c2 => ⟨fun _ => h0 (fun z => c2 z.2.1), fun e => absurd rfl e⟩)⟩) (fun c1 => ⟨fun _ => h0 (fun z => c1 z.1), fun e => absurd rfl e⟩))
  have hT : HD (σ 167) far g (hopT (σ 167) far g) := HD_ex (by omega) c2
  have hTc : HD (fun c => told σ 1 c 0) far g (hopT (σ 167) far g) := hT.cong (fun c c0 c1 => (hHe c c0 c1).symm)
  have hT11 := hT.le (by omega) c2
  rw [ly_0_15 hI.1, ly_0_0 hI.1]
  refine ⟨o_40, Sight_countHops (by omega) hI.1 hH c1 c2 (by omega) (fun s n p ho hLs hB hne => ⟨fun e => by omega, fun _ => ?_⟩)⟩
  rw [ly_0_15 hLs, ly_0_0 hLs]
  have hbo := hB.out hTc c1 hne
  have hr43 : RowOK s 43 := hI.2.1.2.1.2.2.1.cong (ho 43 (by decide))
  have eH : ∀ v, off [43, 44] s v → HOK v 1 ∧ (fun c => told v 1 c 0) = (fun c => told σ 1 c 0) ∧ v 41 = s 41 := fun v hv => by
    have e3 : v 3 = σ 3 := by rw [hv 3 (by decide), ho 3 (by decide)]
    have et : (fun c => told v 1 c 0) = (fun c => told σ 1 c 0) := by
      funext c
      show v (1 + 2 + 0) c = σ (1 + 2 + 0) c
      rw [show (1 : Int) + 2 + 0 = 3 from rfl, e3]
    refine ⟨fun c c0 c1 => ?_, et, hv 41 (by decide)⟩
    have := hH c c0 c1
    have e4 : told v 1 c 0 = told σ 1 c 0 := congrFun et c
    rw [e4]
    exact this
  refine ⟨o_40, ?_⟩
  obtain ⟨d, rfl⟩ : ∃ e, d = e + 1 := ⟨d - 1, by omega⟩
  refine EX9_layHops fun _ _ _ _ => SX9_layHops_0 ⟨o_40, ?_⟩
  rw [ly_40_2 hLs]
  refine ⟨o_43, Row_cut (by omega) o_43 (fun _ _ => ?_) (fun z => by have := hr43.2; omega)⟩
  have L1 : Lay (kst s 43 1 0) := hLs.kstO 1 o_43 (by decide)
  have e1 : kst s 43 1 0 43 1 = 0 := kst_eq
  rw [ly_40_2 L1]
  refine ⟨o_43, Row_add (by omega) L1 ⟨o_43, by rw [e1]; omega, by rw [e1]; omega⟩ (fun _ => ?_) (fun z => by rw [e1] at z; omega)⟩
  have key : ∀ i c : Int, ∀ v : kS, 0 ≤ i → i ≤ hopT (σ 167) far g f → off [43, 44] s v → Lay v → c = hopAt (σ 167) far g f i.toNat → (0 ≤ c ∧ c < 120) → hopT (σ 167) far g c = hopT (σ 167) far g f - i → s 41 c = hopT (σ 167) far g c → v 43 1 = i + 1 → (∀ j, 0 ≤ j → j ≤ i → v 44 j = hopAt (σ 167) far g f j.toNat ∧ 0 ≤ v 44 j ∧ v 44 j < 120) → LX9_layHops_25 d kN (fun x7 s4 => (x7 = 0 → Q 0 s4) ∧ (¬ x7 = 0 → Q 1 s4)) 40 1 g far c i v := by
    refine up_to (e := hopT (σ 167) far g f) ?_
    intro i ih c v i0 i1 hv hLv hc hcc hTi hh hn43 hrow
    have hf11 := hT11 f c1.1 c1.2
    have fin : c = g → (¬ c = g → ((0 : Int) = 0 → Q 0 v) ∧ (¬ (0 : Int) = 0 → Q 1 v)) ∧ (¬ (¬ c = g) → ((1 : Int) = 0 → Q 0 v) ∧ (¬ (1 : Int) = 0 → Q 1 v)) := fun e => ⟨fun z => absurd e z, fun _ => ⟨fun z => by omega, fun _ => by
      have e0 : hopT (σ 167) far g g = 0 := hT.1
      rw [e, e0] at hTi
      have hi : i = hopT (σ 167) far g f := by omega
      refine h1 c1 c2 (by omega) q2 v ?_ hLv ⟨⟨o_43, by omega, by omega⟩, fun j j0 j1 => (hrow j j0 (by omega)).2⟩ (by omega) (fun j j0 j1 => (hrow j j0 (by omega)).1)
      intro k hk
      simp only [List.mem_cons, List.not_mem_nil, or_false] at hk
      rw [hv k (by simp only [List.mem_cons, List.not_mem_nil, or_false]; omega), ho k (by simp only [List.mem_cons, List.not_mem_nil, or_false]; omega)]⟩⟩
    refine SX9_layHops_25 ⟨fun z => by omega, fun _ => ⟨fun e => fin e, fun e => ⟨fun z => by omega, fun _ => ⟨o_40, ?_⟩⟩⟩⟩
    have hev := eH v hv
    have h41 : v 41 = s 41 := hev.2.2
    have hpos : 1 ≤ hopT (σ 167) far g c := by
      obtain ⟨b, hb, _, eb⟩ := hT.2.2.2 c hcc.1 hcc.2 e
      have := hT.2.1 b hb.1 hb.2
      omega
    have hfle : hopT (σ 167) far g c ≤ s 41 f := by rw [hbo.1]; omega
    refine Sight_nextHop (by omega) hLv hev.1 hcc (by rw [h41, hh]; have := hT11 c hcc.1 hcc.2; omega) ?_ (fun y hy y1 y2 y3 y4 => ?_)
    · obtain ⟨b, hb, hhop, eb⟩ := hTc.2.2.2 c hcc.1 hcc.2 e
      have hb0 := hT.2.1 b hb.1 hb.2
      have e5 := hbo.2.2 b hb.1 hb.2 (by omega)
      rw [h41, hev.2.1]
      exact ⟨b, hb, by omega, by omega, hhop⟩
    · rw [h41, hev.2.1] at *
      have hns := next_same hB hTc c1 hne hcc hh hfle hy ⟨y1, y2, y3⟩ y4
      have hnx : NextHop (σ 167) (hopT (σ 167) far g) far c y := hns.1.cong hcc hHe
      have hnp := nextP_eq hnx
      have hTy := hnx.2.1.1
      rw [ly_40_2 hLv]
      refine ⟨o_43, Row_add (by omega) hLv ⟨o_43, by omega, by omega⟩ (fun _ => ⟨by omega, ih (by omega) y _ (by omega) (by omega) (rowPush_off hv (by decide) (by decide)) ((hLv.kstA a_44).kstO 1 o_43 (by decide)) ?_ hy (by omega) hns.2 (by rw [rowPush_0]; omega) (fun j j0 j1 => ?_)⟩) (fun z => by omega)⟩
      · rw [show (i + 1).toNat = i.toNat + 1 by omega, hopAt, ← hc, hnp]
      · have e44 : rowPush v 43 y 44 j = if j = v 43 1 then y else v 44 j := rowPush_at
        rw [e44]
        by_cases ej : j = i + 1
        · rw [if_pos (by omega), ej, show (i + 1).toNat = i.toNat + 1 by omega, hopAt, ← hc, hnp]
          exact ⟨rfl, hy⟩
        · rw [if_neg (by omega)]
          exact hrow j j0 (by omega)
  refine key 0 f _ (by omega) (hT.2.1 f c1.1 c1.2) (rowPush_off (off.rfl'.kst (by decide)) (by decide) (by decide)) ((L1.kstA a_44).kstO 1 o_43 (by decide)) rfl c1 (by omega) hbo.1 (by rw [rowPush_0, e1]) (fun j j0 j1 => ?_)
  have e44 : rowPush (kst s 43 1 0) 43 f 44 j = if j = kst s 43 1 0 43 1 then f else kst s 43 1 0 44 j := rowPush_at
  rw [e44, e1, if_pos (by omega), show j.toNat = 0 by omega]
  exact ⟨rfl, c1⟩
