/-! Sight: countHops (in the land 1) -/
theorem told1 {σ s : kS} (h : s 3 = σ 3) : (fun c => told s 1 c 0) = fun c => told σ 1 c 0 := by
  funext c
  show s 3 c = σ 3 c
  rw [h]
theorem Sight_countHops {d : Nat} (hd : 5 ≤ d) {σ : kS} {f g far : Int} {Q : Int → kS → Prop} (hL : Lay σ) (hH : HOK σ 1) (hf : 0 ≤ f ∧ f < 120) (hg : 0 ≤ g ∧ g < 120) (hfar : 1 ≤ far ∧ far ≤ 11) (h : ∀ s n p, off [41, 42] σ s → Lay s → BQ (fun c => told σ 1 c 0) far g (s 41) (s 42) n p p 0 → s 41 f ≠ -1 → Q 1 s) : Ci d MX9_countHops [(2, 40), (2, 1), (0, f), (0, g), (0, far)] kN σ Q := by
  obtain ⟨d, rfl⟩ : ∃ e, d = e + 1 := ⟨d - 1, by omega⟩
  have k41 := kl_41
  have k42 := kl_42
  have key28 : ∀ p : Int, ∀ n : Int, ∀ s : kS, off [41, 42] σ s → Lay s → BQ (fun c => told σ 1 c 0) far g (s 41) (s 42) n p p 0 → (∀ c, 0 ≤ c → c < 120 → s 41 c ≤ n) → LX9_countHops_28 d kN Q 40 1 f far n p s := by
    refine up_to (e := 120) ?_
    intro p ih n s ho hLs hb hle
    have hn := lab_b (h := s 41)
    have hn2 : sm (lab (s 41)) 120 = n := hb.2.2.2.2.2.2.2.2
    have hb1 := hb.1
    refine SX9_countHops_28 ?_
    rw [ly_40_0 hLs, ly_40_1 hLs]
    refine ⟨fun e => ⟨o_40, a_41, by omega, fun e1 => ?_, fun e1 => h s n p ho hLs hb e1⟩, fun e => ⟨o_40, a_41, by omega, fun e1 => ⟨fun e2 => absurd e2 e1, fun _ => h s n p ho hLs hb e1⟩, fun _ => ⟨a_42, by omega, ?_⟩⟩⟩
    · have en : p = n := by omega
      subst en
      exact absurd e1 (hb.all hfar.1 hg f hf.1 hf.2)
    · have key57 : ∀ k : Int, ∀ n : Int, ∀ s1 : kS, 0 ≤ k → off [41, 42] σ s1 → Lay s1 → BQ (fun c => told σ 1 c 0) far g (s1 41) (s1 42) n p (p + 1) k → s1 42 p = s 42 p → (∀ c, 0 ≤ c → c < 120 → s1 41 c ≤ n) → LX9_countHops_57 d kN Q 40 1 f far n p (s 42 p) k s1 := by
        refine up_to (e := 120) ?_
        intro k ihk n s1 k0 ho1 hL1 hbq hcell hle1
        have hn := lab_b (h := s1 41)
        have hn2 : sm (lab (s1 41)) 120 = n := hbq.2.2.2.2.2.2.2.2
        have hb1 := hbq.1
        have hqp := hbq.2.1 p (by omega) (by omega)
        rw [hcell] at hqp
        have e3 : s1 3 = σ 3 := ho1 3 (by decide)
        refine SX9_countHops_57 ⟨fun e => ⟨by omega, ih (by omega) n s1 ho1 hL1 (hbq.close e) hle1⟩, fun e => ?_⟩
        rw [ly_40_0 hL1]
        have nx : s1 41 k ≠ -1 ∨ ¬ hop (fun c => told σ 1 c 0) far k (s1 42 p) → (-2147483648 ≤ k + 1 ∧ k + 1 ≤ 2147483647) ∧ LX9_countHops_57 d kN Q 40 1 f far n p (s 42 p) (k + 1) s1 := fun q => ⟨by omega, ihk (by omega) n s1 (by omega) ho1 hL1 (hbq.skip q) hcell hle1⟩
        refine ⟨o_40, a_41, by omega, fun e1 => nx (Or.inl e1), fun e1 => ⟨fun e2 => ?_, fun e2 => ?_⟩⟩
        · have := lab_un (h := s1 41) (c := k) ⟨k0, by omega⟩ (Classical.not_not.mp e1)
          omega
        · refine Sight_isHop (by omega) hL1 o_1 (fun c c0 c1 => ?_) ⟨k0, by omega⟩ hqp.1 (fun q => ⟨fun e => by omega, fun _ => ?_⟩) (fun q => ⟨fun _ => nx (Or.inr ?_), fun e => by omega⟩)
          · show 0 ≤ s1 3 c ∧ s1 3 c ≤ 99
            rw [e3]
            exact hH c c0 c1
          · rw [told1 e3] at q
            rw [ly_40_0 hL1]
            have hl := hle1 _ hqp.1.1 hqp.1.2
            refine ⟨a_41, by omega, by omega, by omega, fun s2 es2 => ?_⟩
            have hL2 : Lay s2 := by rw [es2]; exact hL1.kstA a_41
            rw [ly_40_1 hL2]
            refine ⟨a_42, by omega, fun s3 es3 => ⟨by omega, by omega, ihk (by omega) (n + 1) s3 (by omega) (by rw [es3, es2]; exact (ho1.kst (by decide)).kst (by decide)) (by rw [es3]; exact hL2.kstA a_42) (hbq.push ⟨k0, by omega⟩ (Classical.not_not.mp e1) (by rw [hcell]; exact q) (fun c => ?_) (fun i => ?_)) ?_ (fun c c0 c1 => ?_)⟩⟩
            · rw [es3, kst_k (by omega), es2, kst_ap, hcell]
              by_cases ec : c = k
              · rw [if_pos ⟨rfl, ec⟩, if_pos ec]
              · rw [if_neg (fun z => ec z.2), if_neg ec]
            · rw [es3, kst_ap, es2, kst_k (by omega)]
              by_cases ei : i = n
              · rw [if_pos ⟨rfl, ei⟩, if_pos ei]
              · rw [if_neg (fun z => ei z.2), if_neg ei]
            · rw [es3, kst_kj (by omega), es2, kst_k (by omega)]
              exact hcell
            · rw [es3, kst_k (by omega), es2, kst_ap]
              by_cases ec : c = k
              · rw [if_pos ⟨rfl, ec⟩]
                omega
              · rw [if_neg (fun z => ec z.2)]
                have := hle1 c c0 c1
                omega
          · rw [told1 e3] at q
            rw [hcell]
            exact q
      exact key57 0 n s (by omega) ho hLs (hb.take (by omega)) rfl hle
  refine EX9_countHops fun _ _ _ _ => SX9_countHops_0 ?_
  rw [ly_40_0 hL]
  refine ⟨o_40, J_fill (by omega) a_41 ?_⟩
  have hL1 : Lay (kfill σ 41 (-1)) := lay_offI hL (L := [41]) ((off.rfl').fil (by simp)) (fun k hk => by
    rw [List.mem_singleton] at hk
    rw [hk]
    exact Or.inl a_41)
  rw [ly_40_0 hL1]
  refine ⟨a_41, by omega, fun s2 e2 => ?_⟩
  have hL2 : Lay s2 := by rw [e2]; exact hL1.kstA a_41
  rw [ly_40_1 hL2]
  refine ⟨a_42, by omega, fun s3 e3 => ?_⟩
  have g41 : ∀ c, 0 ≤ c → c < 120 → s3 41 c = if c = g then 0 else -1 := fun c c0 c1 => by
    rw [e3, kst_k (by omega), e2, kst_ap]
    by_cases ec : c = g
    · rw [if_pos ⟨rfl, ec⟩, if_pos ec]
    · rw [if_neg (fun z => ec z.2), if_neg ec, kfill_a (by omega)]
  refine key28 0 1 s3 (by rw [e3, e2]; exact (((off.rfl').fil (by simp)).kst (by simp)).kst (by simp)) (by rw [e3]; exact hL2.kstA a_42) (BQ.start hg (by rw [g41 g hg.1 hg.2, if_pos rfl]) (fun c c0 c1 hc => by rw [g41 c c0 c1, if_neg hc]) (by rw [e3, kst_eq])) (fun c c0 c1 => ?_)
  rw [g41 c c0 c1]
  split <;> omega
