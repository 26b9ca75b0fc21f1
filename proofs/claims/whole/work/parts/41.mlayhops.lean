/-! the model: layHops, by machine -/
theorem M_layHops {d : Nat} (hd : 5 ≤ d) {σ : kS} {g far : Int} {Q : kS → Prop} (hL : Lay σ) (hH : HM σ) (hg : 0 ≤ g ∧ g < 120) (hfar : 1 ≤ far) (h : ∀ s, off [181] σ s → Lay s → HD (σ 167) far g (s 181) → (∀ c, 0 ≤ c → c < 120 → s 181 c ≤ 11) → Q s) : Cv d MX12_layHops [(2, 166), (0, g), (0, far)] kN σ Q := by
  obtain ⟨d, rfl⟩ : ∃ e, d = e + 1 := ⟨d - 1, by omega⟩
  have k181 := kl_181
  have key33 : ∀ m : Nat, ∀ s : kS, off [181] σ s → Lay s → HV (σ 167) (s 181) far g → (sm (s 181) 120).toNat = m → LX12_layHops_33 d kN Q 166 far 1 s := by
    intro m
    induction m using Nat.strongRecOn with
    | ind m ih =>
      intro s ho hLs hV hm
      have key42 : ∀ c : Int, ∀ more : Int, ∀ s1 : kS, 0 ≤ c → c ≤ 120 → off [181] σ s1 → Lay s1 → HV (σ 167) (s1 181) far g → ((more = 0 ∧ sm (s1 181) 120 = sm (s 181) 120 ∧ ∀ z j, 0 ≤ z → z < c → 0 ≤ j → j < 120 → (s1 181 z ≤ s1 181 j + 1 ∨ ¬ hop (σ 167) far z j)) ∨ (more = 1 ∧ sm (s1 181) 120 < sm (s 181) 120)) → LX12_layHops_42 d kN Q 166 far more c s1 := by
        refine up_to (e := 120) ?_
        intro c ihc more s1 c0 c1 ho1 hL1 hV1 hc1
        refine SX12_layHops_42 ⟨fun e => ?_, fun e => ?_⟩
        · rcases hc1 with ⟨rfl, _, hk⟩ | ⟨rfl, hk⟩
          · have hd := hV1.done hfar hg (fun z j z0 z1 j0 j1 => hk z j z0 (by omega) j0 j1)
            exact SX12_layHops_33 ⟨fun _ => h s1 ho1 hL1 hd.1 hd.2, fun q => absurd rfl q⟩
          · have := hV1.sum0
            have := hV.sum0
            exact ih (sm (s1 181) 120).toNat (by omega) s1 ho1 hL1 hV1 rfl
        · have key52 : ∀ k : Int, ∀ more : Int, ∀ s2 : kS, 0 ≤ k → k ≤ 120 → off [181] σ s2 → Lay s2 → HV (σ 167) (s2 181) far g → ((more = 0 ∧ sm (s2 181) 120 = sm (s 181) 120 ∧ (∀ z j, 0 ≤ z → z < c → 0 ≤ j → j < 120 → (s2 181 z ≤ s2 181 j + 1 ∨ ¬ hop (σ 167) far z j)) ∧ ∀ j, 0 ≤ j → j < k → (s2 181 c ≤ s2 181 j + 1 ∨ ¬ hop (σ 167) far c j)) ∨ (more = 1 ∧ sm (s2 181) 120 < sm (s 181) 120)) → LX12_layHops_52 d kN Q 166 far more c k s2 := by
            refine up_to (e := 120) ?_
            intro k ihk more s2 k0 k1 ho2 hL2 hV2 hc2
            refine SX12_layHops_52 ⟨fun e8 => ⟨by omega, ihc (by omega) more s2 (by omega) (by omega) ho2 hL2 hV2 ?_⟩, fun e8 => ?_⟩
            · rcases hc2 with ⟨q1, q2, q3, q4⟩ | q
              · refine Or.inl ⟨q1, q2, fun z j z0 z1 j0 j1 => ?_⟩
                by_cases ez : z = c
                · rw [ez]; exact q4 j j0 (by omega)
                · exact q3 z j z0 (by omega) j0 j1
              · exact Or.inr q
            · have nx : (s2 181 c ≤ s2 181 k + 1 ∨ ¬ hop (σ 167) far c k) → (-2147483648 ≤ k + 1 ∧ k + 1 ≤ 2147483647) ∧ LX12_layHops_52 d kN Q 166 far more c (k + 1) s2 := fun hok => ⟨by omega, ihk (by omega) more s2 (by omega) (by omega) ho2 hL2 hV2 (by
                rcases hc2 with ⟨q1, q2, q3, q4⟩ | q
                · refine Or.inl ⟨q1, q2, q3, fun j j0 j1 => ?_⟩
                  by_cases ej : j = k
                  · rw [ej]; exact hok
                  · exact q4 j j0 (by omega)
                · exact Or.inr q)⟩
              have e167 : s2 167 = σ 167 := ho2 167 (by decide)
              have hH2 : HM s2 := by unfold HM; rw [e167]; exact hH
              have bk := hV2.2.1 k k0 (by omega)
              rw [ly_166_31 hL2]
              refine ⟨o_166, a_181, by omega, by omega, by omega, fun e1 => nx (Or.inl e1), fun e1 => M_apart (by omega) c0 k0 ⟨fun e2 => nx (Or.inr (fun q => by have := q.1; omega)), fun e2 => M_seesIt (by omega) hL2 hH2 ⟨c0, by omega⟩ ⟨k0, by omega⟩ (fun q => ⟨fun _ => ?_, fun e => absurd (by decide) e⟩) (fun q => ⟨fun e => absurd rfl e, fun _ => nx (Or.inr (fun z => q (by rw [e167]; exact z.2)))⟩)⟩⟩
              rw [ly_166_31 hL2]
              refine ⟨a_181, by omega, by omega, by omega, fun s3 es3 => ?_⟩
              have hup : ∀ z, s3 181 z = if z = c then s2 181 k + 1 else s2 181 z := fun z => by
                rw [es3, kst_ap]
                by_cases ez : z = c
                · rw [if_pos ⟨rfl, ez⟩, if_pos ez]
                · rw [if_neg (fun q => ez q.2), if_neg ez]
              have hst := hV2.step ⟨c0, by omega⟩ ⟨k0, by omega⟩ ⟨by omega, by rw [← e167]; exact q⟩ (by omega) hup
              refine ⟨by omega, ihk (by omega) 1 s3 (by omega) (by omega) (by rw [es3]; exact ho2.kst (by decide)) (by rw [es3]; exact hL2.kstA a_181) hst.1 (Or.inr ⟨rfl, ?_⟩)⟩
              rcases hc2 with ⟨q1, q2, _⟩ | ⟨q1, q2⟩
              · have := hst.2
                omega
              · have := hst.2
                omega
          refine key52 0 more s1 (by omega) (by omega) ho1 hL1 hV1 ?_
          rcases hc1 with ⟨q1, q2, q3⟩ | q
          · exact Or.inl ⟨q1, q2, q3, fun j j0 j1 => by omega⟩
          · exact Or.inr q
      exact SX12_layHops_33 ⟨fun e => by omega, fun _ => key42 0 0 s (by omega) (by omega) ho hLs hV (Or.inl ⟨rfl, rfl, fun z j z0 z1 => by omega⟩)⟩
  have key2 : ∀ i : Int, ∀ s : kS, 0 ≤ i → i ≤ 120 → off [181] σ s → Lay s → (∀ c, 0 ≤ c → c < i → s 181 c = if c = g then 0 else 120) → LX12_layHops_2 d kN Q 166 g far i s := by
    refine up_to (e := 120) ?_
    intro i ih s i0 i1 ho hLs hv
    refine SX12_layHops_2 ⟨fun e => key33 _ s ho hLs ⟨by rw [hv g hg.1 (by omega), if_pos rfl], fun c c0 c1 => by rw [hv c c0 (by omega)]; split <;> omega, fun c c0 c1 hc hf => absurd (by rw [hv c c0 (by omega), if_neg hc]) hf⟩ rfl, fun e => ?_⟩
    rw [ly_166_31 hLs]
    have nx : ∀ v s1, s1 = kst s 181 i v → v = (if i = g then 0 else 120) → (-2147483648 ≤ i + 1 ∧ i + 1 ≤ 2147483647) ∧ LX12_layHops_2 d kN Q 166 g far (i + 1) s1 := fun v s1 e1 ev => ⟨by omega, ih (by omega) s1 (by omega) (by omega) (by rw [e1]; exact ho.kst (by decide)) (by rw [e1]; exact hLs.kstA a_181) (fun c c0 c1 => by
      rw [e1]
      by_cases ec : c = i
      · rw [ec, kst_eq, ev]
      · rw [kst_kj ec]
        exact hv c c0 (by omega))⟩
    exact ⟨o_166, fun e2 => ⟨a_181, by omega, fun s1 e1 => nx _ s1 e1 (by rw [if_neg e2])⟩, fun e2 => ⟨a_181, by omega, fun s1 e1 => nx _ s1 e1 (by rw [if_pos (Classical.not_not.mp e2)])⟩⟩
  exact EX12_layHops fun _ _ _ => SX12_layHops_0 (key2 0 σ (by omega) (by omega) off.rfl' hL (fun c c0 c1 => by omega))
