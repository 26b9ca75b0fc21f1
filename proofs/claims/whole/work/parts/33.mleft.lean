/-! the model: layLeft -/
theorem LV.sum0 {t T : Int → Int} {g : Int} (h : LV t T g) : 0 ≤ sm T 120 := by
  have h1 := sm_le (f := fun _ => 0) (g := T) (n := 120) (fun i i0 i1 => (h.2.1 i i0 (by omega)).1)
  have h2 := sm_b (f := fun _ => (0 : Int)) (B := 0) (n := 120) (fun _ _ _ => by omega)
  omega
theorem LV.start {t T : Int → Int} {g : Int} (hg : 0 ≤ g ∧ g < 120) (h : ∀ c, 0 ≤ c → c < 120 → T c = if c = g then 0 else 2000000000) : LV t T g := by
  have e0 : T g = 0 := by rw [h g hg.1 hg.2, if_pos rfl]
  have h8 := sm_up (f := fun _ => 0) (g := finm T) (c := g) (n := 120) hg.1 hg.2 (fun i i0 i1 hi => by unfold finm; rw [h i i0 (by omega), if_neg hi, if_pos rfl])
  have h9 := sm_b (f := fun _ => (0 : Int)) (B := 0) (n := 120) (fun _ _ _ => by omega)
  have h10 : finm T g = 1 := by unfold finm; rw [e0]; rfl
  refine ⟨e0, fun c c0 c1 => ?_, fun c c0 c1 hc hf => ?_⟩
  · by_cases e : c = g
    · rw [e, e0]
      omega
    · rw [h c c0 c1, if_neg e]
      exact ⟨by omega, fun q => absurd rfl q⟩
  · rw [h c c0 c1, if_neg hc] at hf
    exact absurd rfl hf
theorem M_layLeft {d : Nat} (hd : 4 ≤ d) {σ : kS} {g : Int} {Q : kS → Prop} (hL : Lay σ) (ht : TolOK (σ 177)) (hg : 0 ≤ g ∧ g < 120) (h : ∀ s, off [178] σ s → Lay s → ID 1000 (σ 177) g (s 178) → (∀ c, 0 ≤ c → c < 120 → s 178 c ≤ 1190000119) → Q s) : Cv d MX12_layLeft [(2, 166), (0, g)] kN σ Q := by
  obtain ⟨d, rfl⟩ : ∃ e, d = e + 1 := ⟨d - 1, by omega⟩
  have k177 := kl_177
  have k178 := kl_178
  have key34 : ∀ m : Nat, ∀ s : kS, off [178] σ s → Lay s → LV (σ 177) (s 178) g → (sm (s 178) 120).toNat = m → LX12_layLeft_34 d kN Q 166 1 s := by
    intro m
    induction m using Nat.strongRecOn with
    | ind m ih =>
      intro s ho hLs hV hm
      have key42 : ∀ c : Int, ∀ more : Int, ∀ s1 : kS, 0 ≤ c → c ≤ 120 → off [178] σ s1 → Lay s1 → LV (σ 177) (s1 178) g → ((more = 0 ∧ sm (s1 178) 120 = sm (s 178) 120 ∧ ∀ z j, 0 ≤ z → z < c → 0 ≤ j → j < 8 → okm (σ 177) (s1 178) z j) ∨ (more = 1 ∧ sm (s1 178) 120 < sm (s 178) 120)) → LX12_layLeft_42 d kN Q 166 more c s1 := by
        refine up_to (e := 120) ?_
        intro c ihc more s1 c0 c1 ho1 hL1 hV1 hc1
        refine SX12_layLeft_42 ⟨fun e => ?_, fun e => ?_⟩
        · rcases hc1 with ⟨rfl, _, hk⟩ | ⟨rfl, hk⟩
          · have hd := hV1.done ht hg (fun z j z0 z1 j0 j1 => hk z j z0 (by omega) j0 j1)
            exact SX12_layLeft_34 ⟨fun _ => h s1 ho1 hL1 hd.1 hd.2, fun q => absurd rfl q⟩
          · have := hV1.sum0
            have := hV.sum0
            exact ih (sm (s1 178) 120).toNat (by omega) s1 ho1 hL1 hV1 rfl
        · have key51 : ∀ k : Int, ∀ more : Int, ∀ s2 : kS, 0 ≤ k → k ≤ 8 → off [178] σ s2 → Lay s2 → LV (σ 177) (s2 178) g → ((more = 0 ∧ sm (s2 178) 120 = sm (s 178) 120 ∧ (∀ z j, 0 ≤ z → z < c → 0 ≤ j → j < 8 → okm (σ 177) (s2 178) z j) ∧ ∀ j, 0 ≤ j → j < k → okm (σ 177) (s2 178) c j) ∨ (more = 1 ∧ sm (s2 178) 120 < sm (s 178) 120)) → LX12_layLeft_51 d kN Q 166 more c k s2 := by
            refine up_to (e := 8) ?_
            intro k ihk more s2 k0 k1 ho2 hL2 hV2 hc2
            refine SX12_layLeft_51 ⟨fun e8 => ⟨by omega, ihc (by omega) more s2 (by omega) (by omega) ho2 hL2 hV2 ?_⟩, fun e8 => M_step (by omega) ⟨c0, by omega⟩ ⟨k0, by omega⟩ ?_⟩
            · rcases hc2 with ⟨q1, q2, q3, q4⟩ | q
              · refine Or.inl ⟨q1, q2, fun z j z0 z1 j0 j1 => ?_⟩
                by_cases ez : z = c
                · rw [ez]; exact q4 j j0 (by omega)
                · exact q3 z j z0 (by omega) j0 j1
              · exact Or.inr q
            · have nx : okm (σ 177) (s2 178) c k → (-2147483648 ≤ k + 1 ∧ k + 1 ≤ 2147483647) ∧ LX12_layLeft_51 d kN Q 166 more c (k + 1) s2 := fun hok => ⟨by omega, ihk (by omega) more s2 (by omega) (by omega) ho2 hL2 hV2 (by
                rcases hc2 with ⟨q1, q2, q3, q4⟩ | q
                · refine Or.inl ⟨q1, q2, q3, fun j j0 j1 => ?_⟩
                  by_cases ej : j = k
                  · rw [ej]; exact hok
                  · exact q4 j j0 (by omega)
                · exact Or.inr q)⟩
              have e177 : s2 177 = σ 177 := ho2 177 (by decide)
              rw [ly_166_27 hL2, ly_166_26 hL2, show 8 * c + k = c * 8 + k by omega, e177]
              refine ⟨fun e1 => nx (Or.inl e1), fun e1 => ?_⟩
              have hs := (stp_cell e1).2.2.1
              have w := ht c k c0 (by omega) k0 (by omega) e1
              have fb := finm_b (T := s2 178)
              refine ⟨o_166, a_178, by omega, fun e2 => nx (Or.inr (Or.inl e2)), fun e2 => ?_⟩
              have b1 := (hV2.2.1 _ hs.1 hs.2).1
              have b2 := (hV2.2.1 _ hs.1 hs.2).2 e2
              refine ⟨by omega, by omega, a_177, by omega, by omega, by omega, by omega, by omega, fun e3 s3 es3 => ?_, fun e3 => nx (Or.inr (Or.inr (by omega)))⟩
              have hup : ∀ z, s3 178 z = if z = c then s2 178 (stp c k) + (σ 177 (c * 8 + k) * 1000 + 1) else s2 178 z := fun z => by
                rw [es3, kst_ap]
                by_cases ez : z = c
                · rw [if_pos ⟨rfl, ez⟩, if_pos ez]; omega
                · rw [if_neg (fun q => ez q.2), if_neg ez]
              have hst := hV2.step ht ⟨c0, by omega⟩ ⟨k0, by omega⟩ e1 e2 (by omega) hup
              refine ⟨by omega, ihk (by omega) 1 s3 (by omega) (by omega) (by rw [es3]; exact ho2.kst (by decide)) (by rw [es3]; exact hL2.kstA a_178) hst.1 (Or.inr ⟨rfl, ?_⟩)⟩
              rcases hc2 with ⟨q1, q2, _⟩ | ⟨q1, q2⟩
              · have := hst.2
                omega
              · have := hst.2
                omega
          refine key51 0 more s1 (by omega) (by omega) ho1 hL1 hV1 ?_
          rcases hc1 with ⟨q1, q2, q3⟩ | q
          · exact Or.inl ⟨q1, q2, q3, fun j j0 j1 => by omega⟩
          · exact Or.inr q
      exact SX12_layLeft_34 ⟨fun e => by omega, fun _ => key42 0 0 s (by omega) (by omega) ho hLs hV (Or.inl ⟨rfl, rfl, fun z j z0 z1 => by omega⟩)⟩
  have key2 : ∀ i : Int, ∀ s : kS, 0 ≤ i → i ≤ 120 → off [178] σ s → Lay s → (∀ c, 0 ≤ c → c < i → s 178 c = if c = g then 0 else 2000000000) → LX12_layLeft_2 d kN Q 166 g i s := by
    refine up_to (e := 120) ?_
    intro i ih s i0 i1 ho hLs hv
    refine SX12_layLeft_2 ⟨fun e => key34 _ s ho hLs (LV.start hg (fun c c0 c1 => hv c c0 (by omega))) rfl, fun e => ?_⟩
    rw [ly_166_27 hLs]
    have nx : ∀ v s1, s1 = kst s 178 i v → v = (if i = g then 0 else 2000000000) → (-2147483648 ≤ i + 1 ∧ i + 1 ≤ 2147483647) ∧ LX12_layLeft_2 d kN Q 166 g (i + 1) s1 := fun v s1 e1 ev => ⟨by omega, ih (by omega) s1 (by omega) (by omega) (by rw [e1]; exact ho.kst (by decide)) (by rw [e1]; exact hLs.kstA a_178) (fun c c0 c1 => by
      rw [e1]
      by_cases ec : c = i
      · rw [ec, kst_eq, ev]
      · rw [kst_kj ec]
        exact hv c c0 (by omega))⟩
    exact ⟨o_166, fun e2 => ⟨a_178, by omega, fun s1 e1 => nx _ s1 e1 (by rw [if_neg e2])⟩, fun e2 => ⟨a_178, by omega, fun s1 e1 => nx _ s1 e1 (by rw [if_pos (Classical.not_not.mp e2)])⟩⟩
  exact EX12_layLeft fun _ _ => SX12_layLeft_0 (key2 0 σ (by omega) (by omega) off.rfl' hL (fun c c0 c1 => by omega))
