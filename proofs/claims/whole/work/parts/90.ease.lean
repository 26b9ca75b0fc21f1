/-! feet: the tolls that grow less -/
def easeT (T : Int → Int) (e : Int) (f : Int → Int) (q : Int) : Int := max 1 (T q - e * f (stp (q / 8) (q % 8)))
theorem easeT_at {T f : Int → Int} {e x k : Int} (hk : 0 ≤ k ∧ k < 8) : easeT T e f (x * 8 + k) = max 1 (T (x * 8 + k) - e * f (stp x k)) := by
  unfold easeT
  rw [show (x * 8 + k) / 8 = x by omega, show (x * 8 + k) % 8 = k by omega]
theorem easeT_ok {T f : Int → Int} {e : Int} (ht : TolOK T) (he : 0 ≤ e) (hf : ∀ c, 0 ≤ c → c < 120 → 0 ≤ f c) : TolOK (easeT T e f) := by
  intro x k x0 x1 k0 k1 hn
  have h1 := ht x k x0 x1 k0 k1 hn
  have hs := (stp_cell hn).2.2.1
  have h2 := Int.mul_nonneg he (hf _ hs.1 hs.2)
  rw [easeT_at ⟨k0, k1⟩]
  omega
/-- one more foot on a cell -/
theorem easeT_step {T f g : Int → Int} {e c x k : Int} (ht : TolOK T) (he : 0 ≤ e) (hx : 0 ≤ x ∧ x < 120) (hk : 0 ≤ k ∧ k < 8) (hn : stp x k ≠ -1) (hg : ∀ z, g z = if z = c then f z + 1 else f z) : easeT T e g (x * 8 + k) = if stp x k = c then max 1 (easeT T e f (x * 8 + k) - e) else easeT T e f (x * 8 + k) := by
  rw [easeT_at hk, easeT_at hk, hg]
  by_cases q : stp x k = c
  · rw [if_pos q, if_pos q, Int.mul_add, Int.mul_one]
    omega
  · rw [if_neg q, if_neg q]
theorem Ways_ease {d : Nat} (hd : 3 ≤ d) {σ : kS} {c e : Int} {Q : kS → Prop} (hL : Lay σ) (ht : TolOK (σ 28)) (hc : 0 ≤ c ∧ c < 120) (he : 0 ≤ e ∧ e ≤ 9) (h : ∀ s, off [28] σ s → Lay s → (∀ x k, 0 ≤ x → x < 120 → 0 ≤ k → k < 8 → stp x k ≠ -1 → s 28 (x * 8 + k) = if stp x k = c then max 1 (σ 28 (x * 8 + k) - e) else σ 28 (x * 8 + k)) → Q s) : Cv d MX10_ease [(2, 26), (0, c), (0, e)] kN σ Q := by
  obtain ⟨d, rfl⟩ : ∃ e, d = e + 1 := ⟨d - 1, by omega⟩
  have k28 := kl_28
  have key : ∀ k : Int, ∀ s : kS, 0 ≤ k → k ≤ 8 → off [28] σ s → Lay s → (∀ x j, 0 ≤ x → x < 120 → 0 ≤ j → j < 8 → stp x j ≠ -1 → s 28 (x * 8 + j) = if stp x j = c ∧ j < k then max 1 (σ 28 (x * 8 + j) - e) else σ 28 (x * 8 + j)) → LX10_ease_2 d kN Q 26 c e k s := by
    refine up_to (e := 8) ?_
    intro k ih s k0 k8 ho hLs hs
    refine SX10_ease_2 ⟨fun q => h s ho hLs (fun x j x0 x1 j0 j1 hn => ?_), fun q => X_stepFrom (by omega) ?_⟩
    · rw [hs x j x0 x1 j0 j1 hn]
      by_cases p : stp x j = c
      · rw [if_pos p, if_pos ⟨p, by omega⟩]
      · rw [if_neg p, if_neg (fun z => p z.1)]
    · rw [kxor4 (by omega)]
      refine ⟨fun q2 => ⟨by omega, ih (by omega) s (by omega) (by omega) ho hLs (fun x j x0 x1 j0 j1 hn => ?_)⟩, fun q2 => ?_⟩
      · rw [hs x j x0 x1 j0 j1 hn]
        by_cases p : stp x j = c
        · by_cases pj : j = k
          · exfalso
            have := stp_back hn
            rw [p, pj, q2] at this
            omega
          · by_cases pl : j < k
            · rw [if_pos ⟨p, pl⟩, if_pos ⟨p, by omega⟩]
            · rw [if_neg (fun z => pl z.2), if_neg (fun z => by omega)]
        · rw [if_neg (fun z => p z.1), if_neg (fun z => p z.1)]
      · have hf := stp_cell q2
        have hfw := stp_fwd (x := c) (k := k) ⟨k0, by omega⟩ q2
        have hb := (ht (stp c (opp k)) k hf.2.2.1.1 hf.2.2.1.2 k0 (by omega) (by rw [hfw]; omega))
        have hv := hs (stp c (opp k)) k hf.2.2.1.1 hf.2.2.1.2 k0 (by omega) (by rw [hfw]; omega)
        rw [if_neg (fun z => by omega)] at hv
        rw [ly_26_1 hLs, hv]
        refine ⟨by omega, by omega, o_26, a_28, by omega, by omega, J_max (by omega) (fun s3 e3 => ⟨by omega, ih (by omega) s3 (by omega) (by omega) (by rw [e3]; exact ho.kst (by decide)) (by rw [e3]; exact hLs.kstA a_28) (fun x j x0 x1 j0 j1 hn => ?_)⟩)⟩
        rw [e3, kst_ap]
        by_cases px : x = stp c (opp k) ∧ j = k
        · rw [if_pos ⟨rfl, by rw [px.1, px.2]⟩, px.1, px.2, if_pos ⟨hfw, by omega⟩]
        · rw [if_neg (fun z => px (by have := z.2; omega)), hs x j x0 x1 j0 j1 hn]
          by_cases p : stp x j = c
          · by_cases pj : j = k
            · exfalso
              have hbk := stp_back hn
              rw [p, pj] at hbk
              exact px ⟨hbk.symm, pj⟩
            · by_cases pl : j < k
              · rw [if_pos ⟨p, pl⟩, if_pos ⟨p, by omega⟩]
              · rw [if_neg (fun z => pl z.2), if_neg (fun z => by omega)]
          · rw [if_neg (fun z => p z.1), if_neg (fun z => p z.1)]
  exact EX10_ease fun _ _ _ => SX10_ease_0 (key 0 σ (by omega) (by omega) off.rfl' hL (fun x j x0 x1 j0 j1 hn => by rw [if_neg (fun z => by omega)]))
theorem M_easePains {d : Nat} (hd : 4 ≤ d) {σ : kS} {e : Int} {Q : kS → Prop} (hL : Lay σ) (ht : TolOK (σ 204)) (he : 0 ≤ e ∧ e ≤ 9) (hf : ∀ c, 0 ≤ c → c < 120 → 0 ≤ σ 203 c ∧ σ 203 c ≤ 99) (h : ∀ s, off [177] σ s → Lay s → TEq (s 177) (easeT (σ 204) e (σ 203)) → Q s) : Cv d MX12_easePains [(2, 166), (0, e)] kN σ Q := by
  obtain ⟨d, rfl⟩ : ∃ e, d = e + 1 := ⟨d - 1, by omega⟩
  have k177 := kl_177
  have k203 := kl_203
  have k204 := kl_204
  have key2 : ∀ c : Int, ∀ s : kS, 0 ≤ c → c ≤ 120 → off [177] σ s → Lay s → (∀ x k, 0 ≤ x → x < c → 0 ≤ k → k < 8 → stp x k ≠ -1 → s 177 (x * 8 + k) = easeT (σ 204) e (σ 203) (x * 8 + k)) → LX12_easePains_2 d kN Q 166 e c s := by
    refine up_to (e := 120) ?_
    intro c ih s c0 c1 ho hLs hs
    refine SX12_easePains_2 ⟨fun q => h s ho hLs (fun x k x0 x1 k0 k1 hn => hs x k x0 (by omega) k0 k1 hn), fun q => ?_⟩
    have key10 : ∀ k : Int, ∀ u : kS, 0 ≤ k → k ≤ 8 → off [177] σ u → Lay u → (∀ x j, 0 ≤ x → x < c → 0 ≤ j → j < 8 → stp x j ≠ -1 → u 177 (x * 8 + j) = easeT (σ 204) e (σ 203) (x * 8 + j)) → (∀ j, 0 ≤ j → j < k → stp c j ≠ -1 → u 177 (c * 8 + j) = easeT (σ 204) e (σ 203) (c * 8 + j)) → LX12_easePains_10 d kN Q 166 e c k u := by
      refine up_to (e := 8) ?_
      intro k ihk u k0 k8 hou hLu hu hcur
      refine SX12_easePains_10 ⟨fun q2 => ⟨by omega, ih (by omega) u (by omega) (by omega) hou hLu (fun x j x0 x1 j0 j1 hn => ?_)⟩, fun q2 => M_step (by omega) ⟨c0, by omega⟩ ⟨k0, by omega⟩ ?_⟩
      · by_cases ex : x = c
        · rw [ex] at hn ⊢
          exact hcur j j0 (by omega) hn
        · exact hu x j x0 (by omega) j0 j1 hn
      · refine ⟨fun q3 => ⟨by omega, ihk (by omega) u (by omega) (by omega) hou hLu hu (fun j j0 j1 hn => ?_)⟩, fun q3 => ?_⟩
        · by_cases ej : j = k
          · rw [ej] at hn
            exact absurd q3 hn
          · exact hcur j j0 (by omega) hn
        · have hsc := (stp_cell q3).2.2.1
          have hb := ht c k c0 (by omega) k0 (by omega) q3
          have hfc := hf _ hsc.1 hsc.2
          have m0 := Int.mul_nonneg he.1 hfc.1
          have m1 : e * σ 203 (stp c k) ≤ 9 * 99 := Int.mul_le_mul he.2 hfc.2 hfc.1 (by omega)
          rw [ly_166_60 hLu, ly_166_59 hLu, ly_166_26 hLu, show 8 * c + k = c * 8 + k by omega, hou 204 (by decide)]
          refine ⟨o_166, by omega, by omega, a_204, by omega, M_step (by omega) ⟨c0, by omega⟩ ⟨k0, by omega⟩ ?_⟩
          rw [hou 203 (by decide)]
          refine ⟨a_203, by omega, by omega, by omega, J_max (by omega) ⟨a_177, by omega, fun v ev => ⟨by omega, ihk (by omega) v (by omega) (by omega) (by rw [ev]; exact hou.kst (by decide)) (by rw [ev]; exact hLu.kstA a_177) (fun x j x0 x1 j0 j1 hn => ?_) (fun j j0 j1 hn => ?_)⟩⟩⟩
          · rw [ev, kst_kj (by omega)]
            exact hu x j x0 x1 j0 j1 hn
          · rw [ev, kst_ap]
            by_cases ej : j = k
            · rw [if_pos ⟨rfl, by omega⟩, ej, easeT_at ⟨k0, by omega⟩]
            · rw [if_neg (fun z => ej (by omega))]
              exact hcur j j0 (by omega) hn
    exact key10 0 s (by omega) (by omega) ho hLs hs (fun j j0 j1 => by omega)
  exact EX12_easePains fun _ _ => SX12_easePains_0 (key2 0 σ (by omega) (by omega) off.rfl' hL (fun x k x0 x1 => by omega))
