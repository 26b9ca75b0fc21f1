/-! the model: layFrom; the class's sums from a cell -/
noncomputable def cif (p : Prop) (a b : Int) : Int := @ite Int p (Classical.propDecidable p) a b
theorem cif_pos {p : Prop} {a b : Int} (h : p) : cif p a b = a := @if_pos p (Classical.propDecidable p) h Int a b
theorem cif_neg {p : Prop} {a b : Int} (h : ¬ p) : cif p a b = b := @if_neg p (Classical.propDecidable p) h Int a b
def wP (t : Int → Int) (x k : Int) : Int := t (x * 8 + k)
def LF (t T : Int → Int) (g : Int) : Prop :=
  T g = 0 ∧ (∀ c, 0 ≤ c → c < 120 → 0 ≤ T c ∧ (T c ≠ 2000000000 → T c ≤ (sm (finm T) 120 - 1) * 10000)) ∧ (∀ c, 0 ≤ c → c < 120 → c ≠ g → T c ≠ 2000000000 → ∃ x k, (0 ≤ x ∧ x < 120) ∧ (0 ≤ k ∧ k < 8) ∧ stp x k = c ∧ T x ≠ 2000000000 ∧ T x + t (x * 8 + k) ≤ T c)
def okf (t T : Int → Int) (c k : Int) : Prop := stp c k = -1 ∨ T c = 2000000000 ∨ T (stp c k) ≤ T c + t (c * 8 + k)
theorem LF.step {t T T' : Int → Int} {g c k : Int} (ht : TolOK t) (h : LF t T g) (hc : 0 ≤ c ∧ c < 120) (hk : 0 ≤ k ∧ k < 8) (hn : stp c k ≠ -1) (hf : T c ≠ 2000000000) (hlt : T c + t (c * 8 + k) < T (stp c k)) (hT : ∀ z, T' z = if z = stp c k then T c + t (c * 8 + k) else T z) : LF t T' g ∧ sm T' 120 < sm T 120 := by
  obtain ⟨h1, h2, h3⟩ := h
  have hs := (stp_cell hn).2.2.1
  have w := ht c k hc.1 hc.2 hk.1 hk.2 hn
  have e1 : T' (stp c k) = T c + t (c * 8 + k) := by rw [hT, if_pos rfl]
  have e2 : ∀ z, z ≠ stp c k → T' z = T z := fun z hz => by rw [hT, if_neg hz]
  have b1 := h2 c hc.1 hc.2
  have b2 := b1.2 hf
  have fb := finm_b (T := T)
  have hsg : stp c k ≠ g := fun e => by rw [e, h1] at hlt; omega
  have hne := stp_ne hn
  have hfc : finm T' (stp c k) = 1 := by unfold finm; rw [e1, if_neg (by omega)]
  have cnt := sm_up (f := finm T) (g := finm T') (c := stp c k) (n := 120) hs.1 hs.2 (fun i _ _ hi => by unfold finm; rw [e2 i hi])
  have sum := sm_up (f := T) (g := T') (c := stp c k) (n := 120) hs.1 hs.2 (fun i _ _ hi => e2 i hi)
  have hmono : sm (finm T) 120 ≤ sm (finm T') 120 := by
    have : finm T (stp c k) ≤ 1 := by unfold finm; split <;> omega
    omega
  refine ⟨⟨by rw [e2 g (Ne.symm hsg)]; exact h1, fun z z0 z1 => ?_, fun z z0 z1 hz hzf => ?_⟩, by omega⟩
  · by_cases e : z = stp c k
    · rw [e, e1]
      refine ⟨by omega, fun _ => ?_⟩
      by_cases ef : T (stp c k) = 2000000000
      · have : finm T (stp c k) = 0 := by unfold finm; rw [if_pos ef]
        omega
      · have := (h2 _ hs.1 hs.2).2 ef
        omega
    · rw [e2 z e]
      have := h2 z z0 z1
      exact ⟨this.1, fun q => by have := this.2 q; omega⟩
  · by_cases e : z = stp c k
    · refine ⟨c, k, hc, hk, e.symm, by rw [e2 c (Ne.symm hne)]; exact hf, ?_⟩
      rw [e, e1, e2 c (Ne.symm hne)]
      exact Int.le_refl _
    · rw [e2 z e] at hzf ⊢
      obtain ⟨x, l, hx, hl, g1, g2, g3⟩ := h3 z z0 z1 hz hzf
      refine ⟨x, l, hx, hl, g1, ?_, ?_⟩
      · by_cases e5 : x = stp c k
        · rw [e5, e1]; omega
        · rw [e2 _ e5]; exact g2
      · by_cases e5 : x = stp c k
        · rw [e5] at g3
          rw [e5, e1]
          omega
        · rw [e2 _ e5]; exact g3
theorem LF.done {t T : Int → Int} {g : Int} (ht : TolOK t) (hg : 0 ≤ g ∧ g < 120) (h : LF t T g) (ho : ∀ c k, 0 ≤ c → c < 120 → 0 ≤ k → k < 8 → okf t T c k) : GD (nbW 0) (wP t) g T ∧ ∀ c, 0 ≤ c → c < 120 → T c ≤ 1190000 := by
  obtain ⟨h1, h2, h3⟩ := h
  have fb := finm_b (T := T)
  have key : ∀ m : Nat, ∀ c, 0 ≤ c → c < 120 → (apart c g).toNat = m → T c ≠ 2000000000 := by
    intro m
    induction m using Nat.strongRecOn with
    | ind m ih =>
      intro c c0 c1 hm
      by_cases e : c = g
      · rw [e, h1]; omega
      · obtain ⟨x, k, hx, hk, hxk, hlt⟩ := conn_W (b := 0) hg c c0 c1 e
        have hxk : stp x k = c := hxk
        have := apart_nn (a := x) (b := g)
        have hf := ih (apart x g).toNat (by omega) x hx.1 hx.2 rfl
        have hb := (h2 _ hx.1 hx.2).2 hf
        have hn : stp x k ≠ -1 := by omega
        have w := ht x k hx.1 hx.2 hk.1 hk.2 hn
        rcases ho x k hx.1 hx.2 hk.1 hk.2 with q | q | q
        · exact absurd q hn
        · exact absurd q hf
        · rw [hxk] at q
          omega
  have fin := fun c c0 c1 => key _ c c0 c1 rfl
  refine ⟨⟨h1, fun c c0 c1 => (h2 c c0 c1).1, fun x k x0 x1 k0 k1 hn => ?_, fun y y0 y1 hy => ?_⟩, fun c c0 c1 => ?_⟩
  · have hn : stp x k ≠ -1 := hn
    show T (stp x k) ≤ T x + t (x * 8 + k)
    rcases ho x k x0 x1 k0 k1 with q | q | q
    · exact absurd q hn
    · exact absurd q (fin _ x0 x1)
    · exact q
  · obtain ⟨x, k, hx, hk, g1, g2, g3⟩ := h3 y y0 y1 hy (fin y y0 y1)
    refine ⟨x, k, hx, hk, g1, ?_⟩
    show T y = T x + t (x * 8 + k)
    rcases ho x k hx.1 hx.2 hk.1 hk.2 with q | q | q
    · omega
    · exact absurd q g2
    · rw [g1] at q
      omega
  · have := (h2 c c0 c1).2 (fin c c0 c1)
    omega
theorem LF.sum0 {t T : Int → Int} {g : Int} (h : LF t T g) : 0 ≤ sm T 120 := by
  have h1 := sm_le (f := fun _ => 0) (g := T) (n := 120) (fun i i0 i1 => (h.2.1 i i0 (by omega)).1)
  have h2 := sm_b (f := fun _ => (0 : Int)) (B := 0) (n := 120) (fun _ _ _ => by omega)
  omega
theorem LF.start {t T : Int → Int} {g : Int} (hg : 0 ≤ g ∧ g < 120) (h : ∀ c, 0 ≤ c → c < 120 → T c = if c = g then 0 else 2000000000) : LF t T g := by
  have e0 : T g = 0 := by rw [h g hg.1 hg.2, if_pos rfl]
  have h8 := sm_up (f := fun _ => 0) (g := finm T) (c := g) (n := 120) hg.1 hg.2 (fun i i0 i1 hi => by unfold finm; rw [h i i0 (by omega), if_neg hi, if_pos rfl])
  have h9 := sm_b (f := fun _ => (0 : Int)) (B := 0) (n := 120) (fun _ _ _ => by omega)
  have h10 : finm T g = 1 := by unfold finm; rw [e0]; rfl
  refine ⟨e0, fun c c0 c1 => ?_, fun c c0 c1 hc hf => ?_⟩
  · by_cases e : c = g
    · rw [e, e0]
      omega
    · rw [h c c0 c1, if_neg e]
      exact ⟨by omega, fun q => absurd rfl q⟩
  · rw [h c c0 c1, if_neg hc] at hf
    exact absurd rfl hf
theorem M_layFrom {d : Nat} (hd : 4 ≤ d) {σ : kS} {g : Int} {Q : kS → Prop} (hL : Lay σ) (ht : TolOK (σ 177)) (hg : 0 ≤ g ∧ g < 120) (h : ∀ s, off [179] σ s → Lay s → GD (nbW 0) (wP (σ 177)) g (s 179) → (∀ c, 0 ≤ c → c < 120 → s 179 c ≤ 1190000) → Q s) : Cv d MX12_layFrom [(2, 166), (0, g)] kN σ Q := by
  obtain ⟨d, rfl⟩ : ∃ e, d = e + 1 := ⟨d - 1, by omega⟩
  have k177 := kl_177
  have k179 := kl_179
  have key34 : ∀ m : Nat, ∀ s : kS, off [179] σ s → Lay s → LF (σ 177) (s 179) g → (sm (s 179) 120).toNat = m → LX12_layFrom_34 d kN Q 166 1 s := by
    intro m
    induction m using Nat.strongRecOn with
    | ind m ih =>
      intro s ho hLs hV hm
      have key42 : ∀ c : Int, ∀ more : Int, ∀ s1 : kS, 0 ≤ c → c ≤ 120 → off [179] σ s1 → Lay s1 → LF (σ 177) (s1 179) g → ((more = 0 ∧ sm (s1 179) 120 = sm (s 179) 120 ∧ ∀ z j, 0 ≤ z → z < c → 0 ≤ j → j < 8 → okf (σ 177) (s1 179) z j) ∨ (more = 1 ∧ sm (s1 179) 120 < sm (s 179) 120)) → LX12_layFrom_42 d kN Q 166 more c s1 := by
        refine up_to (e := 120) ?_
        intro c ihc more s1 c0 c1 ho1 hL1 hV1 hc1
        refine SX12_layFrom_42 ⟨fun e => ?_, fun e => ?_⟩
        · rcases hc1 with ⟨rfl, _, hk⟩ | ⟨rfl, hk⟩
          · have hd := hV1.done ht hg (fun z j z0 z1 j0 j1 => hk z j z0 (by omega) j0 j1)
            exact SX12_layFrom_34 ⟨fun _ => h s1 ho1 hL1 hd.1 hd.2, fun q => absurd rfl q⟩
          · have := hV1.sum0
            have := hV.sum0
            exact ih (sm (s1 179) 120).toNat (by omega) s1 ho1 hL1 hV1 rfl
        · have key51 : ∀ k : Int, ∀ more : Int, ∀ s2 : kS, 0 ≤ k → k ≤ 8 → off [179] σ s2 → Lay s2 → LF (σ 177) (s2 179) g → ((more = 0 ∧ sm (s2 179) 120 = sm (s 179) 120 ∧ (∀ z j, 0 ≤ z → z < c → 0 ≤ j → j < 8 → okf (σ 177) (s2 179) z j) ∧ ∀ j, 0 ≤ j → j < k → okf (σ 177) (s2 179) c j) ∨ (more = 1 ∧ sm (s2 179) 120 < sm (s 179) 120)) → LX12_layFrom_51 d kN Q 166 more c k s2 := by
            refine up_to (e := 8) ?_
            intro k ihk more s2 k0 k1 ho2 hL2 hV2 hc2
            refine SX12_layFrom_51 ⟨fun e8 => ⟨by omega, ihc (by omega) more s2 (by omega) (by omega) ho2 hL2 hV2 ?_⟩, fun e8 => M_step (by omega) ⟨c0, by omega⟩ ⟨k0, by omega⟩ ?_⟩
            · rcases hc2 with ⟨q1, q2, q3, q4⟩ | q
              · refine Or.inl ⟨q1, q2, fun z j z0 z1 j0 j1 => ?_⟩
                by_cases ez : z = c
                · rw [ez]; exact q4 j j0 (by omega)
                · exact q3 z j z0 (by omega) j0 j1
              · exact Or.inr q
            · have nx : okf (σ 177) (s2 179) c k → (-2147483648 ≤ k + 1 ∧ k + 1 ≤ 2147483647) ∧ LX12_layFrom_51 d kN Q 166 more c (k + 1) s2 := fun hok => ⟨by omega, ihk (by omega) more s2 (by omega) (by omega) ho2 hL2 hV2 (by
                rcases hc2 with ⟨q1, q2, q3, q4⟩ | q
                · refine Or.inl ⟨q1, q2, q3, fun j j0 j1 => ?_⟩
                  by_cases ej : j = k
                  · rw [ej]; exact hok
                  · exact q4 j j0 (by omega)
                · exact Or.inr q)⟩
              have e177 : s2 177 = σ 177 := ho2 177 (by decide)
              rw [ly_166_28 hL2, ly_166_26 hL2, show 8 * c + k = c * 8 + k by omega, e177]
              refine ⟨fun e1 => nx (Or.inl e1), fun e1 => ?_⟩
              have hs := (stp_cell e1).2.2.1
              have w := ht c k c0 (by omega) k0 (by omega) e1
              have fb := finm_b (T := s2 179)
              refine ⟨o_166, a_179, by omega, fun e2 => nx (Or.inr (Or.inl e2)), fun e2 => ?_⟩
              have b1 := (hV2.2.1 c c0 (by omega)).1
              have b2 := (hV2.2.1 c c0 (by omega)).2 e2
              refine ⟨by omega, by omega, a_177, by omega, by omega, by omega, fun e3 s3 es3 => ?_, fun e3 => nx (Or.inr (Or.inr (by omega)))⟩
              have hup : ∀ z, s3 179 z = if z = stp c k then s2 179 c + σ 177 (c * 8 + k) else s2 179 z := fun z => by
                rw [es3, kst_ap]
                by_cases ez : z = stp c k
                · rw [if_pos ⟨rfl, ez⟩, if_pos ez]
                · rw [if_neg (fun q => ez q.2), if_neg ez]
              have hst := hV2.step ht ⟨c0, by omega⟩ ⟨k0, by omega⟩ e1 e2 e3 hup
              refine ⟨by omega, ihk (by omega) 1 s3 (by omega) (by omega) (by rw [es3]; exact ho2.kst (by decide)) (by rw [es3]; exact hL2.kstA a_179) hst.1 (Or.inr ⟨rfl, ?_⟩)⟩
              rcases hc2 with ⟨q1, q2, _⟩ | ⟨q1, q2⟩
              · have := hst.2
                omega
              · have := hst.2
                omega
          refine key51 0 more s1 (by omega) (by omega) ho1 hL1 hV1 ?_
          rcases hc1 with ⟨q1, q2, q3⟩ | q
          · exact Or.inl ⟨q1, q2, q3, fun j j0 j1 => by omega⟩
          · exact Or.inr q
      exact SX12_layFrom_34 ⟨fun e => by omega, fun _ => key42 0 0 s (by omega) (by omega) ho hLs hV (Or.inl ⟨rfl, rfl, fun z j z0 z1 => by omega⟩)⟩
  have key2 : ∀ i : Int, ∀ s : kS, 0 ≤ i → i ≤ 120 → off [179] σ s → Lay s → (∀ c, 0 ≤ c → c < i → s 179 c = if c = g then 0 else 2000000000) → LX12_layFrom_2 d kN Q 166 g i s := by
    refine up_to (e := 120) ?_
    intro i ih s i0 i1 ho hLs hv
    refine SX12_layFrom_2 ⟨fun e => key34 _ s ho hLs (LF.start hg (fun c c0 c1 => hv c c0 (by omega))) rfl, fun e => ?_⟩
    rw [ly_166_28 hLs]
    have nx : ∀ v s1, s1 = kst s 179 i v → v = (if i = g then 0 else 2000000000) → (-2147483648 ≤ i + 1 ∧ i + 1 ≤ 2147483647) ∧ LX12_layFrom_2 d kN Q 166 g (i + 1) s1 := fun v s1 e1 ev => ⟨by omega, ih (by omega) s1 (by omega) (by omega) (by rw [e1]; exact ho.kst (by decide)) (by rw [e1]; exact hLs.kstA a_179) (fun c c0 c1 => by
      rw [e1]
      by_cases ec : c = i
      · rw [ec, kst_eq, ev]
      · rw [kst_kj ec]
        exact hv c c0 (by omega))⟩
    exact ⟨o_166, fun e2 => ⟨a_179, by omega, fun s1 e1 => nx _ s1 e1 (by rw [if_neg e2])⟩, fun e2 => ⟨a_179, by omega, fun s1 e1 => nx _ s1 e1 (by rw [if_pos (Classical.not_not.mp e2)])⟩⟩
  exact EX12_layFrom fun _ _ => SX12_layFrom_0 (key2 0 σ (by omega) (by omega) off.rfl' hL (fun c c0 c1 => by omega))
/-! the class's sums, in PAINS alone -/
theorem GD.stepsF {t S : Int → Int} {g : Int} (ht : TolOK t) (hg : 0 ≤ g ∧ g < 120) (h : GD (nbW 0) (wgW 0 t) g S) : ∀ c, 0 ≤ c → c < 120 → S c % 128 ≤ rank S c := by
  have key : ∀ n : Nat, ∀ c, 0 ≤ c → c < 120 → (S c).toNat = n → S c % 128 ≤ rank S c := by
    intro n
    induction n using Nat.strongRecOn with
    | ind n ih =>
      intro c c0 c1 hn
      have hr := rank_b (S := S) ⟨c0, c1⟩
      by_cases e : c = g
      · rw [e, h.1, ← e]
        exact hr.1
      · obtain ⟨x, k, hx, hk, e1, e2⟩ := h.2.2.2 c c0 c1 e
        have e1 : stp x k = c := e1
        have e2 : S c = S x + (t (x * 8 + k) * 128 + 1) := e2
        have w := ht x k hx.1 hx.2 hk.1 hk.2 (by omega)
        have h0 := h.2.1 x hx.1 hx.2
        have h1 := ih (S x).toNat (by omega) x hx.1 hx.2 rfl
        have h2 := rank_lt (S := S) (c := c) hx (by omega)
        have h4 := rank_b (S := S) hx
        omega
  exact fun c c0 c1 => key _ c c0 c1 rfl
theorem GD.half {t S : Int → Int} {g : Int} (ht : TolOK t) (hg : 0 ≤ g ∧ g < 120) (h : GD (nbW 0) (wgW 0 t) g S) : GD (nbW 0) (wP t) g (fun c => S c / 128) := by
  refine ⟨by show S g / 128 = 0; rw [h.1]; rfl, fun c c0 c1 => by have := h.2.1 c c0 c1; show 0 ≤ S c / 128; omega, fun x k x0 x1 k0 k1 hn => ?_, fun y y0 y1 hy => ?_⟩
  · have h1 := h.2.2.1 x k x0 x1 k0 k1 hn
    have hn : stp x k ≠ -1 := hn
    have h1 : S (stp x k) ≤ S x + (t (x * 8 + k) * 128 + 1) := h1
    have h2 := h.stepsF ht hg x x0 x1
    have h3 := rank_b (S := S) ⟨x0, x1⟩
    show S (stp x k) / 128 ≤ S x / 128 + t (x * 8 + k)
    omega
  · obtain ⟨x, k, hx, hk, e1, e2⟩ := h.2.2.2 y y0 y1 hy
    have e2 : S y = S x + (t (x * 8 + k) * 128 + 1) := e2
    have h2 := h.stepsF ht hg x hx.1 hx.2
    have h3 := rank_b (S := S) hx
    refine ⟨x, k, hx, hk, e1, ?_⟩
    show S y / 128 = S x / 128 + t (x * 8 + k)
    omega
theorem wP_gw {t : Int → Int} (ht : TolOK t) : GW (nbW 0) (wP t) 10000 := by
  intro x k x0 x1 k0 k1 hn
  have hn : stp x k ≠ -1 := hn
  exact ⟨(stp_cell hn).2.2.1, (ht x k x0 x1 k0 k1 hn).1, (ht x k x0 x1 k0 k1 hn).2⟩
theorem GD.tcong {t t' S : Int → Int} {g : Int} (h : TEq t t') (hD : GD (nbW 0) (wP t) g S) : GD (nbW 0) (wP t') g S := by
  refine ⟨hD.1, hD.2.1, fun x k x0 x1 k0 k1 hn => ?_, fun y y0 y1 hy => ?_⟩
  · have := hD.2.2.1 x k x0 x1 k0 k1 hn
    unfold wP at this ⊢
    rw [← h x k x0 x1 k0 k1 hn]
    exact this
  · obtain ⟨x, k, hx, hk, e1, e2⟩ := hD.2.2.2 y y0 y1 hy
    refine ⟨x, k, hx, hk, e1, ?_⟩
    unfold wP at e2 ⊢
    rw [← h x k hx.1 hx.2 hk.1 hk.2 (by show nbW 0 x k ≠ -1; omega)]
    exact e2
noncomputable def fromP (T : Int → Int) (g : Int) : Int → Int := Classical.epsilon (fun S => GD (nbW 0) (wP T) g S)
theorem fromP_eq {T S : Int → Int} {g : Int} (ht : TolOK T) (h : GD (nbW 0) (wP T) g S) : ∀ c, 0 ≤ c → c < 120 → S c = fromP T g c := fun c c0 c1 => by
  have h2 : GD (nbW 0) (wP T) g (fromP T g) := Classical.epsilon_spec (p := fun S => GD (nbW 0) (wP T) g S) ⟨S, h⟩
  exact GD.uniq (wP_gw ht) h h2 c c0 c1
