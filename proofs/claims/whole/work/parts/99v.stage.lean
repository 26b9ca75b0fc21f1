/-! the operation stage, which throws -/
def stageOK (σ : kS) (b s w : Int) : Prop := isStg σ b s ∧ 0 ≤ w ∧ w ≤ 2
def stageV (σ : kS) (b s w : Int) : Int := if w = 0 then σ 174 (60 * b + s) else if w = 1 then σ 175 (60 * b + s) else σ 176 (60 * b + s)
theorem stageOK_fr {σ s : kS} (hI : Inv σ) (h : Fr σ s) {b t w : Int} : stageOK s b t w ↔ stageOK σ b t w := by
  unfold stageOK
  rw [isStg_fr hI h]
theorem X_stage {d : Nat} (hd : 60 ≤ d) {σ : kS} {b s w : Int} (hI : Inv σ) : TriX d MX11_stage (1, 6) [(2, 0), (0, b), (0, s), (0, w)] kN σ (kPi kN fun x u => stageOK σ b s w ∧ x = stageV σ b s w ∧ Keep σ u) (fun u => ¬ stageOK σ b s w ∧ Keep σ u) kNSE := by
  obtain ⟨d, rfl⟩ : ∃ e, d = e + 1 := ⟨d - 1, by omega⟩
  have k18 := kl_18
  have hB := hI.2.2.2.2.2.2.2.1
  refine TriX_of (by decide +kernel) (Nat.le_of_ble_eq_true rfl) (fun _ _ => ?_)
  show Z (d + 1) MX11_stage _ (1, 6) 0 [(0, (2, 0)), (1, (0, b)), (2, (0, s)), (3, (0, w))] [] kN σ
  have hthrow : ¬ stageOK σ b s w → Z (d + 1) MX11_stage (zFinX (kPi kN fun x u => stageOK σ b s w ∧ x = stageV σ b s w ∧ Keep σ u) (fun u => ¬ stageOK σ b s w ∧ Keep σ u) kNSE) (1, 6) 18 [(0, (2, 0)), (1, (0, b)), (2, (0, s)), (3, (0, w))] [] kN σ := fun z =>
    Z_throw rfl (kdA dt_MX11_stage 10 rfl) (kdA dt_MX11_stage 11 rfl) (kdA dt_MX11_stage 12 rfl) (kdA dt_MX11_stage 13 rfl) (by omega) ⟨by decide, by decide⟩ (by decide) ⟨z, hI.self⟩
  refine Z_aload_n 0 (kdA dt_MX11_stage 0 rfl) rfl rfl ?_
  refine Z_iload_n 1 (kdA dt_MX11_stage 1 rfl) rfl rfl ?_
  refine Z_iload_n 2 (kdA dt_MX11_stage 2 rfl) rfl rfl ?_
  refine Z_cVi (c := 11) (as := [(0, b), (0, s)]) (st := []) (kdA dt_MX11_stage 3 rfl) rfl cl_MX11_isStage lk11_280 rfl rfl (Nat.le_of_ble_eq_true rfl) o_0 (X_isStage (by omega) hI.1 hB (fun cm _ => ?_) (fun cm _ => ?_))
  · refine Z_if_eq (tgt := 18) (kdA dt_MX11_stage 4 rfl) rfl (fun e => by omega) (fun _ => ?_)
    refine Z_iload_n 3 (kdA dt_MX11_stage 5 rfl) rfl rfl ?_
    refine Z_if_lt (tgt := 18) (kdA dt_MX11_stage 6 rfl) rfl (fun c => hthrow (fun z => by have := z.2; omega)) (fun c1 => ?_)
    refine Z_iload_n 3 (kdA dt_MX11_stage 7 rfl) rfl rfl ?_
    refine Z_iconst (kdA dt_MX11_stage 8 rfl) (by decide) ?_
    refine Z_icmp_le (tgt := 26) (kdA dt_MX11_stage 9 rfl) rfl (fun c2 => ?_) (fun c => hthrow (fun z => by have := z.2; omega))
    have hOK : stageOK σ b s w := ⟨cm, by omega, c2⟩
    have hF := stg_facts hI cm
    have hb := book_at hI.1 (i := b) (by omega)
    have f1 := hF.1
    have f2 := hF.2.1
    refine Z_ofKX ?_
    refine K_iload_n 3 (kdA dt_MX11_stage 14 rfl) rfl rfl ?_
    refine K_iconst (kdA dt_MX11_stage 15 rfl) (by decide) ?_
    refine K_icmp_ne (tgt := 42) (kdA dt_MX11_stage 16 rfl) rfl (fun c3 => ?_) (fun c3 => ?_)
    · refine K_aload_n 0 (kdA dt_MX11_stage 24 rfl) rfl rfl ?_
      refine gf11_44 rfl (kdA dt_MX11_stage 25 rfl) o_0 ?_
      refine K_iload_n 1 (kdA dt_MX11_stage 26 rfl) rfl rfl ?_
      rw [ly_0_7 hI.1]
      refine K_aaload (kdA dt_MX11_stage 27 rfl) (c := 27) (by decide) a_18 (by omega) (by omega) ?_
      rw [hb.1]
      refine K_iload_n 2 (kdA dt_MX11_stage 28 rfl) rfl rfl ?_
      refine K_iload_n 3 (kdA dt_MX11_stage 29 rfl) rfl rfl ?_
      refine K_iadd (kdA dt_MX11_stage 30 rfl) (by omega) ?_
      refine K_bVi (c := 0) (as := [(0, s + w)]) (st := []) (kdA dt_MX11_stage 31 rfl) rfl cl_MX0_townAt lk11_286 rfl rfl (Nat.le_of_ble_eq_true rfl) hb.2.1 (X_townAt (by omega) hI.1 hB (by omega) ?_)
      refine K_ireturn (kdA dt_MX11_stage 32 rfl) rfl ⟨rfl, _, rfl, hOK, ?_, hI.self⟩
      unfold stageV
      rcases (show w = 0 ∨ w = 1 by omega) with rfl | rfl
      · rw [if_pos rfl, Int.add_zero, hF.2.2.1.1, hF.2.2.2.2.1]
      · rw [if_neg (by decide), if_pos rfl, hF.2.2.1.2.1, hF.2.2.2.2.2.1]
    · refine K_aload_n 0 (kdA dt_MX11_stage 17 rfl) rfl rfl ?_
      refine gf11_44 rfl (kdA dt_MX11_stage 18 rfl) o_0 ?_
      refine K_iload_n 1 (kdA dt_MX11_stage 19 rfl) rfl rfl ?_
      rw [ly_0_7 hI.1]
      refine K_aaload (kdA dt_MX11_stage 20 rfl) (c := 27) (by decide) a_18 (by omega) (by omega) ?_
      rw [hb.1]
      refine K_iload_n 2 (kdA dt_MX11_stage 21 rfl) rfl rfl ?_
      refine K_bVi (c := 0) (as := [(0, s)]) (st := []) (kdA dt_MX11_stage 22 rfl) rfl cl_MX0_milesTold lk11_283 rfl rfl (Nat.le_of_ble_eq_true rfl) hb.2.1 (X_milesTold (by omega) hI.1 hB (by omega) ?_)
      refine K_ireturn (kdA dt_MX11_stage 23 rfl) rfl ⟨rfl, _, rfl, hOK, ?_, hI.self⟩
      unfold stageV
      rw [if_neg (by omega), if_neg (by omega), hF.2.2.1.2.2, hF.2.2.2.2.2.2.1]
  · exact Z_if_eq (tgt := 18) (kdA dt_MX11_stage 4 rfl) rfl (fun _ => hthrow (fun z => cm z.1)) (fun e => absurd rfl e)
theorem M_stage {d : Nat} (hd : 60 ≤ d) {σ : kS} {b s w : Int} {Q : Int → kS → Prop} (hI : Inv σ) (h1 : stageOK σ b s w → ∀ u, Keep σ u → u 166 0 = 0 → Q (stageV σ b s w) u) (h0 : ¬ stageOK σ b s w → ∀ u, Keep σ u → u 166 0 = 1 → Q 0 u) : Ci d MX12_stage [(2, 166), (0, b), (0, s), (0, w)] kN σ Q := by
  obtain ⟨d, rfl⟩ : ∃ e, d = e + 1 := ⟨d - 1, by omega⟩
  have hB := hI.2.2.2.2.2.2.2.1
  have hno : ∀ {R : kS → Prop}, ¬ stageOK σ b s w → ∀ s2, s2 = kst σ 166 0 1 → ((s2 166 0) ≤ 0 → R s2) ∧ (¬ (s2 166 0) ≤ 0 → Q 0 s2) := fun z s2 e2 => by
    have e : s2 166 0 = 1 := by rw [e2, kst_eq]
    exact ⟨fun q => by omega, fun _ => h0 z s2 (by rw [e2]; exact hI.thrown) e⟩
  refine EX12_stage fun _ _ _ _ => SX12_stage_0 ⟨o_166, ?_⟩
  refine M_isStage (by omega) hI.1 hB (fun cm => ⟨fun e => by omega, fun _ => ?_⟩) (fun cm => ⟨fun _ => hno (fun z => cm z.1), fun e => absurd rfl e⟩)
  refine M_isIn (by omega) (fun ck => ⟨fun e => by omega, fun _ s5 e5 => ?_⟩) (fun ck => ⟨fun _ => hno (fun z => ck z.2), fun e => absurd rfl e⟩)
  have hF := stg_facts hI cm
  have f1 := hF.1
  have f2 := hF.2.1
  have k174 := kl_174
  have k175 := kl_175
  have k176 := kl_176
  have e : s5 166 0 = 0 := by rw [e5, kst_eq]
  have hk5 : Keep σ s5 := by rw [e5]; exact hI.thrown
  have hL5 := hk5.2.1
  have n5 : ∀ x, x ≠ 166 → s5 x = σ x := fun x hx => by rw [e5, kst_k hx]
  have hv := h1 ⟨cm, ck⟩ s5 hk5 e
  unfold stageV at hv
  refine ⟨fun _ => ⟨by omega, by omega, fun c0 => ⟨fun c1 => ?_, fun c1 => ?_⟩, fun c0 => ?_⟩, fun q => by omega⟩
  · rw [ly_166_11 hL5, n5 176 (by decide)]
    rw [if_neg c0, if_neg c1] at hv
    exact ⟨a_176, by omega, hv⟩
  · rw [ly_166_10 hL5, n5 175 (by decide)]
    rw [if_neg c0, if_pos (Classical.not_not.mp c1)] at hv
    exact ⟨a_175, by omega, hv⟩
  · rw [ly_166_9 hL5, n5 174 (by decide)]
    rw [if_pos (Classical.not_not.mp c0)] at hv
    exact ⟨a_174, by omega, hv⟩
