/-! the law's helpers pain and stage: the throw is caught -/
def ML_pain : kM := (⟨"OldRoadsLaw", "pain", "(LOldRoads;IIZII[J)I"⟩, method_3_code, 8, Option.some Jvm.ClassFile.FieldType.int)
def ML_stage : kM := (⟨"OldRoadsLaw", "stage", "(LOldRoads;III[J)I"⟩, method_4_code, 6, Option.some Jvm.ClassFile.FieldType.int)
def hhP : List (Nat × Nat × Nat × Nat) := [(0, 16, 19, 13)]
def hhS : List (Nat × Nat × Nat × Nat) := [(0, 12, 15, 13)]
theorem clh_pain : kCLH ML_pain hhP 7 := ⟨(tb5 140 rfl rfl), (tb1 0 rfl rfl), ⟨by decide +kernel, by decide +kernel⟩, by decide +kernel, by decide⟩
theorem clh_stage : kCLH ML_stage hhS 5 := ⟨(tb5 213 rfl rfl), (tb1 0 rfl rfl), ⟨by decide +kernel, by decide +kernel⟩, by decide +kernel, by decide⟩
def it_ML_pain : List (Nat × Instr × Nat) := [(0, .aload 6, 2), (2, .iconst 0, 1), (3, .aload_n 0, 1), (4, .iload_n 1, 1), (5, .iload_n 2, 1), (6, .iload_n 3, 1), (7, .iload 4, 2), (9, .iload 5, 2), (11, .invokevirtual 7, 3), (14, .i2l, 1), (15, .lastore, 1), (16, .goto 7, 3), (19, .astore 7, 2), (21, .iconst 1, 1), (22, .ireturn, 1), (23, .iconst 0, 1), (24, .ireturn, 1)]
theorem dt_ML_pain : it_ML_pain.all (fun q => decide (decode ML_pain.2.1 q.1 = .ok q.2)) = true := by decide +kernel
def it_ML_stage : List (Nat × Instr × Nat) := [(0, .aload 4, 2), (2, .iconst 0, 1), (3, .aload_n 0, 1), (4, .iload_n 1, 1), (5, .iload_n 2, 1), (6, .iload_n 3, 1), (7, .invokevirtual 15, 3), (10, .i2l, 1), (11, .lastore, 1), (12, .goto 7, 3), (15, .astore 5, 2), (17, .iconst 1, 1), (18, .ireturn, 1), (19, .iconst 0, 1), (20, .ireturn, 1)]
theorem dt_ML_stage : it_ML_stage.all (fun q => decide (decode ML_stage.2.1 q.1 = .ok q.2)) = true := by decide +kernel
theorem keep_208 {σ : kS} {v : Int} (hI : Inv σ) : Keep σ (kst σ 208 0 v) :=
  M_keep (L := [208]) hI (off.rfl'.kst (by decide)) (hI.1.kstA a_208) (by decide) (fun j _ => by rw [kst_k (by decide)])
theorem H_pain {d : Nat} (hd : 62 ≤ d) {σ : kS} {g load wet c k : Int} (hI : Inv σ) (hw : wet = 0 ∨ wet = 1) : TriH d ML_pain hhP (1, 6) [(2, 0), (0, g), (0, load), (0, wet), (0, c), (0, k), (2, 208)] kN σ (kPi kN fun x s => Keep σ s ∧ ((x = 0 ∧ painOK σ g load c k ∧ s 208 0 = painV σ g load wet c k) ∨ (x = 1 ∧ ¬ painOK σ g load c k))) := by
  obtain ⟨d, rfl⟩ : ∃ e, d = e + 1 := ⟨d - 1, by omega⟩
  have k208 := kl_208
  refine TriH_of (by decide +kernel) (Nat.le_of_ble_eq_true rfl) (fun _ _ => ?_)
  show Z (d + 1) ML_pain _ (1, 6) 0 [(0, (2, 0)), (1, (0, g)), (2, (0, load)), (3, (0, wet)), (4, (0, c)), (5, (0, k)), (6, (2, 208))] [] kN σ
  refine Z_aload 6 (kdA dt_ML_pain 0 rfl) rfl ?_
  refine Z_iconst (kdA dt_ML_pain 1 rfl) (by decide) ?_
  refine Z_aload_n 0 (kdA dt_ML_pain 2 rfl) rfl rfl ?_
  refine Z_iload_n 1 (kdA dt_ML_pain 3 rfl) rfl rfl ?_
  refine Z_iload_n 2 (kdA dt_ML_pain 4 rfl) rfl rfl ?_
  refine Z_iload_n 3 (kdA dt_ML_pain 5 rfl) rfl rfl ?_
  refine Z_iload 4 (kdA dt_ML_pain 6 rfl) rfl ?_
  refine Z_iload 5 (kdA dt_ML_pain 7 rfl) rfl ?_
  refine Z_callVX (d' := d) (M' := MX11_pain) (b' := (1, 6)) (c := 11) (as := [(0, g), (0, load), (0, wet), (0, c), (0, k)]) (st := [(0, 0), (2, 208)]) (i := 7) (x := ⟨0, 16, 19, 13⟩) (kdA dt_ML_pain 8 rfl) (Nat.le_refl _) ⟨Nat.le_refl _, Nat.le_refl _⟩ rfl cl_MX11_pain ⟨tb5 142 rfl rfl, lkL_7.2⟩ rfl rfl (Nat.le_of_ble_eq_true rfl) o_0 (fun _ _ => X_pain (by omega) hI hw) (fun _ _ _ _ _ _ _ _ _ _ _ _ _ h => h.1) (by decide) (by decide) (tb5 141 rfl rfl) (kdA dt_ML_pain 12 rfl) (by decide) (fun u hu _ _ => ?_) (fun v n' u hv hok hp _ => ?_)
  · refine Z_ofKT ?_
    refine K_iconst (kdA dt_ML_pain 13 rfl) (by decide) ?_
    exact K_ireturn (kdA dt_ML_pain 14 rfl) rfl ⟨rfl, _, rfl, hu.2, Or.inr ⟨rfl, hu.1⟩⟩
  · obtain ⟨rfl, x, rfl, hOK, hx, hk⟩ := hp
    have hIu := hI.keep hk
    refine Z_ofKT ?_
    show K (d + 1) ML_pain _ (0, 0) 14 _ [(0, x), (0, 0), (2, 208)] kN u
    refine K_i2l (kdA dt_ML_pain 9 rfl) ?_
    refine K_lastore' (kdA dt_ML_pain 10 rfl) a_208 (by omega) (by omega) (fun s es => ?_)
    refine K_goto (tgt := 23) (kdA dt_ML_pain 11 rfl) rfl ?_
    refine K_iconst (kdA dt_ML_pain 15 rfl) (by decide) ?_
    exact K_ireturn (kdA dt_ML_pain 16 rfl) rfl ⟨rfl, _, rfl, by rw [es]; exact hk.trans (keep_208 hIu), Or.inl ⟨rfl, hOK, by rw [es, kst_eq]; exact hx⟩⟩
theorem H_stage {d : Nat} (hd : 62 ≤ d) {σ : kS} {b s w : Int} (hI : Inv σ) : TriH d ML_stage hhS (1, 6) [(2, 0), (0, b), (0, s), (0, w), (2, 208)] kN σ (kPi kN fun x u => Keep σ u ∧ ((x = 0 ∧ stageOK σ b s w ∧ u 208 0 = stageV σ b s w) ∨ (x = 1 ∧ ¬ stageOK σ b s w))) := by
  obtain ⟨d, rfl⟩ : ∃ e, d = e + 1 := ⟨d - 1, by omega⟩
  have k208 := kl_208
  refine TriH_of (by decide +kernel) (Nat.le_of_ble_eq_true rfl) (fun _ _ => ?_)
  show Z (d + 1) ML_stage _ (1, 6) 0 [(0, (2, 0)), (1, (0, b)), (2, (0, s)), (3, (0, w)), (4, (2, 208))] [] kN σ
  refine Z_aload 4 (kdA dt_ML_stage 0 rfl) rfl ?_
  refine Z_iconst (kdA dt_ML_stage 1 rfl) (by decide) ?_
  refine Z_aload_n 0 (kdA dt_ML_stage 2 rfl) rfl rfl ?_
  refine Z_iload_n 1 (kdA dt_ML_stage 3 rfl) rfl rfl ?_
  refine Z_iload_n 2 (kdA dt_ML_stage 4 rfl) rfl rfl ?_
  refine Z_iload_n 3 (kdA dt_ML_stage 5 rfl) rfl rfl ?_
  refine Z_callVX (d' := d) (M' := MX11_stage) (b' := (1, 6)) (c := 11) (as := [(0, b), (0, s), (0, w)]) (st := [(0, 0), (2, 208)]) (i := 5) (x := ⟨0, 12, 15, 13⟩) (kdA dt_ML_stage 6 rfl) (Nat.le_refl _) ⟨Nat.le_refl _, Nat.le_refl _⟩ rfl cl_MX11_stage ⟨tb5 214 rfl rfl, lkL_15.2⟩ rfl rfl (Nat.le_of_ble_eq_true rfl) o_0 (fun _ _ => X_stage (by omega) hI) (fun _ _ _ _ _ _ _ _ _ _ _ _ _ h => h.1) (by decide) (by decide) (tb5 141 rfl rfl) (kdA dt_ML_stage 10 rfl) (by decide) (fun u hu _ _ => ?_) (fun v n' u hv hok hp _ => ?_)
  · refine Z_ofKT ?_
    refine K_iconst (kdA dt_ML_stage 11 rfl) (by decide) ?_
    exact K_ireturn (kdA dt_ML_stage 12 rfl) rfl ⟨rfl, _, rfl, hu.2, Or.inr ⟨rfl, hu.1⟩⟩
  · obtain ⟨rfl, x, rfl, hOK, hx, hk⟩ := hp
    have hIu := hI.keep hk
    refine Z_ofKT ?_
    show K (d + 1) ML_stage _ (0, 0) 10 _ [(0, x), (0, 0), (2, 208)] kN u
    refine K_i2l (kdA dt_ML_stage 7 rfl) ?_
    refine K_lastore' (kdA dt_ML_stage 8 rfl) a_208 (by omega) (by omega) (fun t es => ?_)
    refine K_goto (tgt := 19) (kdA dt_ML_stage 9 rfl) rfl ?_
    refine K_iconst (kdA dt_ML_stage 13 rfl) (by decide) ?_
    exact K_ireturn (kdA dt_ML_stage 14 rfl) rfl ⟨rfl, _, rfl, by rw [es]; exact hk.trans (keep_208 hIu), Or.inl ⟨rfl, hOK, by rw [es, kst_eq]; exact hx⟩⟩
