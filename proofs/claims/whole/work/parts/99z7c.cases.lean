/-! the cases of the law, by program -/
theorem LC_26 {d : Nat} {nm : String} {F : kFin} {b b2 : Nat × Nat} {i : Int} {a : Int → Int} {σ : kS} (hd : 62 ≤ d) (hI : Inv σ) (hS : SA σ i a) (hi : 0 ≤ i ∧ i ≤ 5000) (hb : 1 ≤ b.1 ∧ 6 ≤ b.2) (hb2 : (b.1 - 1, b.2 - 6) = b2) (hK : ∀ s, Inv s → scrEq σ s → Z (d + 1) (MLaw nm) F b2 3047 [(0, (2, -4)), (1, (2, 0)), (2, (2, 166)), (3, (2, 208)), (4, (0, i))] [] kN s) : Z (d + 1) (MLaw nm) F b 1725 [(0, (2, -4)), (1, (2, 0)), (2, (2, 166)), (3, (2, 208)), (4, (0, i))] [] kN σ := by
  refine Z_aload_n 1 (kdA dt_law_8 65 rfl) rfl rfl ?_
  refine Z_aload_n 0 (kdA dt_law_8 66 rfl) rfl rfl ?_
  refine Z_iload 4 (kdA dt_law_8 67 rfl) rfl ?_
  refine Z_iconst (kdA dt_law_8 68 rfl) (by decide) ?_
  refine Z_iadd (kdA dt_law_8 69 rfl) (by omega) ?_
  refine Z_lda (j := 1) (a := a) (kdA dt_law_8 70 rfl) hi.1 (by decide) hS ?_
  refine Z_aload_n 0 (kdA dt_law_8 71 rfl) rfl rfl ?_
  refine Z_iload 4 (kdA dt_law_8 72 rfl) rfl ?_
  refine Z_iconst (kdA dt_law_8 73 rfl) (by decide) ?_
  refine Z_iadd (kdA dt_law_8 74 rfl) (by omega) ?_
  refine Z_lda (j := 2) (a := a) (kdA dt_law_8 75 rfl) hi.1 (by decide) hS ?_
  refine Z_aload_n 0 (kdA dt_law_8 76 rfl) rfl rfl ?_
  refine Z_iload 4 (kdA dt_law_8 77 rfl) rfl ?_
  refine Z_iconst (kdA dt_law_8 78 rfl) (by decide) ?_
  refine Z_iadd (kdA dt_law_8 79 rfl) (by omega) ?_
  refine Z_lda (j := 3) (a := a) (kdA dt_law_8 80 rfl) hi.1 (by decide) hS ?_
  refine Z_aload_n 3 (kdA dt_law_8 81 rfl) rfl rfl ?_
  refine Z_callSH (d' := d) (M' := ML_stage) (hh := hhS) (b' := (1, 6)) (as := [(2, 0), (0, a 1), (0, a 2), (0, a 3), (2, 208)]) (st := []) (kdA dt_law_8 82 rfl) (Nat.le_refl _) hb clh_stage ⟨tb5 211 rfl rfl, tb5 212 rfl rfl⟩ rfl rfl (Nat.le_of_ble_eq_true rfl) (fun _ _ => H_stage (by omega) hI) (fun v n1 s1 _ _ hp e1 => ?_)
  obtain ⟨rfl, x1, rfl, hk1, hor⟩ := hp
  have hS1 := hS.mono e1
  have hI1 := hI.keep hk1
  rw [hb2]
  refine Z_istore (ls' := [(0, (2, -4)), (1, (2, 0)), (2, (2, 166)), (3, (2, 208)), (4, (0, i)), (5, (0, x1))]) (kdA dt_law_8 83 rfl) (show 5 < 7 by decide) rfl ?_
  refine Z_aload_n 2 (kdA dt_law_8 84 rfl) rfl rfl ?_
  refine Z_aload_n 0 (kdA dt_law_8 85 rfl) rfl rfl ?_
  refine Z_iload 4 (kdA dt_law_8 86 rfl) rfl ?_
  refine Z_iconst (kdA dt_law_8 87 rfl) (by decide) ?_
  refine Z_iadd (kdA dt_law_8 88 rfl) (by omega) ?_
  refine Z_lda (j := 1) (a := a) (kdA dt_law_8 89 rfl) hi.1 (by decide) hS1 ?_
  refine Z_aload_n 0 (kdA dt_law_8 90 rfl) rfl rfl ?_
  refine Z_iload 4 (kdA dt_law_8 91 rfl) rfl ?_
  refine Z_iconst (kdA dt_law_8 92 rfl) (by decide) ?_
  refine Z_iadd (kdA dt_law_8 93 rfl) (by omega) ?_
  refine Z_lda (j := 2) (a := a) (kdA dt_law_8 94 rfl) hi.1 (by decide) hS1 ?_
  refine Z_aload_n 0 (kdA dt_law_8 95 rfl) rfl rfl ?_
  refine Z_iload 4 (kdA dt_law_8 96 rfl) rfl ?_
  refine Z_iconst (kdA dt_law_8 97 rfl) (by decide) ?_
  refine Z_iadd (kdA dt_law_8 98 rfl) (by omega) ?_
  refine Z_lda (j := 3) (a := a) (kdA dt_law_8 99 rfl) hi.1 (by decide) hS1 ?_
  refine Z_cVi (c := 12) (as := [(0, a 1), (0, a 2), (0, a 3)]) (st := []) (kdA dt_law_8 100 rfl) rfl cl_MX12_stage lkL_147 rfl rfl (Nat.le_of_ble_eq_true rfl) o_166 (M_stage8 (Q := fun x s => scrEq s1 s → Z (d + 1) (MLaw nm) F b2 1772 [(0, (2, -4)), (1, (2, 0)), (2, (2, 166)), (3, (2, 208)), (4, (0, i)), (5, (0, x1))] [(0, x)] kN s) (by omega) hI1 (fun c2 s2 hk2 w2 t2 e2 => ?_) (fun c2 s2 hk2 w2 t2 e2 => ?_))
  · refine Z_istore (ls' := [(0, (2, -4)), (1, (2, 0)), (2, (2, 166)), (3, (2, 208)), (4, (0, i)), (5, (0, x1)), (6, (0, stageV s1 (a 1) (a 2) (a 3)))]) (kdA dt_law_8 101 rfl) (show 6 < 7 by decide) rfl ?_
    refine Z_aload_n 2 (kdA dt_law_8 102 rfl) rfl rfl ?_
    refine Z_cVi (c := 12) (as := []) (st := []) (kdA dt_law_8 103 rfl) rfl cl_MX12_thrown lkL_62 rfl rfl (Nat.le_of_ble_eq_true rfl) o_166 (M_thrown (by omega) (fun _ => ?_))
    rw [t2]
    refine Z_iload 5 (kdA dt_law_8 104 rfl) rfl ?_
    rcases hor with ⟨hx, hOK, hv⟩ | ⟨hx, hno⟩
    · refine Z_icmp_eq (tgt := 1785) (kdA dt_law_8 105 rfl) rfl (fun _ => ?_) (fun c => absurd hx.symm c)
      refine Z_iload 5 (kdA dt_law_8 108 rfl) rfl ?_
      refine Z_if_ne (tgt := 1802) (kdA dt_law_8 109 rfl) rfl (fun c => absurd hx c) (fun _ => ?_)
      refine Z_aload_n 3 (kdA dt_law_8 110 rfl) rfl rfl ?_
      refine Z_iconst (kdA dt_law_8 111 rfl) (by decide) ?_
      refine Z_laload (kdA dt_law_8 112 rfl) a_208 (by decide) (by decide +kernel) ?_
      refine Z_iload 6 (kdA dt_law_8 113 rfl) rfl ?_
      refine Z_i2l (kdA dt_law_8 114 rfl) ?_
      refine Z_lcmp (kdA dt_law_8 115 rfl) ?_
      have h208 : s2 208 0 = stageV s1 (a 1) (a 2) (a 3) := by rw [w2, hv, stageV_fr hk1.1]
      rw [h208, klcmp_self]
      refine Z_if_eq (tgt := 1802) (kdA dt_law_8 116 rfl) rfl (fun _ => ?_) (fun c => absurd rfl c)
      refine Z_goto (tgt := 3047) (kdA dt_law_8 119 rfl) rfl ?_
      refine Z_lsd (ls' := [(0, (2, -4)), (1, (2, 0)), (2, (2, 166)), (3, (2, 208)), (4, (0, i))]) (fun q hq => lsd2 hq) ?_
      exact hK s2 (hI1.keep hk2) (e1.trans e2)
    · exact absurd ((stageOK_fr hI hk1.1).mp c2) hno
  · refine Z_istore (ls' := [(0, (2, -4)), (1, (2, 0)), (2, (2, 166)), (3, (2, 208)), (4, (0, i)), (5, (0, x1)), (6, (0, 0))]) (kdA dt_law_8 101 rfl) (show 6 < 7 by decide) rfl ?_
    refine Z_aload_n 2 (kdA dt_law_8 102 rfl) rfl rfl ?_
    refine Z_cVi (c := 12) (as := []) (st := []) (kdA dt_law_8 103 rfl) rfl cl_MX12_thrown lkL_62 rfl rfl (Nat.le_of_ble_eq_true rfl) o_166 (M_thrown (by omega) (fun _ => ?_))
    rw [t2]
    refine Z_iload 5 (kdA dt_law_8 104 rfl) rfl ?_
    rcases hor with ⟨hx, hOK, hv⟩ | ⟨hx, hno⟩
    · exact absurd ((stageOK_fr hI hk1.1).mpr hOK) c2
    · refine Z_icmp_eq (tgt := 1785) (kdA dt_law_8 105 rfl) rfl (fun _ => ?_) (fun c => absurd hx.symm c)
      refine Z_iload 5 (kdA dt_law_8 108 rfl) rfl ?_
      refine Z_if_ne (tgt := 1802) (kdA dt_law_8 109 rfl) rfl (fun _ => ?_) (fun c => absurd (fun h => by omega) c)
      refine Z_goto (tgt := 3047) (kdA dt_law_8 119 rfl) rfl ?_
      refine Z_lsd (ls' := [(0, (2, -4)), (1, (2, 0)), (2, (2, 166)), (3, (2, 208)), (4, (0, i))]) (fun q hq => lsd2 hq) ?_
      exact hK s2 (hI1.keep hk2) (e1.trans e2)
theorem LC_27 {d : Nat} {nm : String} {F : kFin} {b : Nat × Nat} {i : Int} {a : Int → Int} {σ : kS} (hd : 62 ≤ d) (hI : Inv σ) (hS : SA σ i a) (hi : 0 ≤ i ∧ i ≤ 5000) (hK : ∀ s, Inv s → scrEq σ s → Z (d + 1) (MLaw nm) F b 3047 [(0, (2, -4)), (1, (2, 0)), (2, (2, 166)), (3, (2, 208)), (4, (0, i))] [] kN s) : Z (d + 1) (MLaw nm) F b 1805 [(0, (2, -4)), (1, (2, 0)), (2, (2, 166)), (3, (2, 208)), (4, (0, i))] [] kN σ := by
  refine Z_aload_n 1 (kdA dt_law_8 120 rfl) rfl rfl ?_
  refine Z_aload_n 0 (kdA dt_law_8 121 rfl) rfl rfl ?_
  refine Z_iload 4 (kdA dt_law_8 122 rfl) rfl ?_
  refine Z_iconst (kdA dt_law_8 123 rfl) (by decide) ?_
  refine Z_iadd (kdA dt_law_8 124 rfl) (by omega) ?_
  refine Z_lda (j := 1) (a := a) (kdA dt_law_8 125 rfl) hi.1 (by decide) hS ?_
  refine Z_aload_n 0 (kdA dt_law_8 126 rfl) rfl rfl ?_
  refine Z_iload 4 (kdA dt_law_8 127 rfl) rfl ?_
  refine Z_iconst (kdA dt_law_9 0 rfl) (by decide) ?_
  refine Z_iadd (kdA dt_law_9 1 rfl) (by omega) ?_
  refine Z_lda (j := 2) (a := a) (kdA dt_law_9 2 rfl) hi.1 (by decide) hS ?_
  refine Z_aload_n 0 (kdA dt_law_9 3 rfl) rfl rfl ?_
  refine Z_iload 4 (kdA dt_law_9 4 rfl) rfl ?_
  refine Z_iconst (kdA dt_law_9 5 rfl) (by decide) ?_
  refine Z_iadd (kdA dt_law_9 6 rfl) (by omega) ?_
  refine Z_lda (j := 3) (a := a) (kdA dt_law_9 7 rfl) hi.1 (by decide) hS ?_
  refine Z_aload_n 0 (kdA dt_law_9 8 rfl) rfl rfl ?_
  refine Z_iload 4 (kdA dt_law_9 9 rfl) rfl ?_
  refine Z_iconst (kdA dt_law_9 10 rfl) (by decide) ?_
  refine Z_iadd (kdA dt_law_9 11 rfl) (by omega) ?_
  refine Z_lda (j := 4) (a := a) (kdA dt_law_9 12 rfl) hi.1 (by decide) hS ?_
  refine Z_aload_n 0 (kdA dt_law_9 13 rfl) rfl rfl ?_
  refine Z_iload 4 (kdA dt_law_9 14 rfl) rfl ?_
  refine Z_iconst (kdA dt_law_9 15 rfl) (by decide) ?_
  refine Z_iadd (kdA dt_law_9 16 rfl) (by omega) ?_
  refine Z_lda (j := 5) (a := a) (kdA dt_law_9 17 rfl) hi.1 (by decide) hS ?_
  refine Z_wet (kdA dt_law_9 18 rfl) (kdA dt_law_9 19 rfl) (kdA dt_law_9 20 rfl) (kdA dt_law_9 21 rfl) ?_
  refine Z_cVi (c := 11) (as := [(0, a 1), (0, a 2), (0, a 3), (0, a 4), (0, wtt (a 5))]) (st := []) (kdA dt_law_9 22 rfl) rfl cl_MX11_off lkL_148 rfl rfl (Nat.le_of_ble_eq_true rfl) o_0 (Ci.mono (O_off wtt_01 d σ (by omega) hI) (fun x1 s1 h1 e1 => ?_))
  have hS1 := hS.mono e1
  refine Z_aload_n 2 (kdA dt_law_9 23 rfl) rfl rfl ?_
  refine Z_aload_n 0 (kdA dt_law_9 24 rfl) rfl rfl ?_
  refine Z_iload 4 (kdA dt_law_9 25 rfl) rfl ?_
  refine Z_iconst (kdA dt_law_9 26 rfl) (by decide) ?_
  refine Z_iadd (kdA dt_law_9 27 rfl) (by omega) ?_
  refine Z_lda (j := 1) (a := a) (kdA dt_law_9 28 rfl) hi.1 (by decide) hS1 ?_
  refine Z_aload_n 0 (kdA dt_law_9 29 rfl) rfl rfl ?_
  refine Z_iload 4 (kdA dt_law_9 30 rfl) rfl ?_
  refine Z_iconst (kdA dt_law_9 31 rfl) (by decide) ?_
  refine Z_iadd (kdA dt_law_9 32 rfl) (by omega) ?_
  refine Z_lda (j := 2) (a := a) (kdA dt_law_9 33 rfl) hi.1 (by decide) hS1 ?_
  refine Z_aload_n 0 (kdA dt_law_9 34 rfl) rfl rfl ?_
  refine Z_iload 4 (kdA dt_law_9 35 rfl) rfl ?_
  refine Z_iconst (kdA dt_law_9 36 rfl) (by decide) ?_
  refine Z_iadd (kdA dt_law_9 37 rfl) (by omega) ?_
  refine Z_lda (j := 3) (a := a) (kdA dt_law_9 38 rfl) hi.1 (by decide) hS1 ?_
  refine Z_aload_n 0 (kdA dt_law_9 39 rfl) rfl rfl ?_
  refine Z_iload 4 (kdA dt_law_9 40 rfl) rfl ?_
  refine Z_iconst (kdA dt_law_9 41 rfl) (by decide) ?_
  refine Z_iadd (kdA dt_law_9 42 rfl) (by omega) ?_
  refine Z_lda (j := 4) (a := a) (kdA dt_law_9 43 rfl) hi.1 (by decide) hS1 ?_
  refine Z_aload_n 0 (kdA dt_law_9 44 rfl) rfl rfl ?_
  refine Z_iload 4 (kdA dt_law_9 45 rfl) rfl ?_
  refine Z_iconst (kdA dt_law_9 46 rfl) (by decide) ?_
  refine Z_iadd (kdA dt_law_9 47 rfl) (by omega) ?_
  refine Z_lda (j := 5) (a := a) (kdA dt_law_9 48 rfl) hi.1 (by decide) hS1 ?_
  refine Z_wet (kdA dt_law_9 49 rfl) (kdA dt_law_9 50 rfl) (kdA dt_law_9 51 rfl) (kdA dt_law_9 52 rfl) ?_
  refine Z_cVi (c := 12) (as := [(0, a 1), (0, a 2), (0, a 3), (0, a 4), (0, wtt (a 5))]) (st := [(0, x1)]) (kdA dt_law_9 53 rfl) rfl cl_MX12_off lkL_152 rfl rfl (Nat.le_of_ble_eq_true rfl) o_166 (Ci.mono h1 (fun x2 s2 h2 e2 => ?_))
  refine Z_icmp_eq (tgt := 3047) (kdA dt_law_9 54 rfl) rfl (fun _ => ?_) (fun c => absurd h2.1 c)
  exact hK s2 h2.2 (e1.trans e2)
theorem LC_28 {d : Nat} {nm : String} {F : kFin} {b : Nat × Nat} {i : Int} {a : Int → Int} {σ : kS} (hd : 62 ≤ d) (hI : Inv σ) (hS : SA σ i a) (hi : 0 ≤ i ∧ i ≤ 5000) (hK : ∀ s, Inv s → scrEq σ s → Z (d + 1) (MLaw nm) F b 3047 [(0, (2, -4)), (1, (2, 0)), (2, (2, 166)), (3, (2, 208)), (4, (0, i))] [] kN s) : Z (d + 1) (MLaw nm) F b 1894 [(0, (2, -4)), (1, (2, 0)), (2, (2, 166)), (3, (2, 208)), (4, (0, i))] [] kN σ := by
  refine Z_aload_n 1 (kdA dt_law_9 57 rfl) rfl rfl ?_
  refine Z_aload_n 0 (kdA dt_law_9 58 rfl) rfl rfl ?_
  refine Z_iload 4 (kdA dt_law_9 59 rfl) rfl ?_
  refine Z_iconst (kdA dt_law_9 60 rfl) (by decide) ?_
  refine Z_iadd (kdA dt_law_9 61 rfl) (by omega) ?_
  refine Z_lda (j := 1) (a := a) (kdA dt_law_9 62 rfl) hi.1 (by decide) hS ?_
  refine Z_aload_n 0 (kdA dt_law_9 63 rfl) rfl rfl ?_
  refine Z_iload 4 (kdA dt_law_9 64 rfl) rfl ?_
  refine Z_iconst (kdA dt_law_9 65 rfl) (by decide) ?_
  refine Z_iadd (kdA dt_law_9 66 rfl) (by omega) ?_
  refine Z_lda (j := 2) (a := a) (kdA dt_law_9 67 rfl) hi.1 (by decide) hS ?_
  refine Z_aload_n 0 (kdA dt_law_9 68 rfl) rfl rfl ?_
  refine Z_iload 4 (kdA dt_law_9 69 rfl) rfl ?_
  refine Z_iconst (kdA dt_law_9 70 rfl) (by decide) ?_
  refine Z_iadd (kdA dt_law_9 71 rfl) (by omega) ?_
  refine Z_lda (j := 3) (a := a) (kdA dt_law_9 72 rfl) hi.1 (by decide) hS ?_
  refine Z_aload_n 0 (kdA dt_law_9 73 rfl) rfl rfl ?_
  refine Z_iload 4 (kdA dt_law_9 74 rfl) rfl ?_
  refine Z_iconst (kdA dt_law_9 75 rfl) (by decide) ?_
  refine Z_iadd (kdA dt_law_9 76 rfl) (by omega) ?_
  refine Z_lda (j := 4) (a := a) (kdA dt_law_9 77 rfl) hi.1 (by decide) hS ?_
  refine Z_aload_n 0 (kdA dt_law_9 78 rfl) rfl rfl ?_
  refine Z_iload 4 (kdA dt_law_9 79 rfl) rfl ?_
  refine Z_iconst (kdA dt_law_9 80 rfl) (by decide) ?_
  refine Z_iadd (kdA dt_law_9 81 rfl) (by omega) ?_
  refine Z_lda (j := 5) (a := a) (kdA dt_law_9 82 rfl) hi.1 (by decide) hS ?_
  refine Z_wet (kdA dt_law_9 83 rfl) (kdA dt_law_9 84 rfl) (kdA dt_law_9 85 rfl) (kdA dt_law_9 86 rfl) ?_
  refine Z_aload_n 0 (kdA dt_law_9 87 rfl) rfl rfl ?_
  refine Z_iload 4 (kdA dt_law_9 88 rfl) rfl ?_
  refine Z_bipush (kdA dt_law_9 89 rfl) (by decide) ?_
  refine Z_iadd (kdA dt_law_9 90 rfl) (by omega) ?_
  refine Z_lda (j := 6) (a := a) (kdA dt_law_9 91 rfl) hi.1 (by decide) hS ?_
  refine Z_cVi (c := 11) (as := [(0, a 1), (0, a 2), (0, a 3), (0, a 4), (0, wtt (a 5)), (0, a 6)]) (st := []) (kdA dt_law_9 92 rfl) rfl cl_MX11_slip lkL_153 rfl rfl (Nat.le_of_ble_eq_true rfl) o_0 (Ci.mono (O_slip wtt_01 d σ (by omega) hI) (fun x1 s1 h1 e1 => ?_))
  have hS1 := hS.mono e1
  refine Z_aload_n 2 (kdA dt_law_9 93 rfl) rfl rfl ?_
  refine Z_aload_n 0 (kdA dt_law_9 94 rfl) rfl rfl ?_
  refine Z_iload 4 (kdA dt_law_9 95 rfl) rfl ?_
  refine Z_iconst (kdA dt_law_9 96 rfl) (by decide) ?_
  refine Z_iadd (kdA dt_law_9 97 rfl) (by omega) ?_
  refine Z_lda (j := 1) (a := a) (kdA dt_law_9 98 rfl) hi.1 (by decide) hS1 ?_
  refine Z_aload_n 0 (kdA dt_law_9 99 rfl) rfl rfl ?_
  refine Z_iload 4 (kdA dt_law_9 100 rfl) rfl ?_
  refine Z_iconst (kdA dt_law_9 101 rfl) (by decide) ?_
  refine Z_iadd (kdA dt_law_9 102 rfl) (by omega) ?_
  refine Z_lda (j := 2) (a := a) (kdA dt_law_9 103 rfl) hi.1 (by decide) hS1 ?_
  refine Z_aload_n 0 (kdA dt_law_9 104 rfl) rfl rfl ?_
  refine Z_iload 4 (kdA dt_law_9 105 rfl) rfl ?_
  refine Z_iconst (kdA dt_law_9 106 rfl) (by decide) ?_
  refine Z_iadd (kdA dt_law_9 107 rfl) (by omega) ?_
  refine Z_lda (j := 3) (a := a) (kdA dt_law_9 108 rfl) hi.1 (by decide) hS1 ?_
  refine Z_aload_n 0 (kdA dt_law_9 109 rfl) rfl rfl ?_
  refine Z_iload 4 (kdA dt_law_9 110 rfl) rfl ?_
  refine Z_iconst (kdA dt_law_9 111 rfl) (by decide) ?_
  refine Z_iadd (kdA dt_law_9 112 rfl) (by omega) ?_
  refine Z_lda (j := 4) (a := a) (kdA dt_law_9 113 rfl) hi.1 (by decide) hS1 ?_
  refine Z_aload_n 0 (kdA dt_law_9 114 rfl) rfl rfl ?_
  refine Z_iload 4 (kdA dt_law_9 115 rfl) rfl ?_
  refine Z_iconst (kdA dt_law_9 116 rfl) (by decide) ?_
  refine Z_iadd (kdA dt_law_9 117 rfl) (by omega) ?_
  refine Z_lda (j := 5) (a := a) (kdA dt_law_9 118 rfl) hi.1 (by decide) hS1 ?_
  refine Z_wet (kdA dt_law_9 119 rfl) (kdA dt_law_9 120 rfl) (kdA dt_law_9 121 rfl) (kdA dt_law_9 122 rfl) ?_
  refine Z_aload_n 0 (kdA dt_law_9 123 rfl) rfl rfl ?_
  refine Z_iload 4 (kdA dt_law_9 124 rfl) rfl ?_
  refine Z_bipush (kdA dt_law_9 125 rfl) (by decide) ?_
  refine Z_iadd (kdA dt_law_9 126 rfl) (by omega) ?_
  refine Z_lda (j := 6) (a := a) (kdA dt_law_9 127 rfl) hi.1 (by decide) hS1 ?_
  refine Z_cVi (c := 12) (as := [(0, a 1), (0, a 2), (0, a 3), (0, a 4), (0, wtt (a 5)), (0, a 6)]) (st := [(0, x1)]) (kdA dt_law_10 0 rfl) rfl cl_MX12_slip lkL_157 rfl rfl (Nat.le_of_ble_eq_true rfl) o_166 (Ci.mono h1 (fun x2 s2 h2 e2 => ?_))
  refine Z_icmp_eq (tgt := 3047) (kdA dt_law_10 1 rfl) rfl (fun _ => ?_) (fun c => absurd h2.1 c)
  exact hK s2 h2.2 (e1.trans e2)
theorem LC_29 {d : Nat} {nm : String} {F : kFin} {b : Nat × Nat} {i : Int} {a : Int → Int} {σ : kS} (hd : 62 ≤ d) (hI : Inv σ) (hS : SA σ i a) (hi : 0 ≤ i ∧ i ≤ 5000) (hK : ∀ s, Inv s → scrEq σ s → Z (d + 1) (MLaw nm) F b 3047 [(0, (2, -4)), (1, (2, 0)), (2, (2, 166)), (3, (2, 208)), (4, (0, i))] [] kN s) : Z (d + 1) (MLaw nm) F b 1997 [(0, (2, -4)), (1, (2, 0)), (2, (2, 166)), (3, (2, 208)), (4, (0, i))] [] kN σ := by
  refine Z_aload_n 1 (kdA dt_law_10 4 rfl) rfl rfl ?_
  refine Z_aload_n 0 (kdA dt_law_10 5 rfl) rfl rfl ?_
  refine Z_iload 4 (kdA dt_law_10 6 rfl) rfl ?_
  refine Z_iconst (kdA dt_law_10 7 rfl) (by decide) ?_
  refine Z_iadd (kdA dt_law_10 8 rfl) (by omega) ?_
  refine Z_lda (j := 1) (a := a) (kdA dt_law_10 9 rfl) hi.1 (by decide) hS ?_
  refine Z_aload_n 0 (kdA dt_law_10 10 rfl) rfl rfl ?_
  refine Z_iload 4 (kdA dt_law_10 11 rfl) rfl ?_
  refine Z_iconst (kdA dt_law_10 12 rfl) (by decide) ?_
  refine Z_iadd (kdA dt_law_10 13 rfl) (by omega) ?_
  refine Z_lda (j := 2) (a := a) (kdA dt_law_10 14 rfl) hi.1 (by decide) hS ?_
  refine Z_aload_n 0 (kdA dt_law_10 15 rfl) rfl rfl ?_
  refine Z_iload 4 (kdA dt_law_10 16 rfl) rfl ?_
  refine Z_iconst (kdA dt_law_10 17 rfl) (by decide) ?_
  refine Z_iadd (kdA dt_law_10 18 rfl) (by omega) ?_
  refine Z_lda (j := 3) (a := a) (kdA dt_law_10 19 rfl) hi.1 (by decide) hS ?_
  refine Z_cVi (c := 11) (as := [(0, a 1), (0, a 2), (0, a 3)]) (st := []) (kdA dt_law_10 20 rfl) rfl cl_MX11_holds lkL_158 rfl rfl (Nat.le_of_ble_eq_true rfl) o_0 (Ci.mono (O_holds d σ (by omega) hI) (fun x1 s1 h1 e1 => ?_))
  have hS1 := hS.mono e1
  refine Z_aload_n 2 (kdA dt_law_10 21 rfl) rfl rfl ?_
  refine Z_aload_n 0 (kdA dt_law_10 22 rfl) rfl rfl ?_
  refine Z_iload 4 (kdA dt_law_10 23 rfl) rfl ?_
  refine Z_iconst (kdA dt_law_10 24 rfl) (by decide) ?_
  refine Z_iadd (kdA dt_law_10 25 rfl) (by omega) ?_
  refine Z_lda (j := 1) (a := a) (kdA dt_law_10 26 rfl) hi.1 (by decide) hS1 ?_
  refine Z_aload_n 0 (kdA dt_law_10 27 rfl) rfl rfl ?_
  refine Z_iload 4 (kdA dt_law_10 28 rfl) rfl ?_
  refine Z_iconst (kdA dt_law_10 29 rfl) (by decide) ?_
  refine Z_iadd (kdA dt_law_10 30 rfl) (by omega) ?_
  refine Z_lda (j := 2) (a := a) (kdA dt_law_10 31 rfl) hi.1 (by decide) hS1 ?_
  refine Z_aload_n 0 (kdA dt_law_10 32 rfl) rfl rfl ?_
  refine Z_iload 4 (kdA dt_law_10 33 rfl) rfl ?_
  refine Z_iconst (kdA dt_law_10 34 rfl) (by decide) ?_
  refine Z_iadd (kdA dt_law_10 35 rfl) (by omega) ?_
  refine Z_lda (j := 3) (a := a) (kdA dt_law_10 36 rfl) hi.1 (by decide) hS1 ?_
  refine Z_cVi (c := 12) (as := [(0, a 1), (0, a 2), (0, a 3)]) (st := [(0, x1)]) (kdA dt_law_10 37 rfl) rfl cl_MX12_holds lkL_161 rfl rfl (Nat.le_of_ble_eq_true rfl) o_166 (Ci.mono h1 (fun x2 s2 h2 e2 => ?_))
  refine Z_icmp_eq (tgt := 3047) (kdA dt_law_10 38 rfl) rfl (fun _ => ?_) (fun c => absurd h2.1 c)
  exact hK s2 h2.2 (e1.trans e2)
theorem LC_30 {d : Nat} {nm : String} {F : kFin} {b : Nat × Nat} {i : Int} {a : Int → Int} {σ : kS} (hd : 62 ≤ d) (hI : Inv σ) (hS : SA σ i a) (hi : 0 ≤ i ∧ i ≤ 5000) (hK : ∀ s, Inv s → scrEq σ s → Z (d + 1) (MLaw nm) F b 3047 [(0, (2, -4)), (1, (2, 0)), (2, (2, 166)), (3, (2, 208)), (4, (0, i))] [] kN s) : Z (d + 1) (MLaw nm) F b 2046 [(0, (2, -4)), (1, (2, 0)), (2, (2, 166)), (3, (2, 208)), (4, (0, i))] [] kN σ := by
  refine Z_aload_n 1 (kdA dt_law_10 41 rfl) rfl rfl ?_
  refine Z_aload_n 0 (kdA dt_law_10 42 rfl) rfl rfl ?_
  refine Z_iload 4 (kdA dt_law_10 43 rfl) rfl ?_
  refine Z_iconst (kdA dt_law_10 44 rfl) (by decide) ?_
  refine Z_iadd (kdA dt_law_10 45 rfl) (by omega) ?_
  refine Z_lda (j := 1) (a := a) (kdA dt_law_10 46 rfl) hi.1 (by decide) hS ?_
  refine Z_aload_n 0 (kdA dt_law_10 47 rfl) rfl rfl ?_
  refine Z_iload 4 (kdA dt_law_10 48 rfl) rfl ?_
  refine Z_iconst (kdA dt_law_10 49 rfl) (by decide) ?_
  refine Z_iadd (kdA dt_law_10 50 rfl) (by omega) ?_
  refine Z_lda (j := 2) (a := a) (kdA dt_law_10 51 rfl) hi.1 (by decide) hS ?_
  refine Z_cVi (c := 11) (as := [(0, a 1), (0, a 2)]) (st := []) (kdA dt_law_10 52 rfl) rfl cl_MX11_weigh lkL_162 rfl rfl (Nat.le_of_ble_eq_true rfl) o_0 (Ci.mono (O_weigh d σ (by omega) hI) (fun x1 s1 h1 e1 => ?_))
  have hS1 := hS.mono e1
  refine Z_aload_n 2 (kdA dt_law_10 53 rfl) rfl rfl ?_
  refine Z_aload_n 0 (kdA dt_law_10 54 rfl) rfl rfl ?_
  refine Z_iload 4 (kdA dt_law_10 55 rfl) rfl ?_
  refine Z_iconst (kdA dt_law_10 56 rfl) (by decide) ?_
  refine Z_iadd (kdA dt_law_10 57 rfl) (by omega) ?_
  refine Z_lda (j := 1) (a := a) (kdA dt_law_10 58 rfl) hi.1 (by decide) hS1 ?_
  refine Z_aload_n 0 (kdA dt_law_10 59 rfl) rfl rfl ?_
  refine Z_iload 4 (kdA dt_law_10 60 rfl) rfl ?_
  refine Z_iconst (kdA dt_law_10 61 rfl) (by decide) ?_
  refine Z_iadd (kdA dt_law_10 62 rfl) (by omega) ?_
  refine Z_lda (j := 2) (a := a) (kdA dt_law_10 63 rfl) hi.1 (by decide) hS1 ?_
  refine Z_cVi (c := 12) (as := [(0, a 1), (0, a 2)]) (st := [(0, x1)]) (kdA dt_law_10 64 rfl) rfl cl_MX12_weigh lkL_166 rfl rfl (Nat.le_of_ble_eq_true rfl) o_166 (Ci.mono h1 (fun x2 s2 h2 e2 => ?_))
  refine Z_icmp_eq (tgt := 3047) (kdA dt_law_10 65 rfl) rfl (fun _ => ?_) (fun c => absurd h2.1 c)
  exact hK s2 h2.2 (e1.trans e2)
theorem LC_31 {d : Nat} {nm : String} {F : kFin} {b : Nat × Nat} {i : Int} {a : Int → Int} {σ : kS} (hd : 62 ≤ d) (hI : Inv σ) (hS : SA σ i a) (hi : 0 ≤ i ∧ i ≤ 5000) (hK : ∀ s, Inv s → scrEq σ s → Z (d + 1) (MLaw nm) F b 3047 [(0, (2, -4)), (1, (2, 0)), (2, (2, 166)), (3, (2, 208)), (4, (0, i))] [] kN s) : Z (d + 1) (MLaw nm) F b 2083 [(0, (2, -4)), (1, (2, 0)), (2, (2, 166)), (3, (2, 208)), (4, (0, i))] [] kN σ := by
  refine Z_aload_n 1 (kdA dt_law_10 68 rfl) rfl rfl ?_
  refine Z_aload_n 0 (kdA dt_law_10 69 rfl) rfl rfl ?_
  refine Z_iload 4 (kdA dt_law_10 70 rfl) rfl ?_
  refine Z_iconst (kdA dt_law_10 71 rfl) (by decide) ?_
  refine Z_iadd (kdA dt_law_10 72 rfl) (by omega) ?_
  refine Z_lda (j := 1) (a := a) (kdA dt_law_10 73 rfl) hi.1 (by decide) hS ?_
  refine Z_aload_n 0 (kdA dt_law_10 74 rfl) rfl rfl ?_
  refine Z_iload 4 (kdA dt_law_10 75 rfl) rfl ?_
  refine Z_iconst (kdA dt_law_10 76 rfl) (by decide) ?_
  refine Z_iadd (kdA dt_law_10 77 rfl) (by omega) ?_
  refine Z_lda (j := 2) (a := a) (kdA dt_law_10 78 rfl) hi.1 (by decide) hS ?_
  refine Z_aload_n 0 (kdA dt_law_10 79 rfl) rfl rfl ?_
  refine Z_iload 4 (kdA dt_law_10 80 rfl) rfl ?_
  refine Z_iconst (kdA dt_law_10 81 rfl) (by decide) ?_
  refine Z_iadd (kdA dt_law_10 82 rfl) (by omega) ?_
  refine Z_lda (j := 3) (a := a) (kdA dt_law_10 83 rfl) hi.1 (by decide) hS ?_
  refine Z_cVi (c := 11) (as := [(0, a 1), (0, a 2), (0, a 3)]) (st := []) (kdA dt_law_10 84 rfl) rfl cl_MX11_evidence lkL_167 rfl rfl (Nat.le_of_ble_eq_true rfl) o_0 (Ci.mono (O_evidence d σ (by omega) hI) (fun x1 s1 h1 e1 => ?_))
  have hS1 := hS.mono e1
  refine Z_aload_n 2 (kdA dt_law_10 85 rfl) rfl rfl ?_
  refine Z_aload_n 0 (kdA dt_law_10 86 rfl) rfl rfl ?_
  refine Z_iload 4 (kdA dt_law_10 87 rfl) rfl ?_
  refine Z_iconst (kdA dt_law_10 88 rfl) (by decide) ?_
  refine Z_iadd (kdA dt_law_10 89 rfl) (by omega) ?_
  refine Z_lda (j := 1) (a := a) (kdA dt_law_10 90 rfl) hi.1 (by decide) hS1 ?_
  refine Z_aload_n 0 (kdA dt_law_10 91 rfl) rfl rfl ?_
  refine Z_iload 4 (kdA dt_law_10 92 rfl) rfl ?_
  refine Z_iconst (kdA dt_law_10 93 rfl) (by decide) ?_
  refine Z_iadd (kdA dt_law_10 94 rfl) (by omega) ?_
  refine Z_lda (j := 2) (a := a) (kdA dt_law_10 95 rfl) hi.1 (by decide) hS1 ?_
  refine Z_aload_n 0 (kdA dt_law_10 96 rfl) rfl rfl ?_
  refine Z_iload 4 (kdA dt_law_10 97 rfl) rfl ?_
  refine Z_iconst (kdA dt_law_10 98 rfl) (by decide) ?_
  refine Z_iadd (kdA dt_law_10 99 rfl) (by omega) ?_
  refine Z_lda (j := 3) (a := a) (kdA dt_law_10 100 rfl) hi.1 (by decide) hS1 ?_
  refine Z_cVi (c := 12) (as := [(0, a 1), (0, a 2), (0, a 3)]) (st := [(0, x1)]) (kdA dt_law_10 101 rfl) rfl cl_MX12_evidence lkL_170 rfl rfl (Nat.le_of_ble_eq_true rfl) o_166 (Ci.mono h1 (fun x2 s2 h2 e2 => ?_))
  refine Z_icmp_eq (tgt := 3047) (kdA dt_law_10 102 rfl) rfl (fun _ => ?_) (fun c => absurd h2.1 c)
  exact hK s2 h2.2 (e1.trans e2)
theorem LC_32 {d : Nat} {nm : String} {F : kFin} {b : Nat × Nat} {i : Int} {a : Int → Int} {σ : kS} (hd : 62 ≤ d) (hI : Inv σ) (hS : SA σ i a) (hi : 0 ≤ i ∧ i ≤ 5000) (hK : ∀ s, Inv s → scrEq σ s → Z (d + 1) (MLaw nm) F b 3047 [(0, (2, -4)), (1, (2, 0)), (2, (2, 166)), (3, (2, 208)), (4, (0, i))] [] kN s) : Z (d + 1) (MLaw nm) F b 2132 [(0, (2, -4)), (1, (2, 0)), (2, (2, 166)), (3, (2, 208)), (4, (0, i))] [] kN σ := by
  refine Z_aload_n 1 (kdA dt_law_10 105 rfl) rfl rfl ?_
  refine Z_aload_n 0 (kdA dt_law_10 106 rfl) rfl rfl ?_
  refine Z_iload 4 (kdA dt_law_10 107 rfl) rfl ?_
  refine Z_iconst (kdA dt_law_10 108 rfl) (by decide) ?_
  refine Z_iadd (kdA dt_law_10 109 rfl) (by omega) ?_
  refine Z_lda (j := 1) (a := a) (kdA dt_law_10 110 rfl) hi.1 (by decide) hS ?_
  refine Z_aload_n 0 (kdA dt_law_10 111 rfl) rfl rfl ?_
  refine Z_iload 4 (kdA dt_law_10 112 rfl) rfl ?_
  refine Z_iconst (kdA dt_law_10 113 rfl) (by decide) ?_
  refine Z_iadd (kdA dt_law_10 114 rfl) (by omega) ?_
  refine Z_lda (j := 2) (a := a) (kdA dt_law_10 115 rfl) hi.1 (by decide) hS ?_
  refine Z_aload_n 0 (kdA dt_law_10 116 rfl) rfl rfl ?_
  refine Z_iload 4 (kdA dt_law_10 117 rfl) rfl ?_
  refine Z_iconst (kdA dt_law_10 118 rfl) (by decide) ?_
  refine Z_iadd (kdA dt_law_10 119 rfl) (by omega) ?_
  refine Z_lda (j := 3) (a := a) (kdA dt_law_10 120 rfl) hi.1 (by decide) hS ?_
  refine Z_cVi (c := 11) (as := [(0, a 1), (0, a 2), (0, a 3)]) (st := []) (kdA dt_law_10 121 rfl) rfl cl_MX11_odds lkL_171 rfl rfl (Nat.le_of_ble_eq_true rfl) o_0 (Ci.mono (O_odds d σ (by omega) hI) (fun x1 s1 h1 e1 => ?_))
  have hS1 := hS.mono e1
  refine Z_aload_n 2 (kdA dt_law_10 122 rfl) rfl rfl ?_
  refine Z_aload_n 0 (kdA dt_law_10 123 rfl) rfl rfl ?_
  refine Z_iload 4 (kdA dt_law_10 124 rfl) rfl ?_
  refine Z_iconst (kdA dt_law_10 125 rfl) (by decide) ?_
  refine Z_iadd (kdA dt_law_10 126 rfl) (by omega) ?_
  refine Z_lda (j := 1) (a := a) (kdA dt_law_10 127 rfl) hi.1 (by decide) hS1 ?_
  refine Z_aload_n 0 (kdA dt_law_11 0 rfl) rfl rfl ?_
  refine Z_iload 4 (kdA dt_law_11 1 rfl) rfl ?_
  refine Z_iconst (kdA dt_law_11 2 rfl) (by decide) ?_
  refine Z_iadd (kdA dt_law_11 3 rfl) (by omega) ?_
  refine Z_lda (j := 2) (a := a) (kdA dt_law_11 4 rfl) hi.1 (by decide) hS1 ?_
  refine Z_aload_n 0 (kdA dt_law_11 5 rfl) rfl rfl ?_
  refine Z_iload 4 (kdA dt_law_11 6 rfl) rfl ?_
  refine Z_iconst (kdA dt_law_11 7 rfl) (by decide) ?_
  refine Z_iadd (kdA dt_law_11 8 rfl) (by omega) ?_
  refine Z_lda (j := 3) (a := a) (kdA dt_law_11 9 rfl) hi.1 (by decide) hS1 ?_
  refine Z_cVi (c := 12) (as := [(0, a 1), (0, a 2), (0, a 3)]) (st := [(0, x1)]) (kdA dt_law_11 10 rfl) rfl cl_MX12_odds lkL_174 rfl rfl (Nat.le_of_ble_eq_true rfl) o_166 (Ci.mono h1 (fun x2 s2 h2 e2 => ?_))
  refine Z_icmp_eq (tgt := 3047) (kdA dt_law_11 11 rfl) rfl (fun _ => ?_) (fun c => absurd h2.1 c)
  exact hK s2 h2.2 (e1.trans e2)
theorem LC_33 {d : Nat} {nm : String} {F : kFin} {b : Nat × Nat} {i : Int} {a : Int → Int} {σ : kS} (hd : 62 ≤ d) (hI : Inv σ) (hS : SA σ i a) (hi : 0 ≤ i ∧ i ≤ 5000) (hK : ∀ s, Inv s → scrEq σ s → Z (d + 1) (MLaw nm) F b 3047 [(0, (2, -4)), (1, (2, 0)), (2, (2, 166)), (3, (2, 208)), (4, (0, i))] [] kN s) : Z (d + 1) (MLaw nm) F b 2181 [(0, (2, -4)), (1, (2, 0)), (2, (2, 166)), (3, (2, 208)), (4, (0, i))] [] kN σ := by
  refine Z_aload_n 1 (kdA dt_law_11 14 rfl) rfl rfl ?_
  refine Z_aload_n 0 (kdA dt_law_11 15 rfl) rfl rfl ?_
  refine Z_iload 4 (kdA dt_law_11 16 rfl) rfl ?_
  refine Z_iconst (kdA dt_law_11 17 rfl) (by decide) ?_
  refine Z_iadd (kdA dt_law_11 18 rfl) (by omega) ?_
  refine Z_lda (j := 1) (a := a) (kdA dt_law_11 19 rfl) hi.1 (by decide) hS ?_
  refine Z_cVi (c := 11) (as := [(0, a 1)]) (st := []) (kdA dt_law_11 20 rfl) rfl cl_MX11_pit lkL_175 rfl rfl (Nat.le_of_ble_eq_true rfl) o_0 (Ci.mono (O_pit d σ (by omega) hI) (fun x1 s1 h1 e1 => ?_))
  have hS1 := hS.mono e1
  refine Z_aload_n 2 (kdA dt_law_11 21 rfl) rfl rfl ?_
  refine Z_aload_n 0 (kdA dt_law_11 22 rfl) rfl rfl ?_
  refine Z_iload 4 (kdA dt_law_11 23 rfl) rfl ?_
  refine Z_iconst (kdA dt_law_11 24 rfl) (by decide) ?_
  refine Z_iadd (kdA dt_law_11 25 rfl) (by omega) ?_
  refine Z_lda (j := 1) (a := a) (kdA dt_law_11 26 rfl) hi.1 (by decide) hS1 ?_
  refine Z_cVi (c := 12) (as := [(0, a 1)]) (st := [(0, x1)]) (kdA dt_law_11 27 rfl) rfl cl_MX12_pit lkL_178 rfl rfl (Nat.le_of_ble_eq_true rfl) o_166 (Ci.mono h1 (fun x2 s2 h2 e2 => ?_))
  refine Z_icmp_eq (tgt := 3047) (kdA dt_law_11 28 rfl) rfl (fun _ => ?_) (fun c => absurd h2.1 c)
  exact hK s2 h2.2 (e1.trans e2)
theorem LC_34 {d : Nat} {nm : String} {F : kFin} {b : Nat × Nat} {i : Int} {a : Int → Int} {σ : kS} (hd : 62 ≤ d) (hI : Inv σ) (hS : SA σ i a) (hi : 0 ≤ i ∧ i ≤ 5000) (hK : ∀ s, Inv s → scrEq σ s → Z (d + 1) (MLaw nm) F b 3047 [(0, (2, -4)), (1, (2, 0)), (2, (2, 166)), (3, (2, 208)), (4, (0, i))] [] kN s) : Z (d + 1) (MLaw nm) F b 2206 [(0, (2, -4)), (1, (2, 0)), (2, (2, 166)), (3, (2, 208)), (4, (0, i))] [] kN σ := by
  refine Z_aload_n 1 (kdA dt_law_11 31 rfl) rfl rfl ?_
  refine Z_aload_n 0 (kdA dt_law_11 32 rfl) rfl rfl ?_
  refine Z_iload 4 (kdA dt_law_11 33 rfl) rfl ?_
  refine Z_iconst (kdA dt_law_11 34 rfl) (by decide) ?_
  refine Z_iadd (kdA dt_law_11 35 rfl) (by omega) ?_
  refine Z_lda (j := 1) (a := a) (kdA dt_law_11 36 rfl) hi.1 (by decide) hS ?_
  refine Z_aload_n 0 (kdA dt_law_11 37 rfl) rfl rfl ?_
  refine Z_iload 4 (kdA dt_law_11 38 rfl) rfl ?_
  refine Z_iconst (kdA dt_law_11 39 rfl) (by decide) ?_
  refine Z_iadd (kdA dt_law_11 40 rfl) (by omega) ?_
  refine Z_lda (j := 2) (a := a) (kdA dt_law_11 41 rfl) hi.1 (by decide) hS ?_
  refine Z_aload_n 0 (kdA dt_law_11 42 rfl) rfl rfl ?_
  refine Z_iload 4 (kdA dt_law_11 43 rfl) rfl ?_
  refine Z_iconst (kdA dt_law_11 44 rfl) (by decide) ?_
  refine Z_iadd (kdA dt_law_11 45 rfl) (by omega) ?_
  refine Z_lda (j := 3) (a := a) (kdA dt_law_11 46 rfl) hi.1 (by decide) hS ?_
  refine Z_cVi (c := 11) (as := [(0, a 1), (0, a 2), (0, a 3)]) (st := []) (kdA dt_law_11 47 rfl) rfl cl_MX11_dig lkL_179 rfl rfl (Nat.le_of_ble_eq_true rfl) o_0 (Ci.mono (O_dig d σ (by omega) hI) (fun x1 s1 h1 e1 => ?_))
  have hS1 := hS.mono e1
  refine Z_aload_n 2 (kdA dt_law_11 48 rfl) rfl rfl ?_
  refine Z_aload_n 0 (kdA dt_law_11 49 rfl) rfl rfl ?_
  refine Z_iload 4 (kdA dt_law_11 50 rfl) rfl ?_
  refine Z_iconst (kdA dt_law_11 51 rfl) (by decide) ?_
  refine Z_iadd (kdA dt_law_11 52 rfl) (by omega) ?_
  refine Z_lda (j := 1) (a := a) (kdA dt_law_11 53 rfl) hi.1 (by decide) hS1 ?_
  refine Z_aload_n 0 (kdA dt_law_11 54 rfl) rfl rfl ?_
  refine Z_iload 4 (kdA dt_law_11 55 rfl) rfl ?_
  refine Z_iconst (kdA dt_law_11 56 rfl) (by decide) ?_
  refine Z_iadd (kdA dt_law_11 57 rfl) (by omega) ?_
  refine Z_lda (j := 2) (a := a) (kdA dt_law_11 58 rfl) hi.1 (by decide) hS1 ?_
  refine Z_aload_n 0 (kdA dt_law_11 59 rfl) rfl rfl ?_
  refine Z_iload 4 (kdA dt_law_11 60 rfl) rfl ?_
  refine Z_iconst (kdA dt_law_11 61 rfl) (by decide) ?_
  refine Z_iadd (kdA dt_law_11 62 rfl) (by omega) ?_
  refine Z_lda (j := 3) (a := a) (kdA dt_law_11 63 rfl) hi.1 (by decide) hS1 ?_
  refine Z_cVi (c := 12) (as := [(0, a 1), (0, a 2), (0, a 3)]) (st := [(0, x1)]) (kdA dt_law_11 64 rfl) rfl cl_MX12_dig lkL_182 rfl rfl (Nat.le_of_ble_eq_true rfl) o_166 (Ci.mono h1 (fun x2 s2 h2 e2 => ?_))
  refine Z_icmp_eq (tgt := 3047) (kdA dt_law_11 65 rfl) rfl (fun _ => ?_) (fun c => absurd h2.1 c)
  exact hK s2 h2.2 (e1.trans e2)
theorem LC_35 {d : Nat} {nm : String} {F : kFin} {b : Nat × Nat} {i : Int} {a : Int → Int} {σ : kS} (hd : 62 ≤ d) (hI : Inv σ) (hS : SA σ i a) (hi : 0 ≤ i ∧ i ≤ 5000) (hK : ∀ s, Inv s → scrEq σ s → Z (d + 1) (MLaw nm) F b 3047 [(0, (2, -4)), (1, (2, 0)), (2, (2, 166)), (3, (2, 208)), (4, (0, i))] [] kN s) : Z (d + 1) (MLaw nm) F b 2255 [(0, (2, -4)), (1, (2, 0)), (2, (2, 166)), (3, (2, 208)), (4, (0, i))] [] kN σ := by
  refine Z_aload_n 1 (kdA dt_law_11 68 rfl) rfl rfl ?_
  refine Z_aload_n 0 (kdA dt_law_11 69 rfl) rfl rfl ?_
  refine Z_iload 4 (kdA dt_law_11 70 rfl) rfl ?_
  refine Z_iconst (kdA dt_law_11 71 rfl) (by decide) ?_
  refine Z_iadd (kdA dt_law_11 72 rfl) (by omega) ?_
  refine Z_lda (j := 1) (a := a) (kdA dt_law_11 73 rfl) hi.1 (by decide) hS ?_
  refine Z_aload_n 0 (kdA dt_law_11 74 rfl) rfl rfl ?_
  refine Z_iload 4 (kdA dt_law_11 75 rfl) rfl ?_
  refine Z_iconst (kdA dt_law_11 76 rfl) (by decide) ?_
  refine Z_iadd (kdA dt_law_11 77 rfl) (by omega) ?_
  refine Z_lda (j := 2) (a := a) (kdA dt_law_11 78 rfl) hi.1 (by decide) hS ?_
  refine Z_aload_n 0 (kdA dt_law_11 79 rfl) rfl rfl ?_
  refine Z_iload 4 (kdA dt_law_11 80 rfl) rfl ?_
  refine Z_iconst (kdA dt_law_11 81 rfl) (by decide) ?_
  refine Z_iadd (kdA dt_law_11 82 rfl) (by omega) ?_
  refine Z_lda (j := 3) (a := a) (kdA dt_law_11 83 rfl) hi.1 (by decide) hS ?_
  refine Z_aload_n 0 (kdA dt_law_11 84 rfl) rfl rfl ?_
  refine Z_iload 4 (kdA dt_law_11 85 rfl) rfl ?_
  refine Z_iconst (kdA dt_law_11 86 rfl) (by decide) ?_
  refine Z_iadd (kdA dt_law_11 87 rfl) (by omega) ?_
  refine Z_lda (j := 4) (a := a) (kdA dt_law_11 88 rfl) hi.1 (by decide) hS ?_
  refine Z_cVi (c := 11) (as := [(0, a 1), (0, a 2), (0, a 3), (0, a 4)]) (st := []) (kdA dt_law_11 89 rfl) rfl cl_MX11_field lkL_183 rfl rfl (Nat.le_of_ble_eq_true rfl) o_0 (Ci.mono (O_field d σ (by omega) hI) (fun x1 s1 h1 e1 => ?_))
  have hS1 := hS.mono e1
  refine Z_aload_n 2 (kdA dt_law_11 90 rfl) rfl rfl ?_
  refine Z_aload_n 0 (kdA dt_law_11 91 rfl) rfl rfl ?_
  refine Z_iload 4 (kdA dt_law_11 92 rfl) rfl ?_
  refine Z_iconst (kdA dt_law_11 93 rfl) (by decide) ?_
  refine Z_iadd (kdA dt_law_11 94 rfl) (by omega) ?_
  refine Z_lda (j := 1) (a := a) (kdA dt_law_11 95 rfl) hi.1 (by decide) hS1 ?_
  refine Z_aload_n 0 (kdA dt_law_11 96 rfl) rfl rfl ?_
  refine Z_iload 4 (kdA dt_law_11 97 rfl) rfl ?_
  refine Z_iconst (kdA dt_law_11 98 rfl) (by decide) ?_
  refine Z_iadd (kdA dt_law_11 99 rfl) (by omega) ?_
  refine Z_lda (j := 2) (a := a) (kdA dt_law_11 100 rfl) hi.1 (by decide) hS1 ?_
  refine Z_aload_n 0 (kdA dt_law_11 101 rfl) rfl rfl ?_
  refine Z_iload 4 (kdA dt_law_11 102 rfl) rfl ?_
  refine Z_iconst (kdA dt_law_11 103 rfl) (by decide) ?_
  refine Z_iadd (kdA dt_law_11 104 rfl) (by omega) ?_
  refine Z_lda (j := 3) (a := a) (kdA dt_law_11 105 rfl) hi.1 (by decide) hS1 ?_
  refine Z_aload_n 0 (kdA dt_law_11 106 rfl) rfl rfl ?_
  refine Z_iload 4 (kdA dt_law_11 107 rfl) rfl ?_
  refine Z_iconst (kdA dt_law_11 108 rfl) (by decide) ?_
  refine Z_iadd (kdA dt_law_11 109 rfl) (by omega) ?_
  refine Z_lda (j := 4) (a := a) (kdA dt_law_11 110 rfl) hi.1 (by decide) hS1 ?_
  refine Z_cVi (c := 12) (as := [(0, a 1), (0, a 2), (0, a 3), (0, a 4)]) (st := [(0, x1)]) (kdA dt_law_11 111 rfl) rfl cl_MX12_field lkL_186 rfl rfl (Nat.le_of_ble_eq_true rfl) o_166 (Ci.mono h1 (fun x2 s2 h2 e2 => ?_))
  refine Z_icmp_eq (tgt := 3047) (kdA dt_law_11 112 rfl) rfl (fun _ => ?_) (fun c => absurd h2.1 c)
  exact hK s2 h2.2 (e1.trans e2)
theorem LC_36 {d : Nat} {nm : String} {F : kFin} {b : Nat × Nat} {i : Int} {a : Int → Int} {σ : kS} (hd : 62 ≤ d) (hI : Inv σ) (hS : SA σ i a) (hi : 0 ≤ i ∧ i ≤ 5000) (hK : ∀ s, Inv s → scrEq σ s → Z (d + 1) (MLaw nm) F b 3047 [(0, (2, -4)), (1, (2, 0)), (2, (2, 166)), (3, (2, 208)), (4, (0, i))] [] kN s) : Z (d + 1) (MLaw nm) F b 2316 [(0, (2, -4)), (1, (2, 0)), (2, (2, 166)), (3, (2, 208)), (4, (0, i))] [] kN σ := by
  refine Z_aload_n 1 (kdA dt_law_11 115 rfl) rfl rfl ?_
  refine Z_aload_n 0 (kdA dt_law_11 116 rfl) rfl rfl ?_
  refine Z_iload 4 (kdA dt_law_11 117 rfl) rfl ?_
  refine Z_iconst (kdA dt_law_11 118 rfl) (by decide) ?_
  refine Z_iadd (kdA dt_law_11 119 rfl) (by omega) ?_
  refine Z_lda (j := 1) (a := a) (kdA dt_law_11 120 rfl) hi.1 (by decide) hS ?_
  refine Z_aload_n 0 (kdA dt_law_11 121 rfl) rfl rfl ?_
  refine Z_iload 4 (kdA dt_law_11 122 rfl) rfl ?_
  refine Z_iconst (kdA dt_law_11 123 rfl) (by decide) ?_
  refine Z_iadd (kdA dt_law_11 124 rfl) (by omega) ?_
  refine Z_lda (j := 2) (a := a) (kdA dt_law_11 125 rfl) hi.1 (by decide) hS ?_
  refine Z_cVi (c := 11) (as := [(0, a 1), (0, a 2)]) (st := []) (kdA dt_law_11 126 rfl) rfl cl_MX11_meets lkL_187 rfl rfl (Nat.le_of_ble_eq_true rfl) o_0 (Ci.mono (O_meets d σ (by omega) hI) (fun x1 s1 h1 e1 => ?_))
  have hS1 := hS.mono e1
  refine Z_aload_n 2 (kdA dt_law_11 127 rfl) rfl rfl ?_
  refine Z_aload_n 0 (kdA dt_law_12 0 rfl) rfl rfl ?_
  refine Z_iload 4 (kdA dt_law_12 1 rfl) rfl ?_
  refine Z_iconst (kdA dt_law_12 2 rfl) (by decide) ?_
  refine Z_iadd (kdA dt_law_12 3 rfl) (by omega) ?_
  refine Z_lda (j := 1) (a := a) (kdA dt_law_12 4 rfl) hi.1 (by decide) hS1 ?_
  refine Z_aload_n 0 (kdA dt_law_12 5 rfl) rfl rfl ?_
  refine Z_iload 4 (kdA dt_law_12 6 rfl) rfl ?_
  refine Z_iconst (kdA dt_law_12 7 rfl) (by decide) ?_
  refine Z_iadd (kdA dt_law_12 8 rfl) (by omega) ?_
  refine Z_lda (j := 2) (a := a) (kdA dt_law_12 9 rfl) hi.1 (by decide) hS1 ?_
  refine Z_cVi (c := 12) (as := [(0, a 1), (0, a 2)]) (st := [(0, x1)]) (kdA dt_law_12 10 rfl) rfl cl_MX12_meets lkL_190 rfl rfl (Nat.le_of_ble_eq_true rfl) o_166 (Ci.mono h1 (fun x2 s2 h2 e2 => ?_))
  refine Z_icmp_eq (tgt := 3047) (kdA dt_law_12 11 rfl) rfl (fun _ => ?_) (fun c => absurd h2.1 c)
  exact hK s2 h2.2 (e1.trans e2)
theorem LC_37 {d : Nat} {nm : String} {F : kFin} {b : Nat × Nat} {i : Int} {a : Int → Int} {σ : kS} (hd : 62 ≤ d) (hI : Inv σ) (hS : SA σ i a) (hi : 0 ≤ i ∧ i ≤ 5000) (hK : ∀ s, Inv s → scrEq σ s → Z (d + 1) (MLaw nm) F b 3047 [(0, (2, -4)), (1, (2, 0)), (2, (2, 166)), (3, (2, 208)), (4, (0, i))] [] kN s) : Z (d + 1) (MLaw nm) F b 2353 [(0, (2, -4)), (1, (2, 0)), (2, (2, 166)), (3, (2, 208)), (4, (0, i))] [] kN σ := by
  refine Z_aload_n 1 (kdA dt_law_12 14 rfl) rfl rfl ?_
  refine Z_aload_n 0 (kdA dt_law_12 15 rfl) rfl rfl ?_
  refine Z_iload 4 (kdA dt_law_12 16 rfl) rfl ?_
  refine Z_iconst (kdA dt_law_12 17 rfl) (by decide) ?_
  refine Z_iadd (kdA dt_law_12 18 rfl) (by omega) ?_
  refine Z_lda (j := 1) (a := a) (kdA dt_law_12 19 rfl) hi.1 (by decide) hS ?_
  refine Z_cVi (c := 11) (as := [(0, a 1)]) (st := []) (kdA dt_law_12 20 rfl) rfl cl_MX11_older lkL_191 rfl rfl (Nat.le_of_ble_eq_true rfl) o_0 (Ci.mono (O_older d σ (by omega) hI) (fun x1 s1 h1 e1 => ?_))
  have hS1 := hS.mono e1
  refine Z_aload_n 2 (kdA dt_law_12 21 rfl) rfl rfl ?_
  refine Z_aload_n 0 (kdA dt_law_12 22 rfl) rfl rfl ?_
  refine Z_iload 4 (kdA dt_law_12 23 rfl) rfl ?_
  refine Z_iconst (kdA dt_law_12 24 rfl) (by decide) ?_
  refine Z_iadd (kdA dt_law_12 25 rfl) (by omega) ?_
  refine Z_lda (j := 1) (a := a) (kdA dt_law_12 26 rfl) hi.1 (by decide) hS1 ?_
  refine Z_cVi (c := 12) (as := [(0, a 1)]) (st := [(0, x1)]) (kdA dt_law_12 27 rfl) rfl cl_MX12_older lkL_194 rfl rfl (Nat.le_of_ble_eq_true rfl) o_166 (Ci.mono h1 (fun x2 s2 h2 e2 => ?_))
  refine Z_icmp_eq (tgt := 3047) (kdA dt_law_12 28 rfl) rfl (fun _ => ?_) (fun c => absurd h2.1 c)
  exact hK s2 h2.2 (e1.trans e2)
theorem LC_38 {d : Nat} {nm : String} {F : kFin} {b : Nat × Nat} {i : Int} {a : Int → Int} {σ : kS} (hd : 62 ≤ d) (hI : Inv σ) (hS : SA σ i a) (hi : 0 ≤ i ∧ i ≤ 5000) (hK : ∀ s, Inv s → scrEq σ s → Z (d + 1) (MLaw nm) F b 3047 [(0, (2, -4)), (1, (2, 0)), (2, (2, 166)), (3, (2, 208)), (4, (0, i))] [] kN s) : Z (d + 1) (MLaw nm) F b 2378 [(0, (2, -4)), (1, (2, 0)), (2, (2, 166)), (3, (2, 208)), (4, (0, i))] [] kN σ := by
  refine Z_aload_n 1 (kdA dt_law_12 31 rfl) rfl rfl ?_
  refine Z_aload_n 0 (kdA dt_law_12 32 rfl) rfl rfl ?_
  refine Z_iload 4 (kdA dt_law_12 33 rfl) rfl ?_
  refine Z_iconst (kdA dt_law_12 34 rfl) (by decide) ?_
  refine Z_iadd (kdA dt_law_12 35 rfl) (by omega) ?_
  refine Z_lda (j := 1) (a := a) (kdA dt_law_12 36 rfl) hi.1 (by decide) hS ?_
  refine Z_aload_n 0 (kdA dt_law_12 37 rfl) rfl rfl ?_
  refine Z_iload 4 (kdA dt_law_12 38 rfl) rfl ?_
  refine Z_iconst (kdA dt_law_12 39 rfl) (by decide) ?_
  refine Z_iadd (kdA dt_law_12 40 rfl) (by omega) ?_
  refine Z_lda (j := 2) (a := a) (kdA dt_law_12 41 rfl) hi.1 (by decide) hS ?_
  refine Z_aload_n 0 (kdA dt_law_12 42 rfl) rfl rfl ?_
  refine Z_iload 4 (kdA dt_law_12 43 rfl) rfl ?_
  refine Z_iconst (kdA dt_law_12 44 rfl) (by decide) ?_
  refine Z_iadd (kdA dt_law_12 45 rfl) (by omega) ?_
  refine Z_lda (j := 3) (a := a) (kdA dt_law_12 46 rfl) hi.1 (by decide) hS ?_
  refine Z_cVi (c := 11) (as := [(0, a 1), (0, a 2), (0, a 3)]) (st := []) (kdA dt_law_12 47 rfl) rfl cl_MX11_hedge lkL_195 rfl rfl (Nat.le_of_ble_eq_true rfl) o_0 (Ci.mono (O_hedge d σ (by omega) hI) (fun x1 s1 h1 e1 => ?_))
  have hS1 := hS.mono e1
  refine Z_aload_n 2 (kdA dt_law_12 48 rfl) rfl rfl ?_
  refine Z_aload_n 0 (kdA dt_law_12 49 rfl) rfl rfl ?_
  refine Z_iload 4 (kdA dt_law_12 50 rfl) rfl ?_
  refine Z_iconst (kdA dt_law_12 51 rfl) (by decide) ?_
  refine Z_iadd (kdA dt_law_12 52 rfl) (by omega) ?_
  refine Z_lda (j := 1) (a := a) (kdA dt_law_12 53 rfl) hi.1 (by decide) hS1 ?_
  refine Z_aload_n 0 (kdA dt_law_12 54 rfl) rfl rfl ?_
  refine Z_iload 4 (kdA dt_law_12 55 rfl) rfl ?_
  refine Z_iconst (kdA dt_law_12 56 rfl) (by decide) ?_
  refine Z_iadd (kdA dt_law_12 57 rfl) (by omega) ?_
  refine Z_lda (j := 2) (a := a) (kdA dt_law_12 58 rfl) hi.1 (by decide) hS1 ?_
  refine Z_aload_n 0 (kdA dt_law_12 59 rfl) rfl rfl ?_
  refine Z_iload 4 (kdA dt_law_12 60 rfl) rfl ?_
  refine Z_iconst (kdA dt_law_12 61 rfl) (by decide) ?_
  refine Z_iadd (kdA dt_law_12 62 rfl) (by omega) ?_
  refine Z_lda (j := 3) (a := a) (kdA dt_law_12 63 rfl) hi.1 (by decide) hS1 ?_
  refine Z_cVi (c := 12) (as := [(0, a 1), (0, a 2), (0, a 3)]) (st := [(0, x1)]) (kdA dt_law_12 64 rfl) rfl cl_MX12_hedge lkL_198 rfl rfl (Nat.le_of_ble_eq_true rfl) o_166 (Ci.mono h1 (fun x2 s2 h2 e2 => ?_))
  refine Z_icmp_eq (tgt := 3047) (kdA dt_law_12 65 rfl) rfl (fun _ => ?_) (fun c => absurd h2.1 c)
  exact hK s2 h2.2 (e1.trans e2)
