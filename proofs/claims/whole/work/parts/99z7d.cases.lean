/-! the cases of the law, by program -/
theorem LC_39 {d : Nat} {nm : String} {F : kFin} {b : Nat × Nat} {i : Int} {a : Int → Int} {σ : kS} (hd : 62 ≤ d) (hI : Inv σ) (hS : SA σ i a) (hi : 0 ≤ i ∧ i ≤ 5000) (hK : ∀ s, Inv s → scrEq σ s → Z (d + 1) (MLaw nm) F b 3047 [(0, (2, -4)), (1, (2, 0)), (2, (2, 166)), (3, (2, 208)), (4, (0, i))] [] kN s) : Z (d + 1) (MLaw nm) F b 2427 [(0, (2, -4)), (1, (2, 0)), (2, (2, 166)), (3, (2, 208)), (4, (0, i))] [] kN σ := by
  refine Z_aload_n 1 (kdA dt_law_12 68 rfl) rfl rfl ?_
  refine Z_aload_n 0 (kdA dt_law_12 69 rfl) rfl rfl ?_
  refine Z_iload 4 (kdA dt_law_12 70 rfl) rfl ?_
  refine Z_iconst (kdA dt_law_12 71 rfl) (by decide) ?_
  refine Z_iadd (kdA dt_law_12 72 rfl) (by omega) ?_
  refine Z_lda (j := 1) (a := a) (kdA dt_law_12 73 rfl) hi.1 (by decide) hS ?_
  refine Z_aload_n 0 (kdA dt_law_12 74 rfl) rfl rfl ?_
  refine Z_iload 4 (kdA dt_law_12 75 rfl) rfl ?_
  refine Z_iconst (kdA dt_law_12 76 rfl) (by decide) ?_
  refine Z_iadd (kdA dt_law_12 77 rfl) (by omega) ?_
  refine Z_lda (j := 2) (a := a) (kdA dt_law_12 78 rfl) hi.1 (by decide) hS ?_
  refine Z_aload_n 0 (kdA dt_law_12 79 rfl) rfl rfl ?_
  refine Z_iload 4 (kdA dt_law_12 80 rfl) rfl ?_
  refine Z_iconst (kdA dt_law_12 81 rfl) (by decide) ?_
  refine Z_iadd (kdA dt_law_12 82 rfl) (by omega) ?_
  refine Z_lda (j := 3) (a := a) (kdA dt_law_12 83 rfl) hi.1 (by decide) hS ?_
  refine Z_wet (kdA dt_law_12 84 rfl) (kdA dt_law_12 85 rfl) (kdA dt_law_12 86 rfl) (kdA dt_law_12 87 rfl) ?_
  refine Z_aload_n 0 (kdA dt_law_12 88 rfl) rfl rfl ?_
  refine Z_iload 4 (kdA dt_law_12 89 rfl) rfl ?_
  refine Z_iconst (kdA dt_law_12 90 rfl) (by decide) ?_
  refine Z_iadd (kdA dt_law_12 91 rfl) (by omega) ?_
  refine Z_lda (j := 4) (a := a) (kdA dt_law_12 92 rfl) hi.1 (by decide) hS ?_
  refine Z_cVi (c := 11) (as := [(0, a 1), (0, a 2), (0, wtt (a 3)), (0, a 4)]) (st := []) (kdA dt_law_12 93 rfl) rfl cl_MX11_net lkL_199 rfl rfl (Nat.le_of_ble_eq_true rfl) o_0 (Ci.mono (O_net wtt_01 d σ (by omega) hI) (fun x1 s1 h1 e1 => ?_))
  have hS1 := hS.mono e1
  refine Z_aload_n 2 (kdA dt_law_12 94 rfl) rfl rfl ?_
  refine Z_aload_n 0 (kdA dt_law_12 95 rfl) rfl rfl ?_
  refine Z_iload 4 (kdA dt_law_12 96 rfl) rfl ?_
  refine Z_iconst (kdA dt_law_12 97 rfl) (by decide) ?_
  refine Z_iadd (kdA dt_law_12 98 rfl) (by omega) ?_
  refine Z_lda (j := 1) (a := a) (kdA dt_law_12 99 rfl) hi.1 (by decide) hS1 ?_
  refine Z_aload_n 0 (kdA dt_law_12 100 rfl) rfl rfl ?_
  refine Z_iload 4 (kdA dt_law_12 101 rfl) rfl ?_
  refine Z_iconst (kdA dt_law_12 102 rfl) (by decide) ?_
  refine Z_iadd (kdA dt_law_12 103 rfl) (by omega) ?_
  refine Z_lda (j := 2) (a := a) (kdA dt_law_12 104 rfl) hi.1 (by decide) hS1 ?_
  refine Z_aload_n 0 (kdA dt_law_12 105 rfl) rfl rfl ?_
  refine Z_iload 4 (kdA dt_law_12 106 rfl) rfl ?_
  refine Z_iconst (kdA dt_law_12 107 rfl) (by decide) ?_
  refine Z_iadd (kdA dt_law_12 108 rfl) (by omega) ?_
  refine Z_lda (j := 3) (a := a) (kdA dt_law_12 109 rfl) hi.1 (by decide) hS1 ?_
  refine Z_wet (kdA dt_law_12 110 rfl) (kdA dt_law_12 111 rfl) (kdA dt_law_12 112 rfl) (kdA dt_law_12 113 rfl) ?_
  refine Z_aload_n 0 (kdA dt_law_12 114 rfl) rfl rfl ?_
  refine Z_iload 4 (kdA dt_law_12 115 rfl) rfl ?_
  refine Z_iconst (kdA dt_law_12 116 rfl) (by decide) ?_
  refine Z_iadd (kdA dt_law_12 117 rfl) (by omega) ?_
  refine Z_lda (j := 4) (a := a) (kdA dt_law_12 118 rfl) hi.1 (by decide) hS1 ?_
  refine Z_cVi (c := 12) (as := [(0, a 1), (0, a 2), (0, wtt (a 3)), (0, a 4)]) (st := [(0, x1)]) (kdA dt_law_12 119 rfl) rfl cl_MX12_net lkL_202 rfl rfl (Nat.le_of_ble_eq_true rfl) o_166 (Ci.mono h1 (fun x2 s2 h2 e2 => ?_))
  refine Z_icmp_eq (tgt := 3047) (kdA dt_law_12 120 rfl) rfl (fun _ => ?_) (fun c => absurd h2.1 c)
  exact hK s2 h2.2 (e1.trans e2)
theorem LC_40 {d : Nat} {nm : String} {F : kFin} {b : Nat × Nat} {i : Int} {a : Int → Int} {σ : kS} (hd : 62 ≤ d) (hI : Inv σ) (hS : SA σ i a) (hi : 0 ≤ i ∧ i ≤ 5000) (hK : ∀ s, Inv s → scrEq σ s → Z (d + 1) (MLaw nm) F b 3047 [(0, (2, -4)), (1, (2, 0)), (2, (2, 166)), (3, (2, 208)), (4, (0, i))] [] kN s) : Z (d + 1) (MLaw nm) F b 2504 [(0, (2, -4)), (1, (2, 0)), (2, (2, 166)), (3, (2, 208)), (4, (0, i))] [] kN σ := by
  refine Z_aload_n 1 (kdA dt_law_12 123 rfl) rfl rfl ?_
  refine Z_aload_n 0 (kdA dt_law_12 124 rfl) rfl rfl ?_
  refine Z_iload 4 (kdA dt_law_12 125 rfl) rfl ?_
  refine Z_iconst (kdA dt_law_12 126 rfl) (by decide) ?_
  refine Z_iadd (kdA dt_law_12 127 rfl) (by omega) ?_
  refine Z_lda (j := 1) (a := a) (kdA dt_law_13 0 rfl) hi.1 (by decide) hS ?_
  refine Z_aload_n 0 (kdA dt_law_13 1 rfl) rfl rfl ?_
  refine Z_iload 4 (kdA dt_law_13 2 rfl) rfl ?_
  refine Z_iconst (kdA dt_law_13 3 rfl) (by decide) ?_
  refine Z_iadd (kdA dt_law_13 4 rfl) (by omega) ?_
  refine Z_lda (j := 2) (a := a) (kdA dt_law_13 5 rfl) hi.1 (by decide) hS ?_
  refine Z_aload_n 0 (kdA dt_law_13 6 rfl) rfl rfl ?_
  refine Z_iload 4 (kdA dt_law_13 7 rfl) rfl ?_
  refine Z_iconst (kdA dt_law_13 8 rfl) (by decide) ?_
  refine Z_iadd (kdA dt_law_13 9 rfl) (by omega) ?_
  refine Z_lda (j := 3) (a := a) (kdA dt_law_13 10 rfl) hi.1 (by decide) hS ?_
  refine Z_wet (kdA dt_law_13 11 rfl) (kdA dt_law_13 12 rfl) (kdA dt_law_13 13 rfl) (kdA dt_law_13 14 rfl) ?_
  refine Z_aload_n 0 (kdA dt_law_13 15 rfl) rfl rfl ?_
  refine Z_iload 4 (kdA dt_law_13 16 rfl) rfl ?_
  refine Z_iconst (kdA dt_law_13 17 rfl) (by decide) ?_
  refine Z_iadd (kdA dt_law_13 18 rfl) (by omega) ?_
  refine Z_lda (j := 4) (a := a) (kdA dt_law_13 19 rfl) hi.1 (by decide) hS ?_
  refine Z_i2l (kdA dt_law_13 20 rfl) ?_
  refine Z_bipush (kdA dt_law_13 21 rfl) (by decide) ?_
  refine Z_lshl (kdA dt_law_13 22 rfl) ?_
  refine Z_aload_n 0 (kdA dt_law_13 23 rfl) rfl rfl ?_
  refine Z_iload 4 (kdA dt_law_13 24 rfl) rfl ?_
  refine Z_iconst (kdA dt_law_13 25 rfl) (by decide) ?_
  refine Z_iadd (kdA dt_law_13 26 rfl) (by omega) ?_
  refine Z_lda (j := 5) (a := a) (kdA dt_law_13 27 rfl) hi.1 (by decide) hS ?_
  refine Z_i2l (kdA dt_law_13 28 rfl) ?_
  refine Z_ldc2 (x := 4294967295) (kdA dt_law_13 29 rfl) (tb9 67 rfl rfl) (by decide) ?_
  refine Z_land (kdA dt_law_13 30 rfl) ?_
  refine Z_lor (kdA dt_law_13 31 rfl) ?_
  refine Z_aload_n 0 (kdA dt_law_13 32 rfl) rfl rfl ?_
  refine Z_iload 4 (kdA dt_law_13 33 rfl) rfl ?_
  refine Z_bipush (kdA dt_law_13 34 rfl) (by decide) ?_
  refine Z_iadd (kdA dt_law_13 35 rfl) (by omega) ?_
  refine Z_lda (j := 6) (a := a) (kdA dt_law_13 36 rfl) hi.1 (by decide) hS ?_
  refine Z_aload_n 0 (kdA dt_law_13 37 rfl) rfl rfl ?_
  refine Z_iload 4 (kdA dt_law_13 38 rfl) rfl ?_
  refine Z_bipush (kdA dt_law_13 39 rfl) (by decide) ?_
  refine Z_iadd (kdA dt_law_13 40 rfl) (by omega) ?_
  refine Z_lda (j := 7) (a := a) (kdA dt_law_13 41 rfl) hi.1 (by decide) hS ?_
  refine Z_cVi (c := 11) (as := [(0, a 1), (0, a 2), (0, wtt (a 3)), (1, klor (klshl (a 4) 32) (kland (a 5) 4294967295)), (0, a 6), (0, a 7)]) (st := []) (kdA dt_law_13 42 rfl) rfl cl_MX11_feet lkL_205 rfl rfl (Nat.le_of_ble_eq_true rfl) o_0 (Ci.mono (O_feet wtt_01 d σ (by omega) hI) (fun x1 s1 h1 e1 => ?_))
  have hS1 := hS.mono e1
  refine Z_aload_n 2 (kdA dt_law_13 43 rfl) rfl rfl ?_
  refine Z_aload_n 0 (kdA dt_law_13 44 rfl) rfl rfl ?_
  refine Z_iload 4 (kdA dt_law_13 45 rfl) rfl ?_
  refine Z_iconst (kdA dt_law_13 46 rfl) (by decide) ?_
  refine Z_iadd (kdA dt_law_13 47 rfl) (by omega) ?_
  refine Z_lda (j := 1) (a := a) (kdA dt_law_13 48 rfl) hi.1 (by decide) hS1 ?_
  refine Z_aload_n 0 (kdA dt_law_13 49 rfl) rfl rfl ?_
  refine Z_iload 4 (kdA dt_law_13 50 rfl) rfl ?_
  refine Z_iconst (kdA dt_law_13 51 rfl) (by decide) ?_
  refine Z_iadd (kdA dt_law_13 52 rfl) (by omega) ?_
  refine Z_lda (j := 2) (a := a) (kdA dt_law_13 53 rfl) hi.1 (by decide) hS1 ?_
  refine Z_aload_n 0 (kdA dt_law_13 54 rfl) rfl rfl ?_
  refine Z_iload 4 (kdA dt_law_13 55 rfl) rfl ?_
  refine Z_iconst (kdA dt_law_13 56 rfl) (by decide) ?_
  refine Z_iadd (kdA dt_law_13 57 rfl) (by omega) ?_
  refine Z_lda (j := 3) (a := a) (kdA dt_law_13 58 rfl) hi.1 (by decide) hS1 ?_
  refine Z_wet (kdA dt_law_13 59 rfl) (kdA dt_law_13 60 rfl) (kdA dt_law_13 61 rfl) (kdA dt_law_13 62 rfl) ?_
  refine Z_aload_n 0 (kdA dt_law_13 63 rfl) rfl rfl ?_
  refine Z_iload 4 (kdA dt_law_13 64 rfl) rfl ?_
  refine Z_iconst (kdA dt_law_13 65 rfl) (by decide) ?_
  refine Z_iadd (kdA dt_law_13 66 rfl) (by omega) ?_
  refine Z_lda (j := 4) (a := a) (kdA dt_law_13 67 rfl) hi.1 (by decide) hS1 ?_
  refine Z_i2l (kdA dt_law_13 68 rfl) ?_
  refine Z_bipush (kdA dt_law_13 69 rfl) (by decide) ?_
  refine Z_lshl (kdA dt_law_13 70 rfl) ?_
  refine Z_aload_n 0 (kdA dt_law_13 71 rfl) rfl rfl ?_
  refine Z_iload 4 (kdA dt_law_13 72 rfl) rfl ?_
  refine Z_iconst (kdA dt_law_13 73 rfl) (by decide) ?_
  refine Z_iadd (kdA dt_law_13 74 rfl) (by omega) ?_
  refine Z_lda (j := 5) (a := a) (kdA dt_law_13 75 rfl) hi.1 (by decide) hS1 ?_
  refine Z_i2l (kdA dt_law_13 76 rfl) ?_
  refine Z_ldc2 (x := 4294967295) (kdA dt_law_13 77 rfl) (tb9 67 rfl rfl) (by decide) ?_
  refine Z_land (kdA dt_law_13 78 rfl) ?_
  refine Z_lor (kdA dt_law_13 79 rfl) ?_
  refine Z_aload_n 0 (kdA dt_law_13 80 rfl) rfl rfl ?_
  refine Z_iload 4 (kdA dt_law_13 81 rfl) rfl ?_
  refine Z_bipush (kdA dt_law_13 82 rfl) (by decide) ?_
  refine Z_iadd (kdA dt_law_13 83 rfl) (by omega) ?_
  refine Z_lda (j := 6) (a := a) (kdA dt_law_13 84 rfl) hi.1 (by decide) hS1 ?_
  refine Z_aload_n 0 (kdA dt_law_13 85 rfl) rfl rfl ?_
  refine Z_iload 4 (kdA dt_law_13 86 rfl) rfl ?_
  refine Z_bipush (kdA dt_law_13 87 rfl) (by decide) ?_
  refine Z_iadd (kdA dt_law_13 88 rfl) (by omega) ?_
  refine Z_lda (j := 7) (a := a) (kdA dt_law_13 89 rfl) hi.1 (by decide) hS1 ?_
  refine Z_cVi (c := 12) (as := [(0, a 1), (0, a 2), (0, wtt (a 3)), (1, klor (klshl (a 4) 32) (kland (a 5) 4294967295)), (0, a 6), (0, a 7)]) (st := [(0, x1)]) (kdA dt_law_13 90 rfl) rfl cl_MX12_feet lkL_209 rfl rfl (Nat.le_of_ble_eq_true rfl) o_166 (Ci.mono h1 (fun x2 s2 h2 e2 => ?_))
  refine Z_icmp_eq (tgt := 3047) (kdA dt_law_13 91 rfl) rfl (fun _ => ?_) (fun c => absurd h2.1 c)
  exact hK s2 h2.2 (e1.trans e2)
theorem LC_41 {d : Nat} {nm : String} {F : kFin} {b : Nat × Nat} {i : Int} {a : Int → Int} {σ : kS} (hd : 62 ≤ d) (hI : Inv σ) (hS : SA σ i a) (hi : 0 ≤ i ∧ i ≤ 5000) (hK : ∀ s, Inv s → scrEq σ s → Z (d + 1) (MLaw nm) F b 3047 [(0, (2, -4)), (1, (2, 0)), (2, (2, 166)), (3, (2, 208)), (4, (0, i))] [] kN s) : Z (d + 1) (MLaw nm) F b 2641 [(0, (2, -4)), (1, (2, 0)), (2, (2, 166)), (3, (2, 208)), (4, (0, i))] [] kN σ := by
  refine Z_aload_n 1 (kdA dt_law_13 94 rfl) rfl rfl ?_
  refine Z_aload_n 0 (kdA dt_law_13 95 rfl) rfl rfl ?_
  refine Z_iload 4 (kdA dt_law_13 96 rfl) rfl ?_
  refine Z_iconst (kdA dt_law_13 97 rfl) (by decide) ?_
  refine Z_iadd (kdA dt_law_13 98 rfl) (by omega) ?_
  refine Z_lda (j := 1) (a := a) (kdA dt_law_13 99 rfl) hi.1 (by decide) hS ?_
  refine Z_cVi (c := 11) (as := [(0, a 1)]) (st := []) (kdA dt_law_13 100 rfl) rfl cl_MX11_trodden lkL_210 rfl rfl (Nat.le_of_ble_eq_true rfl) o_0 (Ci.mono (O_trodden d σ (by omega) hI) (fun x1 s1 h1 e1 => ?_))
  have hS1 := hS.mono e1
  refine Z_aload_n 2 (kdA dt_law_13 101 rfl) rfl rfl ?_
  refine Z_aload_n 0 (kdA dt_law_13 102 rfl) rfl rfl ?_
  refine Z_iload 4 (kdA dt_law_13 103 rfl) rfl ?_
  refine Z_iconst (kdA dt_law_13 104 rfl) (by decide) ?_
  refine Z_iadd (kdA dt_law_13 105 rfl) (by omega) ?_
  refine Z_lda (j := 1) (a := a) (kdA dt_law_13 106 rfl) hi.1 (by decide) hS1 ?_
  refine Z_cVi (c := 12) (as := [(0, a 1)]) (st := [(0, x1)]) (kdA dt_law_13 107 rfl) rfl cl_MX12_trodden lkL_213 rfl rfl (Nat.le_of_ble_eq_true rfl) o_166 (Ci.mono h1 (fun x2 s2 h2 e2 => ?_))
  refine Z_icmp_eq (tgt := 3047) (kdA dt_law_13 108 rfl) rfl (fun _ => ?_) (fun c => absurd h2.1 c)
  exact hK s2 h2.2 (e1.trans e2)
theorem LC_42 {d : Nat} {nm : String} {F : kFin} {b : Nat × Nat} {i : Int} {a : Int → Int} {σ : kS} (hd : 62 ≤ d) (hI : Inv σ) (hS : SA σ i a) (hi : 0 ≤ i ∧ i ≤ 5000) (hK : ∀ s, Inv s → scrEq σ s → Z (d + 1) (MLaw nm) F b 3047 [(0, (2, -4)), (1, (2, 0)), (2, (2, 166)), (3, (2, 208)), (4, (0, i))] [] kN s) : Z (d + 1) (MLaw nm) F b 2666 [(0, (2, -4)), (1, (2, 0)), (2, (2, 166)), (3, (2, 208)), (4, (0, i))] [] kN σ := by
  refine Z_aload_n 1 (kdA dt_law_13 111 rfl) rfl rfl ?_
  refine Z_aload_n 0 (kdA dt_law_13 112 rfl) rfl rfl ?_
  refine Z_iload 4 (kdA dt_law_13 113 rfl) rfl ?_
  refine Z_iconst (kdA dt_law_13 114 rfl) (by decide) ?_
  refine Z_iadd (kdA dt_law_13 115 rfl) (by omega) ?_
  refine Z_lda (j := 1) (a := a) (kdA dt_law_13 116 rfl) hi.1 (by decide) hS ?_
  refine Z_cVi (c := 11) (as := [(0, a 1)]) (st := []) (kdA dt_law_13 117 rfl) rfl cl_MX11_trips lkL_214 rfl rfl (Nat.le_of_ble_eq_true rfl) o_0 (Ci.mono (O_trips d σ (by omega) hI) (fun x1 s1 h1 e1 => ?_))
  have hS1 := hS.mono e1
  refine Z_aload_n 2 (kdA dt_law_13 118 rfl) rfl rfl ?_
  refine Z_aload_n 0 (kdA dt_law_13 119 rfl) rfl rfl ?_
  refine Z_iload 4 (kdA dt_law_13 120 rfl) rfl ?_
  refine Z_iconst (kdA dt_law_13 121 rfl) (by decide) ?_
  refine Z_iadd (kdA dt_law_13 122 rfl) (by omega) ?_
  refine Z_lda (j := 1) (a := a) (kdA dt_law_13 123 rfl) hi.1 (by decide) hS1 ?_
  refine Z_cVi (c := 12) (as := [(0, a 1)]) (st := [(0, x1)]) (kdA dt_law_13 124 rfl) rfl cl_MX12_trips lkL_217 rfl rfl (Nat.le_of_ble_eq_true rfl) o_166 (Ci.mono h1 (fun x2 s2 h2 e2 => ?_))
  refine Z_icmp_eq (tgt := 3047) (kdA dt_law_13 125 rfl) rfl (fun _ => ?_) (fun c => absurd h2.1 c)
  exact hK s2 h2.2 (e1.trans e2)
theorem LC_43 {d : Nat} {nm : String} {F : kFin} {b : Nat × Nat} {i : Int} {a : Int → Int} {σ : kS} (hd : 62 ≤ d) (hI : Inv σ) (hS : SA σ i a) (hi : 0 ≤ i ∧ i ≤ 5000) (hK : ∀ s, Inv s → scrEq σ s → Z (d + 1) (MLaw nm) F b 3047 [(0, (2, -4)), (1, (2, 0)), (2, (2, 166)), (3, (2, 208)), (4, (0, i))] [] kN s) : Z (d + 1) (MLaw nm) F b 2691 [(0, (2, -4)), (1, (2, 0)), (2, (2, 166)), (3, (2, 208)), (4, (0, i))] [] kN σ := by
  refine Z_aload_n 1 (kdA dt_law_14 0 rfl) rfl rfl ?_
  refine Z_aload_n 0 (kdA dt_law_14 1 rfl) rfl rfl ?_
  refine Z_iload 4 (kdA dt_law_14 2 rfl) rfl ?_
  refine Z_iconst (kdA dt_law_14 3 rfl) (by decide) ?_
  refine Z_iadd (kdA dt_law_14 4 rfl) (by omega) ?_
  refine Z_lda (j := 1) (a := a) (kdA dt_law_14 5 rfl) hi.1 (by decide) hS ?_
  refine Z_cVi (c := 11) (as := [(0, a 1)]) (st := []) (kdA dt_law_14 6 rfl) rfl cl_MX11_worn lkL_218 rfl rfl (Nat.le_of_ble_eq_true rfl) o_0 (Ci.mono (O_worn d σ (by omega) hI) (fun x1 s1 h1 e1 => ?_))
  have hS1 := hS.mono e1
  refine Z_aload_n 2 (kdA dt_law_14 7 rfl) rfl rfl ?_
  refine Z_aload_n 0 (kdA dt_law_14 8 rfl) rfl rfl ?_
  refine Z_iload 4 (kdA dt_law_14 9 rfl) rfl ?_
  refine Z_iconst (kdA dt_law_14 10 rfl) (by decide) ?_
  refine Z_iadd (kdA dt_law_14 11 rfl) (by omega) ?_
  refine Z_lda (j := 1) (a := a) (kdA dt_law_14 12 rfl) hi.1 (by decide) hS1 ?_
  refine Z_cVi (c := 12) (as := [(0, a 1)]) (st := [(0, x1)]) (kdA dt_law_14 13 rfl) rfl cl_MX12_worn lkL_221 rfl rfl (Nat.le_of_ble_eq_true rfl) o_166 (Ci.mono h1 (fun x2 s2 h2 e2 => ?_))
  refine Z_icmp_eq (tgt := 3047) (kdA dt_law_14 14 rfl) rfl (fun _ => ?_) (fun c => absurd h2.1 c)
  exact hK s2 h2.2 (e1.trans e2)
theorem LC_44 {d : Nat} {nm : String} {F : kFin} {b : Nat × Nat} {i : Int} {a : Int → Int} {σ : kS} (hd : 62 ≤ d) (hI : Inv σ) (hS : SA σ i a) (hi : 0 ≤ i ∧ i ≤ 5000) (hK : ∀ s, Inv s → scrEq σ s → Z (d + 1) (MLaw nm) F b 3047 [(0, (2, -4)), (1, (2, 0)), (2, (2, 166)), (3, (2, 208)), (4, (0, i))] [] kN s) : Z (d + 1) (MLaw nm) F b 2716 [(0, (2, -4)), (1, (2, 0)), (2, (2, 166)), (3, (2, 208)), (4, (0, i))] [] kN σ := by
  refine Z_aload_n 1 (kdA dt_law_14 17 rfl) rfl rfl ?_
  refine Z_aload_n 0 (kdA dt_law_14 18 rfl) rfl rfl ?_
  refine Z_iload 4 (kdA dt_law_14 19 rfl) rfl ?_
  refine Z_iconst (kdA dt_law_14 20 rfl) (by decide) ?_
  refine Z_iadd (kdA dt_law_14 21 rfl) (by omega) ?_
  refine Z_lda (j := 1) (a := a) (kdA dt_law_14 22 rfl) hi.1 (by decide) hS ?_
  refine Z_aload_n 0 (kdA dt_law_14 23 rfl) rfl rfl ?_
  refine Z_iload 4 (kdA dt_law_14 24 rfl) rfl ?_
  refine Z_iconst (kdA dt_law_14 25 rfl) (by decide) ?_
  refine Z_iadd (kdA dt_law_14 26 rfl) (by omega) ?_
  refine Z_lda (j := 2) (a := a) (kdA dt_law_14 27 rfl) hi.1 (by decide) hS ?_
  refine Z_cVi (c := 11) (as := [(0, a 1), (0, a 2)]) (st := []) (kdA dt_law_14 28 rfl) rfl cl_MX11_alike lkL_222 rfl rfl (Nat.le_of_ble_eq_true rfl) o_0 (Ci.mono (O_alike d σ (by omega) hI) (fun x1 s1 h1 e1 => ?_))
  have hS1 := hS.mono e1
  refine Z_aload_n 2 (kdA dt_law_14 29 rfl) rfl rfl ?_
  refine Z_aload_n 0 (kdA dt_law_14 30 rfl) rfl rfl ?_
  refine Z_iload 4 (kdA dt_law_14 31 rfl) rfl ?_
  refine Z_iconst (kdA dt_law_14 32 rfl) (by decide) ?_
  refine Z_iadd (kdA dt_law_14 33 rfl) (by omega) ?_
  refine Z_lda (j := 1) (a := a) (kdA dt_law_14 34 rfl) hi.1 (by decide) hS1 ?_
  refine Z_aload_n 0 (kdA dt_law_14 35 rfl) rfl rfl ?_
  refine Z_iload 4 (kdA dt_law_14 36 rfl) rfl ?_
  refine Z_iconst (kdA dt_law_14 37 rfl) (by decide) ?_
  refine Z_iadd (kdA dt_law_14 38 rfl) (by omega) ?_
  refine Z_lda (j := 2) (a := a) (kdA dt_law_14 39 rfl) hi.1 (by decide) hS1 ?_
  refine Z_cVi (c := 12) (as := [(0, a 1), (0, a 2)]) (st := [(0, x1)]) (kdA dt_law_14 40 rfl) rfl cl_MX12_alike lkL_225 rfl rfl (Nat.le_of_ble_eq_true rfl) o_166 (Ci.mono h1 (fun x2 s2 h2 e2 => ?_))
  refine Z_icmp_eq (tgt := 3047) (kdA dt_law_14 41 rfl) rfl (fun _ => ?_) (fun c => absurd h2.1 c)
  exact hK s2 h2.2 (e1.trans e2)
theorem LC_45 {d : Nat} {nm : String} {F : kFin} {b : Nat × Nat} {i : Int} {a : Int → Int} {σ : kS} (hd : 62 ≤ d) (hI : Inv σ) (hS : SA σ i a) (hi : 0 ≤ i ∧ i ≤ 5000) (hK : ∀ s, Inv s → scrEq σ s → Z (d + 1) (MLaw nm) F b 3047 [(0, (2, -4)), (1, (2, 0)), (2, (2, 166)), (3, (2, 208)), (4, (0, i))] [] kN s) : Z (d + 1) (MLaw nm) F b 2753 [(0, (2, -4)), (1, (2, 0)), (2, (2, 166)), (3, (2, 208)), (4, (0, i))] [] kN σ := by
  refine Z_aload_n 1 (kdA dt_law_14 44 rfl) rfl rfl ?_
  refine Z_cVi (c := 11) (as := []) (st := []) (kdA dt_law_14 45 rfl) rfl cl_MX11_era lkL_226 rfl rfl (Nat.le_of_ble_eq_true rfl) o_0 (Ci.mono (O_era d σ (by omega) hI) (fun x1 s1 h1 e1 => ?_))
  have hS1 := hS.mono e1
  refine Z_aload_n 2 (kdA dt_law_14 46 rfl) rfl rfl ?_
  refine Z_cVi (c := 12) (as := []) (st := [(0, x1)]) (kdA dt_law_14 47 rfl) rfl cl_MX12_era lkL_229 rfl rfl (Nat.le_of_ble_eq_true rfl) o_166 (Ci.mono h1 (fun x2 s2 h2 e2 => ?_))
  refine Z_icmp_eq (tgt := 3047) (kdA dt_law_14 48 rfl) rfl (fun _ => ?_) (fun c => absurd h2.1 c)
  exact hK s2 h2.2 (e1.trans e2)
theorem LC_46 {d : Nat} {nm : String} {F : kFin} {b : Nat × Nat} {i : Int} {a : Int → Int} {σ : kS} (hd : 62 ≤ d) (hI : Inv σ) (hS : SA σ i a) (hi : 0 ≤ i ∧ i ≤ 5000) (hK : ∀ s, Inv s → scrEq σ s → Z (d + 1) (MLaw nm) F b 3047 [(0, (2, -4)), (1, (2, 0)), (2, (2, 166)), (3, (2, 208)), (4, (0, i))] [] kN s) : Z (d + 1) (MLaw nm) F b 2766 [(0, (2, -4)), (1, (2, 0)), (2, (2, 166)), (3, (2, 208)), (4, (0, i))] [] kN σ := by
  refine Z_aload_n 1 (kdA dt_law_14 51 rfl) rfl rfl ?_
  refine Z_aload_n 0 (kdA dt_law_14 52 rfl) rfl rfl ?_
  refine Z_iload 4 (kdA dt_law_14 53 rfl) rfl ?_
  refine Z_iconst (kdA dt_law_14 54 rfl) (by decide) ?_
  refine Z_iadd (kdA dt_law_14 55 rfl) (by omega) ?_
  refine Z_lda (j := 1) (a := a) (kdA dt_law_14 56 rfl) hi.1 (by decide) hS ?_
  refine Z_cVi (c := 11) (as := [(0, a 1)]) (st := []) (kdA dt_law_14 57 rfl) rfl cl_MX11_bring lkL_230 rfl rfl (Nat.le_of_ble_eq_true rfl) o_0 (Ci.mono (O_bring d σ (by omega) hI) (fun x1 s1 h1 e1 => ?_))
  have hS1 := hS.mono e1
  refine Z_aload_n 2 (kdA dt_law_14 58 rfl) rfl rfl ?_
  refine Z_aload_n 0 (kdA dt_law_14 59 rfl) rfl rfl ?_
  refine Z_iload 4 (kdA dt_law_14 60 rfl) rfl ?_
  refine Z_iconst (kdA dt_law_14 61 rfl) (by decide) ?_
  refine Z_iadd (kdA dt_law_14 62 rfl) (by omega) ?_
  refine Z_lda (j := 1) (a := a) (kdA dt_law_14 63 rfl) hi.1 (by decide) hS1 ?_
  refine Z_cVi (c := 12) (as := [(0, a 1)]) (st := [(0, x1)]) (kdA dt_law_14 64 rfl) rfl cl_MX12_bring lkL_233 rfl rfl (Nat.le_of_ble_eq_true rfl) o_166 (Ci.mono h1 (fun x2 s2 h2 e2 => ?_))
  refine Z_icmp_eq (tgt := 3047) (kdA dt_law_14 65 rfl) rfl (fun _ => ?_) (fun c => absurd h2.1 c)
  exact hK s2 h2.2 (e1.trans e2)
theorem LC_47 {d : Nat} {nm : String} {F : kFin} {b : Nat × Nat} {i : Int} {a : Int → Int} {σ : kS} (hd : 62 ≤ d) (hI : Inv σ) (hS : SA σ i a) (hi : 0 ≤ i ∧ i ≤ 5000) (hK : ∀ s, Inv s → scrEq σ s → Z (d + 1) (MLaw nm) F b 3047 [(0, (2, -4)), (1, (2, 0)), (2, (2, 166)), (3, (2, 208)), (4, (0, i))] [] kN s) : Z (d + 1) (MLaw nm) F b 2791 [(0, (2, -4)), (1, (2, 0)), (2, (2, 166)), (3, (2, 208)), (4, (0, i))] [] kN σ := by
  refine Z_aload_n 1 (kdA dt_law_14 68 rfl) rfl rfl ?_
  refine Z_aload_n 0 (kdA dt_law_14 69 rfl) rfl rfl ?_
  refine Z_iload 4 (kdA dt_law_14 70 rfl) rfl ?_
  refine Z_iconst (kdA dt_law_14 71 rfl) (by decide) ?_
  refine Z_iadd (kdA dt_law_14 72 rfl) (by omega) ?_
  refine Z_lda (j := 1) (a := a) (kdA dt_law_14 73 rfl) hi.1 (by decide) hS ?_
  refine Z_cVi (c := 11) (as := [(0, a 1)]) (st := []) (kdA dt_law_14 74 rfl) rfl cl_MX11_changed lkL_234 rfl rfl (Nat.le_of_ble_eq_true rfl) o_0 (Ci.mono (O_changed d σ (by omega) hI) (fun x1 s1 h1 e1 => ?_))
  have hS1 := hS.mono e1
  refine Z_aload_n 2 (kdA dt_law_14 75 rfl) rfl rfl ?_
  refine Z_aload_n 0 (kdA dt_law_14 76 rfl) rfl rfl ?_
  refine Z_iload 4 (kdA dt_law_14 77 rfl) rfl ?_
  refine Z_iconst (kdA dt_law_14 78 rfl) (by decide) ?_
  refine Z_iadd (kdA dt_law_14 79 rfl) (by omega) ?_
  refine Z_lda (j := 1) (a := a) (kdA dt_law_14 80 rfl) hi.1 (by decide) hS1 ?_
  refine Z_cVi (c := 12) (as := [(0, a 1)]) (st := [(0, x1)]) (kdA dt_law_14 81 rfl) rfl cl_MX12_changed lkL_237 rfl rfl (Nat.le_of_ble_eq_true rfl) o_166 (Ci.mono h1 (fun x2 s2 h2 e2 => ?_))
  refine Z_icmp_eq (tgt := 3047) (kdA dt_law_14 82 rfl) rfl (fun _ => ?_) (fun c => absurd h2.1 c)
  exact hK s2 h2.2 (e1.trans e2)
theorem LC_48 {d : Nat} {nm : String} {F : kFin} {b : Nat × Nat} {i : Int} {a : Int → Int} {σ : kS} (hd : 62 ≤ d) (hI : Inv σ) (hS : SA σ i a) (hi : 0 ≤ i ∧ i ≤ 5000) (hK : ∀ s, Inv s → scrEq σ s → Z (d + 1) (MLaw nm) F b 3047 [(0, (2, -4)), (1, (2, 0)), (2, (2, 166)), (3, (2, 208)), (4, (0, i))] [] kN s) : Z (d + 1) (MLaw nm) F b 2816 [(0, (2, -4)), (1, (2, 0)), (2, (2, 166)), (3, (2, 208)), (4, (0, i))] [] kN σ := by
  refine Z_aload_n 1 (kdA dt_law_14 85 rfl) rfl rfl ?_
  refine Z_aload_n 0 (kdA dt_law_14 86 rfl) rfl rfl ?_
  refine Z_iload 4 (kdA dt_law_14 87 rfl) rfl ?_
  refine Z_iconst (kdA dt_law_14 88 rfl) (by decide) ?_
  refine Z_iadd (kdA dt_law_14 89 rfl) (by omega) ?_
  refine Z_lda (j := 1) (a := a) (kdA dt_law_14 90 rfl) hi.1 (by decide) hS ?_
  refine Z_aload_n 0 (kdA dt_law_14 91 rfl) rfl rfl ?_
  refine Z_iload 4 (kdA dt_law_14 92 rfl) rfl ?_
  refine Z_iconst (kdA dt_law_14 93 rfl) (by decide) ?_
  refine Z_iadd (kdA dt_law_14 94 rfl) (by omega) ?_
  refine Z_lda (j := 2) (a := a) (kdA dt_law_14 95 rfl) hi.1 (by decide) hS ?_
  refine Z_aload_n 0 (kdA dt_law_14 96 rfl) rfl rfl ?_
  refine Z_iload 4 (kdA dt_law_14 97 rfl) rfl ?_
  refine Z_iconst (kdA dt_law_14 98 rfl) (by decide) ?_
  refine Z_iadd (kdA dt_law_14 99 rfl) (by omega) ?_
  refine Z_lda (j := 3) (a := a) (kdA dt_law_14 100 rfl) hi.1 (by decide) hS ?_
  refine Z_aload_n 0 (kdA dt_law_14 101 rfl) rfl rfl ?_
  refine Z_iload 4 (kdA dt_law_14 102 rfl) rfl ?_
  refine Z_iconst (kdA dt_law_14 103 rfl) (by decide) ?_
  refine Z_iadd (kdA dt_law_14 104 rfl) (by omega) ?_
  refine Z_lda (j := 4) (a := a) (kdA dt_law_14 105 rfl) hi.1 (by decide) hS ?_
  refine Z_wet (kdA dt_law_14 106 rfl) (kdA dt_law_14 107 rfl) (kdA dt_law_14 108 rfl) (kdA dt_law_14 109 rfl) ?_
  refine Z_aload_n 0 (kdA dt_law_14 110 rfl) rfl rfl ?_
  refine Z_iload 4 (kdA dt_law_14 111 rfl) rfl ?_
  refine Z_iconst (kdA dt_law_14 112 rfl) (by decide) ?_
  refine Z_iadd (kdA dt_law_14 113 rfl) (by omega) ?_
  refine Z_lda (j := 5) (a := a) (kdA dt_law_14 114 rfl) hi.1 (by decide) hS ?_
  refine Z_aload_n 0 (kdA dt_law_14 115 rfl) rfl rfl ?_
  refine Z_iload 4 (kdA dt_law_14 116 rfl) rfl ?_
  refine Z_bipush (kdA dt_law_14 117 rfl) (by decide) ?_
  refine Z_iadd (kdA dt_law_14 118 rfl) (by omega) ?_
  refine Z_lda (j := 6) (a := a) (kdA dt_law_14 119 rfl) hi.1 (by decide) hS ?_
  refine Z_aload_n 0 (kdA dt_law_14 120 rfl) rfl rfl ?_
  refine Z_iload 4 (kdA dt_law_14 121 rfl) rfl ?_
  refine Z_bipush (kdA dt_law_14 122 rfl) (by decide) ?_
  refine Z_iadd (kdA dt_law_14 123 rfl) (by omega) ?_
  refine Z_lda (j := 7) (a := a) (kdA dt_law_14 124 rfl) hi.1 (by decide) hS ?_
  refine Z_cVi (c := 11) (as := [(0, a 1), (0, a 2), (0, a 3), (0, wtt (a 4)), (0, a 5), (0, a 6), (0, a 7)]) (st := []) (kdA dt_law_14 125 rfl) rfl cl_MX11_then lkL_238 rfl rfl (Nat.le_of_ble_eq_true rfl) o_0 (Ci.mono (O_then wtt_01 d σ (by omega) hI) (fun x1 s1 h1 e1 => ?_))
  have hS1 := hS.mono e1
  refine Z_aload_n 2 (kdA dt_law_14 126 rfl) rfl rfl ?_
  refine Z_aload_n 0 (kdA dt_law_14 127 rfl) rfl rfl ?_
  refine Z_iload 4 (kdA dt_law_15 0 rfl) rfl ?_
  refine Z_iconst (kdA dt_law_15 1 rfl) (by decide) ?_
  refine Z_iadd (kdA dt_law_15 2 rfl) (by omega) ?_
  refine Z_lda (j := 1) (a := a) (kdA dt_law_15 3 rfl) hi.1 (by decide) hS1 ?_
  refine Z_aload_n 0 (kdA dt_law_15 4 rfl) rfl rfl ?_
  refine Z_iload 4 (kdA dt_law_15 5 rfl) rfl ?_
  refine Z_iconst (kdA dt_law_15 6 rfl) (by decide) ?_
  refine Z_iadd (kdA dt_law_15 7 rfl) (by omega) ?_
  refine Z_lda (j := 2) (a := a) (kdA dt_law_15 8 rfl) hi.1 (by decide) hS1 ?_
  refine Z_aload_n 0 (kdA dt_law_15 9 rfl) rfl rfl ?_
  refine Z_iload 4 (kdA dt_law_15 10 rfl) rfl ?_
  refine Z_iconst (kdA dt_law_15 11 rfl) (by decide) ?_
  refine Z_iadd (kdA dt_law_15 12 rfl) (by omega) ?_
  refine Z_lda (j := 3) (a := a) (kdA dt_law_15 13 rfl) hi.1 (by decide) hS1 ?_
  refine Z_aload_n 0 (kdA dt_law_15 14 rfl) rfl rfl ?_
  refine Z_iload 4 (kdA dt_law_15 15 rfl) rfl ?_
  refine Z_iconst (kdA dt_law_15 16 rfl) (by decide) ?_
  refine Z_iadd (kdA dt_law_15 17 rfl) (by omega) ?_
  refine Z_lda (j := 4) (a := a) (kdA dt_law_15 18 rfl) hi.1 (by decide) hS1 ?_
  refine Z_wet (kdA dt_law_15 19 rfl) (kdA dt_law_15 20 rfl) (kdA dt_law_15 21 rfl) (kdA dt_law_15 22 rfl) ?_
  refine Z_aload_n 0 (kdA dt_law_15 23 rfl) rfl rfl ?_
  refine Z_iload 4 (kdA dt_law_15 24 rfl) rfl ?_
  refine Z_iconst (kdA dt_law_15 25 rfl) (by decide) ?_
  refine Z_iadd (kdA dt_law_15 26 rfl) (by omega) ?_
  refine Z_lda (j := 5) (a := a) (kdA dt_law_15 27 rfl) hi.1 (by decide) hS1 ?_
  refine Z_aload_n 0 (kdA dt_law_15 28 rfl) rfl rfl ?_
  refine Z_iload 4 (kdA dt_law_15 29 rfl) rfl ?_
  refine Z_bipush (kdA dt_law_15 30 rfl) (by decide) ?_
  refine Z_iadd (kdA dt_law_15 31 rfl) (by omega) ?_
  refine Z_lda (j := 6) (a := a) (kdA dt_law_15 32 rfl) hi.1 (by decide) hS1 ?_
  refine Z_aload_n 0 (kdA dt_law_15 33 rfl) rfl rfl ?_
  refine Z_iload 4 (kdA dt_law_15 34 rfl) rfl ?_
  refine Z_bipush (kdA dt_law_15 35 rfl) (by decide) ?_
  refine Z_iadd (kdA dt_law_15 36 rfl) (by omega) ?_
  refine Z_lda (j := 7) (a := a) (kdA dt_law_15 37 rfl) hi.1 (by decide) hS1 ?_
  refine Z_cVi (c := 12) (as := [(0, a 1), (0, a 2), (0, a 3), (0, wtt (a 4)), (0, a 5), (0, a 6), (0, a 7)]) (st := [(0, x1)]) (kdA dt_law_15 38 rfl) rfl cl_MX12_then lkL_242 rfl rfl (Nat.le_of_ble_eq_true rfl) o_166 (Ci.mono h1 (fun x2 s2 h2 e2 => ?_))
  refine Z_icmp_eq (tgt := 3047) (kdA dt_law_15 39 rfl) rfl (fun _ => ?_) (fun c => absurd h2.1 c)
  exact hK s2 h2.2 (e1.trans e2)
theorem LC_49 {d : Nat} {nm : String} {F : kFin} {b : Nat × Nat} {i : Int} {a : Int → Int} {σ : kS} (hd : 62 ≤ d) (hI : Inv σ) (hS : SA σ i a) (hi : 0 ≤ i ∧ i ≤ 5000) (hK : ∀ s, Inv s → scrEq σ s → Z (d + 1) (MLaw nm) F b 3047 [(0, (2, -4)), (1, (2, 0)), (2, (2, 166)), (3, (2, 208)), (4, (0, i))] [] kN s) : Z (d + 1) (MLaw nm) F b 2933 [(0, (2, -4)), (1, (2, 0)), (2, (2, 166)), (3, (2, 208)), (4, (0, i))] [] kN σ := by
  refine Z_aload_n 1 (kdA dt_law_15 42 rfl) rfl rfl ?_
  refine Z_aload_n 0 (kdA dt_law_15 43 rfl) rfl rfl ?_
  refine Z_iload 4 (kdA dt_law_15 44 rfl) rfl ?_
  refine Z_iconst (kdA dt_law_15 45 rfl) (by decide) ?_
  refine Z_iadd (kdA dt_law_15 46 rfl) (by omega) ?_
  refine Z_lda (j := 1) (a := a) (kdA dt_law_15 47 rfl) hi.1 (by decide) hS ?_
  refine Z_aload_n 0 (kdA dt_law_15 48 rfl) rfl rfl ?_
  refine Z_iload 4 (kdA dt_law_15 49 rfl) rfl ?_
  refine Z_iconst (kdA dt_law_15 50 rfl) (by decide) ?_
  refine Z_iadd (kdA dt_law_15 51 rfl) (by omega) ?_
  refine Z_lda (j := 2) (a := a) (kdA dt_law_15 52 rfl) hi.1 (by decide) hS ?_
  refine Z_aload_n 0 (kdA dt_law_15 53 rfl) rfl rfl ?_
  refine Z_iload 4 (kdA dt_law_15 54 rfl) rfl ?_
  refine Z_iconst (kdA dt_law_15 55 rfl) (by decide) ?_
  refine Z_iadd (kdA dt_law_15 56 rfl) (by omega) ?_
  refine Z_lda (j := 3) (a := a) (kdA dt_law_15 57 rfl) hi.1 (by decide) hS ?_
  refine Z_wet (kdA dt_law_15 58 rfl) (kdA dt_law_15 59 rfl) (kdA dt_law_15 60 rfl) (kdA dt_law_15 61 rfl) ?_
  refine Z_aload_n 0 (kdA dt_law_15 62 rfl) rfl rfl ?_
  refine Z_iload 4 (kdA dt_law_15 63 rfl) rfl ?_
  refine Z_iconst (kdA dt_law_15 64 rfl) (by decide) ?_
  refine Z_iadd (kdA dt_law_15 65 rfl) (by omega) ?_
  refine Z_lda (j := 4) (a := a) (kdA dt_law_15 66 rfl) hi.1 (by decide) hS ?_
  refine Z_aload_n 0 (kdA dt_law_15 67 rfl) rfl rfl ?_
  refine Z_iload 4 (kdA dt_law_15 68 rfl) rfl ?_
  refine Z_iconst (kdA dt_law_15 69 rfl) (by decide) ?_
  refine Z_iadd (kdA dt_law_15 70 rfl) (by omega) ?_
  refine Z_lda (j := 5) (a := a) (kdA dt_law_15 71 rfl) hi.1 (by decide) hS ?_
  refine Z_cVi (c := 11) (as := [(0, a 1), (0, a 2), (0, wtt (a 3)), (0, a 4), (0, a 5)]) (st := []) (kdA dt_law_15 72 rfl) rfl cl_MX11_lasting lkL_243 rfl rfl (Nat.le_of_ble_eq_true rfl) o_0 (Ci.mono (O_lasting wtt_01 d σ (by omega) hI) (fun x1 s1 h1 e1 => ?_))
  have hS1 := hS.mono e1
  refine Z_aload_n 2 (kdA dt_law_15 73 rfl) rfl rfl ?_
  refine Z_aload_n 0 (kdA dt_law_15 74 rfl) rfl rfl ?_
  refine Z_iload 4 (kdA dt_law_15 75 rfl) rfl ?_
  refine Z_iconst (kdA dt_law_15 76 rfl) (by decide) ?_
  refine Z_iadd (kdA dt_law_15 77 rfl) (by omega) ?_
  refine Z_lda (j := 1) (a := a) (kdA dt_law_15 78 rfl) hi.1 (by decide) hS1 ?_
  refine Z_aload_n 0 (kdA dt_law_15 79 rfl) rfl rfl ?_
  refine Z_iload 4 (kdA dt_law_15 80 rfl) rfl ?_
  refine Z_iconst (kdA dt_law_15 81 rfl) (by decide) ?_
  refine Z_iadd (kdA dt_law_15 82 rfl) (by omega) ?_
  refine Z_lda (j := 2) (a := a) (kdA dt_law_15 83 rfl) hi.1 (by decide) hS1 ?_
  refine Z_aload_n 0 (kdA dt_law_15 84 rfl) rfl rfl ?_
  refine Z_iload 4 (kdA dt_law_15 85 rfl) rfl ?_
  refine Z_iconst (kdA dt_law_15 86 rfl) (by decide) ?_
  refine Z_iadd (kdA dt_law_15 87 rfl) (by omega) ?_
  refine Z_lda (j := 3) (a := a) (kdA dt_law_15 88 rfl) hi.1 (by decide) hS1 ?_
  refine Z_wet (kdA dt_law_15 89 rfl) (kdA dt_law_15 90 rfl) (kdA dt_law_15 91 rfl) (kdA dt_law_15 92 rfl) ?_
  refine Z_aload_n 0 (kdA dt_law_15 93 rfl) rfl rfl ?_
  refine Z_iload 4 (kdA dt_law_15 94 rfl) rfl ?_
  refine Z_iconst (kdA dt_law_15 95 rfl) (by decide) ?_
  refine Z_iadd (kdA dt_law_15 96 rfl) (by omega) ?_
  refine Z_lda (j := 4) (a := a) (kdA dt_law_15 97 rfl) hi.1 (by decide) hS1 ?_
  refine Z_aload_n 0 (kdA dt_law_15 98 rfl) rfl rfl ?_
  refine Z_iload 4 (kdA dt_law_15 99 rfl) rfl ?_
  refine Z_iconst (kdA dt_law_15 100 rfl) (by decide) ?_
  refine Z_iadd (kdA dt_law_15 101 rfl) (by omega) ?_
  refine Z_lda (j := 5) (a := a) (kdA dt_law_15 102 rfl) hi.1 (by decide) hS1 ?_
  refine Z_cVi (c := 12) (as := [(0, a 1), (0, a 2), (0, wtt (a 3)), (0, a 4), (0, a 5)]) (st := [(0, x1)]) (kdA dt_law_15 103 rfl) rfl cl_MX12_lasting lkL_246 rfl rfl (Nat.le_of_ble_eq_true rfl) o_166 (Ci.mono h1 (fun x2 s2 h2 e2 => ?_))
  refine Z_icmp_eq (tgt := 3047) (kdA dt_law_15 104 rfl) rfl (fun _ => ?_) (fun c => absurd h2.1 c)
  exact hK s2 h2.2 (e1.trans e2)
theorem LC_50 {d : Nat} {nm : String} {F : kFin} {b : Nat × Nat} {i : Int} {a : Int → Int} {σ : kS} (hd : 62 ≤ d) (hI : Inv σ) (hS : SA σ i a) (hi : 0 ≤ i ∧ i ≤ 5000) (hK : ∀ s, Inv s → scrEq σ s → Z (d + 1) (MLaw nm) F b 3047 [(0, (2, -4)), (1, (2, 0)), (2, (2, 166)), (3, (2, 208)), (4, (0, i))] [] kN s) : Z (d + 1) (MLaw nm) F b 3022 [(0, (2, -4)), (1, (2, 0)), (2, (2, 166)), (3, (2, 208)), (4, (0, i))] [] kN σ := by
  refine Z_aload_n 1 (kdA dt_law_15 107 rfl) rfl rfl ?_
  refine Z_aload_n 0 (kdA dt_law_15 108 rfl) rfl rfl ?_
  refine Z_iload 4 (kdA dt_law_15 109 rfl) rfl ?_
  refine Z_iconst (kdA dt_law_15 110 rfl) (by decide) ?_
  refine Z_iadd (kdA dt_law_15 111 rfl) (by omega) ?_
  refine Z_lda (j := 1) (a := a) (kdA dt_law_15 112 rfl) hi.1 (by decide) hS ?_
  refine Z_cVi (c := 11) (as := [(0, a 1)]) (st := []) (kdA dt_law_15 113 rfl) rfl cl_MX11_count lkL_247 rfl rfl (Nat.le_of_ble_eq_true rfl) o_0 (Ci.mono (O_count d σ (by omega) hI) (fun x1 s1 h1 e1 => ?_))
  have hS1 := hS.mono e1
  refine Z_aload_n 2 (kdA dt_law_15 114 rfl) rfl rfl ?_
  refine Z_aload_n 0 (kdA dt_law_15 115 rfl) rfl rfl ?_
  refine Z_iload 4 (kdA dt_law_15 116 rfl) rfl ?_
  refine Z_iconst (kdA dt_law_15 117 rfl) (by decide) ?_
  refine Z_iadd (kdA dt_law_15 118 rfl) (by omega) ?_
  refine Z_lda (j := 1) (a := a) (kdA dt_law_15 119 rfl) hi.1 (by decide) hS1 ?_
  refine Z_cVi (c := 12) (as := [(0, a 1)]) (st := [(0, x1)]) (kdA dt_law_15 120 rfl) rfl cl_MX12_count lkL_250 rfl rfl (Nat.le_of_ble_eq_true rfl) o_166 (Ci.mono h1 (fun x2 s2 h2 e2 => ?_))
  refine Z_icmp_eq (tgt := 3047) (kdA dt_law_15 121 rfl) rfl (fun _ => ?_) (fun c => absurd h2.1 c)
  exact hK s2 h2.2 (e1.trans e2)
