/-! the cases of the law, by program -/
theorem LC_13 {d : Nat} {nm : String} {F : kFin} {b : Nat × Nat} {i : Int} {a : Int → Int} {σ : kS} (hd : 62 ≤ d) (hI : Inv σ) (hS : SA σ i a) (hi : 0 ≤ i ∧ i ≤ 5000) (hK : ∀ s, Inv s → scrEq σ s → Z (d + 1) (MLaw nm) F b 3047 [(0, (2, -4)), (1, (2, 0)), (2, (2, 166)), (3, (2, 208)), (4, (0, i))] [] kN s) : Z (d + 1) (MLaw nm) F b 1084 [(0, (2, -4)), (1, (2, 0)), (2, (2, 166)), (3, (2, 208)), (4, (0, i))] [] kN σ := by
  refine Z_aload_n 1 (kdA dt_law_4 114 rfl) rfl rfl ?_
  refine Z_aload_n 0 (kdA dt_law_4 115 rfl) rfl rfl ?_
  refine Z_iload 4 (kdA dt_law_4 116 rfl) rfl ?_
  refine Z_iconst (kdA dt_law_4 117 rfl) (by decide) ?_
  refine Z_iadd (kdA dt_law_4 118 rfl) (by omega) ?_
  refine Z_lda (j := 1) (a := a) (kdA dt_law_4 119 rfl) hi.1 (by decide) hS ?_
  refine Z_aload_n 0 (kdA dt_law_4 120 rfl) rfl rfl ?_
  refine Z_iload 4 (kdA dt_law_4 121 rfl) rfl ?_
  refine Z_iconst (kdA dt_law_4 122 rfl) (by decide) ?_
  refine Z_iadd (kdA dt_law_4 123 rfl) (by omega) ?_
  refine Z_lda (j := 2) (a := a) (kdA dt_law_4 124 rfl) hi.1 (by decide) hS ?_
  refine Z_aload_n 0 (kdA dt_law_4 125 rfl) rfl rfl ?_
  refine Z_iload 4 (kdA dt_law_4 126 rfl) rfl ?_
  refine Z_iconst (kdA dt_law_4 127 rfl) (by decide) ?_
  refine Z_iadd (kdA dt_law_5 0 rfl) (by omega) ?_
  refine Z_lda (j := 3) (a := a) (kdA dt_law_5 1 rfl) hi.1 (by decide) hS ?_
  refine Z_wet (kdA dt_law_5 2 rfl) (kdA dt_law_5 3 rfl) (kdA dt_law_5 4 rfl) (kdA dt_law_5 5 rfl) ?_
  refine Z_aload_n 0 (kdA dt_law_5 6 rfl) rfl rfl ?_
  refine Z_iload 4 (kdA dt_law_5 7 rfl) rfl ?_
  refine Z_iconst (kdA dt_law_5 8 rfl) (by decide) ?_
  refine Z_iadd (kdA dt_law_5 9 rfl) (by omega) ?_
  refine Z_lda (j := 4) (a := a) (kdA dt_law_5 10 rfl) hi.1 (by decide) hS ?_
  refine Z_aload_n 0 (kdA dt_law_5 11 rfl) rfl rfl ?_
  refine Z_iload 4 (kdA dt_law_5 12 rfl) rfl ?_
  refine Z_iconst (kdA dt_law_5 13 rfl) (by decide) ?_
  refine Z_iadd (kdA dt_law_5 14 rfl) (by omega) ?_
  refine Z_lda (j := 5) (a := a) (kdA dt_law_5 15 rfl) hi.1 (by decide) hS ?_
  refine Z_cVi (c := 11) (as := [(0, a 1), (0, a 2), (0, wtt (a 3)), (0, a 4), (0, a 5)]) (st := []) (kdA dt_law_5 16 rfl) rfl cl_MX11_lineOfWay lkL_89 rfl rfl (Nat.le_of_ble_eq_true rfl) o_0 (Ci.mono (O_lineOfWay wtt_01 d σ (by omega) hI) (fun x1 s1 h1 e1 => ?_))
  have hS1 := hS.mono e1
  refine Z_aload_n 2 (kdA dt_law_5 17 rfl) rfl rfl ?_
  refine Z_aload_n 0 (kdA dt_law_5 18 rfl) rfl rfl ?_
  refine Z_iload 4 (kdA dt_law_5 19 rfl) rfl ?_
  refine Z_iconst (kdA dt_law_5 20 rfl) (by decide) ?_
  refine Z_iadd (kdA dt_law_5 21 rfl) (by omega) ?_
  refine Z_lda (j := 1) (a := a) (kdA dt_law_5 22 rfl) hi.1 (by decide) hS1 ?_
  refine Z_aload_n 0 (kdA dt_law_5 23 rfl) rfl rfl ?_
  refine Z_iload 4 (kdA dt_law_5 24 rfl) rfl ?_
  refine Z_iconst (kdA dt_law_5 25 rfl) (by decide) ?_
  refine Z_iadd (kdA dt_law_5 26 rfl) (by omega) ?_
  refine Z_lda (j := 2) (a := a) (kdA dt_law_5 27 rfl) hi.1 (by decide) hS1 ?_
  refine Z_aload_n 0 (kdA dt_law_5 28 rfl) rfl rfl ?_
  refine Z_iload 4 (kdA dt_law_5 29 rfl) rfl ?_
  refine Z_iconst (kdA dt_law_5 30 rfl) (by decide) ?_
  refine Z_iadd (kdA dt_law_5 31 rfl) (by omega) ?_
  refine Z_lda (j := 3) (a := a) (kdA dt_law_5 32 rfl) hi.1 (by decide) hS1 ?_
  refine Z_wet (kdA dt_law_5 33 rfl) (kdA dt_law_5 34 rfl) (kdA dt_law_5 35 rfl) (kdA dt_law_5 36 rfl) ?_
  refine Z_aload_n 0 (kdA dt_law_5 37 rfl) rfl rfl ?_
  refine Z_iload 4 (kdA dt_law_5 38 rfl) rfl ?_
  refine Z_iconst (kdA dt_law_5 39 rfl) (by decide) ?_
  refine Z_iadd (kdA dt_law_5 40 rfl) (by omega) ?_
  refine Z_lda (j := 4) (a := a) (kdA dt_law_5 41 rfl) hi.1 (by decide) hS1 ?_
  refine Z_aload_n 0 (kdA dt_law_5 42 rfl) rfl rfl ?_
  refine Z_iload 4 (kdA dt_law_5 43 rfl) rfl ?_
  refine Z_iconst (kdA dt_law_5 44 rfl) (by decide) ?_
  refine Z_iadd (kdA dt_law_5 45 rfl) (by omega) ?_
  refine Z_lda (j := 5) (a := a) (kdA dt_law_5 46 rfl) hi.1 (by decide) hS1 ?_
  refine Z_cVi (c := 12) (as := [(0, a 1), (0, a 2), (0, wtt (a 3)), (0, a 4), (0, a 5)]) (st := [(0, x1)]) (kdA dt_law_5 47 rfl) rfl cl_MX12_lineOfWay lkL_92 rfl rfl (Nat.le_of_ble_eq_true rfl) o_166 (Ci.mono h1 (fun x2 s2 h2 e2 => ?_))
  refine Z_icmp_eq (tgt := 3047) (kdA dt_law_5 48 rfl) rfl (fun _ => ?_) (fun c => absurd h2.1 c)
  exact hK s2 h2.2 (e1.trans e2)
theorem LC_14 {d : Nat} {nm : String} {F : kFin} {b : Nat × Nat} {i : Int} {a : Int → Int} {σ : kS} (hd : 62 ≤ d) (hI : Inv σ) (hS : SA σ i a) (hi : 0 ≤ i ∧ i ≤ 5000) (hK : ∀ s, Inv s → scrEq σ s → Z (d + 1) (MLaw nm) F b 3047 [(0, (2, -4)), (1, (2, 0)), (2, (2, 166)), (3, (2, 208)), (4, (0, i))] [] kN s) : Z (d + 1) (MLaw nm) F b 1173 [(0, (2, -4)), (1, (2, 0)), (2, (2, 166)), (3, (2, 208)), (4, (0, i))] [] kN σ := by
  refine Z_aload_n 1 (kdA dt_law_5 51 rfl) rfl rfl ?_
  refine Z_aload_n 0 (kdA dt_law_5 52 rfl) rfl rfl ?_
  refine Z_iload 4 (kdA dt_law_5 53 rfl) rfl ?_
  refine Z_iconst (kdA dt_law_5 54 rfl) (by decide) ?_
  refine Z_iadd (kdA dt_law_5 55 rfl) (by omega) ?_
  refine Z_lda (j := 1) (a := a) (kdA dt_law_5 56 rfl) hi.1 (by decide) hS ?_
  refine Z_aload_n 0 (kdA dt_law_5 57 rfl) rfl rfl ?_
  refine Z_iload 4 (kdA dt_law_5 58 rfl) rfl ?_
  refine Z_iconst (kdA dt_law_5 59 rfl) (by decide) ?_
  refine Z_iadd (kdA dt_law_5 60 rfl) (by omega) ?_
  refine Z_lda (j := 2) (a := a) (kdA dt_law_5 61 rfl) hi.1 (by decide) hS ?_
  refine Z_aload_n 0 (kdA dt_law_5 62 rfl) rfl rfl ?_
  refine Z_iload 4 (kdA dt_law_5 63 rfl) rfl ?_
  refine Z_iconst (kdA dt_law_5 64 rfl) (by decide) ?_
  refine Z_iadd (kdA dt_law_5 65 rfl) (by omega) ?_
  refine Z_lda (j := 3) (a := a) (kdA dt_law_5 66 rfl) hi.1 (by decide) hS ?_
  refine Z_cVi (c := 11) (as := [(0, a 1), (0, a 2), (0, a 3)]) (st := []) (kdA dt_law_5 67 rfl) rfl cl_MX11_lineOfSight lkL_93 rfl rfl (Nat.le_of_ble_eq_true rfl) o_0 (Ci.mono (O_lineOfSight d σ (by omega) hI) (fun x1 s1 h1 e1 => ?_))
  have hS1 := hS.mono e1
  refine Z_aload_n 2 (kdA dt_law_5 68 rfl) rfl rfl ?_
  refine Z_aload_n 0 (kdA dt_law_5 69 rfl) rfl rfl ?_
  refine Z_iload 4 (kdA dt_law_5 70 rfl) rfl ?_
  refine Z_iconst (kdA dt_law_5 71 rfl) (by decide) ?_
  refine Z_iadd (kdA dt_law_5 72 rfl) (by omega) ?_
  refine Z_lda (j := 1) (a := a) (kdA dt_law_5 73 rfl) hi.1 (by decide) hS1 ?_
  refine Z_aload_n 0 (kdA dt_law_5 74 rfl) rfl rfl ?_
  refine Z_iload 4 (kdA dt_law_5 75 rfl) rfl ?_
  refine Z_iconst (kdA dt_law_5 76 rfl) (by decide) ?_
  refine Z_iadd (kdA dt_law_5 77 rfl) (by omega) ?_
  refine Z_lda (j := 2) (a := a) (kdA dt_law_5 78 rfl) hi.1 (by decide) hS1 ?_
  refine Z_aload_n 0 (kdA dt_law_5 79 rfl) rfl rfl ?_
  refine Z_iload 4 (kdA dt_law_5 80 rfl) rfl ?_
  refine Z_iconst (kdA dt_law_5 81 rfl) (by decide) ?_
  refine Z_iadd (kdA dt_law_5 82 rfl) (by omega) ?_
  refine Z_lda (j := 3) (a := a) (kdA dt_law_5 83 rfl) hi.1 (by decide) hS1 ?_
  refine Z_cVi (c := 12) (as := [(0, a 1), (0, a 2), (0, a 3)]) (st := [(0, x1)]) (kdA dt_law_5 84 rfl) rfl cl_MX12_lineOfSight lkL_96 rfl rfl (Nat.le_of_ble_eq_true rfl) o_166 (Ci.mono h1 (fun x2 s2 h2 e2 => ?_))
  refine Z_icmp_eq (tgt := 3047) (kdA dt_law_5 85 rfl) rfl (fun _ => ?_) (fun c => absurd h2.1 c)
  exact hK s2 h2.2 (e1.trans e2)
theorem LC_15 {d : Nat} {nm : String} {F : kFin} {b : Nat × Nat} {i : Int} {a : Int → Int} {σ : kS} (hd : 62 ≤ d) (hI : Inv σ) (hS : SA σ i a) (hi : 0 ≤ i ∧ i ≤ 5000) (hK : ∀ s, Inv s → scrEq σ s → Z (d + 1) (MLaw nm) F b 3047 [(0, (2, -4)), (1, (2, 0)), (2, (2, 166)), (3, (2, 208)), (4, (0, i))] [] kN s) : Z (d + 1) (MLaw nm) F b 1222 [(0, (2, -4)), (1, (2, 0)), (2, (2, 166)), (3, (2, 208)), (4, (0, i))] [] kN σ := by
  refine Z_aload_n 1 (kdA dt_law_5 88 rfl) rfl rfl ?_
  refine Z_aload_n 0 (kdA dt_law_5 89 rfl) rfl rfl ?_
  refine Z_iload 4 (kdA dt_law_5 90 rfl) rfl ?_
  refine Z_iconst (kdA dt_law_5 91 rfl) (by decide) ?_
  refine Z_iadd (kdA dt_law_5 92 rfl) (by omega) ?_
  refine Z_lda (j := 1) (a := a) (kdA dt_law_5 93 rfl) hi.1 (by decide) hS ?_
  refine Z_cVi (c := 11) (as := [(0, a 1)]) (st := []) (kdA dt_law_5 94 rfl) rfl cl_MX11_lineAt lkL_97 rfl rfl (Nat.le_of_ble_eq_true rfl) o_0 (Ci.mono (O_lineAt d σ (by omega) hI) (fun x1 s1 h1 e1 => ?_))
  have hS1 := hS.mono e1
  refine Z_aload_n 2 (kdA dt_law_5 95 rfl) rfl rfl ?_
  refine Z_aload_n 0 (kdA dt_law_5 96 rfl) rfl rfl ?_
  refine Z_iload 4 (kdA dt_law_5 97 rfl) rfl ?_
  refine Z_iconst (kdA dt_law_5 98 rfl) (by decide) ?_
  refine Z_iadd (kdA dt_law_5 99 rfl) (by omega) ?_
  refine Z_lda (j := 1) (a := a) (kdA dt_law_5 100 rfl) hi.1 (by decide) hS1 ?_
  refine Z_cVi (c := 12) (as := [(0, a 1)]) (st := [(0, x1)]) (kdA dt_law_5 101 rfl) rfl cl_MX12_lineAt lkL_100 rfl rfl (Nat.le_of_ble_eq_true rfl) o_166 (Ci.mono h1 (fun x2 s2 h2 e2 => ?_))
  refine Z_icmp_eq (tgt := 3047) (kdA dt_law_5 102 rfl) rfl (fun _ => ?_) (fun c => absurd h2.1 c)
  exact hK s2 h2.2 (e1.trans e2)
theorem LC_16 {d : Nat} {nm : String} {F : kFin} {b : Nat × Nat} {i : Int} {a : Int → Int} {σ : kS} (hd : 62 ≤ d) (hI : Inv σ) (hS : SA σ i a) (hi : 0 ≤ i ∧ i ≤ 5000) (hK : ∀ s, Inv s → scrEq σ s → Z (d + 1) (MLaw nm) F b 3047 [(0, (2, -4)), (1, (2, 0)), (2, (2, 166)), (3, (2, 208)), (4, (0, i))] [] kN s) : Z (d + 1) (MLaw nm) F b 1247 [(0, (2, -4)), (1, (2, 0)), (2, (2, 166)), (3, (2, 208)), (4, (0, i))] [] kN σ := by
  refine Z_aload_n 1 (kdA dt_law_5 105 rfl) rfl rfl ?_
  refine Z_aload_n 0 (kdA dt_law_5 106 rfl) rfl rfl ?_
  refine Z_iload 4 (kdA dt_law_5 107 rfl) rfl ?_
  refine Z_iconst (kdA dt_law_5 108 rfl) (by decide) ?_
  refine Z_iadd (kdA dt_law_5 109 rfl) (by omega) ?_
  refine Z_lda (j := 1) (a := a) (kdA dt_law_5 110 rfl) hi.1 (by decide) hS ?_
  refine Z_cVi (c := 11) (as := [(0, a 1)]) (st := []) (kdA dt_law_5 111 rfl) rfl cl_MX11_goOn lkL_101 rfl rfl (Nat.le_of_ble_eq_true rfl) o_0 (Ci.mono (O_goOn d σ (by omega) hI) (fun x1 s1 h1 e1 => ?_))
  have hS1 := hS.mono e1
  refine Z_aload_n 2 (kdA dt_law_5 112 rfl) rfl rfl ?_
  refine Z_aload_n 0 (kdA dt_law_5 113 rfl) rfl rfl ?_
  refine Z_iload 4 (kdA dt_law_5 114 rfl) rfl ?_
  refine Z_iconst (kdA dt_law_5 115 rfl) (by decide) ?_
  refine Z_iadd (kdA dt_law_5 116 rfl) (by omega) ?_
  refine Z_lda (j := 1) (a := a) (kdA dt_law_5 117 rfl) hi.1 (by decide) hS1 ?_
  refine Z_cVi (c := 12) (as := [(0, a 1)]) (st := [(0, x1)]) (kdA dt_law_5 118 rfl) rfl cl_MX12_goOn lkL_104 rfl rfl (Nat.le_of_ble_eq_true rfl) o_166 (Ci.mono h1 (fun x2 s2 h2 e2 => ?_))
  refine Z_icmp_eq (tgt := 3047) (kdA dt_law_5 119 rfl) rfl (fun _ => ?_) (fun c => absurd h2.1 c)
  exact hK s2 h2.2 (e1.trans e2)
theorem LC_17 {d : Nat} {nm : String} {F : kFin} {b : Nat × Nat} {i : Int} {a : Int → Int} {σ : kS} (hd : 62 ≤ d) (hI : Inv σ) (hS : SA σ i a) (hi : 0 ≤ i ∧ i ≤ 5000) (hK : ∀ s, Inv s → scrEq σ s → Z (d + 1) (MLaw nm) F b 3047 [(0, (2, -4)), (1, (2, 0)), (2, (2, 166)), (3, (2, 208)), (4, (0, i))] [] kN s) : Z (d + 1) (MLaw nm) F b 1272 [(0, (2, -4)), (1, (2, 0)), (2, (2, 166)), (3, (2, 208)), (4, (0, i))] [] kN σ := by
  refine Z_aload_n 1 (kdA dt_law_5 122 rfl) rfl rfl ?_
  refine Z_aload_n 0 (kdA dt_law_5 123 rfl) rfl rfl ?_
  refine Z_iload 4 (kdA dt_law_5 124 rfl) rfl ?_
  refine Z_iconst (kdA dt_law_5 125 rfl) (by decide) ?_
  refine Z_iadd (kdA dt_law_5 126 rfl) (by omega) ?_
  refine Z_lda (j := 1) (a := a) (kdA dt_law_5 127 rfl) hi.1 (by decide) hS ?_
  refine Z_aload_n 0 (kdA dt_law_6 0 rfl) rfl rfl ?_
  refine Z_iload 4 (kdA dt_law_6 1 rfl) rfl ?_
  refine Z_iconst (kdA dt_law_6 2 rfl) (by decide) ?_
  refine Z_iadd (kdA dt_law_6 3 rfl) (by omega) ?_
  refine Z_lda (j := 2) (a := a) (kdA dt_law_6 4 rfl) hi.1 (by decide) hS ?_
  refine Z_cVi (c := 11) (as := [(0, a 1), (0, a 2)]) (st := []) (kdA dt_law_6 5 rfl) rfl cl_MX11_line lkL_105 rfl rfl (Nat.le_of_ble_eq_true rfl) o_0 (Ci.mono (O_line d σ (by omega) hI) (fun x1 s1 h1 e1 => ?_))
  have hS1 := hS.mono e1
  refine Z_aload_n 2 (kdA dt_law_6 6 rfl) rfl rfl ?_
  refine Z_aload_n 0 (kdA dt_law_6 7 rfl) rfl rfl ?_
  refine Z_iload 4 (kdA dt_law_6 8 rfl) rfl ?_
  refine Z_iconst (kdA dt_law_6 9 rfl) (by decide) ?_
  refine Z_iadd (kdA dt_law_6 10 rfl) (by omega) ?_
  refine Z_lda (j := 1) (a := a) (kdA dt_law_6 11 rfl) hi.1 (by decide) hS1 ?_
  refine Z_aload_n 0 (kdA dt_law_6 12 rfl) rfl rfl ?_
  refine Z_iload 4 (kdA dt_law_6 13 rfl) rfl ?_
  refine Z_iconst (kdA dt_law_6 14 rfl) (by decide) ?_
  refine Z_iadd (kdA dt_law_6 15 rfl) (by omega) ?_
  refine Z_lda (j := 2) (a := a) (kdA dt_law_6 16 rfl) hi.1 (by decide) hS1 ?_
  refine Z_cVi (c := 12) (as := [(0, a 1), (0, a 2)]) (st := [(0, x1)]) (kdA dt_law_6 17 rfl) rfl cl_MX12_line lkL_108 rfl rfl (Nat.le_of_ble_eq_true rfl) o_166 (Ci.mono h1 (fun x2 s2 h2 e2 => ?_))
  refine Z_icmp_eq (tgt := 3047) (kdA dt_law_6 18 rfl) rfl (fun _ => ?_) (fun c => absurd h2.1 c)
  exact hK s2 h2.2 (e1.trans e2)
theorem LC_18 {d : Nat} {nm : String} {F : kFin} {b : Nat × Nat} {i : Int} {a : Int → Int} {σ : kS} (hd : 62 ≤ d) (hI : Inv σ) (hS : SA σ i a) (hi : 0 ≤ i ∧ i ≤ 5000) (hK : ∀ s, Inv s → scrEq σ s → Z (d + 1) (MLaw nm) F b 3047 [(0, (2, -4)), (1, (2, 0)), (2, (2, 166)), (3, (2, 208)), (4, (0, i))] [] kN s) : Z (d + 1) (MLaw nm) F b 1309 [(0, (2, -4)), (1, (2, 0)), (2, (2, 166)), (3, (2, 208)), (4, (0, i))] [] kN σ := by
  refine Z_aload_n 1 (kdA dt_law_6 21 rfl) rfl rfl ?_
  refine Z_aload_n 0 (kdA dt_law_6 22 rfl) rfl rfl ?_
  refine Z_iload 4 (kdA dt_law_6 23 rfl) rfl ?_
  refine Z_iconst (kdA dt_law_6 24 rfl) (by decide) ?_
  refine Z_iadd (kdA dt_law_6 25 rfl) (by omega) ?_
  refine Z_lda (j := 1) (a := a) (kdA dt_law_6 26 rfl) hi.1 (by decide) hS ?_
  refine Z_aload_n 0 (kdA dt_law_6 27 rfl) rfl rfl ?_
  refine Z_iload 4 (kdA dt_law_6 28 rfl) rfl ?_
  refine Z_iconst (kdA dt_law_6 29 rfl) (by decide) ?_
  refine Z_iadd (kdA dt_law_6 30 rfl) (by omega) ?_
  refine Z_lda (j := 2) (a := a) (kdA dt_law_6 31 rfl) hi.1 (by decide) hS ?_
  refine Z_cVi (c := 11) (as := [(0, a 1), (0, a 2)]) (st := []) (kdA dt_law_6 32 rfl) rfl cl_MX11_about lkL_109 rfl rfl (Nat.le_of_ble_eq_true rfl) o_0 (Ci.mono (O_about d σ (by omega) hI) (fun x1 s1 h1 e1 => ?_))
  have hS1 := hS.mono e1
  refine Z_aload_n 2 (kdA dt_law_6 33 rfl) rfl rfl ?_
  refine Z_aload_n 0 (kdA dt_law_6 34 rfl) rfl rfl ?_
  refine Z_iload 4 (kdA dt_law_6 35 rfl) rfl ?_
  refine Z_iconst (kdA dt_law_6 36 rfl) (by decide) ?_
  refine Z_iadd (kdA dt_law_6 37 rfl) (by omega) ?_
  refine Z_lda (j := 1) (a := a) (kdA dt_law_6 38 rfl) hi.1 (by decide) hS1 ?_
  refine Z_aload_n 0 (kdA dt_law_6 39 rfl) rfl rfl ?_
  refine Z_iload 4 (kdA dt_law_6 40 rfl) rfl ?_
  refine Z_iconst (kdA dt_law_6 41 rfl) (by decide) ?_
  refine Z_iadd (kdA dt_law_6 42 rfl) (by omega) ?_
  refine Z_lda (j := 2) (a := a) (kdA dt_law_6 43 rfl) hi.1 (by decide) hS1 ?_
  refine Z_cVi (c := 12) (as := [(0, a 1), (0, a 2)]) (st := [(0, x1)]) (kdA dt_law_6 44 rfl) rfl cl_MX12_about lkL_112 rfl rfl (Nat.le_of_ble_eq_true rfl) o_166 (Ci.mono h1 (fun x2 s2 h2 e2 => ?_))
  refine Z_icmp_eq (tgt := 3047) (kdA dt_law_6 45 rfl) rfl (fun _ => ?_) (fun c => absurd h2.1 c)
  exact hK s2 h2.2 (e1.trans e2)
theorem LC_19 {d : Nat} {nm : String} {F : kFin} {b : Nat × Nat} {i : Int} {a : Int → Int} {σ : kS} (hd : 62 ≤ d) (hI : Inv σ) (hS : SA σ i a) (hi : 0 ≤ i ∧ i ≤ 5000) (hK : ∀ s, Inv s → scrEq σ s → Z (d + 1) (MLaw nm) F b 3047 [(0, (2, -4)), (1, (2, 0)), (2, (2, 166)), (3, (2, 208)), (4, (0, i))] [] kN s) : Z (d + 1) (MLaw nm) F b 1346 [(0, (2, -4)), (1, (2, 0)), (2, (2, 166)), (3, (2, 208)), (4, (0, i))] [] kN σ := by
  refine Z_aload_n 1 (kdA dt_law_6 48 rfl) rfl rfl ?_
  refine Z_aload_n 0 (kdA dt_law_6 49 rfl) rfl rfl ?_
  refine Z_iload 4 (kdA dt_law_6 50 rfl) rfl ?_
  refine Z_iconst (kdA dt_law_6 51 rfl) (by decide) ?_
  refine Z_iadd (kdA dt_law_6 52 rfl) (by omega) ?_
  refine Z_lda (j := 1) (a := a) (kdA dt_law_6 53 rfl) hi.1 (by decide) hS ?_
  refine Z_aload_n 0 (kdA dt_law_6 54 rfl) rfl rfl ?_
  refine Z_iload 4 (kdA dt_law_6 55 rfl) rfl ?_
  refine Z_iconst (kdA dt_law_6 56 rfl) (by decide) ?_
  refine Z_iadd (kdA dt_law_6 57 rfl) (by omega) ?_
  refine Z_lda (j := 2) (a := a) (kdA dt_law_6 58 rfl) hi.1 (by decide) hS ?_
  refine Z_aload_n 0 (kdA dt_law_6 59 rfl) rfl rfl ?_
  refine Z_iload 4 (kdA dt_law_6 60 rfl) rfl ?_
  refine Z_iconst (kdA dt_law_6 61 rfl) (by decide) ?_
  refine Z_iadd (kdA dt_law_6 62 rfl) (by omega) ?_
  refine Z_lda (j := 3) (a := a) (kdA dt_law_6 63 rfl) hi.1 (by decide) hS ?_
  refine Z_cVi (c := 11) (as := [(0, a 1), (0, a 2), (0, a 3)]) (st := []) (kdA dt_law_6 64 rfl) rfl cl_MX11_find lkL_113 rfl rfl (Nat.le_of_ble_eq_true rfl) o_0 (Ci.mono (O_find d σ (by omega) hI) (fun x1 s1 h1 e1 => ?_))
  have hS1 := hS.mono e1
  refine Z_aload_n 2 (kdA dt_law_6 65 rfl) rfl rfl ?_
  refine Z_aload_n 0 (kdA dt_law_6 66 rfl) rfl rfl ?_
  refine Z_iload 4 (kdA dt_law_6 67 rfl) rfl ?_
  refine Z_iconst (kdA dt_law_6 68 rfl) (by decide) ?_
  refine Z_iadd (kdA dt_law_6 69 rfl) (by omega) ?_
  refine Z_lda (j := 1) (a := a) (kdA dt_law_6 70 rfl) hi.1 (by decide) hS1 ?_
  refine Z_aload_n 0 (kdA dt_law_6 71 rfl) rfl rfl ?_
  refine Z_iload 4 (kdA dt_law_6 72 rfl) rfl ?_
  refine Z_iconst (kdA dt_law_6 73 rfl) (by decide) ?_
  refine Z_iadd (kdA dt_law_6 74 rfl) (by omega) ?_
  refine Z_lda (j := 2) (a := a) (kdA dt_law_6 75 rfl) hi.1 (by decide) hS1 ?_
  refine Z_aload_n 0 (kdA dt_law_6 76 rfl) rfl rfl ?_
  refine Z_iload 4 (kdA dt_law_6 77 rfl) rfl ?_
  refine Z_iconst (kdA dt_law_6 78 rfl) (by decide) ?_
  refine Z_iadd (kdA dt_law_6 79 rfl) (by omega) ?_
  refine Z_lda (j := 3) (a := a) (kdA dt_law_6 80 rfl) hi.1 (by decide) hS1 ?_
  refine Z_cVi (c := 12) (as := [(0, a 1), (0, a 2), (0, a 3)]) (st := [(0, x1)]) (kdA dt_law_6 81 rfl) rfl cl_MX12_find lkL_116 rfl rfl (Nat.le_of_ble_eq_true rfl) o_166 (Ci.mono h1 (fun x2 s2 h2 e2 => ?_))
  refine Z_icmp_eq (tgt := 3047) (kdA dt_law_6 82 rfl) rfl (fun _ => ?_) (fun c => absurd h2.1 c)
  exact hK s2 h2.2 (e1.trans e2)
theorem LC_20 {d : Nat} {nm : String} {F : kFin} {b : Nat × Nat} {i : Int} {a : Int → Int} {σ : kS} (hd : 62 ≤ d) (hI : Inv σ) (hS : SA σ i a) (hi : 0 ≤ i ∧ i ≤ 5000) (hK : ∀ s, Inv s → scrEq σ s → Z (d + 1) (MLaw nm) F b 3047 [(0, (2, -4)), (1, (2, 0)), (2, (2, 166)), (3, (2, 208)), (4, (0, i))] [] kN s) : Z (d + 1) (MLaw nm) F b 1395 [(0, (2, -4)), (1, (2, 0)), (2, (2, 166)), (3, (2, 208)), (4, (0, i))] [] kN σ := by
  refine Z_aload_n 1 (kdA dt_law_6 85 rfl) rfl rfl ?_
  refine Z_aload_n 0 (kdA dt_law_6 86 rfl) rfl rfl ?_
  refine Z_iload 4 (kdA dt_law_6 87 rfl) rfl ?_
  refine Z_iconst (kdA dt_law_6 88 rfl) (by decide) ?_
  refine Z_iadd (kdA dt_law_6 89 rfl) (by omega) ?_
  refine Z_lda (j := 1) (a := a) (kdA dt_law_6 90 rfl) hi.1 (by decide) hS ?_
  refine Z_aload_n 0 (kdA dt_law_6 91 rfl) rfl rfl ?_
  refine Z_iload 4 (kdA dt_law_6 92 rfl) rfl ?_
  refine Z_iconst (kdA dt_law_6 93 rfl) (by decide) ?_
  refine Z_iadd (kdA dt_law_6 94 rfl) (by omega) ?_
  refine Z_lda (j := 2) (a := a) (kdA dt_law_6 95 rfl) hi.1 (by decide) hS ?_
  refine Z_aload_n 0 (kdA dt_law_6 96 rfl) rfl rfl ?_
  refine Z_iload 4 (kdA dt_law_6 97 rfl) rfl ?_
  refine Z_iconst (kdA dt_law_6 98 rfl) (by decide) ?_
  refine Z_iadd (kdA dt_law_6 99 rfl) (by omega) ?_
  refine Z_lda (j := 3) (a := a) (kdA dt_law_6 100 rfl) hi.1 (by decide) hS ?_
  refine Z_cVi (c := 11) (as := [(0, a 1), (0, a 2), (0, a 3)]) (st := []) (kdA dt_law_6 101 rfl) rfl cl_MX11_near lkL_117 rfl rfl (Nat.le_of_ble_eq_true rfl) o_0 (Ci.mono (O_near d σ (by omega) hI) (fun x1 s1 h1 e1 => ?_))
  have hS1 := hS.mono e1
  refine Z_aload_n 2 (kdA dt_law_6 102 rfl) rfl rfl ?_
  refine Z_aload_n 0 (kdA dt_law_6 103 rfl) rfl rfl ?_
  refine Z_iload 4 (kdA dt_law_6 104 rfl) rfl ?_
  refine Z_iconst (kdA dt_law_6 105 rfl) (by decide) ?_
  refine Z_iadd (kdA dt_law_6 106 rfl) (by omega) ?_
  refine Z_lda (j := 1) (a := a) (kdA dt_law_6 107 rfl) hi.1 (by decide) hS1 ?_
  refine Z_aload_n 0 (kdA dt_law_6 108 rfl) rfl rfl ?_
  refine Z_iload 4 (kdA dt_law_6 109 rfl) rfl ?_
  refine Z_iconst (kdA dt_law_6 110 rfl) (by decide) ?_
  refine Z_iadd (kdA dt_law_6 111 rfl) (by omega) ?_
  refine Z_lda (j := 2) (a := a) (kdA dt_law_6 112 rfl) hi.1 (by decide) hS1 ?_
  refine Z_aload_n 0 (kdA dt_law_6 113 rfl) rfl rfl ?_
  refine Z_iload 4 (kdA dt_law_6 114 rfl) rfl ?_
  refine Z_iconst (kdA dt_law_6 115 rfl) (by decide) ?_
  refine Z_iadd (kdA dt_law_6 116 rfl) (by omega) ?_
  refine Z_lda (j := 3) (a := a) (kdA dt_law_6 117 rfl) hi.1 (by decide) hS1 ?_
  refine Z_cVi (c := 12) (as := [(0, a 1), (0, a 2), (0, a 3)]) (st := [(0, x1)]) (kdA dt_law_6 118 rfl) rfl cl_MX12_near lkL_120 rfl rfl (Nat.le_of_ble_eq_true rfl) o_166 (Ci.mono h1 (fun x2 s2 h2 e2 => ?_))
  refine Z_icmp_eq (tgt := 3047) (kdA dt_law_6 119 rfl) rfl (fun _ => ?_) (fun c => absurd h2.1 c)
  exact hK s2 h2.2 (e1.trans e2)
theorem LC_21 {d : Nat} {nm : String} {F : kFin} {b : Nat × Nat} {i : Int} {a : Int → Int} {σ : kS} (hd : 62 ≤ d) (hI : Inv σ) (hS : SA σ i a) (hi : 0 ≤ i ∧ i ≤ 5000) (hK : ∀ s, Inv s → scrEq σ s → Z (d + 1) (MLaw nm) F b 3047 [(0, (2, -4)), (1, (2, 0)), (2, (2, 166)), (3, (2, 208)), (4, (0, i))] [] kN s) : Z (d + 1) (MLaw nm) F b 1444 [(0, (2, -4)), (1, (2, 0)), (2, (2, 166)), (3, (2, 208)), (4, (0, i))] [] kN σ := by
  refine Z_aload_n 1 (kdA dt_law_6 122 rfl) rfl rfl ?_
  refine Z_aload_n 0 (kdA dt_law_6 123 rfl) rfl rfl ?_
  refine Z_iload 4 (kdA dt_law_6 124 rfl) rfl ?_
  refine Z_iconst (kdA dt_law_6 125 rfl) (by decide) ?_
  refine Z_iadd (kdA dt_law_6 126 rfl) (by omega) ?_
  refine Z_lda (j := 1) (a := a) (kdA dt_law_6 127 rfl) hi.1 (by decide) hS ?_
  refine Z_aload_n 0 (kdA dt_law_7 0 rfl) rfl rfl ?_
  refine Z_iload 4 (kdA dt_law_7 1 rfl) rfl ?_
  refine Z_iconst (kdA dt_law_7 2 rfl) (by decide) ?_
  refine Z_iadd (kdA dt_law_7 3 rfl) (by omega) ?_
  refine Z_lda (j := 2) (a := a) (kdA dt_law_7 4 rfl) hi.1 (by decide) hS ?_
  refine Z_aload_n 0 (kdA dt_law_7 5 rfl) rfl rfl ?_
  refine Z_iload 4 (kdA dt_law_7 6 rfl) rfl ?_
  refine Z_iconst (kdA dt_law_7 7 rfl) (by decide) ?_
  refine Z_iadd (kdA dt_law_7 8 rfl) (by omega) ?_
  refine Z_lda (j := 3) (a := a) (kdA dt_law_7 9 rfl) hi.1 (by decide) hS ?_
  refine Z_aload_n 0 (kdA dt_law_7 10 rfl) rfl rfl ?_
  refine Z_iload 4 (kdA dt_law_7 11 rfl) rfl ?_
  refine Z_iconst (kdA dt_law_7 12 rfl) (by decide) ?_
  refine Z_iadd (kdA dt_law_7 13 rfl) (by omega) ?_
  refine Z_lda (j := 4) (a := a) (kdA dt_law_7 14 rfl) hi.1 (by decide) hS ?_
  refine Z_cVi (c := 11) (as := [(0, a 1), (0, a 2), (0, a 3), (0, a 4)]) (st := []) (kdA dt_law_7 15 rfl) rfl cl_MX11_against lkL_121 rfl rfl (Nat.le_of_ble_eq_true rfl) o_0 (Ci.mono (O_against d σ (by omega) hI) (fun x1 s1 h1 e1 => ?_))
  have hS1 := hS.mono e1
  refine Z_aload_n 2 (kdA dt_law_7 16 rfl) rfl rfl ?_
  refine Z_aload_n 0 (kdA dt_law_7 17 rfl) rfl rfl ?_
  refine Z_iload 4 (kdA dt_law_7 18 rfl) rfl ?_
  refine Z_iconst (kdA dt_law_7 19 rfl) (by decide) ?_
  refine Z_iadd (kdA dt_law_7 20 rfl) (by omega) ?_
  refine Z_lda (j := 1) (a := a) (kdA dt_law_7 21 rfl) hi.1 (by decide) hS1 ?_
  refine Z_aload_n 0 (kdA dt_law_7 22 rfl) rfl rfl ?_
  refine Z_iload 4 (kdA dt_law_7 23 rfl) rfl ?_
  refine Z_iconst (kdA dt_law_7 24 rfl) (by decide) ?_
  refine Z_iadd (kdA dt_law_7 25 rfl) (by omega) ?_
  refine Z_lda (j := 2) (a := a) (kdA dt_law_7 26 rfl) hi.1 (by decide) hS1 ?_
  refine Z_aload_n 0 (kdA dt_law_7 27 rfl) rfl rfl ?_
  refine Z_iload 4 (kdA dt_law_7 28 rfl) rfl ?_
  refine Z_iconst (kdA dt_law_7 29 rfl) (by decide) ?_
  refine Z_iadd (kdA dt_law_7 30 rfl) (by omega) ?_
  refine Z_lda (j := 3) (a := a) (kdA dt_law_7 31 rfl) hi.1 (by decide) hS1 ?_
  refine Z_aload_n 0 (kdA dt_law_7 32 rfl) rfl rfl ?_
  refine Z_iload 4 (kdA dt_law_7 33 rfl) rfl ?_
  refine Z_iconst (kdA dt_law_7 34 rfl) (by decide) ?_
  refine Z_iadd (kdA dt_law_7 35 rfl) (by omega) ?_
  refine Z_lda (j := 4) (a := a) (kdA dt_law_7 36 rfl) hi.1 (by decide) hS1 ?_
  refine Z_cVi (c := 12) (as := [(0, a 1), (0, a 2), (0, a 3), (0, a 4)]) (st := [(0, x1)]) (kdA dt_law_7 37 rfl) rfl cl_MX12_against lkL_124 rfl rfl (Nat.le_of_ble_eq_true rfl) o_166 (Ci.mono h1 (fun x2 s2 h2 e2 => ?_))
  refine Z_icmp_eq (tgt := 3047) (kdA dt_law_7 38 rfl) rfl (fun _ => ?_) (fun c => absurd h2.1 c)
  exact hK s2 h2.2 (e1.trans e2)
theorem LC_22 {d : Nat} {nm : String} {F : kFin} {b : Nat × Nat} {i : Int} {a : Int → Int} {σ : kS} (hd : 62 ≤ d) (hI : Inv σ) (hS : SA σ i a) (hi : 0 ≤ i ∧ i ≤ 5000) (hK : ∀ s, Inv s → scrEq σ s → Z (d + 1) (MLaw nm) F b 3047 [(0, (2, -4)), (1, (2, 0)), (2, (2, 166)), (3, (2, 208)), (4, (0, i))] [] kN s) : Z (d + 1) (MLaw nm) F b 1505 [(0, (2, -4)), (1, (2, 0)), (2, (2, 166)), (3, (2, 208)), (4, (0, i))] [] kN σ := by
  refine Z_aload_n 1 (kdA dt_law_7 41 rfl) rfl rfl ?_
  refine Z_aload_n 0 (kdA dt_law_7 42 rfl) rfl rfl ?_
  refine Z_iload 4 (kdA dt_law_7 43 rfl) rfl ?_
  refine Z_iconst (kdA dt_law_7 44 rfl) (by decide) ?_
  refine Z_iadd (kdA dt_law_7 45 rfl) (by omega) ?_
  refine Z_lda (j := 1) (a := a) (kdA dt_law_7 46 rfl) hi.1 (by decide) hS ?_
  refine Z_cVi (c := 11) (as := [(0, a 1)]) (st := []) (kdA dt_law_7 47 rfl) rfl cl_MX11_known lkL_125 rfl rfl (Nat.le_of_ble_eq_true rfl) o_0 (Ci.mono (O_known d σ (by omega) hI) (fun x1 s1 h1 e1 => ?_))
  have hS1 := hS.mono e1
  refine Z_aload_n 2 (kdA dt_law_7 48 rfl) rfl rfl ?_
  refine Z_aload_n 0 (kdA dt_law_7 49 rfl) rfl rfl ?_
  refine Z_iload 4 (kdA dt_law_7 50 rfl) rfl ?_
  refine Z_iconst (kdA dt_law_7 51 rfl) (by decide) ?_
  refine Z_iadd (kdA dt_law_7 52 rfl) (by omega) ?_
  refine Z_lda (j := 1) (a := a) (kdA dt_law_7 53 rfl) hi.1 (by decide) hS1 ?_
  refine Z_cVi (c := 12) (as := [(0, a 1)]) (st := [(0, x1)]) (kdA dt_law_7 54 rfl) rfl cl_MX12_known lkL_128 rfl rfl (Nat.le_of_ble_eq_true rfl) o_166 (Ci.mono h1 (fun x2 s2 h2 e2 => ?_))
  refine Z_icmp_eq (tgt := 3047) (kdA dt_law_7 55 rfl) rfl (fun _ => ?_) (fun c => absurd h2.1 c)
  exact hK s2 h2.2 (e1.trans e2)
theorem LC_23 {d : Nat} {nm : String} {F : kFin} {b : Nat × Nat} {i : Int} {a : Int → Int} {σ : kS} (hd : 62 ≤ d) (hI : Inv σ) (hS : SA σ i a) (hi : 0 ≤ i ∧ i ≤ 5000) (hK : ∀ s, Inv s → scrEq σ s → Z (d + 1) (MLaw nm) F b 3047 [(0, (2, -4)), (1, (2, 0)), (2, (2, 166)), (3, (2, 208)), (4, (0, i))] [] kN s) : Z (d + 1) (MLaw nm) F b 1530 [(0, (2, -4)), (1, (2, 0)), (2, (2, 166)), (3, (2, 208)), (4, (0, i))] [] kN σ := by
  refine Z_aload_n 1 (kdA dt_law_7 58 rfl) rfl rfl ?_
  refine Z_aload_n 0 (kdA dt_law_7 59 rfl) rfl rfl ?_
  refine Z_iload 4 (kdA dt_law_7 60 rfl) rfl ?_
  refine Z_iconst (kdA dt_law_7 61 rfl) (by decide) ?_
  refine Z_iadd (kdA dt_law_7 62 rfl) (by omega) ?_
  refine Z_lda (j := 1) (a := a) (kdA dt_law_7 63 rfl) hi.1 (by decide) hS ?_
  refine Z_aload_n 0 (kdA dt_law_7 64 rfl) rfl rfl ?_
  refine Z_iload 4 (kdA dt_law_7 65 rfl) rfl ?_
  refine Z_iconst (kdA dt_law_7 66 rfl) (by decide) ?_
  refine Z_iadd (kdA dt_law_7 67 rfl) (by omega) ?_
  refine Z_lda (j := 2) (a := a) (kdA dt_law_7 68 rfl) hi.1 (by decide) hS ?_
  refine Z_aload_n 0 (kdA dt_law_7 69 rfl) rfl rfl ?_
  refine Z_iload 4 (kdA dt_law_7 70 rfl) rfl ?_
  refine Z_iconst (kdA dt_law_7 71 rfl) (by decide) ?_
  refine Z_iadd (kdA dt_law_7 72 rfl) (by omega) ?_
  refine Z_lda (j := 3) (a := a) (kdA dt_law_7 73 rfl) hi.1 (by decide) hS ?_
  refine Z_wet (kdA dt_law_7 74 rfl) (kdA dt_law_7 75 rfl) (kdA dt_law_7 76 rfl) (kdA dt_law_7 77 rfl) ?_
  refine Z_aload_n 0 (kdA dt_law_7 78 rfl) rfl rfl ?_
  refine Z_iload 4 (kdA dt_law_7 79 rfl) rfl ?_
  refine Z_iconst (kdA dt_law_7 80 rfl) (by decide) ?_
  refine Z_iadd (kdA dt_law_7 81 rfl) (by omega) ?_
  refine Z_lda (j := 4) (a := a) (kdA dt_law_7 82 rfl) hi.1 (by decide) hS ?_
  refine Z_cVi (c := 11) (as := [(0, a 1), (0, a 2), (0, wtt (a 3)), (0, a 4)]) (st := []) (kdA dt_law_7 83 rfl) rfl cl_MX11_miss lkL_129 rfl rfl (Nat.le_of_ble_eq_true rfl) o_0 (Ci.mono (O_miss wtt_01 d σ (by omega) hI) (fun x1 s1 h1 e1 => ?_))
  have hS1 := hS.mono e1
  refine Z_aload_n 2 (kdA dt_law_7 84 rfl) rfl rfl ?_
  refine Z_aload_n 0 (kdA dt_law_7 85 rfl) rfl rfl ?_
  refine Z_iload 4 (kdA dt_law_7 86 rfl) rfl ?_
  refine Z_iconst (kdA dt_law_7 87 rfl) (by decide) ?_
  refine Z_iadd (kdA dt_law_7 88 rfl) (by omega) ?_
  refine Z_lda (j := 1) (a := a) (kdA dt_law_7 89 rfl) hi.1 (by decide) hS1 ?_
  refine Z_aload_n 0 (kdA dt_law_7 90 rfl) rfl rfl ?_
  refine Z_iload 4 (kdA dt_law_7 91 rfl) rfl ?_
  refine Z_iconst (kdA dt_law_7 92 rfl) (by decide) ?_
  refine Z_iadd (kdA dt_law_7 93 rfl) (by omega) ?_
  refine Z_lda (j := 2) (a := a) (kdA dt_law_7 94 rfl) hi.1 (by decide) hS1 ?_
  refine Z_aload_n 0 (kdA dt_law_7 95 rfl) rfl rfl ?_
  refine Z_iload 4 (kdA dt_law_7 96 rfl) rfl ?_
  refine Z_iconst (kdA dt_law_7 97 rfl) (by decide) ?_
  refine Z_iadd (kdA dt_law_7 98 rfl) (by omega) ?_
  refine Z_lda (j := 3) (a := a) (kdA dt_law_7 99 rfl) hi.1 (by decide) hS1 ?_
  refine Z_wet (kdA dt_law_7 100 rfl) (kdA dt_law_7 101 rfl) (kdA dt_law_7 102 rfl) (kdA dt_law_7 103 rfl) ?_
  refine Z_aload_n 0 (kdA dt_law_7 104 rfl) rfl rfl ?_
  refine Z_iload 4 (kdA dt_law_7 105 rfl) rfl ?_
  refine Z_iconst (kdA dt_law_7 106 rfl) (by decide) ?_
  refine Z_iadd (kdA dt_law_7 107 rfl) (by omega) ?_
  refine Z_lda (j := 4) (a := a) (kdA dt_law_7 108 rfl) hi.1 (by decide) hS1 ?_
  refine Z_cVi (c := 12) (as := [(0, a 1), (0, a 2), (0, wtt (a 3)), (0, a 4)]) (st := [(0, x1)]) (kdA dt_law_7 109 rfl) rfl cl_MX12_miss lkL_133 rfl rfl (Nat.le_of_ble_eq_true rfl) o_166 (Ci.mono h1 (fun x2 s2 h2 e2 => ?_))
  refine Z_icmp_eq (tgt := 3047) (kdA dt_law_7 110 rfl) rfl (fun _ => ?_) (fun c => absurd h2.1 c)
  exact hK s2 h2.2 (e1.trans e2)
theorem LC_24 {d : Nat} {nm : String} {F : kFin} {b : Nat × Nat} {i : Int} {a : Int → Int} {σ : kS} (hd : 62 ≤ d) (hI : Inv σ) (hS : SA σ i a) (hi : 0 ≤ i ∧ i ≤ 5000) (hK : ∀ s, Inv s → scrEq σ s → Z (d + 1) (MLaw nm) F b 3047 [(0, (2, -4)), (1, (2, 0)), (2, (2, 166)), (3, (2, 208)), (4, (0, i))] [] kN s) : Z (d + 1) (MLaw nm) F b 1607 [(0, (2, -4)), (1, (2, 0)), (2, (2, 166)), (3, (2, 208)), (4, (0, i))] [] kN σ := by
  refine Z_aload_n 1 (kdA dt_law_7 113 rfl) rfl rfl ?_
  refine Z_aload_n 0 (kdA dt_law_7 114 rfl) rfl rfl ?_
  refine Z_iload 4 (kdA dt_law_7 115 rfl) rfl ?_
  refine Z_iconst (kdA dt_law_7 116 rfl) (by decide) ?_
  refine Z_iadd (kdA dt_law_7 117 rfl) (by omega) ?_
  refine Z_lda (j := 1) (a := a) (kdA dt_law_7 118 rfl) hi.1 (by decide) hS ?_
  refine Z_aload_n 0 (kdA dt_law_7 119 rfl) rfl rfl ?_
  refine Z_iload 4 (kdA dt_law_7 120 rfl) rfl ?_
  refine Z_iconst (kdA dt_law_7 121 rfl) (by decide) ?_
  refine Z_iadd (kdA dt_law_7 122 rfl) (by omega) ?_
  refine Z_lda (j := 2) (a := a) (kdA dt_law_7 123 rfl) hi.1 (by decide) hS ?_
  refine Z_wet (kdA dt_law_7 124 rfl) (kdA dt_law_7 125 rfl) (kdA dt_law_7 126 rfl) (kdA dt_law_7 127 rfl) ?_
  refine Z_aload_n 0 (kdA dt_law_8 0 rfl) rfl rfl ?_
  refine Z_iload 4 (kdA dt_law_8 1 rfl) rfl ?_
  refine Z_iconst (kdA dt_law_8 2 rfl) (by decide) ?_
  refine Z_iadd (kdA dt_law_8 3 rfl) (by omega) ?_
  refine Z_lda (j := 3) (a := a) (kdA dt_law_8 4 rfl) hi.1 (by decide) hS ?_
  refine Z_cVi (c := 11) (as := [(0, a 1), (0, wtt (a 2)), (0, a 3)]) (st := []) (kdA dt_law_8 5 rfl) rfl cl_MX11_best lkL_134 rfl rfl (Nat.le_of_ble_eq_true rfl) o_0 (Ci.mono (O_best wtt_01 d σ (by omega) hI) (fun x1 s1 h1 e1 => ?_))
  have hS1 := hS.mono e1
  refine Z_aload_n 2 (kdA dt_law_8 6 rfl) rfl rfl ?_
  refine Z_aload_n 0 (kdA dt_law_8 7 rfl) rfl rfl ?_
  refine Z_iload 4 (kdA dt_law_8 8 rfl) rfl ?_
  refine Z_iconst (kdA dt_law_8 9 rfl) (by decide) ?_
  refine Z_iadd (kdA dt_law_8 10 rfl) (by omega) ?_
  refine Z_lda (j := 1) (a := a) (kdA dt_law_8 11 rfl) hi.1 (by decide) hS1 ?_
  refine Z_aload_n 0 (kdA dt_law_8 12 rfl) rfl rfl ?_
  refine Z_iload 4 (kdA dt_law_8 13 rfl) rfl ?_
  refine Z_iconst (kdA dt_law_8 14 rfl) (by decide) ?_
  refine Z_iadd (kdA dt_law_8 15 rfl) (by omega) ?_
  refine Z_lda (j := 2) (a := a) (kdA dt_law_8 16 rfl) hi.1 (by decide) hS1 ?_
  refine Z_wet (kdA dt_law_8 17 rfl) (kdA dt_law_8 18 rfl) (kdA dt_law_8 19 rfl) (kdA dt_law_8 20 rfl) ?_
  refine Z_aload_n 0 (kdA dt_law_8 21 rfl) rfl rfl ?_
  refine Z_iload 4 (kdA dt_law_8 22 rfl) rfl ?_
  refine Z_iconst (kdA dt_law_8 23 rfl) (by decide) ?_
  refine Z_iadd (kdA dt_law_8 24 rfl) (by omega) ?_
  refine Z_lda (j := 3) (a := a) (kdA dt_law_8 25 rfl) hi.1 (by decide) hS1 ?_
  refine Z_cVi (c := 12) (as := [(0, a 1), (0, wtt (a 2)), (0, a 3)]) (st := [(0, x1)]) (kdA dt_law_8 26 rfl) rfl cl_MX12_best lkL_138 rfl rfl (Nat.le_of_ble_eq_true rfl) o_166 (Ci.mono h1 (fun x2 s2 h2 e2 => ?_))
  refine Z_icmp_eq (tgt := 3047) (kdA dt_law_8 27 rfl) rfl (fun _ => ?_) (fun c => absurd h2.1 c)
  exact hK s2 h2.2 (e1.trans e2)
theorem LC_25 {d : Nat} {nm : String} {F : kFin} {b : Nat × Nat} {i : Int} {a : Int → Int} {σ : kS} (hd : 62 ≤ d) (hI : Inv σ) (hS : SA σ i a) (hi : 0 ≤ i ∧ i ≤ 5000) (hK : ∀ s, Inv s → scrEq σ s → Z (d + 1) (MLaw nm) F b 3047 [(0, (2, -4)), (1, (2, 0)), (2, (2, 166)), (3, (2, 208)), (4, (0, i))] [] kN s) : Z (d + 1) (MLaw nm) F b 1672 [(0, (2, -4)), (1, (2, 0)), (2, (2, 166)), (3, (2, 208)), (4, (0, i))] [] kN σ := by
  refine Z_aload_n 1 (kdA dt_law_8 30 rfl) rfl rfl ?_
  refine Z_aload_n 0 (kdA dt_law_8 31 rfl) rfl rfl ?_
  refine Z_iload 4 (kdA dt_law_8 32 rfl) rfl ?_
  refine Z_iconst (kdA dt_law_8 33 rfl) (by decide) ?_
  refine Z_iadd (kdA dt_law_8 34 rfl) (by omega) ?_
  refine Z_lda (j := 1) (a := a) (kdA dt_law_8 35 rfl) hi.1 (by decide) hS ?_
  refine Z_aload_n 0 (kdA dt_law_8 36 rfl) rfl rfl ?_
  refine Z_iload 4 (kdA dt_law_8 37 rfl) rfl ?_
  refine Z_iconst (kdA dt_law_8 38 rfl) (by decide) ?_
  refine Z_iadd (kdA dt_law_8 39 rfl) (by omega) ?_
  refine Z_lda (j := 2) (a := a) (kdA dt_law_8 40 rfl) hi.1 (by decide) hS ?_
  refine Z_wet (kdA dt_law_8 41 rfl) (kdA dt_law_8 42 rfl) (kdA dt_law_8 43 rfl) (kdA dt_law_8 44 rfl) ?_
  refine Z_cVi (c := 11) (as := [(0, a 1), (0, wtt (a 2))]) (st := []) (kdA dt_law_8 45 rfl) rfl cl_MX11_tried lkL_139 rfl rfl (Nat.le_of_ble_eq_true rfl) o_0 (Ci.mono (O_tried wtt_01 d σ (by omega) hI) (fun x1 s1 h1 e1 => ?_))
  have hS1 := hS.mono e1
  refine Z_aload_n 2 (kdA dt_law_8 46 rfl) rfl rfl ?_
  refine Z_aload_n 0 (kdA dt_law_8 47 rfl) rfl rfl ?_
  refine Z_iload 4 (kdA dt_law_8 48 rfl) rfl ?_
  refine Z_iconst (kdA dt_law_8 49 rfl) (by decide) ?_
  refine Z_iadd (kdA dt_law_8 50 rfl) (by omega) ?_
  refine Z_lda (j := 1) (a := a) (kdA dt_law_8 51 rfl) hi.1 (by decide) hS1 ?_
  refine Z_aload_n 0 (kdA dt_law_8 52 rfl) rfl rfl ?_
  refine Z_iload 4 (kdA dt_law_8 53 rfl) rfl ?_
  refine Z_iconst (kdA dt_law_8 54 rfl) (by decide) ?_
  refine Z_iadd (kdA dt_law_8 55 rfl) (by omega) ?_
  refine Z_lda (j := 2) (a := a) (kdA dt_law_8 56 rfl) hi.1 (by decide) hS1 ?_
  refine Z_wet (kdA dt_law_8 57 rfl) (kdA dt_law_8 58 rfl) (kdA dt_law_8 59 rfl) (kdA dt_law_8 60 rfl) ?_
  refine Z_cVi (c := 12) (as := [(0, a 1), (0, wtt (a 2))]) (st := [(0, x1)]) (kdA dt_law_8 61 rfl) rfl cl_MX12_tried lkL_143 rfl rfl (Nat.le_of_ble_eq_true rfl) o_166 (Ci.mono h1 (fun x2 s2 h2 e2 => ?_))
  refine Z_icmp_eq (tgt := 3047) (kdA dt_law_8 62 rfl) rfl (fun _ => ?_) (fun c => absurd h2.1 c)
  exact hK s2 h2.2 (e1.trans e2)
