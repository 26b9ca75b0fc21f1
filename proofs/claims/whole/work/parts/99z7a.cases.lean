/-! the cases of the law, by program -/
theorem LC_0 {d : Nat} {nm : String} {F : kFin} {b : Nat × Nat} {i : Int} {a : Int → Int} {σ : kS} (hd : 62 ≤ d) (hI : Inv σ) (hS : SA σ i a) (hi : 0 ≤ i ∧ i ≤ 5000) (hK : ∀ s, Inv s → scrEq σ s → Z (d + 1) (MLaw nm) F b 3047 [(0, (2, -4)), (1, (2, 0)), (2, (2, 166)), (3, (2, 208)), (4, (0, i))] [] kN s) : Z (d + 1) (MLaw nm) F b 260 [(0, (2, -4)), (1, (2, 0)), (2, (2, 166)), (3, (2, 208)), (4, (0, i))] [] kN σ := by
  refine Z_aload_n 1 (kdA dt_law_0 25 rfl) rfl rfl ?_
  refine Z_aload_n 0 (kdA dt_law_0 26 rfl) rfl rfl ?_
  refine Z_iload 4 (kdA dt_law_0 27 rfl) rfl ?_
  refine Z_iconst (kdA dt_law_0 28 rfl) (by decide) ?_
  refine Z_iadd (kdA dt_law_0 29 rfl) (by omega) ?_
  refine Z_lda (j := 1) (a := a) (kdA dt_law_0 30 rfl) hi.1 (by decide) hS ?_
  refine Z_aload_n 0 (kdA dt_law_0 31 rfl) rfl rfl ?_
  refine Z_iload 4 (kdA dt_law_0 32 rfl) rfl ?_
  refine Z_iconst (kdA dt_law_0 33 rfl) (by decide) ?_
  refine Z_iadd (kdA dt_law_0 34 rfl) (by omega) ?_
  refine Z_lda (j := 2) (a := a) (kdA dt_law_0 35 rfl) hi.1 (by decide) hS ?_
  refine Z_aload_n 0 (kdA dt_law_0 36 rfl) rfl rfl ?_
  refine Z_iload 4 (kdA dt_law_0 37 rfl) rfl ?_
  refine Z_iconst (kdA dt_law_0 38 rfl) (by decide) ?_
  refine Z_iadd (kdA dt_law_0 39 rfl) (by omega) ?_
  refine Z_lda (j := 3) (a := a) (kdA dt_law_0 40 rfl) hi.1 (by decide) hS ?_
  refine Z_aload_n 0 (kdA dt_law_0 41 rfl) rfl rfl ?_
  refine Z_iload 4 (kdA dt_law_0 42 rfl) rfl ?_
  refine Z_iconst (kdA dt_law_0 43 rfl) (by decide) ?_
  refine Z_iadd (kdA dt_law_0 44 rfl) (by omega) ?_
  refine Z_lda (j := 4) (a := a) (kdA dt_law_0 45 rfl) hi.1 (by decide) hS ?_
  refine Z_aload_n 0 (kdA dt_law_0 46 rfl) rfl rfl ?_
  refine Z_iload 4 (kdA dt_law_0 47 rfl) rfl ?_
  refine Z_iconst (kdA dt_law_0 48 rfl) (by decide) ?_
  refine Z_iadd (kdA dt_law_0 49 rfl) (by omega) ?_
  refine Z_lda (j := 5) (a := a) (kdA dt_law_0 50 rfl) hi.1 (by decide) hS ?_
  refine Z_aload_n 0 (kdA dt_law_0 51 rfl) rfl rfl ?_
  refine Z_iload 4 (kdA dt_law_0 52 rfl) rfl ?_
  refine Z_bipush (kdA dt_law_0 53 rfl) (by decide) ?_
  refine Z_iadd (kdA dt_law_0 54 rfl) (by omega) ?_
  refine Z_lda (j := 6) (a := a) (kdA dt_law_0 55 rfl) hi.1 (by decide) hS ?_
  refine Z_cVi (c := 11) (as := [(0, a 1), (0, a 2), (0, a 3), (0, a 4), (0, a 5), (0, a 6)]) (st := []) (kdA dt_law_0 56 rfl) rfl cl_MX11_draw lkL_23 rfl rfl (Nat.le_of_ble_eq_true rfl) o_0 (Ci.mono (O_draw d σ (by omega) hI) (fun x1 s1 h1 e1 => ?_))
  have hS1 := hS.mono e1
  refine Z_aload_n 2 (kdA dt_law_0 57 rfl) rfl rfl ?_
  refine Z_aload_n 0 (kdA dt_law_0 58 rfl) rfl rfl ?_
  refine Z_iload 4 (kdA dt_law_0 59 rfl) rfl ?_
  refine Z_iconst (kdA dt_law_0 60 rfl) (by decide) ?_
  refine Z_iadd (kdA dt_law_0 61 rfl) (by omega) ?_
  refine Z_lda (j := 1) (a := a) (kdA dt_law_0 62 rfl) hi.1 (by decide) hS1 ?_
  refine Z_aload_n 0 (kdA dt_law_0 63 rfl) rfl rfl ?_
  refine Z_iload 4 (kdA dt_law_0 64 rfl) rfl ?_
  refine Z_iconst (kdA dt_law_0 65 rfl) (by decide) ?_
  refine Z_iadd (kdA dt_law_0 66 rfl) (by omega) ?_
  refine Z_lda (j := 2) (a := a) (kdA dt_law_0 67 rfl) hi.1 (by decide) hS1 ?_
  refine Z_aload_n 0 (kdA dt_law_0 68 rfl) rfl rfl ?_
  refine Z_iload 4 (kdA dt_law_0 69 rfl) rfl ?_
  refine Z_iconst (kdA dt_law_0 70 rfl) (by decide) ?_
  refine Z_iadd (kdA dt_law_0 71 rfl) (by omega) ?_
  refine Z_lda (j := 3) (a := a) (kdA dt_law_0 72 rfl) hi.1 (by decide) hS1 ?_
  refine Z_aload_n 0 (kdA dt_law_0 73 rfl) rfl rfl ?_
  refine Z_iload 4 (kdA dt_law_0 74 rfl) rfl ?_
  refine Z_iconst (kdA dt_law_0 75 rfl) (by decide) ?_
  refine Z_iadd (kdA dt_law_0 76 rfl) (by omega) ?_
  refine Z_lda (j := 4) (a := a) (kdA dt_law_0 77 rfl) hi.1 (by decide) hS1 ?_
  refine Z_aload_n 0 (kdA dt_law_0 78 rfl) rfl rfl ?_
  refine Z_iload 4 (kdA dt_law_0 79 rfl) rfl ?_
  refine Z_iconst (kdA dt_law_0 80 rfl) (by decide) ?_
  refine Z_iadd (kdA dt_law_0 81 rfl) (by omega) ?_
  refine Z_lda (j := 5) (a := a) (kdA dt_law_0 82 rfl) hi.1 (by decide) hS1 ?_
  refine Z_aload_n 0 (kdA dt_law_0 83 rfl) rfl rfl ?_
  refine Z_iload 4 (kdA dt_law_0 84 rfl) rfl ?_
  refine Z_bipush (kdA dt_law_0 85 rfl) (by decide) ?_
  refine Z_iadd (kdA dt_law_0 86 rfl) (by omega) ?_
  refine Z_lda (j := 6) (a := a) (kdA dt_law_0 87 rfl) hi.1 (by decide) hS1 ?_
  refine Z_cVi (c := 12) (as := [(0, a 1), (0, a 2), (0, a 3), (0, a 4), (0, a 5), (0, a 6)]) (st := [(0, x1)]) (kdA dt_law_0 88 rfl) rfl cl_MX12_draw lkL_27 rfl rfl (Nat.le_of_ble_eq_true rfl) o_166 (Ci.mono h1 (fun x2 s2 h2 e2 => ?_))
  refine Z_icmp_eq (tgt := 3047) (kdA dt_law_0 89 rfl) rfl (fun _ => ?_) (fun c => absurd h2.1 c)
  exact hK s2 h2.2 (e1.trans e2)
theorem LC_1 {d : Nat} {nm : String} {F : kFin} {b : Nat × Nat} {i : Int} {a : Int → Int} {σ : kS} (hd : 62 ≤ d) (hI : Inv σ) (hS : SA σ i a) (hi : 0 ≤ i ∧ i ≤ 5000) (hK : ∀ s, Inv s → scrEq σ s → Z (d + 1) (MLaw nm) F b 3047 [(0, (2, -4)), (1, (2, 0)), (2, (2, 166)), (3, (2, 208)), (4, (0, i))] [] kN s) : Z (d + 1) (MLaw nm) F b 347 [(0, (2, -4)), (1, (2, 0)), (2, (2, 166)), (3, (2, 208)), (4, (0, i))] [] kN σ := by
  refine Z_aload_n 1 (kdA dt_law_0 92 rfl) rfl rfl ?_
  refine Z_aload_n 0 (kdA dt_law_0 93 rfl) rfl rfl ?_
  refine Z_iload 4 (kdA dt_law_0 94 rfl) rfl ?_
  refine Z_iconst (kdA dt_law_0 95 rfl) (by decide) ?_
  refine Z_iadd (kdA dt_law_0 96 rfl) (by omega) ?_
  refine Z_lda (j := 1) (a := a) (kdA dt_law_0 97 rfl) hi.1 (by decide) hS ?_
  refine Z_aload_n 0 (kdA dt_law_0 98 rfl) rfl rfl ?_
  refine Z_iload 4 (kdA dt_law_0 99 rfl) rfl ?_
  refine Z_iconst (kdA dt_law_0 100 rfl) (by decide) ?_
  refine Z_iadd (kdA dt_law_0 101 rfl) (by omega) ?_
  refine Z_lda (j := 2) (a := a) (kdA dt_law_0 102 rfl) hi.1 (by decide) hS ?_
  refine Z_cVi (c := 11) (as := [(0, a 1), (0, a 2)]) (st := []) (kdA dt_law_0 103 rfl) rfl cl_MX11_drawn lkL_28 rfl rfl (Nat.le_of_ble_eq_true rfl) o_0 (Ci.mono (O_drawn d σ (by omega) hI) (fun x1 s1 h1 e1 => ?_))
  have hS1 := hS.mono e1
  refine Z_aload_n 2 (kdA dt_law_0 104 rfl) rfl rfl ?_
  refine Z_aload_n 0 (kdA dt_law_0 105 rfl) rfl rfl ?_
  refine Z_iload 4 (kdA dt_law_0 106 rfl) rfl ?_
  refine Z_iconst (kdA dt_law_0 107 rfl) (by decide) ?_
  refine Z_iadd (kdA dt_law_0 108 rfl) (by omega) ?_
  refine Z_lda (j := 1) (a := a) (kdA dt_law_0 109 rfl) hi.1 (by decide) hS1 ?_
  refine Z_aload_n 0 (kdA dt_law_0 110 rfl) rfl rfl ?_
  refine Z_iload 4 (kdA dt_law_0 111 rfl) rfl ?_
  refine Z_iconst (kdA dt_law_0 112 rfl) (by decide) ?_
  refine Z_iadd (kdA dt_law_0 113 rfl) (by omega) ?_
  refine Z_lda (j := 2) (a := a) (kdA dt_law_0 114 rfl) hi.1 (by decide) hS1 ?_
  refine Z_cVi (c := 12) (as := [(0, a 1), (0, a 2)]) (st := [(0, x1)]) (kdA dt_law_0 115 rfl) rfl cl_MX12_drawn lkL_32 rfl rfl (Nat.le_of_ble_eq_true rfl) o_166 (Ci.mono h1 (fun x2 s2 h2 e2 => ?_))
  refine Z_icmp_eq (tgt := 3047) (kdA dt_law_0 116 rfl) rfl (fun _ => ?_) (fun c => absurd h2.1 c)
  exact hK s2 h2.2 (e1.trans e2)
theorem LC_2 {d : Nat} {nm : String} {F : kFin} {b : Nat × Nat} {i : Int} {a : Int → Int} {σ : kS} (hd : 62 ≤ d) (hI : Inv σ) (hS : SA σ i a) (hi : 0 ≤ i ∧ i ≤ 5000) (hK : ∀ s, Inv s → scrEq σ s → Z (d + 1) (MLaw nm) F b 3047 [(0, (2, -4)), (1, (2, 0)), (2, (2, 166)), (3, (2, 208)), (4, (0, i))] [] kN s) : Z (d + 1) (MLaw nm) F b 384 [(0, (2, -4)), (1, (2, 0)), (2, (2, 166)), (3, (2, 208)), (4, (0, i))] [] kN σ := by
  refine Z_aload_n 1 (kdA dt_law_0 119 rfl) rfl rfl ?_
  refine Z_aload_n 0 (kdA dt_law_0 120 rfl) rfl rfl ?_
  refine Z_iload 4 (kdA dt_law_0 121 rfl) rfl ?_
  refine Z_iconst (kdA dt_law_0 122 rfl) (by decide) ?_
  refine Z_iadd (kdA dt_law_0 123 rfl) (by omega) ?_
  refine Z_lda (j := 1) (a := a) (kdA dt_law_0 124 rfl) hi.1 (by decide) hS ?_
  refine Z_cVi (c := 11) (as := [(0, a 1)]) (st := []) (kdA dt_law_0 125 rfl) rfl cl_MX11_town lkL_33 rfl rfl (Nat.le_of_ble_eq_true rfl) o_0 (Ci.mono (O_town d σ (by omega) hI) (fun x1 s1 h1 e1 => ?_))
  have hS1 := hS.mono e1
  refine Z_aload_n 2 (kdA dt_law_0 126 rfl) rfl rfl ?_
  refine Z_aload_n 0 (kdA dt_law_0 127 rfl) rfl rfl ?_
  refine Z_iload 4 (kdA dt_law_1 0 rfl) rfl ?_
  refine Z_iconst (kdA dt_law_1 1 rfl) (by decide) ?_
  refine Z_iadd (kdA dt_law_1 2 rfl) (by omega) ?_
  refine Z_lda (j := 1) (a := a) (kdA dt_law_1 3 rfl) hi.1 (by decide) hS1 ?_
  refine Z_cVi (c := 12) (as := [(0, a 1)]) (st := [(0, x1)]) (kdA dt_law_1 4 rfl) rfl cl_MX12_town lkL_37 rfl rfl (Nat.le_of_ble_eq_true rfl) o_166 (Ci.mono h1 (fun x2 s2 h2 e2 => ?_))
  refine Z_icmp_eq (tgt := 3047) (kdA dt_law_1 5 rfl) rfl (fun _ => ?_) (fun c => absurd h2.1 c)
  exact hK s2 h2.2 (e1.trans e2)
theorem LC_3 {d : Nat} {nm : String} {F : kFin} {b : Nat × Nat} {i : Int} {a : Int → Int} {σ : kS} (hd : 62 ≤ d) (hI : Inv σ) (hS : SA σ i a) (hi : 0 ≤ i ∧ i ≤ 5000) (hR : ∀ j, 0 ≤ j ∧ j ≤ 7 → -2147483648 ≤ a j ∧ a j ≤ 2147483647) (hK : ∀ s, Inv s → scrEq σ s → Z (d + 1) (MLaw nm) F b 3047 [(0, (2, -4)), (1, (2, 0)), (2, (2, 166)), (3, (2, 208)), (4, (0, i))] [] kN s) : Z (d + 1) (MLaw nm) F b 409 [(0, (2, -4)), (1, (2, 0)), (2, (2, 166)), (3, (2, 208)), (4, (0, i))] [] kN σ := by
  refine Z_aload_n 1 (kdA dt_law_1 8 rfl) rfl rfl ?_
  refine Z_aload_n 0 (kdA dt_law_1 9 rfl) rfl rfl ?_
  refine Z_iload 4 (kdA dt_law_1 10 rfl) rfl ?_
  refine Z_iconst (kdA dt_law_1 11 rfl) (by decide) ?_
  refine Z_iadd (kdA dt_law_1 12 rfl) (by omega) ?_
  refine Z_lda (j := 1) (a := a) (kdA dt_law_1 13 rfl) hi.1 (by decide) hS ?_
  refine Z_aload_n 0 (kdA dt_law_1 14 rfl) rfl rfl ?_
  refine Z_iload 4 (kdA dt_law_1 15 rfl) rfl ?_
  refine Z_iconst (kdA dt_law_1 16 rfl) (by decide) ?_
  refine Z_iadd (kdA dt_law_1 17 rfl) (by omega) ?_
  refine Z_lda (j := 2) (a := a) (kdA dt_law_1 18 rfl) hi.1 (by decide) hS ?_
  refine Z_aload_n 0 (kdA dt_law_1 19 rfl) rfl rfl ?_
  refine Z_iload 4 (kdA dt_law_1 20 rfl) rfl ?_
  refine Z_iconst (kdA dt_law_1 21 rfl) (by decide) ?_
  refine Z_iadd (kdA dt_law_1 22 rfl) (by omega) ?_
  refine Z_lda (j := 3) (a := a) (kdA dt_law_1 23 rfl) hi.1 (by decide) hS ?_
  refine Z_aload_n 0 (kdA dt_law_1 24 rfl) rfl rfl ?_
  refine Z_iload 4 (kdA dt_law_1 25 rfl) rfl ?_
  refine Z_iconst (kdA dt_law_1 26 rfl) (by decide) ?_
  refine Z_iadd (kdA dt_law_1 27 rfl) (by omega) ?_
  refine Z_lda (j := 4) (a := a) (kdA dt_law_1 28 rfl) hi.1 (by decide) hS ?_
  refine Z_aload_n 0 (kdA dt_law_1 29 rfl) rfl rfl ?_
  refine Z_iload 4 (kdA dt_law_1 30 rfl) rfl ?_
  refine Z_iconst (kdA dt_law_1 31 rfl) (by decide) ?_
  refine Z_iadd (kdA dt_law_1 32 rfl) (by omega) ?_
  refine Z_lda (j := 5) (a := a) (kdA dt_law_1 33 rfl) hi.1 (by decide) hS ?_
  refine Z_cVi (c := 11) (as := [(0, a 1), (0, a 2), (0, a 3), (0, a 4), (0, a 5)]) (st := []) (kdA dt_law_1 34 rfl) rfl cl_MX11_feed lkL_38 rfl rfl (Nat.le_of_ble_eq_true rfl) o_0 (Ci.mono (O_feed (hR 1 (by decide)) (hR 2 (by decide)) (hR 3 (by decide)) (hR 4 (by decide)) (hR 5 (by decide)) d σ (by omega) hI) (fun x1 s1 h1 e1 => ?_))
  have hS1 := hS.mono e1
  refine Z_aload_n 2 (kdA dt_law_1 35 rfl) rfl rfl ?_
  refine Z_aload_n 0 (kdA dt_law_1 36 rfl) rfl rfl ?_
  refine Z_iload 4 (kdA dt_law_1 37 rfl) rfl ?_
  refine Z_iconst (kdA dt_law_1 38 rfl) (by decide) ?_
  refine Z_iadd (kdA dt_law_1 39 rfl) (by omega) ?_
  refine Z_lda (j := 1) (a := a) (kdA dt_law_1 40 rfl) hi.1 (by decide) hS1 ?_
  refine Z_aload_n 0 (kdA dt_law_1 41 rfl) rfl rfl ?_
  refine Z_iload 4 (kdA dt_law_1 42 rfl) rfl ?_
  refine Z_iconst (kdA dt_law_1 43 rfl) (by decide) ?_
  refine Z_iadd (kdA dt_law_1 44 rfl) (by omega) ?_
  refine Z_lda (j := 2) (a := a) (kdA dt_law_1 45 rfl) hi.1 (by decide) hS1 ?_
  refine Z_aload_n 0 (kdA dt_law_1 46 rfl) rfl rfl ?_
  refine Z_iload 4 (kdA dt_law_1 47 rfl) rfl ?_
  refine Z_iconst (kdA dt_law_1 48 rfl) (by decide) ?_
  refine Z_iadd (kdA dt_law_1 49 rfl) (by omega) ?_
  refine Z_lda (j := 3) (a := a) (kdA dt_law_1 50 rfl) hi.1 (by decide) hS1 ?_
  refine Z_aload_n 0 (kdA dt_law_1 51 rfl) rfl rfl ?_
  refine Z_iload 4 (kdA dt_law_1 52 rfl) rfl ?_
  refine Z_iconst (kdA dt_law_1 53 rfl) (by decide) ?_
  refine Z_iadd (kdA dt_law_1 54 rfl) (by omega) ?_
  refine Z_lda (j := 4) (a := a) (kdA dt_law_1 55 rfl) hi.1 (by decide) hS1 ?_
  refine Z_aload_n 0 (kdA dt_law_1 56 rfl) rfl rfl ?_
  refine Z_iload 4 (kdA dt_law_1 57 rfl) rfl ?_
  refine Z_iconst (kdA dt_law_1 58 rfl) (by decide) ?_
  refine Z_iadd (kdA dt_law_1 59 rfl) (by omega) ?_
  refine Z_lda (j := 5) (a := a) (kdA dt_law_1 60 rfl) hi.1 (by decide) hS1 ?_
  refine Z_cVi (c := 12) (as := [(0, a 1), (0, a 2), (0, a 3), (0, a 4), (0, a 5)]) (st := [(0, x1)]) (kdA dt_law_1 61 rfl) rfl cl_MX12_feed lkL_42 rfl rfl (Nat.le_of_ble_eq_true rfl) o_166 (Ci.mono h1 (fun x2 s2 h2 e2 => ?_))
  refine Z_icmp_eq (tgt := 3047) (kdA dt_law_1 62 rfl) rfl (fun _ => ?_) (fun c => absurd h2.1 c)
  exact hK s2 h2.2 (e1.trans e2)
theorem LC_4 {d : Nat} {nm : String} {F : kFin} {b : Nat × Nat} {i : Int} {a : Int → Int} {σ : kS} (hd : 62 ≤ d) (hI : Inv σ) (hS : SA σ i a) (hi : 0 ≤ i ∧ i ≤ 5000) (hK : ∀ s, Inv s → scrEq σ s → Z (d + 1) (MLaw nm) F b 3047 [(0, (2, -4)), (1, (2, 0)), (2, (2, 166)), (3, (2, 208)), (4, (0, i))] [] kN s) : Z (d + 1) (MLaw nm) F b 482 [(0, (2, -4)), (1, (2, 0)), (2, (2, 166)), (3, (2, 208)), (4, (0, i))] [] kN σ := by
  refine Z_aload_n 1 (kdA dt_law_1 65 rfl) rfl rfl ?_
  refine Z_aload_n 0 (kdA dt_law_1 66 rfl) rfl rfl ?_
  refine Z_iload 4 (kdA dt_law_1 67 rfl) rfl ?_
  refine Z_iconst (kdA dt_law_1 68 rfl) (by decide) ?_
  refine Z_iadd (kdA dt_law_1 69 rfl) (by omega) ?_
  refine Z_lda (j := 1) (a := a) (kdA dt_law_1 70 rfl) hi.1 (by decide) hS ?_
  refine Z_cVi (c := 11) (as := [(0, a 1)]) (st := []) (kdA dt_law_1 71 rfl) rfl cl_MX11_end lkL_43 rfl rfl (Nat.le_of_ble_eq_true rfl) o_0 (Ci.mono (O_end d σ (by omega) hI) (fun x1 s1 h1 e1 => ?_))
  have hS1 := hS.mono e1
  refine Z_aload_n 2 (kdA dt_law_1 72 rfl) rfl rfl ?_
  refine Z_aload_n 0 (kdA dt_law_1 73 rfl) rfl rfl ?_
  refine Z_iload 4 (kdA dt_law_1 74 rfl) rfl ?_
  refine Z_iconst (kdA dt_law_1 75 rfl) (by decide) ?_
  refine Z_iadd (kdA dt_law_1 76 rfl) (by omega) ?_
  refine Z_lda (j := 1) (a := a) (kdA dt_law_1 77 rfl) hi.1 (by decide) hS1 ?_
  refine Z_cVi (c := 12) (as := [(0, a 1)]) (st := [(0, x1)]) (kdA dt_law_1 78 rfl) rfl cl_MX12_end lkL_47 rfl rfl (Nat.le_of_ble_eq_true rfl) o_166 (Ci.mono h1 (fun x2 s2 h2 e2 => ?_))
  refine Z_icmp_eq (tgt := 3047) (kdA dt_law_1 79 rfl) rfl (fun _ => ?_) (fun c => absurd h2.1 c)
  exact hK s2 h2.2 (e1.trans e2)
theorem LC_5 {d : Nat} {nm : String} {F : kFin} {b : Nat × Nat} {i : Int} {a : Int → Int} {σ : kS} (hd : 62 ≤ d) (hI : Inv σ) (hS : SA σ i a) (hi : 0 ≤ i ∧ i ≤ 5000) (hK : ∀ s, Inv s → scrEq σ s → Z (d + 1) (MLaw nm) F b 3047 [(0, (2, -4)), (1, (2, 0)), (2, (2, 166)), (3, (2, 208)), (4, (0, i))] [] kN s) : Z (d + 1) (MLaw nm) F b 507 [(0, (2, -4)), (1, (2, 0)), (2, (2, 166)), (3, (2, 208)), (4, (0, i))] [] kN σ := by
  refine Z_aload_n 1 (kdA dt_law_1 82 rfl) rfl rfl ?_
  refine Z_aload_n 0 (kdA dt_law_1 83 rfl) rfl rfl ?_
  refine Z_iload 4 (kdA dt_law_1 84 rfl) rfl ?_
  refine Z_iconst (kdA dt_law_1 85 rfl) (by decide) ?_
  refine Z_iadd (kdA dt_law_1 86 rfl) (by omega) ?_
  refine Z_lda (j := 1) (a := a) (kdA dt_law_1 87 rfl) hi.1 (by decide) hS ?_
  refine Z_cVi (c := 11) (as := [(0, a 1)]) (st := []) (kdA dt_law_1 88 rfl) rfl cl_MX11_fault lkL_48 rfl rfl (Nat.le_of_ble_eq_true rfl) o_0 (Ci.mono (O_fault d σ (by omega) hI) (fun x1 s1 h1 e1 => ?_))
  have hS1 := hS.mono e1
  refine Z_aload_n 2 (kdA dt_law_1 89 rfl) rfl rfl ?_
  refine Z_aload_n 0 (kdA dt_law_1 90 rfl) rfl rfl ?_
  refine Z_iload 4 (kdA dt_law_1 91 rfl) rfl ?_
  refine Z_iconst (kdA dt_law_1 92 rfl) (by decide) ?_
  refine Z_iadd (kdA dt_law_1 93 rfl) (by omega) ?_
  refine Z_lda (j := 1) (a := a) (kdA dt_law_1 94 rfl) hi.1 (by decide) hS1 ?_
  refine Z_cVi (c := 12) (as := [(0, a 1)]) (st := [(0, x1)]) (kdA dt_law_1 95 rfl) rfl cl_MX12_fault lkL_51 rfl rfl (Nat.le_of_ble_eq_true rfl) o_166 (Ci.mono h1 (fun x2 s2 h2 e2 => ?_))
  refine Z_icmp_eq (tgt := 3047) (kdA dt_law_1 96 rfl) rfl (fun _ => ?_) (fun c => absurd h2.1 c)
  exact hK s2 h2.2 (e1.trans e2)
theorem LC_6 {d : Nat} {nm : String} {F : kFin} {b : Nat × Nat} {i : Int} {a : Int → Int} {σ : kS} (hd : 62 ≤ d) (hI : Inv σ) (hS : SA σ i a) (hi : 0 ≤ i ∧ i ≤ 5000) (hK : ∀ s, Inv s → scrEq σ s → Z (d + 1) (MLaw nm) F b 3047 [(0, (2, -4)), (1, (2, 0)), (2, (2, 166)), (3, (2, 208)), (4, (0, i))] [] kN s) : Z (d + 1) (MLaw nm) F b 532 [(0, (2, -4)), (1, (2, 0)), (2, (2, 166)), (3, (2, 208)), (4, (0, i))] [] kN σ := by
  refine Z_aload_n 1 (kdA dt_law_1 99 rfl) rfl rfl ?_
  refine Z_aload_n 0 (kdA dt_law_1 100 rfl) rfl rfl ?_
  refine Z_iload 4 (kdA dt_law_1 101 rfl) rfl ?_
  refine Z_iconst (kdA dt_law_1 102 rfl) (by decide) ?_
  refine Z_iadd (kdA dt_law_1 103 rfl) (by omega) ?_
  refine Z_lda (j := 1) (a := a) (kdA dt_law_1 104 rfl) hi.1 (by decide) hS ?_
  refine Z_cVi (c := 11) (as := [(0, a 1)]) (st := []) (kdA dt_law_1 105 rfl) rfl cl_MX11_text lkL_52 rfl rfl (Nat.le_of_ble_eq_true rfl) o_0 (Ci.mono (O_text d σ (by omega) hI) (fun x1 s1 h1 e1 => ?_))
  have hS1 := hS.mono e1
  refine Z_aload_n 2 (kdA dt_law_1 106 rfl) rfl rfl ?_
  refine Z_aload_n 0 (kdA dt_law_1 107 rfl) rfl rfl ?_
  refine Z_iload 4 (kdA dt_law_1 108 rfl) rfl ?_
  refine Z_iconst (kdA dt_law_1 109 rfl) (by decide) ?_
  refine Z_iadd (kdA dt_law_1 110 rfl) (by omega) ?_
  refine Z_lda (j := 1) (a := a) (kdA dt_law_1 111 rfl) hi.1 (by decide) hS1 ?_
  refine Z_cVi (c := 12) (as := [(0, a 1)]) (st := [(0, x1)]) (kdA dt_law_1 112 rfl) rfl cl_MX12_text lkL_55 rfl rfl (Nat.le_of_ble_eq_true rfl) o_166 (Ci.mono h1 (fun x2 s2 h2 e2 => ?_))
  refine Z_icmp_eq (tgt := 3047) (kdA dt_law_1 113 rfl) rfl (fun _ => ?_) (fun c => absurd h2.1 c)
  exact hK s2 h2.2 (e1.trans e2)
theorem LC_7 {d : Nat} {nm : String} {F : kFin} {b b2 : Nat × Nat} {i : Int} {a : Int → Int} {σ : kS} (hd : 62 ≤ d) (hI : Inv σ) (hS : SA σ i a) (hi : 0 ≤ i ∧ i ≤ 5000) (hb : 1 ≤ b.1 ∧ 6 ≤ b.2) (hb2 : (b.1 - 1, b.2 - 6) = b2) (hK : ∀ s, Inv s → scrEq σ s → Z (d + 1) (MLaw nm) F b2 3047 [(0, (2, -4)), (1, (2, 0)), (2, (2, 166)), (3, (2, 208)), (4, (0, i))] [] kN s) : Z (d + 1) (MLaw nm) F b 557 [(0, (2, -4)), (1, (2, 0)), (2, (2, 166)), (3, (2, 208)), (4, (0, i))] [] kN σ := by
  refine Z_aload_n 1 (kdA dt_law_1 116 rfl) rfl rfl ?_
  refine Z_aload_n 0 (kdA dt_law_1 117 rfl) rfl rfl ?_
  refine Z_iload 4 (kdA dt_law_1 118 rfl) rfl ?_
  refine Z_iconst (kdA dt_law_1 119 rfl) (by decide) ?_
  refine Z_iadd (kdA dt_law_1 120 rfl) (by omega) ?_
  refine Z_lda (j := 1) (a := a) (kdA dt_law_1 121 rfl) hi.1 (by decide) hS ?_
  refine Z_aload_n 0 (kdA dt_law_1 122 rfl) rfl rfl ?_
  refine Z_iload 4 (kdA dt_law_1 123 rfl) rfl ?_
  refine Z_iconst (kdA dt_law_1 124 rfl) (by decide) ?_
  refine Z_iadd (kdA dt_law_1 125 rfl) (by omega) ?_
  refine Z_lda (j := 2) (a := a) (kdA dt_law_1 126 rfl) hi.1 (by decide) hS ?_
  refine Z_aload_n 0 (kdA dt_law_1 127 rfl) rfl rfl ?_
  refine Z_iload 4 (kdA dt_law_2 0 rfl) rfl ?_
  refine Z_iconst (kdA dt_law_2 1 rfl) (by decide) ?_
  refine Z_iadd (kdA dt_law_2 2 rfl) (by omega) ?_
  refine Z_lda (j := 3) (a := a) (kdA dt_law_2 3 rfl) hi.1 (by decide) hS ?_
  refine Z_wet (kdA dt_law_2 4 rfl) (kdA dt_law_2 5 rfl) (kdA dt_law_2 6 rfl) (kdA dt_law_2 7 rfl) ?_
  refine Z_aload_n 0 (kdA dt_law_2 8 rfl) rfl rfl ?_
  refine Z_iload 4 (kdA dt_law_2 9 rfl) rfl ?_
  refine Z_iconst (kdA dt_law_2 10 rfl) (by decide) ?_
  refine Z_iadd (kdA dt_law_2 11 rfl) (by omega) ?_
  refine Z_lda (j := 4) (a := a) (kdA dt_law_2 12 rfl) hi.1 (by decide) hS ?_
  refine Z_aload_n 0 (kdA dt_law_2 13 rfl) rfl rfl ?_
  refine Z_iload 4 (kdA dt_law_2 14 rfl) rfl ?_
  refine Z_iconst (kdA dt_law_2 15 rfl) (by decide) ?_
  refine Z_iadd (kdA dt_law_2 16 rfl) (by omega) ?_
  refine Z_lda (j := 5) (a := a) (kdA dt_law_2 17 rfl) hi.1 (by decide) hS ?_
  refine Z_aload_n 3 (kdA dt_law_2 18 rfl) rfl rfl ?_
  refine Z_callSH (d' := d) (M' := ML_pain) (hh := hhP) (b' := (1, 6)) (as := [(2, 0), (0, a 1), (0, a 2), (0, wtt (a 3)), (0, a 4), (0, a 5), (2, 208)]) (st := []) (kdA dt_law_2 19 rfl) (Nat.le_refl _) hb clh_pain ⟨tb5 138 rfl rfl, tb5 139 rfl rfl⟩ rfl rfl (Nat.le_of_ble_eq_true rfl) (fun _ _ => H_pain (by omega) hI wtt_01) (fun v n1 s1 _ _ hp e1 => ?_)
  obtain ⟨rfl, x1, rfl, hk1, hor⟩ := hp
  have hS1 := hS.mono e1
  have hI1 := hI.keep hk1
  rw [hb2]
  refine Z_istore (ls' := [(0, (2, -4)), (1, (2, 0)), (2, (2, 166)), (3, (2, 208)), (4, (0, i)), (5, (0, x1))]) (kdA dt_law_2 20 rfl) (show 5 < 7 by decide) rfl ?_
  refine Z_aload_n 2 (kdA dt_law_2 21 rfl) rfl rfl ?_
  refine Z_aload_n 0 (kdA dt_law_2 22 rfl) rfl rfl ?_
  refine Z_iload 4 (kdA dt_law_2 23 rfl) rfl ?_
  refine Z_iconst (kdA dt_law_2 24 rfl) (by decide) ?_
  refine Z_iadd (kdA dt_law_2 25 rfl) (by omega) ?_
  refine Z_lda (j := 1) (a := a) (kdA dt_law_2 26 rfl) hi.1 (by decide) hS1 ?_
  refine Z_aload_n 0 (kdA dt_law_2 27 rfl) rfl rfl ?_
  refine Z_iload 4 (kdA dt_law_2 28 rfl) rfl ?_
  refine Z_iconst (kdA dt_law_2 29 rfl) (by decide) ?_
  refine Z_iadd (kdA dt_law_2 30 rfl) (by omega) ?_
  refine Z_lda (j := 2) (a := a) (kdA dt_law_2 31 rfl) hi.1 (by decide) hS1 ?_
  refine Z_aload_n 0 (kdA dt_law_2 32 rfl) rfl rfl ?_
  refine Z_iload 4 (kdA dt_law_2 33 rfl) rfl ?_
  refine Z_iconst (kdA dt_law_2 34 rfl) (by decide) ?_
  refine Z_iadd (kdA dt_law_2 35 rfl) (by omega) ?_
  refine Z_lda (j := 3) (a := a) (kdA dt_law_2 36 rfl) hi.1 (by decide) hS1 ?_
  refine Z_wet (kdA dt_law_2 37 rfl) (kdA dt_law_2 38 rfl) (kdA dt_law_2 39 rfl) (kdA dt_law_2 40 rfl) ?_
  refine Z_aload_n 0 (kdA dt_law_2 41 rfl) rfl rfl ?_
  refine Z_iload 4 (kdA dt_law_2 42 rfl) rfl ?_
  refine Z_iconst (kdA dt_law_2 43 rfl) (by decide) ?_
  refine Z_iadd (kdA dt_law_2 44 rfl) (by omega) ?_
  refine Z_lda (j := 4) (a := a) (kdA dt_law_2 45 rfl) hi.1 (by decide) hS1 ?_
  refine Z_aload_n 0 (kdA dt_law_2 46 rfl) rfl rfl ?_
  refine Z_iload 4 (kdA dt_law_2 47 rfl) rfl ?_
  refine Z_iconst (kdA dt_law_2 48 rfl) (by decide) ?_
  refine Z_iadd (kdA dt_law_2 49 rfl) (by omega) ?_
  refine Z_lda (j := 5) (a := a) (kdA dt_law_2 50 rfl) hi.1 (by decide) hS1 ?_
  refine Z_cVi (c := 12) (as := [(0, a 1), (0, a 2), (0, wtt (a 3)), (0, a 4), (0, a 5)]) (st := []) (kdA dt_law_2 51 rfl) rfl cl_MX12_pain lkL_61 rfl rfl (Nat.le_of_ble_eq_true rfl) o_166 (M_pain8 (Q := fun x s => scrEq s1 s → Z (d + 1) (MLaw nm) F b2 644 [(0, (2, -4)), (1, (2, 0)), (2, (2, 166)), (3, (2, 208)), (4, (0, i)), (5, (0, x1))] [(0, x)] kN s) (by omega) hI1 wtt_01 (fun c2 s2 hk2 w2 t2 e2 => ?_) (fun c2 s2 hk2 w2 t2 e2 => ?_))
  · refine Z_istore (ls' := [(0, (2, -4)), (1, (2, 0)), (2, (2, 166)), (3, (2, 208)), (4, (0, i)), (5, (0, x1)), (6, (0, painV s1 (a 1) (a 2) (wtt (a 3)) (a 4) (a 5)))]) (kdA dt_law_2 52 rfl) (show 6 < 7 by decide) rfl ?_
    refine Z_aload_n 2 (kdA dt_law_2 53 rfl) rfl rfl ?_
    refine Z_cVi (c := 12) (as := []) (st := []) (kdA dt_law_2 54 rfl) rfl cl_MX12_thrown lkL_62 rfl rfl (Nat.le_of_ble_eq_true rfl) o_166 (M_thrown (by omega) (fun _ => ?_))
    rw [t2]
    refine Z_iload 5 (kdA dt_law_2 55 rfl) rfl ?_
    rcases hor with ⟨hx, hOK, hv⟩ | ⟨hx, hno⟩
    · refine Z_icmp_eq (tgt := 657) (kdA dt_law_2 56 rfl) rfl (fun _ => ?_) (fun c => absurd hx.symm c)
      refine Z_iload 5 (kdA dt_law_2 59 rfl) rfl ?_
      refine Z_if_ne (tgt := 674) (kdA dt_law_2 60 rfl) rfl (fun c => absurd hx c) (fun _ => ?_)
      refine Z_aload_n 3 (kdA dt_law_2 61 rfl) rfl rfl ?_
      refine Z_iconst (kdA dt_law_2 62 rfl) (by decide) ?_
      refine Z_laload (kdA dt_law_2 63 rfl) a_208 (by decide) (by decide +kernel) ?_
      refine Z_iload 6 (kdA dt_law_2 64 rfl) rfl ?_
      refine Z_i2l (kdA dt_law_2 65 rfl) ?_
      refine Z_lcmp (kdA dt_law_2 66 rfl) ?_
      have h208 : s2 208 0 = painV s1 (a 1) (a 2) (wtt (a 3)) (a 4) (a 5) := by rw [w2, hv, painV_fr hk1.1]
      rw [h208, klcmp_self]
      refine Z_if_eq (tgt := 674) (kdA dt_law_2 67 rfl) rfl (fun _ => ?_) (fun c => absurd rfl c)
      refine Z_goto (tgt := 3047) (kdA dt_law_2 70 rfl) rfl ?_
      refine Z_lsd (ls' := [(0, (2, -4)), (1, (2, 0)), (2, (2, 166)), (3, (2, 208)), (4, (0, i))]) (fun q hq => lsd2 hq) ?_
      exact hK s2 (hI1.keep hk2) (e1.trans e2)
    · exact absurd ((painOK_fr hk1.1).mp c2) hno
  · refine Z_istore (ls' := [(0, (2, -4)), (1, (2, 0)), (2, (2, 166)), (3, (2, 208)), (4, (0, i)), (5, (0, x1)), (6, (0, 0))]) (kdA dt_law_2 52 rfl) (show 6 < 7 by decide) rfl ?_
    refine Z_aload_n 2 (kdA dt_law_2 53 rfl) rfl rfl ?_
    refine Z_cVi (c := 12) (as := []) (st := []) (kdA dt_law_2 54 rfl) rfl cl_MX12_thrown lkL_62 rfl rfl (Nat.le_of_ble_eq_true rfl) o_166 (M_thrown (by omega) (fun _ => ?_))
    rw [t2]
    refine Z_iload 5 (kdA dt_law_2 55 rfl) rfl ?_
    rcases hor with ⟨hx, hOK, hv⟩ | ⟨hx, hno⟩
    · exact absurd ((painOK_fr hk1.1).mpr hOK) c2
    · refine Z_icmp_eq (tgt := 657) (kdA dt_law_2 56 rfl) rfl (fun _ => ?_) (fun c => absurd hx.symm c)
      refine Z_iload 5 (kdA dt_law_2 59 rfl) rfl ?_
      refine Z_if_ne (tgt := 674) (kdA dt_law_2 60 rfl) rfl (fun _ => ?_) (fun c => absurd (fun h => by omega) c)
      refine Z_goto (tgt := 3047) (kdA dt_law_2 70 rfl) rfl ?_
      refine Z_lsd (ls' := [(0, (2, -4)), (1, (2, 0)), (2, (2, 166)), (3, (2, 208)), (4, (0, i))]) (fun q hq => lsd2 hq) ?_
      exact hK s2 (hI1.keep hk2) (e1.trans e2)
theorem LC_8 {d : Nat} {nm : String} {F : kFin} {b : Nat × Nat} {i : Int} {a : Int → Int} {σ : kS} (hd : 62 ≤ d) (hI : Inv σ) (hS : SA σ i a) (hi : 0 ≤ i ∧ i ≤ 5000) (hK : ∀ s, Inv s → scrEq σ s → Z (d + 1) (MLaw nm) F b 3047 [(0, (2, -4)), (1, (2, 0)), (2, (2, 166)), (3, (2, 208)), (4, (0, i))] [] kN s) : Z (d + 1) (MLaw nm) F b 677 [(0, (2, -4)), (1, (2, 0)), (2, (2, 166)), (3, (2, 208)), (4, (0, i))] [] kN σ := by
  refine Z_aload_n 1 (kdA dt_law_2 71 rfl) rfl rfl ?_
  refine Z_aload_n 0 (kdA dt_law_2 72 rfl) rfl rfl ?_
  refine Z_iload 4 (kdA dt_law_2 73 rfl) rfl ?_
  refine Z_iconst (kdA dt_law_2 74 rfl) (by decide) ?_
  refine Z_iadd (kdA dt_law_2 75 rfl) (by omega) ?_
  refine Z_lda (j := 1) (a := a) (kdA dt_law_2 76 rfl) hi.1 (by decide) hS ?_
  refine Z_aload_n 0 (kdA dt_law_2 77 rfl) rfl rfl ?_
  refine Z_iload 4 (kdA dt_law_2 78 rfl) rfl ?_
  refine Z_iconst (kdA dt_law_2 79 rfl) (by decide) ?_
  refine Z_iadd (kdA dt_law_2 80 rfl) (by omega) ?_
  refine Z_lda (j := 2) (a := a) (kdA dt_law_2 81 rfl) hi.1 (by decide) hS ?_
  refine Z_aload_n 0 (kdA dt_law_2 82 rfl) rfl rfl ?_
  refine Z_iload 4 (kdA dt_law_2 83 rfl) rfl ?_
  refine Z_iconst (kdA dt_law_2 84 rfl) (by decide) ?_
  refine Z_iadd (kdA dt_law_2 85 rfl) (by omega) ?_
  refine Z_lda (j := 3) (a := a) (kdA dt_law_2 86 rfl) hi.1 (by decide) hS ?_
  refine Z_wet (kdA dt_law_2 87 rfl) (kdA dt_law_2 88 rfl) (kdA dt_law_2 89 rfl) (kdA dt_law_2 90 rfl) ?_
  refine Z_aload_n 0 (kdA dt_law_2 91 rfl) rfl rfl ?_
  refine Z_iload 4 (kdA dt_law_2 92 rfl) rfl ?_
  refine Z_iconst (kdA dt_law_2 93 rfl) (by decide) ?_
  refine Z_iadd (kdA dt_law_2 94 rfl) (by omega) ?_
  refine Z_lda (j := 4) (a := a) (kdA dt_law_2 95 rfl) hi.1 (by decide) hS ?_
  refine Z_aload_n 0 (kdA dt_law_2 96 rfl) rfl rfl ?_
  refine Z_iload 4 (kdA dt_law_2 97 rfl) rfl ?_
  refine Z_iconst (kdA dt_law_2 98 rfl) (by decide) ?_
  refine Z_iadd (kdA dt_law_2 99 rfl) (by omega) ?_
  refine Z_lda (j := 5) (a := a) (kdA dt_law_2 100 rfl) hi.1 (by decide) hS ?_
  refine Z_cVi (c := 11) (as := [(0, a 1), (0, a 2), (0, wtt (a 3)), (0, a 4), (0, a 5)]) (st := []) (kdA dt_law_2 101 rfl) rfl cl_MX11_pains lkL_66 rfl rfl (Nat.le_of_ble_eq_true rfl) o_0 (Ci.mono (O_pains wtt_01 d σ (by omega) hI) (fun x1 s1 h1 e1 => ?_))
  have hS1 := hS.mono e1
  refine Z_aload_n 2 (kdA dt_law_2 102 rfl) rfl rfl ?_
  refine Z_aload_n 0 (kdA dt_law_2 103 rfl) rfl rfl ?_
  refine Z_iload 4 (kdA dt_law_2 104 rfl) rfl ?_
  refine Z_iconst (kdA dt_law_2 105 rfl) (by decide) ?_
  refine Z_iadd (kdA dt_law_2 106 rfl) (by omega) ?_
  refine Z_lda (j := 1) (a := a) (kdA dt_law_2 107 rfl) hi.1 (by decide) hS1 ?_
  refine Z_aload_n 0 (kdA dt_law_2 108 rfl) rfl rfl ?_
  refine Z_iload 4 (kdA dt_law_2 109 rfl) rfl ?_
  refine Z_iconst (kdA dt_law_2 110 rfl) (by decide) ?_
  refine Z_iadd (kdA dt_law_2 111 rfl) (by omega) ?_
  refine Z_lda (j := 2) (a := a) (kdA dt_law_2 112 rfl) hi.1 (by decide) hS1 ?_
  refine Z_aload_n 0 (kdA dt_law_2 113 rfl) rfl rfl ?_
  refine Z_iload 4 (kdA dt_law_2 114 rfl) rfl ?_
  refine Z_iconst (kdA dt_law_2 115 rfl) (by decide) ?_
  refine Z_iadd (kdA dt_law_2 116 rfl) (by omega) ?_
  refine Z_lda (j := 3) (a := a) (kdA dt_law_2 117 rfl) hi.1 (by decide) hS1 ?_
  refine Z_wet (kdA dt_law_2 118 rfl) (kdA dt_law_2 119 rfl) (kdA dt_law_2 120 rfl) (kdA dt_law_2 121 rfl) ?_
  refine Z_aload_n 0 (kdA dt_law_2 122 rfl) rfl rfl ?_
  refine Z_iload 4 (kdA dt_law_2 123 rfl) rfl ?_
  refine Z_iconst (kdA dt_law_2 124 rfl) (by decide) ?_
  refine Z_iadd (kdA dt_law_2 125 rfl) (by omega) ?_
  refine Z_lda (j := 4) (a := a) (kdA dt_law_2 126 rfl) hi.1 (by decide) hS1 ?_
  refine Z_aload_n 0 (kdA dt_law_2 127 rfl) rfl rfl ?_
  refine Z_iload 4 (kdA dt_law_3 0 rfl) rfl ?_
  refine Z_iconst (kdA dt_law_3 1 rfl) (by decide) ?_
  refine Z_iadd (kdA dt_law_3 2 rfl) (by omega) ?_
  refine Z_lda (j := 5) (a := a) (kdA dt_law_3 3 rfl) hi.1 (by decide) hS1 ?_
  refine Z_cVi (c := 12) (as := [(0, a 1), (0, a 2), (0, wtt (a 3)), (0, a 4), (0, a 5)]) (st := [(0, x1)]) (kdA dt_law_3 4 rfl) rfl cl_MX12_pains lkL_69 rfl rfl (Nat.le_of_ble_eq_true rfl) o_166 (Ci.mono h1 (fun x2 s2 h2 e2 => ?_))
  refine Z_icmp_eq (tgt := 3047) (kdA dt_law_3 5 rfl) rfl (fun _ => ?_) (fun c => absurd h2.1 c)
  exact hK s2 h2.2 (e1.trans e2)
theorem LC_9 {d : Nat} {nm : String} {F : kFin} {b : Nat × Nat} {i : Int} {a : Int → Int} {σ : kS} (hd : 62 ≤ d) (hI : Inv σ) (hS : SA σ i a) (hi : 0 ≤ i ∧ i ≤ 5000) (hK : ∀ s, Inv s → scrEq σ s → Z (d + 1) (MLaw nm) F b 3047 [(0, (2, -4)), (1, (2, 0)), (2, (2, 166)), (3, (2, 208)), (4, (0, i))] [] kN s) : Z (d + 1) (MLaw nm) F b 766 [(0, (2, -4)), (1, (2, 0)), (2, (2, 166)), (3, (2, 208)), (4, (0, i))] [] kN σ := by
  refine Z_aload_n 1 (kdA dt_law_3 8 rfl) rfl rfl ?_
  refine Z_aload_n 0 (kdA dt_law_3 9 rfl) rfl rfl ?_
  refine Z_iload 4 (kdA dt_law_3 10 rfl) rfl ?_
  refine Z_iconst (kdA dt_law_3 11 rfl) (by decide) ?_
  refine Z_iadd (kdA dt_law_3 12 rfl) (by omega) ?_
  refine Z_lda (j := 1) (a := a) (kdA dt_law_3 13 rfl) hi.1 (by decide) hS ?_
  refine Z_aload_n 0 (kdA dt_law_3 14 rfl) rfl rfl ?_
  refine Z_iload 4 (kdA dt_law_3 15 rfl) rfl ?_
  refine Z_iconst (kdA dt_law_3 16 rfl) (by decide) ?_
  refine Z_iadd (kdA dt_law_3 17 rfl) (by omega) ?_
  refine Z_lda (j := 2) (a := a) (kdA dt_law_3 18 rfl) hi.1 (by decide) hS ?_
  refine Z_aload_n 0 (kdA dt_law_3 19 rfl) rfl rfl ?_
  refine Z_iload 4 (kdA dt_law_3 20 rfl) rfl ?_
  refine Z_iconst (kdA dt_law_3 21 rfl) (by decide) ?_
  refine Z_iadd (kdA dt_law_3 22 rfl) (by omega) ?_
  refine Z_lda (j := 3) (a := a) (kdA dt_law_3 23 rfl) hi.1 (by decide) hS ?_
  refine Z_wet (kdA dt_law_3 24 rfl) (kdA dt_law_3 25 rfl) (kdA dt_law_3 26 rfl) (kdA dt_law_3 27 rfl) ?_
  refine Z_aload_n 0 (kdA dt_law_3 28 rfl) rfl rfl ?_
  refine Z_iload 4 (kdA dt_law_3 29 rfl) rfl ?_
  refine Z_iconst (kdA dt_law_3 30 rfl) (by decide) ?_
  refine Z_iadd (kdA dt_law_3 31 rfl) (by omega) ?_
  refine Z_lda (j := 4) (a := a) (kdA dt_law_3 32 rfl) hi.1 (by decide) hS ?_
  refine Z_aload_n 0 (kdA dt_law_3 33 rfl) rfl rfl ?_
  refine Z_iload 4 (kdA dt_law_3 34 rfl) rfl ?_
  refine Z_iconst (kdA dt_law_3 35 rfl) (by decide) ?_
  refine Z_iadd (kdA dt_law_3 36 rfl) (by omega) ?_
  refine Z_lda (j := 5) (a := a) (kdA dt_law_3 37 rfl) hi.1 (by decide) hS ?_
  refine Z_aload_n 0 (kdA dt_law_3 38 rfl) rfl rfl ?_
  refine Z_iload 4 (kdA dt_law_3 39 rfl) rfl ?_
  refine Z_bipush (kdA dt_law_3 40 rfl) (by decide) ?_
  refine Z_iadd (kdA dt_law_3 41 rfl) (by omega) ?_
  refine Z_lda (j := 6) (a := a) (kdA dt_law_3 42 rfl) hi.1 (by decide) hS ?_
  refine Z_cVi (c := 11) (as := [(0, a 1), (0, a 2), (0, wtt (a 3)), (0, a 4), (0, a 5), (0, a 6)]) (st := []) (kdA dt_law_3 43 rfl) rfl cl_MX11_way lkL_70 rfl rfl (Nat.le_of_ble_eq_true rfl) o_0 (Ci.mono (O_way wtt_01 d σ (by omega) hI) (fun x1 s1 h1 e1 => ?_))
  have hS1 := hS.mono e1
  refine Z_aload_n 2 (kdA dt_law_3 44 rfl) rfl rfl ?_
  refine Z_aload_n 0 (kdA dt_law_3 45 rfl) rfl rfl ?_
  refine Z_iload 4 (kdA dt_law_3 46 rfl) rfl ?_
  refine Z_iconst (kdA dt_law_3 47 rfl) (by decide) ?_
  refine Z_iadd (kdA dt_law_3 48 rfl) (by omega) ?_
  refine Z_lda (j := 1) (a := a) (kdA dt_law_3 49 rfl) hi.1 (by decide) hS1 ?_
  refine Z_aload_n 0 (kdA dt_law_3 50 rfl) rfl rfl ?_
  refine Z_iload 4 (kdA dt_law_3 51 rfl) rfl ?_
  refine Z_iconst (kdA dt_law_3 52 rfl) (by decide) ?_
  refine Z_iadd (kdA dt_law_3 53 rfl) (by omega) ?_
  refine Z_lda (j := 2) (a := a) (kdA dt_law_3 54 rfl) hi.1 (by decide) hS1 ?_
  refine Z_aload_n 0 (kdA dt_law_3 55 rfl) rfl rfl ?_
  refine Z_iload 4 (kdA dt_law_3 56 rfl) rfl ?_
  refine Z_iconst (kdA dt_law_3 57 rfl) (by decide) ?_
  refine Z_iadd (kdA dt_law_3 58 rfl) (by omega) ?_
  refine Z_lda (j := 3) (a := a) (kdA dt_law_3 59 rfl) hi.1 (by decide) hS1 ?_
  refine Z_wet (kdA dt_law_3 60 rfl) (kdA dt_law_3 61 rfl) (kdA dt_law_3 62 rfl) (kdA dt_law_3 63 rfl) ?_
  refine Z_aload_n 0 (kdA dt_law_3 64 rfl) rfl rfl ?_
  refine Z_iload 4 (kdA dt_law_3 65 rfl) rfl ?_
  refine Z_iconst (kdA dt_law_3 66 rfl) (by decide) ?_
  refine Z_iadd (kdA dt_law_3 67 rfl) (by omega) ?_
  refine Z_lda (j := 4) (a := a) (kdA dt_law_3 68 rfl) hi.1 (by decide) hS1 ?_
  refine Z_aload_n 0 (kdA dt_law_3 69 rfl) rfl rfl ?_
  refine Z_iload 4 (kdA dt_law_3 70 rfl) rfl ?_
  refine Z_iconst (kdA dt_law_3 71 rfl) (by decide) ?_
  refine Z_iadd (kdA dt_law_3 72 rfl) (by omega) ?_
  refine Z_lda (j := 5) (a := a) (kdA dt_law_3 73 rfl) hi.1 (by decide) hS1 ?_
  refine Z_aload_n 0 (kdA dt_law_3 74 rfl) rfl rfl ?_
  refine Z_iload 4 (kdA dt_law_3 75 rfl) rfl ?_
  refine Z_bipush (kdA dt_law_3 76 rfl) (by decide) ?_
  refine Z_iadd (kdA dt_law_3 77 rfl) (by omega) ?_
  refine Z_lda (j := 6) (a := a) (kdA dt_law_3 78 rfl) hi.1 (by decide) hS1 ?_
  refine Z_cVi (c := 12) (as := [(0, a 1), (0, a 2), (0, wtt (a 3)), (0, a 4), (0, a 5), (0, a 6)]) (st := [(0, x1)]) (kdA dt_law_3 79 rfl) rfl cl_MX12_way lkL_74 rfl rfl (Nat.le_of_ble_eq_true rfl) o_166 (Ci.mono h1 (fun x2 s2 h2 e2 => ?_))
  refine Z_icmp_eq (tgt := 3047) (kdA dt_law_3 80 rfl) rfl (fun _ => ?_) (fun c => absurd h2.1 c)
  exact hK s2 h2.2 (e1.trans e2)
theorem LC_10 {d : Nat} {nm : String} {F : kFin} {b : Nat × Nat} {i : Int} {a : Int → Int} {σ : kS} (hd : 62 ≤ d) (hI : Inv σ) (hS : SA σ i a) (hi : 0 ≤ i ∧ i ≤ 5000) (hK : ∀ s, Inv s → scrEq σ s → Z (d + 1) (MLaw nm) F b 3047 [(0, (2, -4)), (1, (2, 0)), (2, (2, 166)), (3, (2, 208)), (4, (0, i))] [] kN s) : Z (d + 1) (MLaw nm) F b 869 [(0, (2, -4)), (1, (2, 0)), (2, (2, 166)), (3, (2, 208)), (4, (0, i))] [] kN σ := by
  refine Z_aload_n 1 (kdA dt_law_3 83 rfl) rfl rfl ?_
  refine Z_aload_n 0 (kdA dt_law_3 84 rfl) rfl rfl ?_
  refine Z_iload 4 (kdA dt_law_3 85 rfl) rfl ?_
  refine Z_iconst (kdA dt_law_3 86 rfl) (by decide) ?_
  refine Z_iadd (kdA dt_law_3 87 rfl) (by omega) ?_
  refine Z_lda (j := 1) (a := a) (kdA dt_law_3 88 rfl) hi.1 (by decide) hS ?_
  refine Z_aload_n 0 (kdA dt_law_3 89 rfl) rfl rfl ?_
  refine Z_iload 4 (kdA dt_law_3 90 rfl) rfl ?_
  refine Z_iconst (kdA dt_law_3 91 rfl) (by decide) ?_
  refine Z_iadd (kdA dt_law_3 92 rfl) (by omega) ?_
  refine Z_lda (j := 2) (a := a) (kdA dt_law_3 93 rfl) hi.1 (by decide) hS ?_
  refine Z_aload_n 0 (kdA dt_law_3 94 rfl) rfl rfl ?_
  refine Z_iload 4 (kdA dt_law_3 95 rfl) rfl ?_
  refine Z_iconst (kdA dt_law_3 96 rfl) (by decide) ?_
  refine Z_iadd (kdA dt_law_3 97 rfl) (by omega) ?_
  refine Z_lda (j := 3) (a := a) (kdA dt_law_3 98 rfl) hi.1 (by decide) hS ?_
  refine Z_wet (kdA dt_law_3 99 rfl) (kdA dt_law_3 100 rfl) (kdA dt_law_3 101 rfl) (kdA dt_law_3 102 rfl) ?_
  refine Z_aload_n 0 (kdA dt_law_3 103 rfl) rfl rfl ?_
  refine Z_iload 4 (kdA dt_law_3 104 rfl) rfl ?_
  refine Z_iconst (kdA dt_law_3 105 rfl) (by decide) ?_
  refine Z_iadd (kdA dt_law_3 106 rfl) (by omega) ?_
  refine Z_lda (j := 4) (a := a) (kdA dt_law_3 107 rfl) hi.1 (by decide) hS ?_
  refine Z_aload_n 0 (kdA dt_law_3 108 rfl) rfl rfl ?_
  refine Z_iload 4 (kdA dt_law_3 109 rfl) rfl ?_
  refine Z_iconst (kdA dt_law_3 110 rfl) (by decide) ?_
  refine Z_iadd (kdA dt_law_3 111 rfl) (by omega) ?_
  refine Z_lda (j := 5) (a := a) (kdA dt_law_3 112 rfl) hi.1 (by decide) hS ?_
  refine Z_aload_n 0 (kdA dt_law_3 113 rfl) rfl rfl ?_
  refine Z_iload 4 (kdA dt_law_3 114 rfl) rfl ?_
  refine Z_bipush (kdA dt_law_3 115 rfl) (by decide) ?_
  refine Z_iadd (kdA dt_law_3 116 rfl) (by omega) ?_
  refine Z_lda (j := 6) (a := a) (kdA dt_law_3 117 rfl) hi.1 (by decide) hS ?_
  refine Z_aload_n 0 (kdA dt_law_3 118 rfl) rfl rfl ?_
  refine Z_iload 4 (kdA dt_law_3 119 rfl) rfl ?_
  refine Z_bipush (kdA dt_law_3 120 rfl) (by decide) ?_
  refine Z_iadd (kdA dt_law_3 121 rfl) (by omega) ?_
  refine Z_lda (j := 7) (a := a) (kdA dt_law_3 122 rfl) hi.1 (by decide) hS ?_
  refine Z_cVi (c := 11) (as := [(0, a 1), (0, a 2), (0, wtt (a 3)), (0, a 4), (0, a 5), (0, a 6), (0, a 7)]) (st := []) (kdA dt_law_3 123 rfl) rfl cl_MX11_nearly lkL_75 rfl rfl (Nat.le_of_ble_eq_true rfl) o_0 (Ci.mono (O_nearly wtt_01 d σ (by omega) hI) (fun x1 s1 h1 e1 => ?_))
  have hS1 := hS.mono e1
  refine Z_aload_n 2 (kdA dt_law_3 124 rfl) rfl rfl ?_
  refine Z_aload_n 0 (kdA dt_law_3 125 rfl) rfl rfl ?_
  refine Z_iload 4 (kdA dt_law_3 126 rfl) rfl ?_
  refine Z_iconst (kdA dt_law_3 127 rfl) (by decide) ?_
  refine Z_iadd (kdA dt_law_4 0 rfl) (by omega) ?_
  refine Z_lda (j := 1) (a := a) (kdA dt_law_4 1 rfl) hi.1 (by decide) hS1 ?_
  refine Z_aload_n 0 (kdA dt_law_4 2 rfl) rfl rfl ?_
  refine Z_iload 4 (kdA dt_law_4 3 rfl) rfl ?_
  refine Z_iconst (kdA dt_law_4 4 rfl) (by decide) ?_
  refine Z_iadd (kdA dt_law_4 5 rfl) (by omega) ?_
  refine Z_lda (j := 2) (a := a) (kdA dt_law_4 6 rfl) hi.1 (by decide) hS1 ?_
  refine Z_aload_n 0 (kdA dt_law_4 7 rfl) rfl rfl ?_
  refine Z_iload 4 (kdA dt_law_4 8 rfl) rfl ?_
  refine Z_iconst (kdA dt_law_4 9 rfl) (by decide) ?_
  refine Z_iadd (kdA dt_law_4 10 rfl) (by omega) ?_
  refine Z_lda (j := 3) (a := a) (kdA dt_law_4 11 rfl) hi.1 (by decide) hS1 ?_
  refine Z_wet (kdA dt_law_4 12 rfl) (kdA dt_law_4 13 rfl) (kdA dt_law_4 14 rfl) (kdA dt_law_4 15 rfl) ?_
  refine Z_aload_n 0 (kdA dt_law_4 16 rfl) rfl rfl ?_
  refine Z_iload 4 (kdA dt_law_4 17 rfl) rfl ?_
  refine Z_iconst (kdA dt_law_4 18 rfl) (by decide) ?_
  refine Z_iadd (kdA dt_law_4 19 rfl) (by omega) ?_
  refine Z_lda (j := 4) (a := a) (kdA dt_law_4 20 rfl) hi.1 (by decide) hS1 ?_
  refine Z_aload_n 0 (kdA dt_law_4 21 rfl) rfl rfl ?_
  refine Z_iload 4 (kdA dt_law_4 22 rfl) rfl ?_
  refine Z_iconst (kdA dt_law_4 23 rfl) (by decide) ?_
  refine Z_iadd (kdA dt_law_4 24 rfl) (by omega) ?_
  refine Z_lda (j := 5) (a := a) (kdA dt_law_4 25 rfl) hi.1 (by decide) hS1 ?_
  refine Z_aload_n 0 (kdA dt_law_4 26 rfl) rfl rfl ?_
  refine Z_iload 4 (kdA dt_law_4 27 rfl) rfl ?_
  refine Z_bipush (kdA dt_law_4 28 rfl) (by decide) ?_
  refine Z_iadd (kdA dt_law_4 29 rfl) (by omega) ?_
  refine Z_lda (j := 6) (a := a) (kdA dt_law_4 30 rfl) hi.1 (by decide) hS1 ?_
  refine Z_aload_n 0 (kdA dt_law_4 31 rfl) rfl rfl ?_
  refine Z_iload 4 (kdA dt_law_4 32 rfl) rfl ?_
  refine Z_bipush (kdA dt_law_4 33 rfl) (by decide) ?_
  refine Z_iadd (kdA dt_law_4 34 rfl) (by omega) ?_
  refine Z_lda (j := 7) (a := a) (kdA dt_law_4 35 rfl) hi.1 (by decide) hS1 ?_
  refine Z_cVi (c := 12) (as := [(0, a 1), (0, a 2), (0, wtt (a 3)), (0, a 4), (0, a 5), (0, a 6), (0, a 7)]) (st := [(0, x1)]) (kdA dt_law_4 36 rfl) rfl cl_MX12_nearly lkL_79 rfl rfl (Nat.le_of_ble_eq_true rfl) o_166 (Ci.mono h1 (fun x2 s2 h2 e2 => ?_))
  refine Z_icmp_eq (tgt := 3047) (kdA dt_law_4 37 rfl) rfl (fun _ => ?_) (fun c => absurd h2.1 c)
  exact hK s2 h2.2 (e1.trans e2)
theorem LC_11 {d : Nat} {nm : String} {F : kFin} {b : Nat × Nat} {i : Int} {a : Int → Int} {σ : kS} (hd : 62 ≤ d) (hI : Inv σ) (hS : SA σ i a) (hi : 0 ≤ i ∧ i ≤ 5000) (hK : ∀ s, Inv s → scrEq σ s → Z (d + 1) (MLaw nm) F b 3047 [(0, (2, -4)), (1, (2, 0)), (2, (2, 166)), (3, (2, 208)), (4, (0, i))] [] kN s) : Z (d + 1) (MLaw nm) F b 986 [(0, (2, -4)), (1, (2, 0)), (2, (2, 166)), (3, (2, 208)), (4, (0, i))] [] kN σ := by
  refine Z_aload_n 1 (kdA dt_law_4 40 rfl) rfl rfl ?_
  refine Z_aload_n 0 (kdA dt_law_4 41 rfl) rfl rfl ?_
  refine Z_iload 4 (kdA dt_law_4 42 rfl) rfl ?_
  refine Z_iconst (kdA dt_law_4 43 rfl) (by decide) ?_
  refine Z_iadd (kdA dt_law_4 44 rfl) (by omega) ?_
  refine Z_lda (j := 1) (a := a) (kdA dt_law_4 45 rfl) hi.1 (by decide) hS ?_
  refine Z_aload_n 0 (kdA dt_law_4 46 rfl) rfl rfl ?_
  refine Z_iload 4 (kdA dt_law_4 47 rfl) rfl ?_
  refine Z_iconst (kdA dt_law_4 48 rfl) (by decide) ?_
  refine Z_iadd (kdA dt_law_4 49 rfl) (by omega) ?_
  refine Z_lda (j := 2) (a := a) (kdA dt_law_4 50 rfl) hi.1 (by decide) hS ?_
  refine Z_cVi (c := 11) (as := [(0, a 1), (0, a 2)]) (st := []) (kdA dt_law_4 51 rfl) rfl cl_MX11_sees lkL_80 rfl rfl (Nat.le_of_ble_eq_true rfl) o_0 (Ci.mono (O_sees d σ (by omega) hI) (fun x1 s1 h1 e1 => ?_))
  have hS1 := hS.mono e1
  refine Z_aload_n 2 (kdA dt_law_4 52 rfl) rfl rfl ?_
  refine Z_aload_n 0 (kdA dt_law_4 53 rfl) rfl rfl ?_
  refine Z_iload 4 (kdA dt_law_4 54 rfl) rfl ?_
  refine Z_iconst (kdA dt_law_4 55 rfl) (by decide) ?_
  refine Z_iadd (kdA dt_law_4 56 rfl) (by omega) ?_
  refine Z_lda (j := 1) (a := a) (kdA dt_law_4 57 rfl) hi.1 (by decide) hS1 ?_
  refine Z_aload_n 0 (kdA dt_law_4 58 rfl) rfl rfl ?_
  refine Z_iload 4 (kdA dt_law_4 59 rfl) rfl ?_
  refine Z_iconst (kdA dt_law_4 60 rfl) (by decide) ?_
  refine Z_iadd (kdA dt_law_4 61 rfl) (by omega) ?_
  refine Z_lda (j := 2) (a := a) (kdA dt_law_4 62 rfl) hi.1 (by decide) hS1 ?_
  refine Z_cVi (c := 12) (as := [(0, a 1), (0, a 2)]) (st := [(0, x1)]) (kdA dt_law_4 63 rfl) rfl cl_MX12_sees lkL_83 rfl rfl (Nat.le_of_ble_eq_true rfl) o_166 (Ci.mono h1 (fun x2 s2 h2 e2 => ?_))
  refine Z_icmp_eq (tgt := 3047) (kdA dt_law_4 64 rfl) rfl (fun _ => ?_) (fun c => absurd h2.1 c)
  exact hK s2 h2.2 (e1.trans e2)
theorem LC_12 {d : Nat} {nm : String} {F : kFin} {b : Nat × Nat} {i : Int} {a : Int → Int} {σ : kS} (hd : 62 ≤ d) (hI : Inv σ) (hS : SA σ i a) (hi : 0 ≤ i ∧ i ≤ 5000) (hK : ∀ s, Inv s → scrEq σ s → Z (d + 1) (MLaw nm) F b 3047 [(0, (2, -4)), (1, (2, 0)), (2, (2, 166)), (3, (2, 208)), (4, (0, i))] [] kN s) : Z (d + 1) (MLaw nm) F b 1023 [(0, (2, -4)), (1, (2, 0)), (2, (2, 166)), (3, (2, 208)), (4, (0, i))] [] kN σ := by
  refine Z_aload_n 1 (kdA dt_law_4 67 rfl) rfl rfl ?_
  refine Z_aload_n 0 (kdA dt_law_4 68 rfl) rfl rfl ?_
  refine Z_iload 4 (kdA dt_law_4 69 rfl) rfl ?_
  refine Z_iconst (kdA dt_law_4 70 rfl) (by decide) ?_
  refine Z_iadd (kdA dt_law_4 71 rfl) (by omega) ?_
  refine Z_lda (j := 1) (a := a) (kdA dt_law_4 72 rfl) hi.1 (by decide) hS ?_
  refine Z_aload_n 0 (kdA dt_law_4 73 rfl) rfl rfl ?_
  refine Z_iload 4 (kdA dt_law_4 74 rfl) rfl ?_
  refine Z_iconst (kdA dt_law_4 75 rfl) (by decide) ?_
  refine Z_iadd (kdA dt_law_4 76 rfl) (by omega) ?_
  refine Z_lda (j := 2) (a := a) (kdA dt_law_4 77 rfl) hi.1 (by decide) hS ?_
  refine Z_aload_n 0 (kdA dt_law_4 78 rfl) rfl rfl ?_
  refine Z_iload 4 (kdA dt_law_4 79 rfl) rfl ?_
  refine Z_iconst (kdA dt_law_4 80 rfl) (by decide) ?_
  refine Z_iadd (kdA dt_law_4 81 rfl) (by omega) ?_
  refine Z_lda (j := 3) (a := a) (kdA dt_law_4 82 rfl) hi.1 (by decide) hS ?_
  refine Z_aload_n 0 (kdA dt_law_4 83 rfl) rfl rfl ?_
  refine Z_iload 4 (kdA dt_law_4 84 rfl) rfl ?_
  refine Z_iconst (kdA dt_law_4 85 rfl) (by decide) ?_
  refine Z_iadd (kdA dt_law_4 86 rfl) (by omega) ?_
  refine Z_lda (j := 4) (a := a) (kdA dt_law_4 87 rfl) hi.1 (by decide) hS ?_
  refine Z_cVi (c := 11) (as := [(0, a 1), (0, a 2), (0, a 3), (0, a 4)]) (st := []) (kdA dt_law_4 88 rfl) rfl cl_MX11_sights lkL_84 rfl rfl (Nat.le_of_ble_eq_true rfl) o_0 (Ci.mono (O_sights d σ (by omega) hI) (fun x1 s1 h1 e1 => ?_))
  have hS1 := hS.mono e1
  refine Z_aload_n 2 (kdA dt_law_4 89 rfl) rfl rfl ?_
  refine Z_aload_n 0 (kdA dt_law_4 90 rfl) rfl rfl ?_
  refine Z_iload 4 (kdA dt_law_4 91 rfl) rfl ?_
  refine Z_iconst (kdA dt_law_4 92 rfl) (by decide) ?_
  refine Z_iadd (kdA dt_law_4 93 rfl) (by omega) ?_
  refine Z_lda (j := 1) (a := a) (kdA dt_law_4 94 rfl) hi.1 (by decide) hS1 ?_
  refine Z_aload_n 0 (kdA dt_law_4 95 rfl) rfl rfl ?_
  refine Z_iload 4 (kdA dt_law_4 96 rfl) rfl ?_
  refine Z_iconst (kdA dt_law_4 97 rfl) (by decide) ?_
  refine Z_iadd (kdA dt_law_4 98 rfl) (by omega) ?_
  refine Z_lda (j := 2) (a := a) (kdA dt_law_4 99 rfl) hi.1 (by decide) hS1 ?_
  refine Z_aload_n 0 (kdA dt_law_4 100 rfl) rfl rfl ?_
  refine Z_iload 4 (kdA dt_law_4 101 rfl) rfl ?_
  refine Z_iconst (kdA dt_law_4 102 rfl) (by decide) ?_
  refine Z_iadd (kdA dt_law_4 103 rfl) (by omega) ?_
  refine Z_lda (j := 3) (a := a) (kdA dt_law_4 104 rfl) hi.1 (by decide) hS1 ?_
  refine Z_aload_n 0 (kdA dt_law_4 105 rfl) rfl rfl ?_
  refine Z_iload 4 (kdA dt_law_4 106 rfl) rfl ?_
  refine Z_iconst (kdA dt_law_4 107 rfl) (by decide) ?_
  refine Z_iadd (kdA dt_law_4 108 rfl) (by omega) ?_
  refine Z_lda (j := 4) (a := a) (kdA dt_law_4 109 rfl) hi.1 (by decide) hS1 ?_
  refine Z_cVi (c := 12) (as := [(0, a 1), (0, a 2), (0, a 3), (0, a 4)]) (st := [(0, x1)]) (kdA dt_law_4 110 rfl) rfl cl_MX12_sights lkL_88 rfl rfl (Nat.le_of_ble_eq_true rfl) o_166 (Ci.mono h1 (fun x2 s2 h2 e2 => ?_))
  refine Z_icmp_eq (tgt := 3047) (kdA dt_law_4 111 rfl) rfl (fun _ => ?_) (fun c => absurd h2.1 c)
  exact hK s2 h2.2 (e1.trans e2)
