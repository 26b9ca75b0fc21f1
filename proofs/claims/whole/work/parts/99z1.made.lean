/-! the constructors of the class and of the model, by program -/
theorem I5_1 {d : Nat} {σ : kS} (hd : 2 ≤ d) (hA : Ag 2 [(0, 0), (0, 1), (0, 3), (0, 4), (0, 5), (0, 7), (0, 9), (0, 10), (0, 12), (0, 13), (0, 14), (0, 15), (0, 16), (0, 17), (0, 18), (0, 19), (1, 0)] false σ) : Ni d MX5_init (5, 484) [(2, 1)] 2 σ 7 (fun s => Ag 7 [(0, 0), (0, 1), (0, 3), (0, 4), (0, 5), (0, 7), (0, 9), (0, 10), (0, 12), (0, 13), (0, 14), (0, 15), (0, 16), (0, 17), (0, 18), (0, 19)] false s) := by
  obtain ⟨d, rfl⟩ : ∃ e, d = e + 1 := ⟨d - 1, by omega⟩
  refine Tri_of (by decide +kernel) (Nat.le_of_ble_eq_true rfl) (fun _ _ => ?_)
  show K (d + 1) MX5_init _ (5, 484) 0 [(0, (2, 1))] [] 2 σ
  refine K_aload_n 0 (kdA dt_MX5_init 0 rfl) rfl rfl ?_
  refine K_oinit (kdA dt_MX5_init 1 rfl) (tb1 39 rfl rfl) (by decide) (Nat.le_of_ble_eq_true rfl) ?_
  refine K_aload_n 0 (kdA dt_MX5_init 2 rfl) rfl rfl ?_
  refine K_iconst (kdA dt_MX5_init 3 rfl) (by decide) ?_
  refine K_bipush (kdA dt_MX5_init 4 rfl) (by decide) ?_
  refine K_mnew2 (b2 := (0, 0)) (n1 := 7) (kdA dt_MX5_init 5 rfl) (tb1 40 rfl rfl) (by decide +kernel) (by decide) (by decide) (by decide +kernel) (by decide +kernel) ⟨by decide, by decide⟩ ⟨by decide, by decide⟩ rfl rfl (fun s1 es1 => ?_)
  have hA1 : Ag 7 [(0, 0), (0, 1), (0, 3), (0, 4), (0, 5), (0, 7), (0, 9), (0, 10), (0, 12), (0, 13), (0, 14), (0, 15), (0, 16), (0, 17), (0, 18), (0, 19), (1, 0)] false s1 := by rw [es1]; exact hA.mini (N := 4) (by decide +kernel) (by decide +kernel) (by decide +kernel)
  refine pf5_11 rfl rfl (kdA dt_MX5_init 6 rfl) ⟨by decide, by decide, by decide +kernel⟩ (fun s2 es2 => ?_)
  have hA2 : Ag 7 [(0, 0), (0, 1), (0, 3), (0, 4), (0, 5), (0, 7), (0, 9), (0, 10), (0, 12), (0, 13), (0, 14), (0, 15), (0, 16), (0, 17), (0, 18), (0, 19)] false s2 := by rw [es2]; exact hA1.put (by decide +kernel)
  exact K_return (kdA dt_MX5_init 7 rfl) rfl ⟨rfl, rfl, hA2⟩
theorem I8_8 {d : Nat} {σ : kS} (hd : 3 ≤ d) (hA : Ag 9 [(0, 3), (0, 4), (0, 5), (0, 7), (0, 9), (0, 10), (0, 12), (0, 13), (0, 14), (0, 15), (0, 16), (0, 17), (0, 18), (0, 19), (7, 0), (7, 1), (7, 2), (7, 3), (8, 0)] false σ) : Ni d MX8_init (1, 120) [(2, 8), (0, 120)] 9 σ 10 (fun s => Ag 10 [(0, 3), (0, 4), (0, 5), (0, 7), (0, 9), (0, 10), (0, 12), (0, 13), (0, 14), (0, 15), (0, 16), (0, 17), (0, 18), (0, 19), (7, 0), (7, 1), (7, 2), (7, 3)] false s) := by
  obtain ⟨d, rfl⟩ : ∃ e, d = e + 1 := ⟨d - 1, by omega⟩
  refine Tri_of (by decide +kernel) (Nat.le_of_ble_eq_true rfl) (fun _ _ => ?_)
  show K (d + 1) MX8_init _ (1, 120) 0 [(0, (2, 8)), (1, (0, 120))] [] 9 σ
  refine K_aload_n 0 (kdA dt_MX8_init 0 rfl) rfl rfl ?_
  refine K_oinit (kdA dt_MX8_init 1 rfl) (tb1 53 rfl rfl) (by decide) (Nat.le_of_ble_eq_true rfl) ?_
  refine K_aload_n 0 (kdA dt_MX8_init 2 rfl) rfl rfl ?_
  refine K_iload_n 1 (kdA dt_MX8_init 3 rfl) rfl rfl ?_
  refine K_iconst (kdA dt_MX8_init 4 rfl) (by decide) ?_
  refine K_bSi (as := [(0, 120), (0, 0)]) (st := [(2, 8)]) (kdA dt_MX8_init 5 rfl) cl_MJm_max lk8_9 rfl rfl (Nat.le_of_ble_eq_true rfl) (J_max (by omega) ?_)
  rw [show max (120 : Int) 0 = 120 by decide]
  refine K_newi (b2 := (0, 0)) (kdA dt_MX8_init 6 rfl) (by decide +kernel) (by decide) (by decide +kernel) ⟨by decide, by decide⟩ rfl (fun s1 es1 => ?_)
  have hA1 : Ag 10 [(0, 3), (0, 4), (0, 5), (0, 7), (0, 9), (0, 10), (0, 12), (0, 13), (0, 14), (0, 15), (0, 16), (0, 17), (0, 18), (0, 19), (7, 0), (7, 1), (7, 2), (7, 3), (8, 0)] false s1 := by rw [es1]; exact hA.new (by decide +kernel)
  refine pf8_15 rfl rfl (kdA dt_MX8_init 7 rfl) ⟨by decide, by decide, by decide +kernel⟩ (fun s2 es2 => ?_)
  have hA2 : Ag 10 [(0, 3), (0, 4), (0, 5), (0, 7), (0, 9), (0, 10), (0, 12), (0, 13), (0, 14), (0, 15), (0, 16), (0, 17), (0, 18), (0, 19), (7, 0), (7, 1), (7, 2), (7, 3)] false s2 := by rw [es2]; exact hA1.put (by decide +kernel)
  exact K_return (kdA dt_MX8_init 8 rfl) rfl ⟨rfl, rfl, hA2⟩
theorem I3_11 {d : Nat} {σ : kS} (hd : 2 ≤ d) (hA : Ag 12 [(0, 4), (0, 5), (0, 7), (0, 9), (0, 10), (0, 12), (0, 13), (0, 14), (0, 15), (0, 16), (0, 17), (0, 18), (0, 19), (7, 0), (7, 1), (7, 2), (7, 3), (10, 0), (10, 1), (11, 0), (11, 1), (11, 4), (11, 3)] false σ) : Ni d MX3_init (3, 246) [(2, 11)] 12 σ 15 (fun s => Ag 15 [(0, 4), (0, 5), (0, 7), (0, 9), (0, 10), (0, 12), (0, 13), (0, 14), (0, 15), (0, 16), (0, 17), (0, 18), (0, 19), (7, 0), (7, 1), (7, 2), (7, 3), (10, 0), (10, 1)] false s) := by
  obtain ⟨d, rfl⟩ : ∃ e, d = e + 1 := ⟨d - 1, by omega⟩
  refine Tri_of (by decide +kernel) (Nat.le_of_ble_eq_true rfl) (fun _ _ => ?_)
  show K (d + 1) MX3_init _ (3, 246) 0 [(0, (2, 11))] [] 12 σ
  refine K_aload_n 0 (kdA dt_MX3_init 0 rfl) rfl rfl ?_
  refine K_oinit (kdA dt_MX3_init 1 rfl) (tb1 83 rfl rfl) (by decide) (Nat.le_of_ble_eq_true rfl) ?_
  refine K_aload_n 0 (kdA dt_MX3_init 2 rfl) rfl rfl ?_
  refine K_bipush (kdA dt_MX3_init 3 rfl) (by decide) ?_
  refine K_newi (b2 := (2, 126)) (kdA dt_MX3_init 4 rfl) (by decide +kernel) (by decide) (by decide +kernel) ⟨by decide, by decide⟩ rfl (fun s1 es1 => ?_)
  have hA1 : Ag 13 [(0, 4), (0, 5), (0, 7), (0, 9), (0, 10), (0, 12), (0, 13), (0, 14), (0, 15), (0, 16), (0, 17), (0, 18), (0, 19), (7, 0), (7, 1), (7, 2), (7, 3), (10, 0), (10, 1), (11, 0), (11, 1), (11, 4), (11, 3)] false s1 := by rw [es1]; exact hA.new (by decide +kernel)
  refine pf3_9 rfl rfl (kdA dt_MX3_init 5 rfl) ⟨by decide, by decide, by decide +kernel⟩ (fun s2 es2 => ?_)
  have hA2 : Ag 13 [(0, 4), (0, 5), (0, 7), (0, 9), (0, 10), (0, 12), (0, 13), (0, 14), (0, 15), (0, 16), (0, 17), (0, 18), (0, 19), (7, 0), (7, 1), (7, 2), (7, 3), (10, 0), (10, 1), (11, 1), (11, 4), (11, 3)] false s2 := by rw [es2]; exact hA1.put (by decide +kernel)
  refine K_aload_n 0 (kdA dt_MX3_init 6 rfl) rfl rfl ?_
  refine K_bipush (kdA dt_MX3_init 7 rfl) (by decide) ?_
  refine K_newi (b2 := (1, 6)) (kdA dt_MX3_init 8 rfl) (by decide +kernel) (by decide) (by decide +kernel) ⟨by decide, by decide⟩ rfl (fun s3 es3 => ?_)
  have hA3 : Ag 14 [(0, 4), (0, 5), (0, 7), (0, 9), (0, 10), (0, 12), (0, 13), (0, 14), (0, 15), (0, 16), (0, 17), (0, 18), (0, 19), (7, 0), (7, 1), (7, 2), (7, 3), (10, 0), (10, 1), (11, 1), (11, 4), (11, 3)] false s3 := by rw [es3]; exact hA2.new (by decide +kernel)
  refine pf3_15 rfl rfl (kdA dt_MX3_init 9 rfl) ⟨by decide, by decide, by decide +kernel⟩ (fun s4 es4 => ?_)
  have hA4 : Ag 14 [(0, 4), (0, 5), (0, 7), (0, 9), (0, 10), (0, 12), (0, 13), (0, 14), (0, 15), (0, 16), (0, 17), (0, 18), (0, 19), (7, 0), (7, 1), (7, 2), (7, 3), (10, 0), (10, 1), (11, 4), (11, 3)] false s4 := by rw [es4]; exact hA3.put (by decide +kernel)
  refine K_aload_n 0 (kdA dt_MX3_init 10 rfl) rfl rfl ?_
  refine K_iconst (kdA dt_MX3_init 11 rfl) (by decide) ?_
  refine pf3_18 rfl (kdA dt_MX3_init 12 rfl) ⟨by decide, by decide, by decide +kernel⟩ (fun s5 es5 => ?_)
  have hA5 : Ag 14 [(0, 4), (0, 5), (0, 7), (0, 9), (0, 10), (0, 12), (0, 13), (0, 14), (0, 15), (0, 16), (0, 17), (0, 18), (0, 19), (7, 0), (7, 1), (7, 2), (7, 3), (10, 0), (10, 1), (11, 4)] false s5 := by rw [es5]; exact hA4.put (by decide +kernel)
  refine K_aload_n 0 (kdA dt_MX3_init 13 rfl) rfl rfl ?_
  refine K_bipush (kdA dt_MX3_init 14 rfl) (by decide) ?_
  refine K_newi (b2 := (0, 0)) (kdA dt_MX3_init 15 rfl) (by decide +kernel) (by decide) (by decide +kernel) ⟨by decide, by decide⟩ rfl (fun s6 es6 => ?_)
  have hA6 : Ag 15 [(0, 4), (0, 5), (0, 7), (0, 9), (0, 10), (0, 12), (0, 13), (0, 14), (0, 15), (0, 16), (0, 17), (0, 18), (0, 19), (7, 0), (7, 1), (7, 2), (7, 3), (10, 0), (10, 1), (11, 4)] false s6 := by rw [es6]; exact hA5.new (by decide +kernel)
  refine pf3_22 rfl rfl (kdA dt_MX3_init 16 rfl) ⟨by decide, by decide, by decide +kernel⟩ (fun s7 es7 => ?_)
  have hA7 : Ag 15 [(0, 4), (0, 5), (0, 7), (0, 9), (0, 10), (0, 12), (0, 13), (0, 14), (0, 15), (0, 16), (0, 17), (0, 18), (0, 19), (7, 0), (7, 1), (7, 2), (7, 3), (10, 0), (10, 1)] false s7 := by rw [es7]; exact hA6.put (by decide +kernel)
  exact K_return (kdA dt_MX3_init 17 rfl) rfl ⟨rfl, rfl, hA7⟩
theorem I8_15 {d : Nat} {σ : kS} (hd : 3 ≤ d) (hA : Ag 16 [(0, 4), (0, 5), (0, 7), (0, 9), (0, 10), (0, 12), (0, 13), (0, 14), (0, 15), (0, 16), (0, 17), (0, 18), (0, 19), (7, 0), (7, 1), (7, 2), (7, 3), (10, 1), (15, 0)] false σ) : Ni d MX8_init (1, 0) [(2, 15), (0, 0)] 16 σ 17 (fun s => Ag 17 [(0, 4), (0, 5), (0, 7), (0, 9), (0, 10), (0, 12), (0, 13), (0, 14), (0, 15), (0, 16), (0, 17), (0, 18), (0, 19), (7, 0), (7, 1), (7, 2), (7, 3), (10, 1)] false s) := by
  obtain ⟨d, rfl⟩ : ∃ e, d = e + 1 := ⟨d - 1, by omega⟩
  refine Tri_of (by decide +kernel) (Nat.le_of_ble_eq_true rfl) (fun _ _ => ?_)
  show K (d + 1) MX8_init _ (1, 0) 0 [(0, (2, 15)), (1, (0, 0))] [] 16 σ
  refine K_aload_n 0 (kdA dt_MX8_init 0 rfl) rfl rfl ?_
  refine K_oinit (kdA dt_MX8_init 1 rfl) (tb1 53 rfl rfl) (by decide) (Nat.le_of_ble_eq_true rfl) ?_
  refine K_aload_n 0 (kdA dt_MX8_init 2 rfl) rfl rfl ?_
  refine K_iload_n 1 (kdA dt_MX8_init 3 rfl) rfl rfl ?_
  refine K_iconst (kdA dt_MX8_init 4 rfl) (by decide) ?_
  refine K_bSi (as := [(0, 0), (0, 0)]) (st := [(2, 15)]) (kdA dt_MX8_init 5 rfl) cl_MJm_max lk8_9 rfl rfl (Nat.le_of_ble_eq_true rfl) (J_max (by omega) ?_)
  rw [show max (0 : Int) 0 = 0 by decide]
  refine K_newi (b2 := (0, 0)) (kdA dt_MX8_init 6 rfl) (by decide +kernel) (by decide) (by decide +kernel) ⟨by decide, by decide⟩ rfl (fun s1 es1 => ?_)
  have hA1 : Ag 17 [(0, 4), (0, 5), (0, 7), (0, 9), (0, 10), (0, 12), (0, 13), (0, 14), (0, 15), (0, 16), (0, 17), (0, 18), (0, 19), (7, 0), (7, 1), (7, 2), (7, 3), (10, 1), (15, 0)] false s1 := by rw [es1]; exact hA.new (by decide +kernel)
  refine pf8_15 rfl rfl (kdA dt_MX8_init 7 rfl) ⟨by decide, by decide, by decide +kernel⟩ (fun s2 es2 => ?_)
  have hA2 : Ag 17 [(0, 4), (0, 5), (0, 7), (0, 9), (0, 10), (0, 12), (0, 13), (0, 14), (0, 15), (0, 16), (0, 17), (0, 18), (0, 19), (7, 0), (7, 1), (7, 2), (7, 3), (10, 1)] false s2 := by rw [es2]; exact hA1.put (by decide +kernel)
  exact K_return (kdA dt_MX8_init 8 rfl) rfl ⟨rfl, rfl, hA2⟩
theorem I4_10 {d : Nat} {σ : kS} (hd : 5 ≤ d) (hA : Ag 11 [(0, 4), (0, 5), (0, 7), (0, 9), (0, 10), (0, 12), (0, 13), (0, 14), (0, 15), (0, 16), (0, 17), (0, 18), (0, 19), (7, 0), (7, 1), (7, 2), (7, 3), (10, 0), (10, 1)] false σ) : Ni d MX4_init (6, 253) [(2, 10)] 11 σ 17 (fun s => Ag 17 [(0, 4), (0, 5), (0, 7), (0, 9), (0, 10), (0, 12), (0, 13), (0, 14), (0, 15), (0, 16), (0, 17), (0, 18), (0, 19), (7, 0), (7, 1), (7, 2), (7, 3)] false s) := by
  obtain ⟨d, rfl⟩ : ∃ e, d = e + 1 := ⟨d - 1, by omega⟩
  refine Tri_of (by decide +kernel) (Nat.le_of_ble_eq_true rfl) (fun _ _ => ?_)
  show K (d + 1) MX4_init _ (6, 253) 0 [(0, (2, 10))] [] 11 σ
  refine K_aload_n 0 (kdA dt_MX4_init 0 rfl) rfl rfl ?_
  refine K_oinit (kdA dt_MX4_init 1 rfl) (tb1 77 rfl rfl) (by decide) (Nat.le_of_ble_eq_true rfl) ?_
  refine K_aload_n 0 (kdA dt_MX4_init 2 rfl) rfl rfl ?_
  refine K_new2 (C := RX3) (N := 5) (b2 := (5, 248)) (kdA dt_MX4_init 3 rfl) ⟨(tb1 78 rfl rfl), (tb1 79 rfl rfl), (tb1 6 rfl rfl)⟩ rfl uw3 ft3 (by decide +kernel) (by decide +kernel) ⟨by decide, by decide⟩ rfl (fun s1 es1 => ?_)
  have hA1 : Ag 12 [(0, 4), (0, 5), (0, 7), (0, 9), (0, 10), (0, 12), (0, 13), (0, 14), (0, 15), (0, 16), (0, 17), (0, 18), (0, 19), (7, 0), (7, 1), (7, 2), (7, 3), (10, 0), (10, 1), (11, 0), (11, 1), (11, 4), (11, 3)] false s1 := by rw [es1]; exact hA.new (by decide +kernel)
  refine K_dup (kdA dt_MX4_init 4 rfl) rfl ?_
  refine K_nI (b' := (3, 246)) (b2 := (2, 2)) (as := []) (r := 11) (st := [(2, 11), (2, 10)]) (n1 := 15) (kdA dt_MX4_init 5 rfl) ⟨by decide, by decide⟩ cl_MX3_init lk4_11 rfl rfl (Nat.le_of_ble_eq_true rfl) (by decide) rfl (Ni.mono (I3_11 (by omega) hA1) (fun s2 hA2 => ?_))
  refine pf4_12 rfl rfl (kdA dt_MX4_init 6 rfl) ⟨by decide, by decide, by decide +kernel⟩ (fun s3 es3 => ?_)
  have hA3 : Ag 15 [(0, 4), (0, 5), (0, 7), (0, 9), (0, 10), (0, 12), (0, 13), (0, 14), (0, 15), (0, 16), (0, 17), (0, 18), (0, 19), (7, 0), (7, 1), (7, 2), (7, 3), (10, 1)] false s3 := by rw [es3]; exact hA2.put (by decide +kernel)
  refine K_aload_n 0 (kdA dt_MX4_init 7 rfl) rfl rfl ?_
  refine K_new2 (C := RX8) (N := 2) (b2 := (1, 0)) (kdA dt_MX4_init 8 rfl) ⟨(tb1 103 rfl rfl), (tb1 49 rfl rfl), (tb1 3 rfl rfl)⟩ rfl uw8 ft8 (by decide +kernel) (by decide +kernel) ⟨by decide, by decide⟩ rfl (fun s4 es4 => ?_)
  have hA4 : Ag 16 [(0, 4), (0, 5), (0, 7), (0, 9), (0, 10), (0, 12), (0, 13), (0, 14), (0, 15), (0, 16), (0, 17), (0, 18), (0, 19), (7, 0), (7, 1), (7, 2), (7, 3), (10, 1), (15, 0)] false s4 := by rw [es4]; exact hA3.new (by decide +kernel)
  refine K_dup (kdA dt_MX4_init 9 rfl) rfl ?_
  refine K_iconst (kdA dt_MX4_init 10 rfl) (by decide) ?_
  refine K_nI (b' := (1, 0)) (b2 := (0, 0)) (as := [(0, 0)]) (r := 15) (st := [(2, 15), (2, 10)]) (n1 := 17) (kdA dt_MX4_init 11 rfl) ⟨by decide, by decide⟩ cl_MX8_init lk4_20 rfl rfl (Nat.le_of_ble_eq_true rfl) (by decide) rfl (Ni.mono (I8_15 (by omega) hA4) (fun s5 hA5 => ?_))
  refine pf4_23 rfl (kdA dt_MX4_init 12 rfl) ⟨by decide, by decide, by decide +kernel⟩ (fun s6 es6 => ?_)
  have hA6 : Ag 17 [(0, 4), (0, 5), (0, 7), (0, 9), (0, 10), (0, 12), (0, 13), (0, 14), (0, 15), (0, 16), (0, 17), (0, 18), (0, 19), (7, 0), (7, 1), (7, 2), (7, 3)] false s6 := by rw [es6]; exact hA5.put (by decide +kernel)
  exact K_return (kdA dt_MX4_init 13 rfl) rfl ⟨rfl, rfl, hA6⟩
theorem I8_19 {d : Nat} {σ : kS} (hd : 3 ≤ d) (hA : Ag 20 [(0, 9), (0, 10), (0, 12), (0, 13), (0, 14), (0, 15), (0, 16), (0, 17), (0, 18), (0, 19), (7, 0), (7, 1), (7, 2), (7, 3), (17, 0), (17, 1), (17, 2), (17, 3), (17, 4), (17, 5), (18, 0), (18, 1), (18, 2), (18, 3), (18, 4), (19, 0)] false σ) : Ni d MX8_init (1, 8) [(2, 19), (0, 8)] 20 σ 21 (fun s => Ag 21 [(0, 9), (0, 10), (0, 12), (0, 13), (0, 14), (0, 15), (0, 16), (0, 17), (0, 18), (0, 19), (7, 0), (7, 1), (7, 2), (7, 3), (17, 0), (17, 1), (17, 2), (17, 3), (17, 4), (17, 5), (18, 0), (18, 1), (18, 2), (18, 3), (18, 4)] false s) := by
  obtain ⟨d, rfl⟩ : ∃ e, d = e + 1 := ⟨d - 1, by omega⟩
  refine Tri_of (by decide +kernel) (Nat.le_of_ble_eq_true rfl) (fun _ _ => ?_)
  show K (d + 1) MX8_init _ (1, 8) 0 [(0, (2, 19)), (1, (0, 8))] [] 20 σ
  refine K_aload_n 0 (kdA dt_MX8_init 0 rfl) rfl rfl ?_
  refine K_oinit (kdA dt_MX8_init 1 rfl) (tb1 53 rfl rfl) (by decide) (Nat.le_of_ble_eq_true rfl) ?_
  refine K_aload_n 0 (kdA dt_MX8_init 2 rfl) rfl rfl ?_
  refine K_iload_n 1 (kdA dt_MX8_init 3 rfl) rfl rfl ?_
  refine K_iconst (kdA dt_MX8_init 4 rfl) (by decide) ?_
  refine K_bSi (as := [(0, 8), (0, 0)]) (st := [(2, 19)]) (kdA dt_MX8_init 5 rfl) cl_MJm_max lk8_9 rfl rfl (Nat.le_of_ble_eq_true rfl) (J_max (by omega) ?_)
  rw [show max (8 : Int) 0 = 8 by decide]
  refine K_newi (b2 := (0, 0)) (kdA dt_MX8_init 6 rfl) (by decide +kernel) (by decide) (by decide +kernel) ⟨by decide, by decide⟩ rfl (fun s1 es1 => ?_)
  have hA1 : Ag 21 [(0, 9), (0, 10), (0, 12), (0, 13), (0, 14), (0, 15), (0, 16), (0, 17), (0, 18), (0, 19), (7, 0), (7, 1), (7, 2), (7, 3), (17, 0), (17, 1), (17, 2), (17, 3), (17, 4), (17, 5), (18, 0), (18, 1), (18, 2), (18, 3), (18, 4), (19, 0)] false s1 := by rw [es1]; exact hA.new (by decide +kernel)
  refine pf8_15 rfl rfl (kdA dt_MX8_init 7 rfl) ⟨by decide, by decide, by decide +kernel⟩ (fun s2 es2 => ?_)
  have hA2 : Ag 21 [(0, 9), (0, 10), (0, 12), (0, 13), (0, 14), (0, 15), (0, 16), (0, 17), (0, 18), (0, 19), (7, 0), (7, 1), (7, 2), (7, 3), (17, 0), (17, 1), (17, 2), (17, 3), (17, 4), (17, 5), (18, 0), (18, 1), (18, 2), (18, 3), (18, 4)] false s2 := by rw [es2]; exact hA1.put (by decide +kernel)
  exact K_return (kdA dt_MX8_init 8 rfl) rfl ⟨rfl, rfl, hA2⟩
theorem I8_22 {d : Nat} {σ : kS} (hd : 3 ≤ d) (hA : Ag 23 [(0, 12), (0, 13), (0, 14), (0, 15), (0, 16), (0, 17), (0, 18), (0, 19), (7, 0), (7, 1), (7, 2), (7, 3), (17, 0), (17, 1), (17, 2), (17, 3), (17, 4), (17, 5), (18, 0), (18, 1), (18, 2), (18, 3), (18, 4), (21, 0), (21, 1), (21, 2), (21, 3), (21, 4), (21, 5), (21, 6), (21, 7), (21, 8), (21, 9), (22, 0)] false σ) : Ni d MX8_init (1, 6) [(2, 22), (0, 6)] 23 σ 24 (fun s => Ag 24 [(0, 12), (0, 13), (0, 14), (0, 15), (0, 16), (0, 17), (0, 18), (0, 19), (7, 0), (7, 1), (7, 2), (7, 3), (17, 0), (17, 1), (17, 2), (17, 3), (17, 4), (17, 5), (18, 0), (18, 1), (18, 2), (18, 3), (18, 4), (21, 0), (21, 1), (21, 2), (21, 3), (21, 4), (21, 5), (21, 6), (21, 7), (21, 8), (21, 9)] false s) := by
  obtain ⟨d, rfl⟩ : ∃ e, d = e + 1 := ⟨d - 1, by omega⟩
  refine Tri_of (by decide +kernel) (Nat.le_of_ble_eq_true rfl) (fun _ _ => ?_)
  show K (d + 1) MX8_init _ (1, 6) 0 [(0, (2, 22)), (1, (0, 6))] [] 23 σ
  refine K_aload_n 0 (kdA dt_MX8_init 0 rfl) rfl rfl ?_
  refine K_oinit (kdA dt_MX8_init 1 rfl) (tb1 53 rfl rfl) (by decide) (Nat.le_of_ble_eq_true rfl) ?_
  refine K_aload_n 0 (kdA dt_MX8_init 2 rfl) rfl rfl ?_
  refine K_iload_n 1 (kdA dt_MX8_init 3 rfl) rfl rfl ?_
  refine K_iconst (kdA dt_MX8_init 4 rfl) (by decide) ?_
  refine K_bSi (as := [(0, 6), (0, 0)]) (st := [(2, 22)]) (kdA dt_MX8_init 5 rfl) cl_MJm_max lk8_9 rfl rfl (Nat.le_of_ble_eq_true rfl) (J_max (by omega) ?_)
  rw [show max (6 : Int) 0 = 6 by decide]
  refine K_newi (b2 := (0, 0)) (kdA dt_MX8_init 6 rfl) (by decide +kernel) (by decide) (by decide +kernel) ⟨by decide, by decide⟩ rfl (fun s1 es1 => ?_)
  have hA1 : Ag 24 [(0, 12), (0, 13), (0, 14), (0, 15), (0, 16), (0, 17), (0, 18), (0, 19), (7, 0), (7, 1), (7, 2), (7, 3), (17, 0), (17, 1), (17, 2), (17, 3), (17, 4), (17, 5), (18, 0), (18, 1), (18, 2), (18, 3), (18, 4), (21, 0), (21, 1), (21, 2), (21, 3), (21, 4), (21, 5), (21, 6), (21, 7), (21, 8), (21, 9), (22, 0)] false s1 := by rw [es1]; exact hA.new (by decide +kernel)
  refine pf8_15 rfl rfl (kdA dt_MX8_init 7 rfl) ⟨by decide, by decide, by decide +kernel⟩ (fun s2 es2 => ?_)
  have hA2 : Ag 24 [(0, 12), (0, 13), (0, 14), (0, 15), (0, 16), (0, 17), (0, 18), (0, 19), (7, 0), (7, 1), (7, 2), (7, 3), (17, 0), (17, 1), (17, 2), (17, 3), (17, 4), (17, 5), (18, 0), (18, 1), (18, 2), (18, 3), (18, 4), (21, 0), (21, 1), (21, 2), (21, 3), (21, 4), (21, 5), (21, 6), (21, 7), (21, 8), (21, 9)] false s2 := by rw [es2]; exact hA1.put (by decide +kernel)
  exact K_return (kdA dt_MX8_init 8 rfl) rfl ⟨rfl, rfl, hA2⟩
theorem I8_24 {d : Nat} {σ : kS} (hd : 3 ≤ d) (hA : Ag 25 [(0, 13), (0, 14), (0, 15), (0, 16), (0, 17), (0, 18), (0, 19), (7, 0), (7, 1), (7, 2), (7, 3), (17, 0), (17, 1), (17, 2), (17, 3), (17, 4), (17, 5), (18, 0), (18, 1), (18, 2), (18, 3), (18, 4), (21, 0), (21, 1), (21, 2), (21, 3), (21, 4), (21, 5), (21, 6), (21, 7), (21, 8), (21, 9), (24, 0)] false σ) : Ni d MX8_init (1, 32) [(2, 24), (0, 32)] 25 σ 26 (fun s => Ag 26 [(0, 13), (0, 14), (0, 15), (0, 16), (0, 17), (0, 18), (0, 19), (7, 0), (7, 1), (7, 2), (7, 3), (17, 0), (17, 1), (17, 2), (17, 3), (17, 4), (17, 5), (18, 0), (18, 1), (18, 2), (18, 3), (18, 4), (21, 0), (21, 1), (21, 2), (21, 3), (21, 4), (21, 5), (21, 6), (21, 7), (21, 8), (21, 9)] false s) := by
  obtain ⟨d, rfl⟩ : ∃ e, d = e + 1 := ⟨d - 1, by omega⟩
  refine Tri_of (by decide +kernel) (Nat.le_of_ble_eq_true rfl) (fun _ _ => ?_)
  show K (d + 1) MX8_init _ (1, 32) 0 [(0, (2, 24)), (1, (0, 32))] [] 25 σ
  refine K_aload_n 0 (kdA dt_MX8_init 0 rfl) rfl rfl ?_
  refine K_oinit (kdA dt_MX8_init 1 rfl) (tb1 53 rfl rfl) (by decide) (Nat.le_of_ble_eq_true rfl) ?_
  refine K_aload_n 0 (kdA dt_MX8_init 2 rfl) rfl rfl ?_
  refine K_iload_n 1 (kdA dt_MX8_init 3 rfl) rfl rfl ?_
  refine K_iconst (kdA dt_MX8_init 4 rfl) (by decide) ?_
  refine K_bSi (as := [(0, 32), (0, 0)]) (st := [(2, 24)]) (kdA dt_MX8_init 5 rfl) cl_MJm_max lk8_9 rfl rfl (Nat.le_of_ble_eq_true rfl) (J_max (by omega) ?_)
  rw [show max (32 : Int) 0 = 32 by decide]
  refine K_newi (b2 := (0, 0)) (kdA dt_MX8_init 6 rfl) (by decide +kernel) (by decide) (by decide +kernel) ⟨by decide, by decide⟩ rfl (fun s1 es1 => ?_)
  have hA1 : Ag 26 [(0, 13), (0, 14), (0, 15), (0, 16), (0, 17), (0, 18), (0, 19), (7, 0), (7, 1), (7, 2), (7, 3), (17, 0), (17, 1), (17, 2), (17, 3), (17, 4), (17, 5), (18, 0), (18, 1), (18, 2), (18, 3), (18, 4), (21, 0), (21, 1), (21, 2), (21, 3), (21, 4), (21, 5), (21, 6), (21, 7), (21, 8), (21, 9), (24, 0)] false s1 := by rw [es1]; exact hA.new (by decide +kernel)
  refine pf8_15 rfl rfl (kdA dt_MX8_init 7 rfl) ⟨by decide, by decide, by decide +kernel⟩ (fun s2 es2 => ?_)
  have hA2 : Ag 26 [(0, 13), (0, 14), (0, 15), (0, 16), (0, 17), (0, 18), (0, 19), (7, 0), (7, 1), (7, 2), (7, 3), (17, 0), (17, 1), (17, 2), (17, 3), (17, 4), (17, 5), (18, 0), (18, 1), (18, 2), (18, 3), (18, 4), (21, 0), (21, 1), (21, 2), (21, 3), (21, 4), (21, 5), (21, 6), (21, 7), (21, 8), (21, 9)] false s2 := by rw [es2]; exact hA1.put (by decide +kernel)
  exact K_return (kdA dt_MX8_init 8 rfl) rfl ⟨rfl, rfl, hA2⟩
theorem I8_36 {d : Nat} {σ : kS} (hd : 3 ≤ d) (hA : Ag 37 [(0, 14), (0, 15), (0, 16), (0, 17), (0, 18), (0, 19), (7, 0), (7, 1), (7, 2), (7, 3), (17, 0), (17, 1), (17, 2), (17, 3), (17, 4), (17, 5), (18, 0), (18, 1), (18, 2), (18, 3), (18, 4), (21, 0), (21, 1), (21, 2), (21, 3), (21, 4), (21, 5), (21, 6), (21, 7), (21, 8), (21, 9), (26, 13), (26, 14), (36, 0)] false σ) : Ni d MX8_init (1, 120) [(2, 36), (0, 120)] 37 σ 38 (fun s => Ag 38 [(0, 14), (0, 15), (0, 16), (0, 17), (0, 18), (0, 19), (7, 0), (7, 1), (7, 2), (7, 3), (17, 0), (17, 1), (17, 2), (17, 3), (17, 4), (17, 5), (18, 0), (18, 1), (18, 2), (18, 3), (18, 4), (21, 0), (21, 1), (21, 2), (21, 3), (21, 4), (21, 5), (21, 6), (21, 7), (21, 8), (21, 9), (26, 13), (26, 14)] false s) := by
  obtain ⟨d, rfl⟩ : ∃ e, d = e + 1 := ⟨d - 1, by omega⟩
  refine Tri_of (by decide +kernel) (Nat.le_of_ble_eq_true rfl) (fun _ _ => ?_)
  show K (d + 1) MX8_init _ (1, 120) 0 [(0, (2, 36)), (1, (0, 120))] [] 37 σ
  refine K_aload_n 0 (kdA dt_MX8_init 0 rfl) rfl rfl ?_
  refine K_oinit (kdA dt_MX8_init 1 rfl) (tb1 53 rfl rfl) (by decide) (Nat.le_of_ble_eq_true rfl) ?_
  refine K_aload_n 0 (kdA dt_MX8_init 2 rfl) rfl rfl ?_
  refine K_iload_n 1 (kdA dt_MX8_init 3 rfl) rfl rfl ?_
  refine K_iconst (kdA dt_MX8_init 4 rfl) (by decide) ?_
  refine K_bSi (as := [(0, 120), (0, 0)]) (st := [(2, 36)]) (kdA dt_MX8_init 5 rfl) cl_MJm_max lk8_9 rfl rfl (Nat.le_of_ble_eq_true rfl) (J_max (by omega) ?_)
  rw [show max (120 : Int) 0 = 120 by decide]
  refine K_newi (b2 := (0, 0)) (kdA dt_MX8_init 6 rfl) (by decide +kernel) (by decide) (by decide +kernel) ⟨by decide, by decide⟩ rfl (fun s1 es1 => ?_)
  have hA1 : Ag 38 [(0, 14), (0, 15), (0, 16), (0, 17), (0, 18), (0, 19), (7, 0), (7, 1), (7, 2), (7, 3), (17, 0), (17, 1), (17, 2), (17, 3), (17, 4), (17, 5), (18, 0), (18, 1), (18, 2), (18, 3), (18, 4), (21, 0), (21, 1), (21, 2), (21, 3), (21, 4), (21, 5), (21, 6), (21, 7), (21, 8), (21, 9), (26, 13), (26, 14), (36, 0)] false s1 := by rw [es1]; exact hA.new (by decide +kernel)
  refine pf8_15 rfl rfl (kdA dt_MX8_init 7 rfl) ⟨by decide, by decide, by decide +kernel⟩ (fun s2 es2 => ?_)
  have hA2 : Ag 38 [(0, 14), (0, 15), (0, 16), (0, 17), (0, 18), (0, 19), (7, 0), (7, 1), (7, 2), (7, 3), (17, 0), (17, 1), (17, 2), (17, 3), (17, 4), (17, 5), (18, 0), (18, 1), (18, 2), (18, 3), (18, 4), (21, 0), (21, 1), (21, 2), (21, 3), (21, 4), (21, 5), (21, 6), (21, 7), (21, 8), (21, 9), (26, 13), (26, 14)] false s2 := by rw [es2]; exact hA1.put (by decide +kernel)
  exact K_return (kdA dt_MX8_init 8 rfl) rfl ⟨rfl, rfl, hA2⟩
theorem I8_38 {d : Nat} {σ : kS} (hd : 3 ≤ d) (hA : Ag 39 [(0, 14), (0, 15), (0, 16), (0, 17), (0, 18), (0, 19), (7, 0), (7, 1), (7, 2), (7, 3), (17, 0), (17, 1), (17, 2), (17, 3), (17, 4), (17, 5), (18, 0), (18, 1), (18, 2), (18, 3), (18, 4), (21, 0), (21, 1), (21, 2), (21, 3), (21, 4), (21, 5), (21, 6), (21, 7), (21, 8), (21, 9), (26, 14), (38, 0)] false σ) : Ni d MX8_init (1, 120) [(2, 38), (0, 120)] 39 σ 40 (fun s => Ag 40 [(0, 14), (0, 15), (0, 16), (0, 17), (0, 18), (0, 19), (7, 0), (7, 1), (7, 2), (7, 3), (17, 0), (17, 1), (17, 2), (17, 3), (17, 4), (17, 5), (18, 0), (18, 1), (18, 2), (18, 3), (18, 4), (21, 0), (21, 1), (21, 2), (21, 3), (21, 4), (21, 5), (21, 6), (21, 7), (21, 8), (21, 9), (26, 14)] false s) := by
  obtain ⟨d, rfl⟩ : ∃ e, d = e + 1 := ⟨d - 1, by omega⟩
  refine Tri_of (by decide +kernel) (Nat.le_of_ble_eq_true rfl) (fun _ _ => ?_)
  show K (d + 1) MX8_init _ (1, 120) 0 [(0, (2, 38)), (1, (0, 120))] [] 39 σ
  refine K_aload_n 0 (kdA dt_MX8_init 0 rfl) rfl rfl ?_
  refine K_oinit (kdA dt_MX8_init 1 rfl) (tb1 53 rfl rfl) (by decide) (Nat.le_of_ble_eq_true rfl) ?_
  refine K_aload_n 0 (kdA dt_MX8_init 2 rfl) rfl rfl ?_
  refine K_iload_n 1 (kdA dt_MX8_init 3 rfl) rfl rfl ?_
  refine K_iconst (kdA dt_MX8_init 4 rfl) (by decide) ?_
  refine K_bSi (as := [(0, 120), (0, 0)]) (st := [(2, 38)]) (kdA dt_MX8_init 5 rfl) cl_MJm_max lk8_9 rfl rfl (Nat.le_of_ble_eq_true rfl) (J_max (by omega) ?_)
  rw [show max (120 : Int) 0 = 120 by decide]
  refine K_newi (b2 := (0, 0)) (kdA dt_MX8_init 6 rfl) (by decide +kernel) (by decide) (by decide +kernel) ⟨by decide, by decide⟩ rfl (fun s1 es1 => ?_)
  have hA1 : Ag 40 [(0, 14), (0, 15), (0, 16), (0, 17), (0, 18), (0, 19), (7, 0), (7, 1), (7, 2), (7, 3), (17, 0), (17, 1), (17, 2), (17, 3), (17, 4), (17, 5), (18, 0), (18, 1), (18, 2), (18, 3), (18, 4), (21, 0), (21, 1), (21, 2), (21, 3), (21, 4), (21, 5), (21, 6), (21, 7), (21, 8), (21, 9), (26, 14), (38, 0)] false s1 := by rw [es1]; exact hA.new (by decide +kernel)
  refine pf8_15 rfl rfl (kdA dt_MX8_init 7 rfl) ⟨by decide, by decide, by decide +kernel⟩ (fun s2 es2 => ?_)
  have hA2 : Ag 40 [(0, 14), (0, 15), (0, 16), (0, 17), (0, 18), (0, 19), (7, 0), (7, 1), (7, 2), (7, 3), (17, 0), (17, 1), (17, 2), (17, 3), (17, 4), (17, 5), (18, 0), (18, 1), (18, 2), (18, 3), (18, 4), (21, 0), (21, 1), (21, 2), (21, 3), (21, 4), (21, 5), (21, 6), (21, 7), (21, 8), (21, 9), (26, 14)] false s2 := by rw [es2]; exact hA1.put (by decide +kernel)
  exact K_return (kdA dt_MX8_init 8 rfl) rfl ⟨rfl, rfl, hA2⟩
theorem I10_26 {d : Nat} {σ : kS} (hd : 5 ≤ d) (hA : Ag 27 [(0, 14), (0, 15), (0, 16), (0, 17), (0, 18), (0, 19), (7, 0), (7, 1), (7, 2), (7, 3), (17, 0), (17, 1), (17, 2), (17, 3), (17, 4), (17, 5), (18, 0), (18, 1), (18, 2), (18, 3), (18, 4), (21, 0), (21, 1), (21, 2), (21, 3), (21, 4), (21, 5), (21, 6), (21, 7), (21, 8), (21, 9), (26, 0), (26, 1), (26, 2), (26, 3), (26, 4), (26, 6), (26, 7), (26, 8), (26, 9), (26, 13), (26, 14)] false σ) : Ni d MX10_init (13, 5956) [(2, 26)] 27 σ 40 (fun s => Ag 40 [(0, 14), (0, 15), (0, 16), (0, 17), (0, 18), (0, 19), (7, 0), (7, 1), (7, 2), (7, 3), (17, 0), (17, 1), (17, 2), (17, 3), (17, 4), (17, 5), (18, 0), (18, 1), (18, 2), (18, 3), (18, 4), (21, 0), (21, 1), (21, 2), (21, 3), (21, 4), (21, 5), (21, 6), (21, 7), (21, 8), (21, 9)] true s) := by
  obtain ⟨d, rfl⟩ : ∃ e, d = e + 1 := ⟨d - 1, by omega⟩
  refine Tri_of (by decide +kernel) (Nat.le_of_ble_eq_true rfl) (fun _ _ => ?_)
  show K (d + 1) MX10_init _ (13, 5956) 0 [(0, (2, 26))] [] 27 σ
  refine K_aload_n 0 (kdA dt_MX10_init 0 rfl) rfl rfl ?_
  refine K_oinit (kdA dt_MX10_init 1 rfl) (tb1 127 rfl rfl) (by decide) (Nat.le_of_ble_eq_true rfl) ?_
  refine K_aload_n 0 (kdA dt_MX10_init 2 rfl) rfl rfl ?_
  refine K_sipush (kdA dt_MX10_init 3 rfl) (by decide) ?_
  refine K_newi (b2 := (12, 4996)) (kdA dt_MX10_init 4 rfl) (by decide +kernel) (by decide) (by decide +kernel) ⟨by decide, by decide⟩ rfl (fun s1 es1 => ?_)
  have hA1 : Ag 28 [(0, 14), (0, 15), (0, 16), (0, 17), (0, 18), (0, 19), (7, 0), (7, 1), (7, 2), (7, 3), (17, 0), (17, 1), (17, 2), (17, 3), (17, 4), (17, 5), (18, 0), (18, 1), (18, 2), (18, 3), (18, 4), (21, 0), (21, 1), (21, 2), (21, 3), (21, 4), (21, 5), (21, 6), (21, 7), (21, 8), (21, 9), (26, 0), (26, 1), (26, 2), (26, 3), (26, 4), (26, 6), (26, 7), (26, 8), (26, 9), (26, 13), (26, 14)] false s1 := by rw [es1]; exact hA.new (by decide +kernel)
  refine pf10_9 rfl rfl (kdA dt_MX10_init 5 rfl) ⟨by decide, by decide, by decide +kernel⟩ (fun s2 es2 => ?_)
  have hA2 : Ag 28 [(0, 14), (0, 15), (0, 16), (0, 17), (0, 18), (0, 19), (7, 0), (7, 1), (7, 2), (7, 3), (17, 0), (17, 1), (17, 2), (17, 3), (17, 4), (17, 5), (18, 0), (18, 1), (18, 2), (18, 3), (18, 4), (21, 0), (21, 1), (21, 2), (21, 3), (21, 4), (21, 5), (21, 6), (21, 7), (21, 8), (21, 9), (26, 1), (26, 2), (26, 3), (26, 4), (26, 6), (26, 7), (26, 8), (26, 9), (26, 13), (26, 14)] false s2 := by rw [es2]; exact hA1.put (by decide +kernel)
  refine K_aload_n 0 (kdA dt_MX10_init 6 rfl) rfl rfl ?_
  refine K_sipush (kdA dt_MX10_init 7 rfl) (by decide) ?_
  refine K_newi (b2 := (11, 4036)) (kdA dt_MX10_init 8 rfl) (by decide +kernel) (by decide) (by decide +kernel) ⟨by decide, by decide⟩ rfl (fun s3 es3 => ?_)
  have hA3 : Ag 29 [(0, 14), (0, 15), (0, 16), (0, 17), (0, 18), (0, 19), (7, 0), (7, 1), (7, 2), (7, 3), (17, 0), (17, 1), (17, 2), (17, 3), (17, 4), (17, 5), (18, 0), (18, 1), (18, 2), (18, 3), (18, 4), (21, 0), (21, 1), (21, 2), (21, 3), (21, 4), (21, 5), (21, 6), (21, 7), (21, 8), (21, 9), (26, 1), (26, 2), (26, 3), (26, 4), (26, 6), (26, 7), (26, 8), (26, 9), (26, 13), (26, 14)] false s3 := by rw [es3]; exact hA2.new (by decide +kernel)
  refine pf10_15 rfl rfl (kdA dt_MX10_init 9 rfl) ⟨by decide, by decide, by decide +kernel⟩ (fun s4 es4 => ?_)
  have hA4 : Ag 29 [(0, 14), (0, 15), (0, 16), (0, 17), (0, 18), (0, 19), (7, 0), (7, 1), (7, 2), (7, 3), (17, 0), (17, 1), (17, 2), (17, 3), (17, 4), (17, 5), (18, 0), (18, 1), (18, 2), (18, 3), (18, 4), (21, 0), (21, 1), (21, 2), (21, 3), (21, 4), (21, 5), (21, 6), (21, 7), (21, 8), (21, 9), (26, 2), (26, 3), (26, 4), (26, 6), (26, 7), (26, 8), (26, 9), (26, 13), (26, 14)] false s4 := by rw [es4]; exact hA3.put (by decide +kernel)
  refine K_aload_n 0 (kdA dt_MX10_init 10 rfl) rfl rfl ?_
  refine K_bipush (kdA dt_MX10_init 11 rfl) (by decide) ?_
  refine K_newi (b2 := (10, 3916)) (kdA dt_MX10_init 12 rfl) (by decide +kernel) (by decide) (by decide +kernel) ⟨by decide, by decide⟩ rfl (fun s5 es5 => ?_)
  have hA5 : Ag 30 [(0, 14), (0, 15), (0, 16), (0, 17), (0, 18), (0, 19), (7, 0), (7, 1), (7, 2), (7, 3), (17, 0), (17, 1), (17, 2), (17, 3), (17, 4), (17, 5), (18, 0), (18, 1), (18, 2), (18, 3), (18, 4), (21, 0), (21, 1), (21, 2), (21, 3), (21, 4), (21, 5), (21, 6), (21, 7), (21, 8), (21, 9), (26, 2), (26, 3), (26, 4), (26, 6), (26, 7), (26, 8), (26, 9), (26, 13), (26, 14)] false s5 := by rw [es5]; exact hA4.new (by decide +kernel)
  refine pf10_18 rfl rfl (kdA dt_MX10_init 13 rfl) ⟨by decide, by decide, by decide +kernel⟩ (fun s6 es6 => ?_)
  have hA6 : Ag 30 [(0, 14), (0, 15), (0, 16), (0, 17), (0, 18), (0, 19), (7, 0), (7, 1), (7, 2), (7, 3), (17, 0), (17, 1), (17, 2), (17, 3), (17, 4), (17, 5), (18, 0), (18, 1), (18, 2), (18, 3), (18, 4), (21, 0), (21, 1), (21, 2), (21, 3), (21, 4), (21, 5), (21, 6), (21, 7), (21, 8), (21, 9), (26, 3), (26, 4), (26, 6), (26, 7), (26, 8), (26, 9), (26, 13), (26, 14)] false s6 := by rw [es6]; exact hA5.put (by decide +kernel)
  refine K_aload_n 0 (kdA dt_MX10_init 14 rfl) rfl rfl ?_
  refine K_bipush (kdA dt_MX10_init 15 rfl) (by decide) ?_
  refine K_newi (b2 := (9, 3796)) (kdA dt_MX10_init 16 rfl) (by decide +kernel) (by decide) (by decide +kernel) ⟨by decide, by decide⟩ rfl (fun s7 es7 => ?_)
  have hA7 : Ag 31 [(0, 14), (0, 15), (0, 16), (0, 17), (0, 18), (0, 19), (7, 0), (7, 1), (7, 2), (7, 3), (17, 0), (17, 1), (17, 2), (17, 3), (17, 4), (17, 5), (18, 0), (18, 1), (18, 2), (18, 3), (18, 4), (21, 0), (21, 1), (21, 2), (21, 3), (21, 4), (21, 5), (21, 6), (21, 7), (21, 8), (21, 9), (26, 3), (26, 4), (26, 6), (26, 7), (26, 8), (26, 9), (26, 13), (26, 14)] false s7 := by rw [es7]; exact hA6.new (by decide +kernel)
  refine pf10_21 rfl rfl (kdA dt_MX10_init 17 rfl) ⟨by decide, by decide, by decide +kernel⟩ (fun s8 es8 => ?_)
  have hA8 : Ag 31 [(0, 14), (0, 15), (0, 16), (0, 17), (0, 18), (0, 19), (7, 0), (7, 1), (7, 2), (7, 3), (17, 0), (17, 1), (17, 2), (17, 3), (17, 4), (17, 5), (18, 0), (18, 1), (18, 2), (18, 3), (18, 4), (21, 0), (21, 1), (21, 2), (21, 3), (21, 4), (21, 5), (21, 6), (21, 7), (21, 8), (21, 9), (26, 4), (26, 6), (26, 7), (26, 8), (26, 9), (26, 13), (26, 14)] false s8 := by rw [es8]; exact hA7.put (by decide +kernel)
  refine K_aload_n 0 (kdA dt_MX10_init 18 rfl) rfl rfl ?_
  refine K_bipush (kdA dt_MX10_init 19 rfl) (by decide) ?_
  refine K_newi (b2 := (8, 3676)) (kdA dt_MX10_init 20 rfl) (by decide +kernel) (by decide) (by decide +kernel) ⟨by decide, by decide⟩ rfl (fun s9 es9 => ?_)
  have hA9 : Ag 32 [(0, 14), (0, 15), (0, 16), (0, 17), (0, 18), (0, 19), (7, 0), (7, 1), (7, 2), (7, 3), (17, 0), (17, 1), (17, 2), (17, 3), (17, 4), (17, 5), (18, 0), (18, 1), (18, 2), (18, 3), (18, 4), (21, 0), (21, 1), (21, 2), (21, 3), (21, 4), (21, 5), (21, 6), (21, 7), (21, 8), (21, 9), (26, 4), (26, 6), (26, 7), (26, 8), (26, 9), (26, 13), (26, 14)] false s9 := by rw [es9]; exact hA8.new (by decide +kernel)
  refine pf10_24 rfl rfl (kdA dt_MX10_init 21 rfl) ⟨by decide, by decide, by decide +kernel⟩ (fun s10 es10 => ?_)
  have hA10 : Ag 32 [(0, 14), (0, 15), (0, 16), (0, 17), (0, 18), (0, 19), (7, 0), (7, 1), (7, 2), (7, 3), (17, 0), (17, 1), (17, 2), (17, 3), (17, 4), (17, 5), (18, 0), (18, 1), (18, 2), (18, 3), (18, 4), (21, 0), (21, 1), (21, 2), (21, 3), (21, 4), (21, 5), (21, 6), (21, 7), (21, 8), (21, 9), (26, 6), (26, 7), (26, 8), (26, 9), (26, 13), (26, 14)] false s10 := by rw [es10]; exact hA9.put (by decide +kernel)
  refine K_aload_n 0 (kdA dt_MX10_init 22 rfl) rfl rfl ?_
  refine K_bipush (kdA dt_MX10_init 23 rfl) (by decide) ?_
  refine K_newi (b2 := (7, 3556)) (kdA dt_MX10_init 24 rfl) (by decide +kernel) (by decide) (by decide +kernel) ⟨by decide, by decide⟩ rfl (fun s11 es11 => ?_)
  have hA11 : Ag 33 [(0, 14), (0, 15), (0, 16), (0, 17), (0, 18), (0, 19), (7, 0), (7, 1), (7, 2), (7, 3), (17, 0), (17, 1), (17, 2), (17, 3), (17, 4), (17, 5), (18, 0), (18, 1), (18, 2), (18, 3), (18, 4), (21, 0), (21, 1), (21, 2), (21, 3), (21, 4), (21, 5), (21, 6), (21, 7), (21, 8), (21, 9), (26, 6), (26, 7), (26, 8), (26, 9), (26, 13), (26, 14)] false s11 := by rw [es11]; exact hA10.new (by decide +kernel)
  refine pf10_27 rfl rfl (kdA dt_MX10_init 25 rfl) ⟨by decide, by decide, by decide +kernel⟩ (fun s12 es12 => ?_)
  have hA12 : Ag 33 [(0, 14), (0, 15), (0, 16), (0, 17), (0, 18), (0, 19), (7, 0), (7, 1), (7, 2), (7, 3), (17, 0), (17, 1), (17, 2), (17, 3), (17, 4), (17, 5), (18, 0), (18, 1), (18, 2), (18, 3), (18, 4), (21, 0), (21, 1), (21, 2), (21, 3), (21, 4), (21, 5), (21, 6), (21, 7), (21, 8), (21, 9), (26, 7), (26, 8), (26, 9), (26, 13), (26, 14)] false s12 := by rw [es12]; exact hA11.put (by decide +kernel)
  refine K_aload_n 0 (kdA dt_MX10_init 26 rfl) rfl rfl ?_
  refine K_bipush (kdA dt_MX10_init 27 rfl) (by decide) ?_
  refine K_newi (b2 := (6, 3436)) (kdA dt_MX10_init 28 rfl) (by decide +kernel) (by decide) (by decide +kernel) ⟨by decide, by decide⟩ rfl (fun s13 es13 => ?_)
  have hA13 : Ag 34 [(0, 14), (0, 15), (0, 16), (0, 17), (0, 18), (0, 19), (7, 0), (7, 1), (7, 2), (7, 3), (17, 0), (17, 1), (17, 2), (17, 3), (17, 4), (17, 5), (18, 0), (18, 1), (18, 2), (18, 3), (18, 4), (21, 0), (21, 1), (21, 2), (21, 3), (21, 4), (21, 5), (21, 6), (21, 7), (21, 8), (21, 9), (26, 7), (26, 8), (26, 9), (26, 13), (26, 14)] false s13 := by rw [es13]; exact hA12.new (by decide +kernel)
  refine pf10_30 rfl rfl (kdA dt_MX10_init 29 rfl) ⟨by decide, by decide, by decide +kernel⟩ (fun s14 es14 => ?_)
  have hA14 : Ag 34 [(0, 14), (0, 15), (0, 16), (0, 17), (0, 18), (0, 19), (7, 0), (7, 1), (7, 2), (7, 3), (17, 0), (17, 1), (17, 2), (17, 3), (17, 4), (17, 5), (18, 0), (18, 1), (18, 2), (18, 3), (18, 4), (21, 0), (21, 1), (21, 2), (21, 3), (21, 4), (21, 5), (21, 6), (21, 7), (21, 8), (21, 9), (26, 8), (26, 9), (26, 13), (26, 14)] false s14 := by rw [es14]; exact hA13.put (by decide +kernel)
  refine K_aload_n 0 (kdA dt_MX10_init 30 rfl) rfl rfl ?_
  refine K_bipush (kdA dt_MX10_init 31 rfl) (by decide) ?_
  refine K_newi (b2 := (5, 3428)) (kdA dt_MX10_init 32 rfl) (by decide +kernel) (by decide) (by decide +kernel) ⟨by decide, by decide⟩ rfl (fun s15 es15 => ?_)
  have hA15 : Ag 35 [(0, 14), (0, 15), (0, 16), (0, 17), (0, 18), (0, 19), (7, 0), (7, 1), (7, 2), (7, 3), (17, 0), (17, 1), (17, 2), (17, 3), (17, 4), (17, 5), (18, 0), (18, 1), (18, 2), (18, 3), (18, 4), (21, 0), (21, 1), (21, 2), (21, 3), (21, 4), (21, 5), (21, 6), (21, 7), (21, 8), (21, 9), (26, 8), (26, 9), (26, 13), (26, 14)] false s15 := by rw [es15]; exact hA14.new (by decide +kernel)
  refine pf10_33 rfl rfl (kdA dt_MX10_init 33 rfl) ⟨by decide, by decide, by decide +kernel⟩ (fun s16 es16 => ?_)
  have hA16 : Ag 35 [(0, 14), (0, 15), (0, 16), (0, 17), (0, 18), (0, 19), (7, 0), (7, 1), (7, 2), (7, 3), (17, 0), (17, 1), (17, 2), (17, 3), (17, 4), (17, 5), (18, 0), (18, 1), (18, 2), (18, 3), (18, 4), (21, 0), (21, 1), (21, 2), (21, 3), (21, 4), (21, 5), (21, 6), (21, 7), (21, 8), (21, 9), (26, 9), (26, 13), (26, 14)] false s16 := by rw [es16]; exact hA15.put (by decide +kernel)
  refine K_aload_n 0 (kdA dt_MX10_init 34 rfl) rfl rfl ?_
  refine K_sipush (kdA dt_MX10_init 35 rfl) (by decide) ?_
  refine K_newi (b2 := (4, 244)) (kdA dt_MX10_init 36 rfl) (by decide +kernel) (by decide) (by decide +kernel) ⟨by decide, by decide⟩ rfl (fun s17 es17 => ?_)
  have hA17 : Ag 36 [(0, 14), (0, 15), (0, 16), (0, 17), (0, 18), (0, 19), (7, 0), (7, 1), (7, 2), (7, 3), (17, 0), (17, 1), (17, 2), (17, 3), (17, 4), (17, 5), (18, 0), (18, 1), (18, 2), (18, 3), (18, 4), (21, 0), (21, 1), (21, 2), (21, 3), (21, 4), (21, 5), (21, 6), (21, 7), (21, 8), (21, 9), (26, 9), (26, 13), (26, 14)] false s17 := by rw [es17]; exact hA16.new (by decide +kernel)
  refine pf10_36 rfl rfl (kdA dt_MX10_init 37 rfl) ⟨by decide, by decide, by decide +kernel⟩ (fun s18 es18 => ?_)
  have hA18 : Ag 36 [(0, 14), (0, 15), (0, 16), (0, 17), (0, 18), (0, 19), (7, 0), (7, 1), (7, 2), (7, 3), (17, 0), (17, 1), (17, 2), (17, 3), (17, 4), (17, 5), (18, 0), (18, 1), (18, 2), (18, 3), (18, 4), (21, 0), (21, 1), (21, 2), (21, 3), (21, 4), (21, 5), (21, 6), (21, 7), (21, 8), (21, 9), (26, 13), (26, 14)] false s18 := by rw [es18]; exact hA17.put (by decide +kernel)
  refine K_aload_n 0 (kdA dt_MX10_init 38 rfl) rfl rfl ?_
  refine K_new2 (C := RX8) (N := 2) (b2 := (3, 242)) (kdA dt_MX10_init 39 rfl) ⟨(tb1 128 rfl rfl), (tb1 49 rfl rfl), (tb1 3 rfl rfl)⟩ rfl uw8 ft8 (by decide +kernel) (by decide +kernel) ⟨by decide, by decide⟩ rfl (fun s19 es19 => ?_)
  have hA19 : Ag 37 [(0, 14), (0, 15), (0, 16), (0, 17), (0, 18), (0, 19), (7, 0), (7, 1), (7, 2), (7, 3), (17, 0), (17, 1), (17, 2), (17, 3), (17, 4), (17, 5), (18, 0), (18, 1), (18, 2), (18, 3), (18, 4), (21, 0), (21, 1), (21, 2), (21, 3), (21, 4), (21, 5), (21, 6), (21, 7), (21, 8), (21, 9), (26, 13), (26, 14), (36, 0)] false s19 := by rw [es19]; exact hA18.new (by decide +kernel)
  refine K_dup (kdA dt_MX10_init 40 rfl) rfl ?_
  refine K_bipush (kdA dt_MX10_init 41 rfl) (by decide) ?_
  refine K_nI (b' := (1, 120)) (b2 := (2, 122)) (as := [(0, 120)]) (r := 36) (st := [(2, 36), (2, 26)]) (n1 := 38) (kdA dt_MX10_init 42 rfl) ⟨by decide, by decide⟩ cl_MX8_init lk10_41 rfl rfl (Nat.le_of_ble_eq_true rfl) (by decide) rfl (Ni.mono (I8_36 (by omega) hA19) (fun s20 hA20 => ?_))
  refine pf10_44 rfl rfl (kdA dt_MX10_init 43 rfl) ⟨by decide, by decide, by decide +kernel⟩ (fun s21 es21 => ?_)
  have hA21 : Ag 38 [(0, 14), (0, 15), (0, 16), (0, 17), (0, 18), (0, 19), (7, 0), (7, 1), (7, 2), (7, 3), (17, 0), (17, 1), (17, 2), (17, 3), (17, 4), (17, 5), (18, 0), (18, 1), (18, 2), (18, 3), (18, 4), (21, 0), (21, 1), (21, 2), (21, 3), (21, 4), (21, 5), (21, 6), (21, 7), (21, 8), (21, 9), (26, 14)] false s21 := by rw [es21]; exact hA20.put (by decide +kernel)
  refine K_aload_n 0 (kdA dt_MX10_init 44 rfl) rfl rfl ?_
  refine K_new2 (C := RX8) (N := 2) (b2 := (1, 120)) (kdA dt_MX10_init 45 rfl) ⟨(tb1 128 rfl rfl), (tb1 49 rfl rfl), (tb1 3 rfl rfl)⟩ rfl uw8 ft8 (by decide +kernel) (by decide +kernel) ⟨by decide, by decide⟩ rfl (fun s22 es22 => ?_)
  have hA22 : Ag 39 [(0, 14), (0, 15), (0, 16), (0, 17), (0, 18), (0, 19), (7, 0), (7, 1), (7, 2), (7, 3), (17, 0), (17, 1), (17, 2), (17, 3), (17, 4), (17, 5), (18, 0), (18, 1), (18, 2), (18, 3), (18, 4), (21, 0), (21, 1), (21, 2), (21, 3), (21, 4), (21, 5), (21, 6), (21, 7), (21, 8), (21, 9), (26, 14), (38, 0)] false s22 := by rw [es22]; exact hA21.new (by decide +kernel)
  refine K_dup (kdA dt_MX10_init 46 rfl) rfl ?_
  refine K_bipush (kdA dt_MX10_init 47 rfl) (by decide) ?_
  refine K_nI (b' := (1, 120)) (b2 := (0, 0)) (as := [(0, 120)]) (r := 38) (st := [(2, 38), (2, 26)]) (n1 := 40) (kdA dt_MX10_init 48 rfl) ⟨by decide, by decide⟩ cl_MX8_init lk10_41 rfl rfl (Nat.le_of_ble_eq_true rfl) (by decide) rfl (Ni.mono (I8_38 (by omega) hA22) (fun s23 hA23 => ?_))
  refine pf10_48 rfl rfl (kdA dt_MX10_init 49 rfl) ⟨by decide, by decide, by decide +kernel⟩ (fun s24 es24 => ?_)
  have hA24 : Ag 40 [(0, 14), (0, 15), (0, 16), (0, 17), (0, 18), (0, 19), (7, 0), (7, 1), (7, 2), (7, 3), (17, 0), (17, 1), (17, 2), (17, 3), (17, 4), (17, 5), (18, 0), (18, 1), (18, 2), (18, 3), (18, 4), (21, 0), (21, 1), (21, 2), (21, 3), (21, 4), (21, 5), (21, 6), (21, 7), (21, 8), (21, 9)] false s24 := by rw [es24]; exact hA23.put (by decide +kernel)
  refine I10_end (d := d) (b := (0, 0)) (P := [(0, 14), (0, 15), (0, 16), (0, 17), (0, 18), (0, 19), (7, 0), (7, 1), (7, 2), (7, 3), (17, 0), (17, 1), (17, 2), (17, 3), (17, 4), (17, 5), (18, 0), (18, 1), (18, 2), (18, 3), (18, 4), (21, 0), (21, 1), (21, 2), (21, 3), (21, 4), (21, 5), (21, 6), (21, 7), (21, 8), (21, 9)]) (by omega) hA24 (hA24.at' (k := 26) (j := 0) (v := 27) (by decide +kernel)) (fun s hs => ⟨rfl, rfl, hs⟩)
theorem I8_43 {d : Nat} {σ : kS} (hd : 3 ≤ d) (hA : Ag 44 [(0, 15), (0, 16), (0, 17), (0, 18), (0, 19), (7, 0), (7, 1), (7, 2), (7, 3), (17, 0), (17, 1), (17, 2), (17, 3), (17, 4), (17, 5), (18, 0), (18, 1), (18, 2), (18, 3), (18, 4), (21, 0), (21, 1), (21, 2), (21, 3), (21, 4), (21, 5), (21, 6), (21, 7), (21, 8), (21, 9), (40, 2), (40, 3), (43, 0)] true σ) : Ni d MX8_init (1, 120) [(2, 43), (0, 120)] 44 σ 45 (fun s => Ag 45 [(0, 15), (0, 16), (0, 17), (0, 18), (0, 19), (7, 0), (7, 1), (7, 2), (7, 3), (17, 0), (17, 1), (17, 2), (17, 3), (17, 4), (17, 5), (18, 0), (18, 1), (18, 2), (18, 3), (18, 4), (21, 0), (21, 1), (21, 2), (21, 3), (21, 4), (21, 5), (21, 6), (21, 7), (21, 8), (21, 9), (40, 2), (40, 3)] true s) := by
  obtain ⟨d, rfl⟩ : ∃ e, d = e + 1 := ⟨d - 1, by omega⟩
  refine Tri_of (by decide +kernel) (Nat.le_of_ble_eq_true rfl) (fun _ _ => ?_)
  show K (d + 1) MX8_init _ (1, 120) 0 [(0, (2, 43)), (1, (0, 120))] [] 44 σ
  refine K_aload_n 0 (kdA dt_MX8_init 0 rfl) rfl rfl ?_
  refine K_oinit (kdA dt_MX8_init 1 rfl) (tb1 53 rfl rfl) (by decide) (Nat.le_of_ble_eq_true rfl) ?_
  refine K_aload_n 0 (kdA dt_MX8_init 2 rfl) rfl rfl ?_
  refine K_iload_n 1 (kdA dt_MX8_init 3 rfl) rfl rfl ?_
  refine K_iconst (kdA dt_MX8_init 4 rfl) (by decide) ?_
  refine K_bSi (as := [(0, 120), (0, 0)]) (st := [(2, 43)]) (kdA dt_MX8_init 5 rfl) cl_MJm_max lk8_9 rfl rfl (Nat.le_of_ble_eq_true rfl) (J_max (by omega) ?_)
  rw [show max (120 : Int) 0 = 120 by decide]
  refine K_newi (b2 := (0, 0)) (kdA dt_MX8_init 6 rfl) (by decide +kernel) (by decide) (by decide +kernel) ⟨by decide, by decide⟩ rfl (fun s1 es1 => ?_)
  have hA1 : Ag 45 [(0, 15), (0, 16), (0, 17), (0, 18), (0, 19), (7, 0), (7, 1), (7, 2), (7, 3), (17, 0), (17, 1), (17, 2), (17, 3), (17, 4), (17, 5), (18, 0), (18, 1), (18, 2), (18, 3), (18, 4), (21, 0), (21, 1), (21, 2), (21, 3), (21, 4), (21, 5), (21, 6), (21, 7), (21, 8), (21, 9), (40, 2), (40, 3), (43, 0)] true s1 := by rw [es1]; exact hA.new (by decide +kernel)
  refine pf8_15 rfl rfl (kdA dt_MX8_init 7 rfl) ⟨by decide, by decide, by decide +kernel⟩ (fun s2 es2 => ?_)
  have hA2 : Ag 45 [(0, 15), (0, 16), (0, 17), (0, 18), (0, 19), (7, 0), (7, 1), (7, 2), (7, 3), (17, 0), (17, 1), (17, 2), (17, 3), (17, 4), (17, 5), (18, 0), (18, 1), (18, 2), (18, 3), (18, 4), (21, 0), (21, 1), (21, 2), (21, 3), (21, 4), (21, 5), (21, 6), (21, 7), (21, 8), (21, 9), (40, 2), (40, 3)] true s2 := by rw [es2]; exact hA1.put (by decide +kernel)
  exact K_return (kdA dt_MX8_init 8 rfl) rfl ⟨rfl, rfl, hA2⟩
theorem I8_45 {d : Nat} {σ : kS} (hd : 3 ≤ d) (hA : Ag 46 [(0, 15), (0, 16), (0, 17), (0, 18), (0, 19), (7, 0), (7, 1), (7, 2), (7, 3), (17, 0), (17, 1), (17, 2), (17, 3), (17, 4), (17, 5), (18, 0), (18, 1), (18, 2), (18, 3), (18, 4), (21, 0), (21, 1), (21, 2), (21, 3), (21, 4), (21, 5), (21, 6), (21, 7), (21, 8), (21, 9), (40, 3), (45, 0)] true σ) : Ni d MX8_init (1, 128) [(2, 45), (0, 128)] 46 σ 47 (fun s => Ag 47 [(0, 15), (0, 16), (0, 17), (0, 18), (0, 19), (7, 0), (7, 1), (7, 2), (7, 3), (17, 0), (17, 1), (17, 2), (17, 3), (17, 4), (17, 5), (18, 0), (18, 1), (18, 2), (18, 3), (18, 4), (21, 0), (21, 1), (21, 2), (21, 3), (21, 4), (21, 5), (21, 6), (21, 7), (21, 8), (21, 9), (40, 3)] true s) := by
  obtain ⟨d, rfl⟩ : ∃ e, d = e + 1 := ⟨d - 1, by omega⟩
  refine Tri_of (by decide +kernel) (Nat.le_of_ble_eq_true rfl) (fun _ _ => ?_)
  show K (d + 1) MX8_init _ (1, 128) 0 [(0, (2, 45)), (1, (0, 128))] [] 46 σ
  refine K_aload_n 0 (kdA dt_MX8_init 0 rfl) rfl rfl ?_
  refine K_oinit (kdA dt_MX8_init 1 rfl) (tb1 53 rfl rfl) (by decide) (Nat.le_of_ble_eq_true rfl) ?_
  refine K_aload_n 0 (kdA dt_MX8_init 2 rfl) rfl rfl ?_
  refine K_iload_n 1 (kdA dt_MX8_init 3 rfl) rfl rfl ?_
  refine K_iconst (kdA dt_MX8_init 4 rfl) (by decide) ?_
  refine K_bSi (as := [(0, 128), (0, 0)]) (st := [(2, 45)]) (kdA dt_MX8_init 5 rfl) cl_MJm_max lk8_9 rfl rfl (Nat.le_of_ble_eq_true rfl) (J_max (by omega) ?_)
  rw [show max (128 : Int) 0 = 128 by decide]
  refine K_newi (b2 := (0, 0)) (kdA dt_MX8_init 6 rfl) (by decide +kernel) (by decide) (by decide +kernel) ⟨by decide, by decide⟩ rfl (fun s1 es1 => ?_)
  have hA1 : Ag 47 [(0, 15), (0, 16), (0, 17), (0, 18), (0, 19), (7, 0), (7, 1), (7, 2), (7, 3), (17, 0), (17, 1), (17, 2), (17, 3), (17, 4), (17, 5), (18, 0), (18, 1), (18, 2), (18, 3), (18, 4), (21, 0), (21, 1), (21, 2), (21, 3), (21, 4), (21, 5), (21, 6), (21, 7), (21, 8), (21, 9), (40, 3), (45, 0)] true s1 := by rw [es1]; exact hA.new (by decide +kernel)
  refine pf8_15 rfl rfl (kdA dt_MX8_init 7 rfl) ⟨by decide, by decide, by decide +kernel⟩ (fun s2 es2 => ?_)
  have hA2 : Ag 47 [(0, 15), (0, 16), (0, 17), (0, 18), (0, 19), (7, 0), (7, 1), (7, 2), (7, 3), (17, 0), (17, 1), (17, 2), (17, 3), (17, 4), (17, 5), (18, 0), (18, 1), (18, 2), (18, 3), (18, 4), (21, 0), (21, 1), (21, 2), (21, 3), (21, 4), (21, 5), (21, 6), (21, 7), (21, 8), (21, 9), (40, 3)] true s2 := by rw [es2]; exact hA1.put (by decide +kernel)
  exact K_return (kdA dt_MX8_init 8 rfl) rfl ⟨rfl, rfl, hA2⟩
theorem I9_40 {d : Nat} {σ : kS} (hd : 5 ≤ d) (hA : Ag 41 [(0, 15), (0, 16), (0, 17), (0, 18), (0, 19), (7, 0), (7, 1), (7, 2), (7, 3), (17, 0), (17, 1), (17, 2), (17, 3), (17, 4), (17, 5), (18, 0), (18, 1), (18, 2), (18, 3), (18, 4), (21, 0), (21, 1), (21, 2), (21, 3), (21, 4), (21, 5), (21, 6), (21, 7), (21, 8), (21, 9), (40, 0), (40, 1), (40, 2), (40, 3)] true σ) : Ni d MX9_init (6, 492) [(2, 40)] 41 σ 47 (fun s => Ag 47 [(0, 15), (0, 16), (0, 17), (0, 18), (0, 19), (7, 0), (7, 1), (7, 2), (7, 3), (17, 0), (17, 1), (17, 2), (17, 3), (17, 4), (17, 5), (18, 0), (18, 1), (18, 2), (18, 3), (18, 4), (21, 0), (21, 1), (21, 2), (21, 3), (21, 4), (21, 5), (21, 6), (21, 7), (21, 8), (21, 9)] true s) := by
  obtain ⟨d, rfl⟩ : ∃ e, d = e + 1 := ⟨d - 1, by omega⟩
  refine Tri_of (by decide +kernel) (Nat.le_of_ble_eq_true rfl) (fun _ _ => ?_)
  show K (d + 1) MX9_init _ (6, 492) 0 [(0, (2, 40))] [] 41 σ
  refine K_aload_n 0 (kdA dt_MX9_init 0 rfl) rfl rfl ?_
  refine K_oinit (kdA dt_MX9_init 1 rfl) (tb1 197 rfl rfl) (by decide) (Nat.le_of_ble_eq_true rfl) ?_
  refine K_aload_n 0 (kdA dt_MX9_init 2 rfl) rfl rfl ?_
  refine K_bipush (kdA dt_MX9_init 3 rfl) (by decide) ?_
  refine K_newi (b2 := (5, 372)) (kdA dt_MX9_init 4 rfl) (by decide +kernel) (by decide) (by decide +kernel) ⟨by decide, by decide⟩ rfl (fun s1 es1 => ?_)
  have hA1 : Ag 42 [(0, 15), (0, 16), (0, 17), (0, 18), (0, 19), (7, 0), (7, 1), (7, 2), (7, 3), (17, 0), (17, 1), (17, 2), (17, 3), (17, 4), (17, 5), (18, 0), (18, 1), (18, 2), (18, 3), (18, 4), (21, 0), (21, 1), (21, 2), (21, 3), (21, 4), (21, 5), (21, 6), (21, 7), (21, 8), (21, 9), (40, 0), (40, 1), (40, 2), (40, 3)] true s1 := by rw [es1]; exact hA.new (by decide +kernel)
  refine pf9_9 rfl rfl (kdA dt_MX9_init 5 rfl) ⟨by decide, by decide, by decide +kernel⟩ (fun s2 es2 => ?_)
  have hA2 : Ag 42 [(0, 15), (0, 16), (0, 17), (0, 18), (0, 19), (7, 0), (7, 1), (7, 2), (7, 3), (17, 0), (17, 1), (17, 2), (17, 3), (17, 4), (17, 5), (18, 0), (18, 1), (18, 2), (18, 3), (18, 4), (21, 0), (21, 1), (21, 2), (21, 3), (21, 4), (21, 5), (21, 6), (21, 7), (21, 8), (21, 9), (40, 1), (40, 2), (40, 3)] true s2 := by rw [es2]; exact hA1.put (by decide +kernel)
  refine K_aload_n 0 (kdA dt_MX9_init 6 rfl) rfl rfl ?_
  refine K_bipush (kdA dt_MX9_init 7 rfl) (by decide) ?_
  refine K_newi (b2 := (4, 252)) (kdA dt_MX9_init 8 rfl) (by decide +kernel) (by decide) (by decide +kernel) ⟨by decide, by decide⟩ rfl (fun s3 es3 => ?_)
  have hA3 : Ag 43 [(0, 15), (0, 16), (0, 17), (0, 18), (0, 19), (7, 0), (7, 1), (7, 2), (7, 3), (17, 0), (17, 1), (17, 2), (17, 3), (17, 4), (17, 5), (18, 0), (18, 1), (18, 2), (18, 3), (18, 4), (21, 0), (21, 1), (21, 2), (21, 3), (21, 4), (21, 5), (21, 6), (21, 7), (21, 8), (21, 9), (40, 1), (40, 2), (40, 3)] true s3 := by rw [es3]; exact hA2.new (by decide +kernel)
  refine pf9_15 rfl rfl (kdA dt_MX9_init 9 rfl) ⟨by decide, by decide, by decide +kernel⟩ (fun s4 es4 => ?_)
  have hA4 : Ag 43 [(0, 15), (0, 16), (0, 17), (0, 18), (0, 19), (7, 0), (7, 1), (7, 2), (7, 3), (17, 0), (17, 1), (17, 2), (17, 3), (17, 4), (17, 5), (18, 0), (18, 1), (18, 2), (18, 3), (18, 4), (21, 0), (21, 1), (21, 2), (21, 3), (21, 4), (21, 5), (21, 6), (21, 7), (21, 8), (21, 9), (40, 2), (40, 3)] true s4 := by rw [es4]; exact hA3.put (by decide +kernel)
  refine K_aload_n 0 (kdA dt_MX9_init 10 rfl) rfl rfl ?_
  refine K_new2 (C := RX8) (N := 2) (b2 := (3, 250)) (kdA dt_MX9_init 11 rfl) ⟨(tb1 198 rfl rfl), (tb1 49 rfl rfl), (tb1 3 rfl rfl)⟩ rfl uw8 ft8 (by decide +kernel) (by decide +kernel) ⟨by decide, by decide⟩ rfl (fun s5 es5 => ?_)
  have hA5 : Ag 44 [(0, 15), (0, 16), (0, 17), (0, 18), (0, 19), (7, 0), (7, 1), (7, 2), (7, 3), (17, 0), (17, 1), (17, 2), (17, 3), (17, 4), (17, 5), (18, 0), (18, 1), (18, 2), (18, 3), (18, 4), (21, 0), (21, 1), (21, 2), (21, 3), (21, 4), (21, 5), (21, 6), (21, 7), (21, 8), (21, 9), (40, 2), (40, 3), (43, 0)] true s5 := by rw [es5]; exact hA4.new (by decide +kernel)
  refine K_dup (kdA dt_MX9_init 12 rfl) rfl ?_
  refine K_bipush (kdA dt_MX9_init 13 rfl) (by decide) ?_
  refine K_nI (b' := (1, 120)) (b2 := (2, 130)) (as := [(0, 120)]) (r := 43) (st := [(2, 43), (2, 40)]) (n1 := 45) (kdA dt_MX9_init 14 rfl) ⟨by decide, by decide⟩ cl_MX8_init lk9_20 rfl rfl (Nat.le_of_ble_eq_true rfl) (by decide) rfl (Ni.mono (I8_43 (by omega) hA5) (fun s6 hA6 => ?_))
  refine pf9_23 rfl rfl (kdA dt_MX9_init 15 rfl) ⟨by decide, by decide, by decide +kernel⟩ (fun s7 es7 => ?_)
  have hA7 : Ag 45 [(0, 15), (0, 16), (0, 17), (0, 18), (0, 19), (7, 0), (7, 1), (7, 2), (7, 3), (17, 0), (17, 1), (17, 2), (17, 3), (17, 4), (17, 5), (18, 0), (18, 1), (18, 2), (18, 3), (18, 4), (21, 0), (21, 1), (21, 2), (21, 3), (21, 4), (21, 5), (21, 6), (21, 7), (21, 8), (21, 9), (40, 3)] true s7 := by rw [es7]; exact hA6.put (by decide +kernel)
  refine K_aload_n 0 (kdA dt_MX9_init 16 rfl) rfl rfl ?_
  refine K_new2 (C := RX8) (N := 2) (b2 := (1, 128)) (kdA dt_MX9_init 17 rfl) ⟨(tb1 198 rfl rfl), (tb1 49 rfl rfl), (tb1 3 rfl rfl)⟩ rfl uw8 ft8 (by decide +kernel) (by decide +kernel) ⟨by decide, by decide⟩ rfl (fun s8 es8 => ?_)
  have hA8 : Ag 46 [(0, 15), (0, 16), (0, 17), (0, 18), (0, 19), (7, 0), (7, 1), (7, 2), (7, 3), (17, 0), (17, 1), (17, 2), (17, 3), (17, 4), (17, 5), (18, 0), (18, 1), (18, 2), (18, 3), (18, 4), (21, 0), (21, 1), (21, 2), (21, 3), (21, 4), (21, 5), (21, 6), (21, 7), (21, 8), (21, 9), (40, 3), (45, 0)] true s8 := by rw [es8]; exact hA7.new (by decide +kernel)
  refine K_dup (kdA dt_MX9_init 18 rfl) rfl ?_
  refine K_sipush (kdA dt_MX9_init 19 rfl) (by decide) ?_
  refine K_nI (b' := (1, 128)) (b2 := (0, 0)) (as := [(0, 128)]) (r := 45) (st := [(2, 45), (2, 40)]) (n1 := 47) (kdA dt_MX9_init 20 rfl) ⟨by decide, by decide⟩ cl_MX8_init lk9_20 rfl rfl (Nat.le_of_ble_eq_true rfl) (by decide) rfl (Ni.mono (I8_45 (by omega) hA8) (fun s9 hA9 => ?_))
  refine pf9_27 rfl rfl (kdA dt_MX9_init 21 rfl) ⟨by decide, by decide, by decide +kernel⟩ (fun s10 es10 => ?_)
  have hA10 : Ag 47 [(0, 15), (0, 16), (0, 17), (0, 18), (0, 19), (7, 0), (7, 1), (7, 2), (7, 3), (17, 0), (17, 1), (17, 2), (17, 3), (17, 4), (17, 5), (18, 0), (18, 1), (18, 2), (18, 3), (18, 4), (21, 0), (21, 1), (21, 2), (21, 3), (21, 4), (21, 5), (21, 6), (21, 7), (21, 8), (21, 9)] true s10 := by rw [es10]; exact hA9.put (by decide +kernel)
  exact K_return (kdA dt_MX9_init 22 rfl) rfl ⟨rfl, rfl, hA10⟩
theorem I8_48 {d : Nat} {σ : kS} (hd : 3 ≤ d) (hA : Ag 49 [(0, 16), (0, 17), (0, 18), (0, 19), (7, 0), (7, 1), (7, 2), (7, 3), (17, 0), (17, 1), (17, 2), (17, 3), (17, 4), (17, 5), (18, 0), (18, 1), (18, 2), (18, 3), (18, 4), (21, 0), (21, 1), (21, 2), (21, 3), (21, 4), (21, 5), (21, 6), (21, 7), (21, 8), (21, 9), (47, 0), (47, 1), (47, 2), (48, 0)] true σ) : Ni d MX8_init (1, 30) [(2, 48), (0, 30)] 49 σ 50 (fun s => Ag 50 [(0, 16), (0, 17), (0, 18), (0, 19), (7, 0), (7, 1), (7, 2), (7, 3), (17, 0), (17, 1), (17, 2), (17, 3), (17, 4), (17, 5), (18, 0), (18, 1), (18, 2), (18, 3), (18, 4), (21, 0), (21, 1), (21, 2), (21, 3), (21, 4), (21, 5), (21, 6), (21, 7), (21, 8), (21, 9), (47, 0), (47, 1), (47, 2)] true s) := by
  obtain ⟨d, rfl⟩ : ∃ e, d = e + 1 := ⟨d - 1, by omega⟩
  refine Tri_of (by decide +kernel) (Nat.le_of_ble_eq_true rfl) (fun _ _ => ?_)
  show K (d + 1) MX8_init _ (1, 30) 0 [(0, (2, 48)), (1, (0, 30))] [] 49 σ
  refine K_aload_n 0 (kdA dt_MX8_init 0 rfl) rfl rfl ?_
  refine K_oinit (kdA dt_MX8_init 1 rfl) (tb1 53 rfl rfl) (by decide) (Nat.le_of_ble_eq_true rfl) ?_
  refine K_aload_n 0 (kdA dt_MX8_init 2 rfl) rfl rfl ?_
  refine K_iload_n 1 (kdA dt_MX8_init 3 rfl) rfl rfl ?_
  refine K_iconst (kdA dt_MX8_init 4 rfl) (by decide) ?_
  refine K_bSi (as := [(0, 30), (0, 0)]) (st := [(2, 48)]) (kdA dt_MX8_init 5 rfl) cl_MJm_max lk8_9 rfl rfl (Nat.le_of_ble_eq_true rfl) (J_max (by omega) ?_)
  rw [show max (30 : Int) 0 = 30 by decide]
  refine K_newi (b2 := (0, 0)) (kdA dt_MX8_init 6 rfl) (by decide +kernel) (by decide) (by decide +kernel) ⟨by decide, by decide⟩ rfl (fun s1 es1 => ?_)
  have hA1 : Ag 50 [(0, 16), (0, 17), (0, 18), (0, 19), (7, 0), (7, 1), (7, 2), (7, 3), (17, 0), (17, 1), (17, 2), (17, 3), (17, 4), (17, 5), (18, 0), (18, 1), (18, 2), (18, 3), (18, 4), (21, 0), (21, 1), (21, 2), (21, 3), (21, 4), (21, 5), (21, 6), (21, 7), (21, 8), (21, 9), (47, 0), (47, 1), (47, 2), (48, 0)] true s1 := by rw [es1]; exact hA.new (by decide +kernel)
  refine pf8_15 rfl rfl (kdA dt_MX8_init 7 rfl) ⟨by decide, by decide, by decide +kernel⟩ (fun s2 es2 => ?_)
  have hA2 : Ag 50 [(0, 16), (0, 17), (0, 18), (0, 19), (7, 0), (7, 1), (7, 2), (7, 3), (17, 0), (17, 1), (17, 2), (17, 3), (17, 4), (17, 5), (18, 0), (18, 1), (18, 2), (18, 3), (18, 4), (21, 0), (21, 1), (21, 2), (21, 3), (21, 4), (21, 5), (21, 6), (21, 7), (21, 8), (21, 9), (47, 0), (47, 1), (47, 2)] true s2 := by rw [es2]; exact hA1.put (by decide +kernel)
  exact K_return (kdA dt_MX8_init 8 rfl) rfl ⟨rfl, rfl, hA2⟩
theorem I8_50 {d : Nat} {σ : kS} (hd : 3 ≤ d) (hA : Ag 51 [(0, 16), (0, 17), (0, 18), (0, 19), (7, 0), (7, 1), (7, 2), (7, 3), (17, 0), (17, 1), (17, 2), (17, 3), (17, 4), (17, 5), (18, 0), (18, 1), (18, 2), (18, 3), (18, 4), (21, 0), (21, 1), (21, 2), (21, 3), (21, 4), (21, 5), (21, 6), (21, 7), (21, 8), (21, 9), (47, 1), (47, 2), (50, 0)] true σ) : Ni d MX8_init (1, 30) [(2, 50), (0, 30)] 51 σ 52 (fun s => Ag 52 [(0, 16), (0, 17), (0, 18), (0, 19), (7, 0), (7, 1), (7, 2), (7, 3), (17, 0), (17, 1), (17, 2), (17, 3), (17, 4), (17, 5), (18, 0), (18, 1), (18, 2), (18, 3), (18, 4), (21, 0), (21, 1), (21, 2), (21, 3), (21, 4), (21, 5), (21, 6), (21, 7), (21, 8), (21, 9), (47, 1), (47, 2)] true s) := by
  obtain ⟨d, rfl⟩ : ∃ e, d = e + 1 := ⟨d - 1, by omega⟩
  refine Tri_of (by decide +kernel) (Nat.le_of_ble_eq_true rfl) (fun _ _ => ?_)
  show K (d + 1) MX8_init _ (1, 30) 0 [(0, (2, 50)), (1, (0, 30))] [] 51 σ
  refine K_aload_n 0 (kdA dt_MX8_init 0 rfl) rfl rfl ?_
  refine K_oinit (kdA dt_MX8_init 1 rfl) (tb1 53 rfl rfl) (by decide) (Nat.le_of_ble_eq_true rfl) ?_
  refine K_aload_n 0 (kdA dt_MX8_init 2 rfl) rfl rfl ?_
  refine K_iload_n 1 (kdA dt_MX8_init 3 rfl) rfl rfl ?_
  refine K_iconst (kdA dt_MX8_init 4 rfl) (by decide) ?_
  refine K_bSi (as := [(0, 30), (0, 0)]) (st := [(2, 50)]) (kdA dt_MX8_init 5 rfl) cl_MJm_max lk8_9 rfl rfl (Nat.le_of_ble_eq_true rfl) (J_max (by omega) ?_)
  rw [show max (30 : Int) 0 = 30 by decide]
  refine K_newi (b2 := (0, 0)) (kdA dt_MX8_init 6 rfl) (by decide +kernel) (by decide) (by decide +kernel) ⟨by decide, by decide⟩ rfl (fun s1 es1 => ?_)
  have hA1 : Ag 52 [(0, 16), (0, 17), (0, 18), (0, 19), (7, 0), (7, 1), (7, 2), (7, 3), (17, 0), (17, 1), (17, 2), (17, 3), (17, 4), (17, 5), (18, 0), (18, 1), (18, 2), (18, 3), (18, 4), (21, 0), (21, 1), (21, 2), (21, 3), (21, 4), (21, 5), (21, 6), (21, 7), (21, 8), (21, 9), (47, 1), (47, 2), (50, 0)] true s1 := by rw [es1]; exact hA.new (by decide +kernel)
  refine pf8_15 rfl rfl (kdA dt_MX8_init 7 rfl) ⟨by decide, by decide, by decide +kernel⟩ (fun s2 es2 => ?_)
  have hA2 : Ag 52 [(0, 16), (0, 17), (0, 18), (0, 19), (7, 0), (7, 1), (7, 2), (7, 3), (17, 0), (17, 1), (17, 2), (17, 3), (17, 4), (17, 5), (18, 0), (18, 1), (18, 2), (18, 3), (18, 4), (21, 0), (21, 1), (21, 2), (21, 3), (21, 4), (21, 5), (21, 6), (21, 7), (21, 8), (21, 9), (47, 1), (47, 2)] true s2 := by rw [es2]; exact hA1.put (by decide +kernel)
  exact K_return (kdA dt_MX8_init 8 rfl) rfl ⟨rfl, rfl, hA2⟩
theorem I8_52 {d : Nat} {σ : kS} (hd : 3 ≤ d) (hA : Ag 53 [(0, 16), (0, 17), (0, 18), (0, 19), (7, 0), (7, 1), (7, 2), (7, 3), (17, 0), (17, 1), (17, 2), (17, 3), (17, 4), (17, 5), (18, 0), (18, 1), (18, 2), (18, 3), (18, 4), (21, 0), (21, 1), (21, 2), (21, 3), (21, 4), (21, 5), (21, 6), (21, 7), (21, 8), (21, 9), (47, 2), (52, 0)] true σ) : Ni d MX8_init (1, 30) [(2, 52), (0, 30)] 53 σ 54 (fun s => Ag 54 [(0, 16), (0, 17), (0, 18), (0, 19), (7, 0), (7, 1), (7, 2), (7, 3), (17, 0), (17, 1), (17, 2), (17, 3), (17, 4), (17, 5), (18, 0), (18, 1), (18, 2), (18, 3), (18, 4), (21, 0), (21, 1), (21, 2), (21, 3), (21, 4), (21, 5), (21, 6), (21, 7), (21, 8), (21, 9), (47, 2)] true s) := by
  obtain ⟨d, rfl⟩ : ∃ e, d = e + 1 := ⟨d - 1, by omega⟩
  refine Tri_of (by decide +kernel) (Nat.le_of_ble_eq_true rfl) (fun _ _ => ?_)
  show K (d + 1) MX8_init _ (1, 30) 0 [(0, (2, 52)), (1, (0, 30))] [] 53 σ
  refine K_aload_n 0 (kdA dt_MX8_init 0 rfl) rfl rfl ?_
  refine K_oinit (kdA dt_MX8_init 1 rfl) (tb1 53 rfl rfl) (by decide) (Nat.le_of_ble_eq_true rfl) ?_
  refine K_aload_n 0 (kdA dt_MX8_init 2 rfl) rfl rfl ?_
  refine K_iload_n 1 (kdA dt_MX8_init 3 rfl) rfl rfl ?_
  refine K_iconst (kdA dt_MX8_init 4 rfl) (by decide) ?_
  refine K_bSi (as := [(0, 30), (0, 0)]) (st := [(2, 52)]) (kdA dt_MX8_init 5 rfl) cl_MJm_max lk8_9 rfl rfl (Nat.le_of_ble_eq_true rfl) (J_max (by omega) ?_)
  rw [show max (30 : Int) 0 = 30 by decide]
  refine K_newi (b2 := (0, 0)) (kdA dt_MX8_init 6 rfl) (by decide +kernel) (by decide) (by decide +kernel) ⟨by decide, by decide⟩ rfl (fun s1 es1 => ?_)
  have hA1 : Ag 54 [(0, 16), (0, 17), (0, 18), (0, 19), (7, 0), (7, 1), (7, 2), (7, 3), (17, 0), (17, 1), (17, 2), (17, 3), (17, 4), (17, 5), (18, 0), (18, 1), (18, 2), (18, 3), (18, 4), (21, 0), (21, 1), (21, 2), (21, 3), (21, 4), (21, 5), (21, 6), (21, 7), (21, 8), (21, 9), (47, 2), (52, 0)] true s1 := by rw [es1]; exact hA.new (by decide +kernel)
  refine pf8_15 rfl rfl (kdA dt_MX8_init 7 rfl) ⟨by decide, by decide, by decide +kernel⟩ (fun s2 es2 => ?_)
  have hA2 : Ag 54 [(0, 16), (0, 17), (0, 18), (0, 19), (7, 0), (7, 1), (7, 2), (7, 3), (17, 0), (17, 1), (17, 2), (17, 3), (17, 4), (17, 5), (18, 0), (18, 1), (18, 2), (18, 3), (18, 4), (21, 0), (21, 1), (21, 2), (21, 3), (21, 4), (21, 5), (21, 6), (21, 7), (21, 8), (21, 9), (47, 2)] true s2 := by rw [es2]; exact hA1.put (by decide +kernel)
  exact K_return (kdA dt_MX8_init 8 rfl) rfl ⟨rfl, rfl, hA2⟩
theorem I2_47 {d : Nat} {σ : kS} (hd : 5 ≤ d) (hA : Ag 48 [(0, 16), (0, 17), (0, 18), (0, 19), (7, 0), (7, 1), (7, 2), (7, 3), (17, 0), (17, 1), (17, 2), (17, 3), (17, 4), (17, 5), (18, 0), (18, 1), (18, 2), (18, 3), (18, 4), (21, 0), (21, 1), (21, 2), (21, 3), (21, 4), (21, 5), (21, 6), (21, 7), (21, 8), (21, 9), (47, 0), (47, 1), (47, 2)] true σ) : Ni d MX2_init (6, 96) [(2, 47)] 48 σ 54 (fun s => Ag 54 [(0, 16), (0, 17), (0, 18), (0, 19), (7, 0), (7, 1), (7, 2), (7, 3), (17, 0), (17, 1), (17, 2), (17, 3), (17, 4), (17, 5), (18, 0), (18, 1), (18, 2), (18, 3), (18, 4), (21, 0), (21, 1), (21, 2), (21, 3), (21, 4), (21, 5), (21, 6), (21, 7), (21, 8), (21, 9)] true s) := by
  obtain ⟨d, rfl⟩ : ∃ e, d = e + 1 := ⟨d - 1, by omega⟩
  refine Tri_of (by decide +kernel) (Nat.le_of_ble_eq_true rfl) (fun _ _ => ?_)
  show K (d + 1) MX2_init _ (6, 96) 0 [(0, (2, 47))] [] 48 σ
  refine K_aload_n 0 (kdA dt_MX2_init 0 rfl) rfl rfl ?_
  refine K_oinit (kdA dt_MX2_init 1 rfl) (tb1 220 rfl rfl) (by decide) (Nat.le_of_ble_eq_true rfl) ?_
  refine K_aload_n 0 (kdA dt_MX2_init 2 rfl) rfl rfl ?_
  refine K_new2 (C := RX8) (N := 2) (b2 := (5, 94)) (kdA dt_MX2_init 3 rfl) ⟨(tb1 221 rfl rfl), (tb1 49 rfl rfl), (tb1 3 rfl rfl)⟩ rfl uw8 ft8 (by decide +kernel) (by decide +kernel) ⟨by decide, by decide⟩ rfl (fun s1 es1 => ?_)
  have hA1 : Ag 49 [(0, 16), (0, 17), (0, 18), (0, 19), (7, 0), (7, 1), (7, 2), (7, 3), (17, 0), (17, 1), (17, 2), (17, 3), (17, 4), (17, 5), (18, 0), (18, 1), (18, 2), (18, 3), (18, 4), (21, 0), (21, 1), (21, 2), (21, 3), (21, 4), (21, 5), (21, 6), (21, 7), (21, 8), (21, 9), (47, 0), (47, 1), (47, 2), (48, 0)] true s1 := by rw [es1]; exact hA.new (by decide +kernel)
  refine K_dup (kdA dt_MX2_init 4 rfl) rfl ?_
  refine K_bipush (kdA dt_MX2_init 5 rfl) (by decide) ?_
  refine K_nI (b' := (1, 30)) (b2 := (4, 64)) (as := [(0, 30)]) (r := 48) (st := [(2, 48), (2, 47)]) (n1 := 50) (kdA dt_MX2_init 6 rfl) ⟨by decide, by decide⟩ cl_MX8_init lk2_11 rfl rfl (Nat.le_of_ble_eq_true rfl) (by decide) rfl (Ni.mono (I8_48 (by omega) hA1) (fun s2 hA2 => ?_))
  refine pf2_14 rfl rfl (kdA dt_MX2_init 7 rfl) ⟨by decide, by decide, by decide +kernel⟩ (fun s3 es3 => ?_)
  have hA3 : Ag 50 [(0, 16), (0, 17), (0, 18), (0, 19), (7, 0), (7, 1), (7, 2), (7, 3), (17, 0), (17, 1), (17, 2), (17, 3), (17, 4), (17, 5), (18, 0), (18, 1), (18, 2), (18, 3), (18, 4), (21, 0), (21, 1), (21, 2), (21, 3), (21, 4), (21, 5), (21, 6), (21, 7), (21, 8), (21, 9), (47, 1), (47, 2)] true s3 := by rw [es3]; exact hA2.put (by decide +kernel)
  refine K_aload_n 0 (kdA dt_MX2_init 8 rfl) rfl rfl ?_
  refine K_new2 (C := RX8) (N := 2) (b2 := (3, 62)) (kdA dt_MX2_init 9 rfl) ⟨(tb1 221 rfl rfl), (tb1 49 rfl rfl), (tb1 3 rfl rfl)⟩ rfl uw8 ft8 (by decide +kernel) (by decide +kernel) ⟨by decide, by decide⟩ rfl (fun s4 es4 => ?_)
  have hA4 : Ag 51 [(0, 16), (0, 17), (0, 18), (0, 19), (7, 0), (7, 1), (7, 2), (7, 3), (17, 0), (17, 1), (17, 2), (17, 3), (17, 4), (17, 5), (18, 0), (18, 1), (18, 2), (18, 3), (18, 4), (21, 0), (21, 1), (21, 2), (21, 3), (21, 4), (21, 5), (21, 6), (21, 7), (21, 8), (21, 9), (47, 1), (47, 2), (50, 0)] true s4 := by rw [es4]; exact hA3.new (by decide +kernel)
  refine K_dup (kdA dt_MX2_init 10 rfl) rfl ?_
  refine K_bipush (kdA dt_MX2_init 11 rfl) (by decide) ?_
  refine K_nI (b' := (1, 30)) (b2 := (2, 32)) (as := [(0, 30)]) (r := 50) (st := [(2, 50), (2, 47)]) (n1 := 52) (kdA dt_MX2_init 12 rfl) ⟨by decide, by decide⟩ cl_MX8_init lk2_11 rfl rfl (Nat.le_of_ble_eq_true rfl) (by decide) rfl (Ni.mono (I8_50 (by omega) hA4) (fun s5 hA5 => ?_))
  refine pf2_20 rfl rfl (kdA dt_MX2_init 13 rfl) ⟨by decide, by decide, by decide +kernel⟩ (fun s6 es6 => ?_)
  have hA6 : Ag 52 [(0, 16), (0, 17), (0, 18), (0, 19), (7, 0), (7, 1), (7, 2), (7, 3), (17, 0), (17, 1), (17, 2), (17, 3), (17, 4), (17, 5), (18, 0), (18, 1), (18, 2), (18, 3), (18, 4), (21, 0), (21, 1), (21, 2), (21, 3), (21, 4), (21, 5), (21, 6), (21, 7), (21, 8), (21, 9), (47, 2)] true s6 := by rw [es6]; exact hA5.put (by decide +kernel)
  refine K_aload_n 0 (kdA dt_MX2_init 14 rfl) rfl rfl ?_
  refine K_new2 (C := RX8) (N := 2) (b2 := (1, 30)) (kdA dt_MX2_init 15 rfl) ⟨(tb1 221 rfl rfl), (tb1 49 rfl rfl), (tb1 3 rfl rfl)⟩ rfl uw8 ft8 (by decide +kernel) (by decide +kernel) ⟨by decide, by decide⟩ rfl (fun s7 es7 => ?_)
  have hA7 : Ag 53 [(0, 16), (0, 17), (0, 18), (0, 19), (7, 0), (7, 1), (7, 2), (7, 3), (17, 0), (17, 1), (17, 2), (17, 3), (17, 4), (17, 5), (18, 0), (18, 1), (18, 2), (18, 3), (18, 4), (21, 0), (21, 1), (21, 2), (21, 3), (21, 4), (21, 5), (21, 6), (21, 7), (21, 8), (21, 9), (47, 2), (52, 0)] true s7 := by rw [es7]; exact hA6.new (by decide +kernel)
  refine K_dup (kdA dt_MX2_init 16 rfl) rfl ?_
  refine K_bipush (kdA dt_MX2_init 17 rfl) (by decide) ?_
  refine K_nI (b' := (1, 30)) (b2 := (0, 0)) (as := [(0, 30)]) (r := 52) (st := [(2, 52), (2, 47)]) (n1 := 54) (kdA dt_MX2_init 18 rfl) ⟨by decide, by decide⟩ cl_MX8_init lk2_11 rfl rfl (Nat.le_of_ble_eq_true rfl) (by decide) rfl (Ni.mono (I8_52 (by omega) hA7) (fun s8 hA8 => ?_))
  refine pf2_23 rfl rfl (kdA dt_MX2_init 19 rfl) ⟨by decide, by decide, by decide +kernel⟩ (fun s9 es9 => ?_)
  have hA9 : Ag 54 [(0, 16), (0, 17), (0, 18), (0, 19), (7, 0), (7, 1), (7, 2), (7, 3), (17, 0), (17, 1), (17, 2), (17, 3), (17, 4), (17, 5), (18, 0), (18, 1), (18, 2), (18, 3), (18, 4), (21, 0), (21, 1), (21, 2), (21, 3), (21, 4), (21, 5), (21, 6), (21, 7), (21, 8), (21, 9)] true s9 := by rw [es9]; exact hA8.put (by decide +kernel)
  exact K_return (kdA dt_MX2_init 20 rfl) rfl ⟨rfl, rfl, hA9⟩
theorem I8_55 {d : Nat} {σ : kS} (hd : 3 ≤ d) (hA : Ag 56 [(0, 17), (0, 18), (0, 19), (7, 0), (7, 1), (7, 2), (7, 3), (17, 0), (17, 1), (17, 2), (17, 3), (17, 4), (17, 5), (18, 0), (18, 1), (18, 2), (18, 3), (18, 4), (21, 0), (21, 1), (21, 2), (21, 3), (21, 4), (21, 5), (21, 6), (21, 7), (21, 8), (21, 9), (54, 0), (54, 1), (54, 2), (55, 0)] true σ) : Ni d MX8_init (1, 6) [(2, 55), (0, 6)] 56 σ 57 (fun s => Ag 57 [(0, 17), (0, 18), (0, 19), (7, 0), (7, 1), (7, 2), (7, 3), (17, 0), (17, 1), (17, 2), (17, 3), (17, 4), (17, 5), (18, 0), (18, 1), (18, 2), (18, 3), (18, 4), (21, 0), (21, 1), (21, 2), (21, 3), (21, 4), (21, 5), (21, 6), (21, 7), (21, 8), (21, 9), (54, 0), (54, 1), (54, 2)] true s) := by
  obtain ⟨d, rfl⟩ : ∃ e, d = e + 1 := ⟨d - 1, by omega⟩
  refine Tri_of (by decide +kernel) (Nat.le_of_ble_eq_true rfl) (fun _ _ => ?_)
  show K (d + 1) MX8_init _ (1, 6) 0 [(0, (2, 55)), (1, (0, 6))] [] 56 σ
  refine K_aload_n 0 (kdA dt_MX8_init 0 rfl) rfl rfl ?_
  refine K_oinit (kdA dt_MX8_init 1 rfl) (tb1 53 rfl rfl) (by decide) (Nat.le_of_ble_eq_true rfl) ?_
  refine K_aload_n 0 (kdA dt_MX8_init 2 rfl) rfl rfl ?_
  refine K_iload_n 1 (kdA dt_MX8_init 3 rfl) rfl rfl ?_
  refine K_iconst (kdA dt_MX8_init 4 rfl) (by decide) ?_
  refine K_bSi (as := [(0, 6), (0, 0)]) (st := [(2, 55)]) (kdA dt_MX8_init 5 rfl) cl_MJm_max lk8_9 rfl rfl (Nat.le_of_ble_eq_true rfl) (J_max (by omega) ?_)
  rw [show max (6 : Int) 0 = 6 by decide]
  refine K_newi (b2 := (0, 0)) (kdA dt_MX8_init 6 rfl) (by decide +kernel) (by decide) (by decide +kernel) ⟨by decide, by decide⟩ rfl (fun s1 es1 => ?_)
  have hA1 : Ag 57 [(0, 17), (0, 18), (0, 19), (7, 0), (7, 1), (7, 2), (7, 3), (17, 0), (17, 1), (17, 2), (17, 3), (17, 4), (17, 5), (18, 0), (18, 1), (18, 2), (18, 3), (18, 4), (21, 0), (21, 1), (21, 2), (21, 3), (21, 4), (21, 5), (21, 6), (21, 7), (21, 8), (21, 9), (54, 0), (54, 1), (54, 2), (55, 0)] true s1 := by rw [es1]; exact hA.new (by decide +kernel)
  refine pf8_15 rfl rfl (kdA dt_MX8_init 7 rfl) ⟨by decide, by decide, by decide +kernel⟩ (fun s2 es2 => ?_)
  have hA2 : Ag 57 [(0, 17), (0, 18), (0, 19), (7, 0), (7, 1), (7, 2), (7, 3), (17, 0), (17, 1), (17, 2), (17, 3), (17, 4), (17, 5), (18, 0), (18, 1), (18, 2), (18, 3), (18, 4), (21, 0), (21, 1), (21, 2), (21, 3), (21, 4), (21, 5), (21, 6), (21, 7), (21, 8), (21, 9), (54, 0), (54, 1), (54, 2)] true s2 := by rw [es2]; exact hA1.put (by decide +kernel)
  exact K_return (kdA dt_MX8_init 8 rfl) rfl ⟨rfl, rfl, hA2⟩
theorem I8_57 {d : Nat} {σ : kS} (hd : 3 ≤ d) (hA : Ag 58 [(0, 17), (0, 18), (0, 19), (7, 0), (7, 1), (7, 2), (7, 3), (17, 0), (17, 1), (17, 2), (17, 3), (17, 4), (17, 5), (18, 0), (18, 1), (18, 2), (18, 3), (18, 4), (21, 0), (21, 1), (21, 2), (21, 3), (21, 4), (21, 5), (21, 6), (21, 7), (21, 8), (21, 9), (54, 1), (54, 2), (57, 0)] true σ) : Ni d MX8_init (1, 6) [(2, 57), (0, 6)] 58 σ 59 (fun s => Ag 59 [(0, 17), (0, 18), (0, 19), (7, 0), (7, 1), (7, 2), (7, 3), (17, 0), (17, 1), (17, 2), (17, 3), (17, 4), (17, 5), (18, 0), (18, 1), (18, 2), (18, 3), (18, 4), (21, 0), (21, 1), (21, 2), (21, 3), (21, 4), (21, 5), (21, 6), (21, 7), (21, 8), (21, 9), (54, 1), (54, 2)] true s) := by
  obtain ⟨d, rfl⟩ : ∃ e, d = e + 1 := ⟨d - 1, by omega⟩
  refine Tri_of (by decide +kernel) (Nat.le_of_ble_eq_true rfl) (fun _ _ => ?_)
  show K (d + 1) MX8_init _ (1, 6) 0 [(0, (2, 57)), (1, (0, 6))] [] 58 σ
  refine K_aload_n 0 (kdA dt_MX8_init 0 rfl) rfl rfl ?_
  refine K_oinit (kdA dt_MX8_init 1 rfl) (tb1 53 rfl rfl) (by decide) (Nat.le_of_ble_eq_true rfl) ?_
  refine K_aload_n 0 (kdA dt_MX8_init 2 rfl) rfl rfl ?_
  refine K_iload_n 1 (kdA dt_MX8_init 3 rfl) rfl rfl ?_
  refine K_iconst (kdA dt_MX8_init 4 rfl) (by decide) ?_
  refine K_bSi (as := [(0, 6), (0, 0)]) (st := [(2, 57)]) (kdA dt_MX8_init 5 rfl) cl_MJm_max lk8_9 rfl rfl (Nat.le_of_ble_eq_true rfl) (J_max (by omega) ?_)
  rw [show max (6 : Int) 0 = 6 by decide]
  refine K_newi (b2 := (0, 0)) (kdA dt_MX8_init 6 rfl) (by decide +kernel) (by decide) (by decide +kernel) ⟨by decide, by decide⟩ rfl (fun s1 es1 => ?_)
  have hA1 : Ag 59 [(0, 17), (0, 18), (0, 19), (7, 0), (7, 1), (7, 2), (7, 3), (17, 0), (17, 1), (17, 2), (17, 3), (17, 4), (17, 5), (18, 0), (18, 1), (18, 2), (18, 3), (18, 4), (21, 0), (21, 1), (21, 2), (21, 3), (21, 4), (21, 5), (21, 6), (21, 7), (21, 8), (21, 9), (54, 1), (54, 2), (57, 0)] true s1 := by rw [es1]; exact hA.new (by decide +kernel)
  refine pf8_15 rfl rfl (kdA dt_MX8_init 7 rfl) ⟨by decide, by decide, by decide +kernel⟩ (fun s2 es2 => ?_)
  have hA2 : Ag 59 [(0, 17), (0, 18), (0, 19), (7, 0), (7, 1), (7, 2), (7, 3), (17, 0), (17, 1), (17, 2), (17, 3), (17, 4), (17, 5), (18, 0), (18, 1), (18, 2), (18, 3), (18, 4), (21, 0), (21, 1), (21, 2), (21, 3), (21, 4), (21, 5), (21, 6), (21, 7), (21, 8), (21, 9), (54, 1), (54, 2)] true s2 := by rw [es2]; exact hA1.put (by decide +kernel)
  exact K_return (kdA dt_MX8_init 8 rfl) rfl ⟨rfl, rfl, hA2⟩
theorem I8_59 {d : Nat} {σ : kS} (hd : 3 ≤ d) (hA : Ag 60 [(0, 17), (0, 18), (0, 19), (7, 0), (7, 1), (7, 2), (7, 3), (17, 0), (17, 1), (17, 2), (17, 3), (17, 4), (17, 5), (18, 0), (18, 1), (18, 2), (18, 3), (18, 4), (21, 0), (21, 1), (21, 2), (21, 3), (21, 4), (21, 5), (21, 6), (21, 7), (21, 8), (21, 9), (54, 2), (59, 0)] true σ) : Ni d MX8_init (1, 6) [(2, 59), (0, 6)] 60 σ 61 (fun s => Ag 61 [(0, 17), (0, 18), (0, 19), (7, 0), (7, 1), (7, 2), (7, 3), (17, 0), (17, 1), (17, 2), (17, 3), (17, 4), (17, 5), (18, 0), (18, 1), (18, 2), (18, 3), (18, 4), (21, 0), (21, 1), (21, 2), (21, 3), (21, 4), (21, 5), (21, 6), (21, 7), (21, 8), (21, 9), (54, 2)] true s) := by
  obtain ⟨d, rfl⟩ : ∃ e, d = e + 1 := ⟨d - 1, by omega⟩
  refine Tri_of (by decide +kernel) (Nat.le_of_ble_eq_true rfl) (fun _ _ => ?_)
  show K (d + 1) MX8_init _ (1, 6) 0 [(0, (2, 59)), (1, (0, 6))] [] 60 σ
  refine K_aload_n 0 (kdA dt_MX8_init 0 rfl) rfl rfl ?_
  refine K_oinit (kdA dt_MX8_init 1 rfl) (tb1 53 rfl rfl) (by decide) (Nat.le_of_ble_eq_true rfl) ?_
  refine K_aload_n 0 (kdA dt_MX8_init 2 rfl) rfl rfl ?_
  refine K_iload_n 1 (kdA dt_MX8_init 3 rfl) rfl rfl ?_
  refine K_iconst (kdA dt_MX8_init 4 rfl) (by decide) ?_
  refine K_bSi (as := [(0, 6), (0, 0)]) (st := [(2, 59)]) (kdA dt_MX8_init 5 rfl) cl_MJm_max lk8_9 rfl rfl (Nat.le_of_ble_eq_true rfl) (J_max (by omega) ?_)
  rw [show max (6 : Int) 0 = 6 by decide]
  refine K_newi (b2 := (0, 0)) (kdA dt_MX8_init 6 rfl) (by decide +kernel) (by decide) (by decide +kernel) ⟨by decide, by decide⟩ rfl (fun s1 es1 => ?_)
  have hA1 : Ag 61 [(0, 17), (0, 18), (0, 19), (7, 0), (7, 1), (7, 2), (7, 3), (17, 0), (17, 1), (17, 2), (17, 3), (17, 4), (17, 5), (18, 0), (18, 1), (18, 2), (18, 3), (18, 4), (21, 0), (21, 1), (21, 2), (21, 3), (21, 4), (21, 5), (21, 6), (21, 7), (21, 8), (21, 9), (54, 2), (59, 0)] true s1 := by rw [es1]; exact hA.new (by decide +kernel)
  refine pf8_15 rfl rfl (kdA dt_MX8_init 7 rfl) ⟨by decide, by decide, by decide +kernel⟩ (fun s2 es2 => ?_)
  have hA2 : Ag 61 [(0, 17), (0, 18), (0, 19), (7, 0), (7, 1), (7, 2), (7, 3), (17, 0), (17, 1), (17, 2), (17, 3), (17, 4), (17, 5), (18, 0), (18, 1), (18, 2), (18, 3), (18, 4), (21, 0), (21, 1), (21, 2), (21, 3), (21, 4), (21, 5), (21, 6), (21, 7), (21, 8), (21, 9), (54, 2)] true s2 := by rw [es2]; exact hA1.put (by decide +kernel)
  exact K_return (kdA dt_MX8_init 8 rfl) rfl ⟨rfl, rfl, hA2⟩
theorem I7_54 {d : Nat} {σ : kS} (hd : 5 ≤ d) (hA : Ag 55 [(0, 17), (0, 18), (0, 19), (7, 0), (7, 1), (7, 2), (7, 3), (17, 0), (17, 1), (17, 2), (17, 3), (17, 4), (17, 5), (18, 0), (18, 1), (18, 2), (18, 3), (18, 4), (21, 0), (21, 1), (21, 2), (21, 3), (21, 4), (21, 5), (21, 6), (21, 7), (21, 8), (21, 9), (54, 0), (54, 1), (54, 2)] true σ) : Ni d MX7_init (6, 24) [(2, 54)] 55 σ 61 (fun s => Ag 61 [(0, 17), (0, 18), (0, 19), (7, 0), (7, 1), (7, 2), (7, 3), (17, 0), (17, 1), (17, 2), (17, 3), (17, 4), (17, 5), (18, 0), (18, 1), (18, 2), (18, 3), (18, 4), (21, 0), (21, 1), (21, 2), (21, 3), (21, 4), (21, 5), (21, 6), (21, 7), (21, 8), (21, 9)] true s) := by
  obtain ⟨d, rfl⟩ : ∃ e, d = e + 1 := ⟨d - 1, by omega⟩
  refine Tri_of (by decide +kernel) (Nat.le_of_ble_eq_true rfl) (fun _ _ => ?_)
  show K (d + 1) MX7_init _ (6, 24) 0 [(0, (2, 54))] [] 55 σ
  refine K_aload_n 0 (kdA dt_MX7_init 0 rfl) rfl rfl ?_
  refine K_oinit (kdA dt_MX7_init 1 rfl) (tb1 239 rfl rfl) (by decide) (Nat.le_of_ble_eq_true rfl) ?_
  refine K_aload_n 0 (kdA dt_MX7_init 2 rfl) rfl rfl ?_
  refine K_new2 (C := RX8) (N := 2) (b2 := (5, 22)) (kdA dt_MX7_init 3 rfl) ⟨(tb2 0 rfl rfl), (tb1 49 rfl rfl), (tb1 3 rfl rfl)⟩ rfl uw8 ft8 (by decide +kernel) (by decide +kernel) ⟨by decide, by decide⟩ rfl (fun s1 es1 => ?_)
  have hA1 : Ag 56 [(0, 17), (0, 18), (0, 19), (7, 0), (7, 1), (7, 2), (7, 3), (17, 0), (17, 1), (17, 2), (17, 3), (17, 4), (17, 5), (18, 0), (18, 1), (18, 2), (18, 3), (18, 4), (21, 0), (21, 1), (21, 2), (21, 3), (21, 4), (21, 5), (21, 6), (21, 7), (21, 8), (21, 9), (54, 0), (54, 1), (54, 2), (55, 0)] true s1 := by rw [es1]; exact hA.new (by decide +kernel)
  refine K_dup (kdA dt_MX7_init 4 rfl) rfl ?_
  refine K_bipush (kdA dt_MX7_init 5 rfl) (by decide) ?_
  refine K_nI (b' := (1, 6)) (b2 := (4, 16)) (as := [(0, 6)]) (r := 55) (st := [(2, 55), (2, 54)]) (n1 := 57) (kdA dt_MX7_init 6 rfl) ⟨by decide, by decide⟩ cl_MX8_init lk7_11 rfl rfl (Nat.le_of_ble_eq_true rfl) (by decide) rfl (Ni.mono (I8_55 (by omega) hA1) (fun s2 hA2 => ?_))
  refine pf7_14 rfl rfl (kdA dt_MX7_init 7 rfl) ⟨by decide, by decide, by decide +kernel⟩ (fun s3 es3 => ?_)
  have hA3 : Ag 57 [(0, 17), (0, 18), (0, 19), (7, 0), (7, 1), (7, 2), (7, 3), (17, 0), (17, 1), (17, 2), (17, 3), (17, 4), (17, 5), (18, 0), (18, 1), (18, 2), (18, 3), (18, 4), (21, 0), (21, 1), (21, 2), (21, 3), (21, 4), (21, 5), (21, 6), (21, 7), (21, 8), (21, 9), (54, 1), (54, 2)] true s3 := by rw [es3]; exact hA2.put (by decide +kernel)
  refine K_aload_n 0 (kdA dt_MX7_init 8 rfl) rfl rfl ?_
  refine K_new2 (C := RX8) (N := 2) (b2 := (3, 14)) (kdA dt_MX7_init 9 rfl) ⟨(tb2 0 rfl rfl), (tb1 49 rfl rfl), (tb1 3 rfl rfl)⟩ rfl uw8 ft8 (by decide +kernel) (by decide +kernel) ⟨by decide, by decide⟩ rfl (fun s4 es4 => ?_)
  have hA4 : Ag 58 [(0, 17), (0, 18), (0, 19), (7, 0), (7, 1), (7, 2), (7, 3), (17, 0), (17, 1), (17, 2), (17, 3), (17, 4), (17, 5), (18, 0), (18, 1), (18, 2), (18, 3), (18, 4), (21, 0), (21, 1), (21, 2), (21, 3), (21, 4), (21, 5), (21, 6), (21, 7), (21, 8), (21, 9), (54, 1), (54, 2), (57, 0)] true s4 := by rw [es4]; exact hA3.new (by decide +kernel)
  refine K_dup (kdA dt_MX7_init 10 rfl) rfl ?_
  refine K_bipush (kdA dt_MX7_init 11 rfl) (by decide) ?_
  refine K_nI (b' := (1, 6)) (b2 := (2, 8)) (as := [(0, 6)]) (r := 57) (st := [(2, 57), (2, 54)]) (n1 := 59) (kdA dt_MX7_init 12 rfl) ⟨by decide, by decide⟩ cl_MX8_init lk7_11 rfl rfl (Nat.le_of_ble_eq_true rfl) (by decide) rfl (Ni.mono (I8_57 (by omega) hA4) (fun s5 hA5 => ?_))
  refine pf7_20 rfl rfl (kdA dt_MX7_init 13 rfl) ⟨by decide, by decide, by decide +kernel⟩ (fun s6 es6 => ?_)
  have hA6 : Ag 59 [(0, 17), (0, 18), (0, 19), (7, 0), (7, 1), (7, 2), (7, 3), (17, 0), (17, 1), (17, 2), (17, 3), (17, 4), (17, 5), (18, 0), (18, 1), (18, 2), (18, 3), (18, 4), (21, 0), (21, 1), (21, 2), (21, 3), (21, 4), (21, 5), (21, 6), (21, 7), (21, 8), (21, 9), (54, 2)] true s6 := by rw [es6]; exact hA5.put (by decide +kernel)
  refine K_aload_n 0 (kdA dt_MX7_init 14 rfl) rfl rfl ?_
  refine K_new2 (C := RX8) (N := 2) (b2 := (1, 6)) (kdA dt_MX7_init 15 rfl) ⟨(tb2 0 rfl rfl), (tb1 49 rfl rfl), (tb1 3 rfl rfl)⟩ rfl uw8 ft8 (by decide +kernel) (by decide +kernel) ⟨by decide, by decide⟩ rfl (fun s7 es7 => ?_)
  have hA7 : Ag 60 [(0, 17), (0, 18), (0, 19), (7, 0), (7, 1), (7, 2), (7, 3), (17, 0), (17, 1), (17, 2), (17, 3), (17, 4), (17, 5), (18, 0), (18, 1), (18, 2), (18, 3), (18, 4), (21, 0), (21, 1), (21, 2), (21, 3), (21, 4), (21, 5), (21, 6), (21, 7), (21, 8), (21, 9), (54, 2), (59, 0)] true s7 := by rw [es7]; exact hA6.new (by decide +kernel)
  refine K_dup (kdA dt_MX7_init 16 rfl) rfl ?_
  refine K_bipush (kdA dt_MX7_init 17 rfl) (by decide) ?_
  refine K_nI (b' := (1, 6)) (b2 := (0, 0)) (as := [(0, 6)]) (r := 59) (st := [(2, 59), (2, 54)]) (n1 := 61) (kdA dt_MX7_init 18 rfl) ⟨by decide, by decide⟩ cl_MX8_init lk7_11 rfl rfl (Nat.le_of_ble_eq_true rfl) (by decide) rfl (Ni.mono (I8_59 (by omega) hA7) (fun s8 hA8 => ?_))
  refine pf7_23 rfl rfl (kdA dt_MX7_init 19 rfl) ⟨by decide, by decide, by decide +kernel⟩ (fun s9 es9 => ?_)
  have hA9 : Ag 61 [(0, 17), (0, 18), (0, 19), (7, 0), (7, 1), (7, 2), (7, 3), (17, 0), (17, 1), (17, 2), (17, 3), (17, 4), (17, 5), (18, 0), (18, 1), (18, 2), (18, 3), (18, 4), (21, 0), (21, 1), (21, 2), (21, 3), (21, 4), (21, 5), (21, 6), (21, 7), (21, 8), (21, 9)] true s9 := by rw [es9]; exact hA8.put (by decide +kernel)
  exact K_return (kdA dt_MX7_init 20 rfl) rfl ⟨rfl, rfl, hA9⟩
theorem I1_61 {d : Nat} {σ : kS} (hd : 2 ≤ d) (hA : Ag 62 [(0, 18), (0, 19), (7, 0), (7, 1), (7, 2), (7, 3), (17, 0), (17, 1), (17, 2), (17, 3), (17, 4), (17, 5), (18, 0), (18, 1), (18, 2), (18, 3), (18, 4), (21, 0), (21, 1), (21, 2), (21, 3), (21, 4), (21, 5), (21, 6), (21, 7), (21, 8), (21, 9), (61, 0)] true σ) : Ni d MX1_init (1, 120) [(2, 61)] 62 σ 63 (fun s => Ag 63 [(0, 18), (0, 19), (7, 0), (7, 1), (7, 2), (7, 3), (17, 0), (17, 1), (17, 2), (17, 3), (17, 4), (17, 5), (18, 0), (18, 1), (18, 2), (18, 3), (18, 4), (21, 0), (21, 1), (21, 2), (21, 3), (21, 4), (21, 5), (21, 6), (21, 7), (21, 8), (21, 9)] true s) := by
  obtain ⟨d, rfl⟩ : ∃ e, d = e + 1 := ⟨d - 1, by omega⟩
  refine Tri_of (by decide +kernel) (Nat.le_of_ble_eq_true rfl) (fun _ _ => ?_)
  show K (d + 1) MX1_init _ (1, 120) 0 [(0, (2, 61))] [] 62 σ
  refine K_aload_n 0 (kdA dt_MX1_init 0 rfl) rfl rfl ?_
  refine K_oinit (kdA dt_MX1_init 1 rfl) (tb2 18 rfl rfl) (by decide) (Nat.le_of_ble_eq_true rfl) ?_
  refine K_aload_n 0 (kdA dt_MX1_init 2 rfl) rfl rfl ?_
  refine K_bipush (kdA dt_MX1_init 3 rfl) (by decide) ?_
  refine K_newi (b2 := (0, 0)) (kdA dt_MX1_init 4 rfl) (by decide +kernel) (by decide) (by decide +kernel) ⟨by decide, by decide⟩ rfl (fun s1 es1 => ?_)
  have hA1 : Ag 63 [(0, 18), (0, 19), (7, 0), (7, 1), (7, 2), (7, 3), (17, 0), (17, 1), (17, 2), (17, 3), (17, 4), (17, 5), (18, 0), (18, 1), (18, 2), (18, 3), (18, 4), (21, 0), (21, 1), (21, 2), (21, 3), (21, 4), (21, 5), (21, 6), (21, 7), (21, 8), (21, 9), (61, 0)] true s1 := by rw [es1]; exact hA.new (by decide +kernel)
  refine pf1_9 rfl rfl (kdA dt_MX1_init 5 rfl) ⟨by decide, by decide, by decide +kernel⟩ (fun s2 es2 => ?_)
  have hA2 : Ag 63 [(0, 18), (0, 19), (7, 0), (7, 1), (7, 2), (7, 3), (17, 0), (17, 1), (17, 2), (17, 3), (17, 4), (17, 5), (18, 0), (18, 1), (18, 2), (18, 3), (18, 4), (21, 0), (21, 1), (21, 2), (21, 3), (21, 4), (21, 5), (21, 6), (21, 7), (21, 8), (21, 9)] true s2 := by rw [es2]; exact hA1.put (by decide +kernel)
  exact K_return (kdA dt_MX1_init 6 rfl) rfl ⟨rfl, rfl, hA2⟩
theorem I6_63 {d : Nat} {σ : kS} (hd : 2 ≤ d) (hA : Ag 64 [(0, 19), (7, 0), (7, 1), (7, 2), (7, 3), (17, 0), (17, 1), (17, 2), (17, 3), (17, 4), (17, 5), (18, 0), (18, 1), (18, 2), (18, 3), (18, 4), (21, 0), (21, 1), (21, 2), (21, 3), (21, 4), (21, 5), (21, 6), (21, 7), (21, 8), (21, 9), (63, 0)] true σ) : Ni d MX6_init (9, 72) [(2, 63)] 64 σ 73 (fun s => Ag 73 [(0, 19), (7, 0), (7, 1), (7, 2), (7, 3), (17, 0), (17, 1), (17, 2), (17, 3), (17, 4), (17, 5), (18, 0), (18, 1), (18, 2), (18, 3), (18, 4), (21, 0), (21, 1), (21, 2), (21, 3), (21, 4), (21, 5), (21, 6), (21, 7), (21, 8), (21, 9)] true s) := by
  obtain ⟨d, rfl⟩ : ∃ e, d = e + 1 := ⟨d - 1, by omega⟩
  refine Tri_of (by decide +kernel) (Nat.le_of_ble_eq_true rfl) (fun _ _ => ?_)
  show K (d + 1) MX6_init _ (9, 72) 0 [(0, (2, 63))] [] 64 σ
  refine K_aload_n 0 (kdA dt_MX6_init 0 rfl) rfl rfl ?_
  refine K_oinit (kdA dt_MX6_init 1 rfl) (tb2 44 rfl rfl) (by decide) (Nat.le_of_ble_eq_true rfl) ?_
  refine K_aload_n 0 (kdA dt_MX6_init 2 rfl) rfl rfl ?_
  refine K_bipush (kdA dt_MX6_init 3 rfl) (by decide) ?_
  refine K_bipush (kdA dt_MX6_init 4 rfl) (by decide) ?_
  refine K_mnew2 (b2 := (0, 0)) (n1 := 73) (kdA dt_MX6_init 5 rfl) (tb2 45 rfl rfl) (by decide +kernel) (by decide) (by decide) (by decide +kernel) (by decide +kernel) ⟨by decide, by decide⟩ ⟨by decide, by decide⟩ rfl rfl (fun s1 es1 => ?_)
  have hA1 : Ag 73 [(0, 19), (7, 0), (7, 1), (7, 2), (7, 3), (17, 0), (17, 1), (17, 2), (17, 3), (17, 4), (17, 5), (18, 0), (18, 1), (18, 2), (18, 3), (18, 4), (21, 0), (21, 1), (21, 2), (21, 3), (21, 4), (21, 5), (21, 6), (21, 7), (21, 8), (21, 9), (63, 0)] true s1 := by rw [es1]; exact hA.mini (N := 8) (by decide +kernel) (by decide +kernel) (by decide +kernel)
  refine pf6_11 rfl rfl (kdA dt_MX6_init 6 rfl) ⟨by decide, by decide, by decide +kernel⟩ (fun s2 es2 => ?_)
  have hA2 : Ag 73 [(0, 19), (7, 0), (7, 1), (7, 2), (7, 3), (17, 0), (17, 1), (17, 2), (17, 3), (17, 4), (17, 5), (18, 0), (18, 1), (18, 2), (18, 3), (18, 4), (21, 0), (21, 1), (21, 2), (21, 3), (21, 4), (21, 5), (21, 6), (21, 7), (21, 8), (21, 9)] true s2 := by rw [es2]; exact hA1.put (by decide +kernel)
  exact K_return (kdA dt_MX6_init 7 rfl) rfl ⟨rfl, rfl, hA2⟩
theorem I5_73 {d : Nat} {σ : kS} (hd : 2 ≤ d) (hA : Ag 74 [(7, 0), (7, 1), (7, 2), (7, 3), (17, 0), (17, 1), (17, 2), (17, 3), (17, 4), (17, 5), (18, 0), (18, 1), (18, 2), (18, 3), (18, 4), (21, 0), (21, 1), (21, 2), (21, 3), (21, 4), (21, 5), (21, 6), (21, 7), (21, 8), (21, 9), (73, 0)] true σ) : Ni d MX5_init (5, 484) [(2, 73)] 74 σ 79 (fun s => Ag 79 [(7, 0), (7, 1), (7, 2), (7, 3), (17, 0), (17, 1), (17, 2), (17, 3), (17, 4), (17, 5), (18, 0), (18, 1), (18, 2), (18, 3), (18, 4), (21, 0), (21, 1), (21, 2), (21, 3), (21, 4), (21, 5), (21, 6), (21, 7), (21, 8), (21, 9)] true s) := by
  obtain ⟨d, rfl⟩ : ∃ e, d = e + 1 := ⟨d - 1, by omega⟩
  refine Tri_of (by decide +kernel) (Nat.le_of_ble_eq_true rfl) (fun _ _ => ?_)
  show K (d + 1) MX5_init _ (5, 484) 0 [(0, (2, 73))] [] 74 σ
  refine K_aload_n 0 (kdA dt_MX5_init 0 rfl) rfl rfl ?_
  refine K_oinit (kdA dt_MX5_init 1 rfl) (tb1 39 rfl rfl) (by decide) (Nat.le_of_ble_eq_true rfl) ?_
  refine K_aload_n 0 (kdA dt_MX5_init 2 rfl) rfl rfl ?_
  refine K_iconst (kdA dt_MX5_init 3 rfl) (by decide) ?_
  refine K_bipush (kdA dt_MX5_init 4 rfl) (by decide) ?_
  refine K_mnew2 (b2 := (0, 0)) (n1 := 79) (kdA dt_MX5_init 5 rfl) (tb1 40 rfl rfl) (by decide +kernel) (by decide) (by decide) (by decide +kernel) (by decide +kernel) ⟨by decide, by decide⟩ ⟨by decide, by decide⟩ rfl rfl (fun s1 es1 => ?_)
  have hA1 : Ag 79 [(7, 0), (7, 1), (7, 2), (7, 3), (17, 0), (17, 1), (17, 2), (17, 3), (17, 4), (17, 5), (18, 0), (18, 1), (18, 2), (18, 3), (18, 4), (21, 0), (21, 1), (21, 2), (21, 3), (21, 4), (21, 5), (21, 6), (21, 7), (21, 8), (21, 9), (73, 0)] true s1 := by rw [es1]; exact hA.mini (N := 4) (by decide +kernel) (by decide +kernel) (by decide +kernel)
  refine pf5_11 rfl rfl (kdA dt_MX5_init 6 rfl) ⟨by decide, by decide, by decide +kernel⟩ (fun s2 es2 => ?_)
  have hA2 : Ag 79 [(7, 0), (7, 1), (7, 2), (7, 3), (17, 0), (17, 1), (17, 2), (17, 3), (17, 4), (17, 5), (18, 0), (18, 1), (18, 2), (18, 3), (18, 4), (21, 0), (21, 1), (21, 2), (21, 3), (21, 4), (21, 5), (21, 6), (21, 7), (21, 8), (21, 9)] true s2 := by rw [es2]; exact hA1.put (by decide +kernel)
  exact K_return (kdA dt_MX5_init 7 rfl) rfl ⟨rfl, rfl, hA2⟩
theorem I5_79 {d : Nat} {σ : kS} (hd : 2 ≤ d) (hA : Ag 80 [(7, 1), (7, 2), (7, 3), (17, 0), (17, 1), (17, 2), (17, 3), (17, 4), (17, 5), (18, 0), (18, 1), (18, 2), (18, 3), (18, 4), (21, 0), (21, 1), (21, 2), (21, 3), (21, 4), (21, 5), (21, 6), (21, 7), (21, 8), (21, 9), (79, 0)] true σ) : Ni d MX5_init (5, 484) [(2, 79)] 80 σ 85 (fun s => Ag 85 [(7, 1), (7, 2), (7, 3), (17, 0), (17, 1), (17, 2), (17, 3), (17, 4), (17, 5), (18, 0), (18, 1), (18, 2), (18, 3), (18, 4), (21, 0), (21, 1), (21, 2), (21, 3), (21, 4), (21, 5), (21, 6), (21, 7), (21, 8), (21, 9)] true s) := by
  obtain ⟨d, rfl⟩ : ∃ e, d = e + 1 := ⟨d - 1, by omega⟩
  refine Tri_of (by decide +kernel) (Nat.le_of_ble_eq_true rfl) (fun _ _ => ?_)
  show K (d + 1) MX5_init _ (5, 484) 0 [(0, (2, 79))] [] 80 σ
  refine K_aload_n 0 (kdA dt_MX5_init 0 rfl) rfl rfl ?_
  refine K_oinit (kdA dt_MX5_init 1 rfl) (tb1 39 rfl rfl) (by decide) (Nat.le_of_ble_eq_true rfl) ?_
  refine K_aload_n 0 (kdA dt_MX5_init 2 rfl) rfl rfl ?_
  refine K_iconst (kdA dt_MX5_init 3 rfl) (by decide) ?_
  refine K_bipush (kdA dt_MX5_init 4 rfl) (by decide) ?_
  refine K_mnew2 (b2 := (0, 0)) (n1 := 85) (kdA dt_MX5_init 5 rfl) (tb1 40 rfl rfl) (by decide +kernel) (by decide) (by decide) (by decide +kernel) (by decide +kernel) ⟨by decide, by decide⟩ ⟨by decide, by decide⟩ rfl rfl (fun s1 es1 => ?_)
  have hA1 : Ag 85 [(7, 1), (7, 2), (7, 3), (17, 0), (17, 1), (17, 2), (17, 3), (17, 4), (17, 5), (18, 0), (18, 1), (18, 2), (18, 3), (18, 4), (21, 0), (21, 1), (21, 2), (21, 3), (21, 4), (21, 5), (21, 6), (21, 7), (21, 8), (21, 9), (79, 0)] true s1 := by rw [es1]; exact hA.mini (N := 4) (by decide +kernel) (by decide +kernel) (by decide +kernel)
  refine pf5_11 rfl rfl (kdA dt_MX5_init 6 rfl) ⟨by decide, by decide, by decide +kernel⟩ (fun s2 es2 => ?_)
  have hA2 : Ag 85 [(7, 1), (7, 2), (7, 3), (17, 0), (17, 1), (17, 2), (17, 3), (17, 4), (17, 5), (18, 0), (18, 1), (18, 2), (18, 3), (18, 4), (21, 0), (21, 1), (21, 2), (21, 3), (21, 4), (21, 5), (21, 6), (21, 7), (21, 8), (21, 9)] true s2 := by rw [es2]; exact hA1.put (by decide +kernel)
  exact K_return (kdA dt_MX5_init 7 rfl) rfl ⟨rfl, rfl, hA2⟩
theorem I5_85 {d : Nat} {σ : kS} (hd : 2 ≤ d) (hA : Ag 86 [(7, 2), (7, 3), (17, 0), (17, 1), (17, 2), (17, 3), (17, 4), (17, 5), (18, 0), (18, 1), (18, 2), (18, 3), (18, 4), (21, 0), (21, 1), (21, 2), (21, 3), (21, 4), (21, 5), (21, 6), (21, 7), (21, 8), (21, 9), (85, 0)] true σ) : Ni d MX5_init (5, 484) [(2, 85)] 86 σ 91 (fun s => Ag 91 [(7, 2), (7, 3), (17, 0), (17, 1), (17, 2), (17, 3), (17, 4), (17, 5), (18, 0), (18, 1), (18, 2), (18, 3), (18, 4), (21, 0), (21, 1), (21, 2), (21, 3), (21, 4), (21, 5), (21, 6), (21, 7), (21, 8), (21, 9)] true s) := by
  obtain ⟨d, rfl⟩ : ∃ e, d = e + 1 := ⟨d - 1, by omega⟩
  refine Tri_of (by decide +kernel) (Nat.le_of_ble_eq_true rfl) (fun _ _ => ?_)
  show K (d + 1) MX5_init _ (5, 484) 0 [(0, (2, 85))] [] 86 σ
  refine K_aload_n 0 (kdA dt_MX5_init 0 rfl) rfl rfl ?_
  refine K_oinit (kdA dt_MX5_init 1 rfl) (tb1 39 rfl rfl) (by decide) (Nat.le_of_ble_eq_true rfl) ?_
  refine K_aload_n 0 (kdA dt_MX5_init 2 rfl) rfl rfl ?_
  refine K_iconst (kdA dt_MX5_init 3 rfl) (by decide) ?_
  refine K_bipush (kdA dt_MX5_init 4 rfl) (by decide) ?_
  refine K_mnew2 (b2 := (0, 0)) (n1 := 91) (kdA dt_MX5_init 5 rfl) (tb1 40 rfl rfl) (by decide +kernel) (by decide) (by decide) (by decide +kernel) (by decide +kernel) ⟨by decide, by decide⟩ ⟨by decide, by decide⟩ rfl rfl (fun s1 es1 => ?_)
  have hA1 : Ag 91 [(7, 2), (7, 3), (17, 0), (17, 1), (17, 2), (17, 3), (17, 4), (17, 5), (18, 0), (18, 1), (18, 2), (18, 3), (18, 4), (21, 0), (21, 1), (21, 2), (21, 3), (21, 4), (21, 5), (21, 6), (21, 7), (21, 8), (21, 9), (85, 0)] true s1 := by rw [es1]; exact hA.mini (N := 4) (by decide +kernel) (by decide +kernel) (by decide +kernel)
  refine pf5_11 rfl rfl (kdA dt_MX5_init 6 rfl) ⟨by decide, by decide, by decide +kernel⟩ (fun s2 es2 => ?_)
  have hA2 : Ag 91 [(7, 2), (7, 3), (17, 0), (17, 1), (17, 2), (17, 3), (17, 4), (17, 5), (18, 0), (18, 1), (18, 2), (18, 3), (18, 4), (21, 0), (21, 1), (21, 2), (21, 3), (21, 4), (21, 5), (21, 6), (21, 7), (21, 8), (21, 9)] true s2 := by rw [es2]; exact hA1.put (by decide +kernel)
  exact K_return (kdA dt_MX5_init 7 rfl) rfl ⟨rfl, rfl, hA2⟩
theorem I5_91 {d : Nat} {σ : kS} (hd : 2 ≤ d) (hA : Ag 92 [(7, 3), (17, 0), (17, 1), (17, 2), (17, 3), (17, 4), (17, 5), (18, 0), (18, 1), (18, 2), (18, 3), (18, 4), (21, 0), (21, 1), (21, 2), (21, 3), (21, 4), (21, 5), (21, 6), (21, 7), (21, 8), (21, 9), (91, 0)] true σ) : Ni d MX5_init (5, 484) [(2, 91)] 92 σ 97 (fun s => Ag 97 [(7, 3), (17, 0), (17, 1), (17, 2), (17, 3), (17, 4), (17, 5), (18, 0), (18, 1), (18, 2), (18, 3), (18, 4), (21, 0), (21, 1), (21, 2), (21, 3), (21, 4), (21, 5), (21, 6), (21, 7), (21, 8), (21, 9)] true s) := by
  obtain ⟨d, rfl⟩ : ∃ e, d = e + 1 := ⟨d - 1, by omega⟩
  refine Tri_of (by decide +kernel) (Nat.le_of_ble_eq_true rfl) (fun _ _ => ?_)
  show K (d + 1) MX5_init _ (5, 484) 0 [(0, (2, 91))] [] 92 σ
  refine K_aload_n 0 (kdA dt_MX5_init 0 rfl) rfl rfl ?_
  refine K_oinit (kdA dt_MX5_init 1 rfl) (tb1 39 rfl rfl) (by decide) (Nat.le_of_ble_eq_true rfl) ?_
  refine K_aload_n 0 (kdA dt_MX5_init 2 rfl) rfl rfl ?_
  refine K_iconst (kdA dt_MX5_init 3 rfl) (by decide) ?_
  refine K_bipush (kdA dt_MX5_init 4 rfl) (by decide) ?_
  refine K_mnew2 (b2 := (0, 0)) (n1 := 97) (kdA dt_MX5_init 5 rfl) (tb1 40 rfl rfl) (by decide +kernel) (by decide) (by decide) (by decide +kernel) (by decide +kernel) ⟨by decide, by decide⟩ ⟨by decide, by decide⟩ rfl rfl (fun s1 es1 => ?_)
  have hA1 : Ag 97 [(7, 3), (17, 0), (17, 1), (17, 2), (17, 3), (17, 4), (17, 5), (18, 0), (18, 1), (18, 2), (18, 3), (18, 4), (21, 0), (21, 1), (21, 2), (21, 3), (21, 4), (21, 5), (21, 6), (21, 7), (21, 8), (21, 9), (91, 0)] true s1 := by rw [es1]; exact hA.mini (N := 4) (by decide +kernel) (by decide +kernel) (by decide +kernel)
  refine pf5_11 rfl rfl (kdA dt_MX5_init 6 rfl) ⟨by decide, by decide, by decide +kernel⟩ (fun s2 es2 => ?_)
  have hA2 : Ag 97 [(7, 3), (17, 0), (17, 1), (17, 2), (17, 3), (17, 4), (17, 5), (18, 0), (18, 1), (18, 2), (18, 3), (18, 4), (21, 0), (21, 1), (21, 2), (21, 3), (21, 4), (21, 5), (21, 6), (21, 7), (21, 8), (21, 9)] true s2 := by rw [es2]; exact hA1.put (by decide +kernel)
  exact K_return (kdA dt_MX5_init 7 rfl) rfl ⟨rfl, rfl, hA2⟩
theorem I3_97 {d : Nat} {σ : kS} (hd : 2 ≤ d) (hA : Ag 98 [(17, 0), (17, 1), (17, 2), (17, 3), (17, 4), (17, 5), (18, 0), (18, 1), (18, 2), (18, 3), (18, 4), (21, 0), (21, 1), (21, 2), (21, 3), (21, 4), (21, 5), (21, 6), (21, 7), (21, 8), (21, 9), (97, 0), (97, 1), (97, 4), (97, 3)] true σ) : Ni d MX3_init (3, 246) [(2, 97)] 98 σ 101 (fun s => Ag 101 [(17, 0), (17, 1), (17, 2), (17, 3), (17, 4), (17, 5), (18, 0), (18, 1), (18, 2), (18, 3), (18, 4), (21, 0), (21, 1), (21, 2), (21, 3), (21, 4), (21, 5), (21, 6), (21, 7), (21, 8), (21, 9)] true s) := by
  obtain ⟨d, rfl⟩ : ∃ e, d = e + 1 := ⟨d - 1, by omega⟩
  refine Tri_of (by decide +kernel) (Nat.le_of_ble_eq_true rfl) (fun _ _ => ?_)
  show K (d + 1) MX3_init _ (3, 246) 0 [(0, (2, 97))] [] 98 σ
  refine K_aload_n 0 (kdA dt_MX3_init 0 rfl) rfl rfl ?_
  refine K_oinit (kdA dt_MX3_init 1 rfl) (tb1 83 rfl rfl) (by decide) (Nat.le_of_ble_eq_true rfl) ?_
  refine K_aload_n 0 (kdA dt_MX3_init 2 rfl) rfl rfl ?_
  refine K_bipush (kdA dt_MX3_init 3 rfl) (by decide) ?_
  refine K_newi (b2 := (2, 126)) (kdA dt_MX3_init 4 rfl) (by decide +kernel) (by decide) (by decide +kernel) ⟨by decide, by decide⟩ rfl (fun s1 es1 => ?_)
  have hA1 : Ag 99 [(17, 0), (17, 1), (17, 2), (17, 3), (17, 4), (17, 5), (18, 0), (18, 1), (18, 2), (18, 3), (18, 4), (21, 0), (21, 1), (21, 2), (21, 3), (21, 4), (21, 5), (21, 6), (21, 7), (21, 8), (21, 9), (97, 0), (97, 1), (97, 4), (97, 3)] true s1 := by rw [es1]; exact hA.new (by decide +kernel)
  refine pf3_9 rfl rfl (kdA dt_MX3_init 5 rfl) ⟨by decide, by decide, by decide +kernel⟩ (fun s2 es2 => ?_)
  have hA2 : Ag 99 [(17, 0), (17, 1), (17, 2), (17, 3), (17, 4), (17, 5), (18, 0), (18, 1), (18, 2), (18, 3), (18, 4), (21, 0), (21, 1), (21, 2), (21, 3), (21, 4), (21, 5), (21, 6), (21, 7), (21, 8), (21, 9), (97, 1), (97, 4), (97, 3)] true s2 := by rw [es2]; exact hA1.put (by decide +kernel)
  refine K_aload_n 0 (kdA dt_MX3_init 6 rfl) rfl rfl ?_
  refine K_bipush (kdA dt_MX3_init 7 rfl) (by decide) ?_
  refine K_newi (b2 := (1, 6)) (kdA dt_MX3_init 8 rfl) (by decide +kernel) (by decide) (by decide +kernel) ⟨by decide, by decide⟩ rfl (fun s3 es3 => ?_)
  have hA3 : Ag 100 [(17, 0), (17, 1), (17, 2), (17, 3), (17, 4), (17, 5), (18, 0), (18, 1), (18, 2), (18, 3), (18, 4), (21, 0), (21, 1), (21, 2), (21, 3), (21, 4), (21, 5), (21, 6), (21, 7), (21, 8), (21, 9), (97, 1), (97, 4), (97, 3)] true s3 := by rw [es3]; exact hA2.new (by decide +kernel)
  refine pf3_15 rfl rfl (kdA dt_MX3_init 9 rfl) ⟨by decide, by decide, by decide +kernel⟩ (fun s4 es4 => ?_)
  have hA4 : Ag 100 [(17, 0), (17, 1), (17, 2), (17, 3), (17, 4), (17, 5), (18, 0), (18, 1), (18, 2), (18, 3), (18, 4), (21, 0), (21, 1), (21, 2), (21, 3), (21, 4), (21, 5), (21, 6), (21, 7), (21, 8), (21, 9), (97, 4), (97, 3)] true s4 := by rw [es4]; exact hA3.put (by decide +kernel)
  refine K_aload_n 0 (kdA dt_MX3_init 10 rfl) rfl rfl ?_
  refine K_iconst (kdA dt_MX3_init 11 rfl) (by decide) ?_
  refine pf3_18 rfl (kdA dt_MX3_init 12 rfl) ⟨by decide, by decide, by decide +kernel⟩ (fun s5 es5 => ?_)
  have hA5 : Ag 100 [(17, 0), (17, 1), (17, 2), (17, 3), (17, 4), (17, 5), (18, 0), (18, 1), (18, 2), (18, 3), (18, 4), (21, 0), (21, 1), (21, 2), (21, 3), (21, 4), (21, 5), (21, 6), (21, 7), (21, 8), (21, 9), (97, 4)] true s5 := by rw [es5]; exact hA4.put (by decide +kernel)
  refine K_aload_n 0 (kdA dt_MX3_init 13 rfl) rfl rfl ?_
  refine K_bipush (kdA dt_MX3_init 14 rfl) (by decide) ?_
  refine K_newi (b2 := (0, 0)) (kdA dt_MX3_init 15 rfl) (by decide +kernel) (by decide) (by decide +kernel) ⟨by decide, by decide⟩ rfl (fun s6 es6 => ?_)
  have hA6 : Ag 101 [(17, 0), (17, 1), (17, 2), (17, 3), (17, 4), (17, 5), (18, 0), (18, 1), (18, 2), (18, 3), (18, 4), (21, 0), (21, 1), (21, 2), (21, 3), (21, 4), (21, 5), (21, 6), (21, 7), (21, 8), (21, 9), (97, 4)] true s6 := by rw [es6]; exact hA5.new (by decide +kernel)
  refine pf3_22 rfl rfl (kdA dt_MX3_init 16 rfl) ⟨by decide, by decide, by decide +kernel⟩ (fun s7 es7 => ?_)
  have hA7 : Ag 101 [(17, 0), (17, 1), (17, 2), (17, 3), (17, 4), (17, 5), (18, 0), (18, 1), (18, 2), (18, 3), (18, 4), (21, 0), (21, 1), (21, 2), (21, 3), (21, 4), (21, 5), (21, 6), (21, 7), (21, 8), (21, 9)] true s7 := by rw [es7]; exact hA6.put (by decide +kernel)
  exact K_return (kdA dt_MX3_init 17 rfl) rfl ⟨rfl, rfl, hA7⟩
theorem I3_101 {d : Nat} {σ : kS} (hd : 2 ≤ d) (hA : Ag 102 [(17, 1), (17, 2), (17, 3), (17, 4), (17, 5), (18, 0), (18, 1), (18, 2), (18, 3), (18, 4), (21, 0), (21, 1), (21, 2), (21, 3), (21, 4), (21, 5), (21, 6), (21, 7), (21, 8), (21, 9), (101, 0), (101, 1), (101, 4), (101, 3)] true σ) : Ni d MX3_init (3, 246) [(2, 101)] 102 σ 105 (fun s => Ag 105 [(17, 1), (17, 2), (17, 3), (17, 4), (17, 5), (18, 0), (18, 1), (18, 2), (18, 3), (18, 4), (21, 0), (21, 1), (21, 2), (21, 3), (21, 4), (21, 5), (21, 6), (21, 7), (21, 8), (21, 9)] true s) := by
  obtain ⟨d, rfl⟩ : ∃ e, d = e + 1 := ⟨d - 1, by omega⟩
  refine Tri_of (by decide +kernel) (Nat.le_of_ble_eq_true rfl) (fun _ _ => ?_)
  show K (d + 1) MX3_init _ (3, 246) 0 [(0, (2, 101))] [] 102 σ
  refine K_aload_n 0 (kdA dt_MX3_init 0 rfl) rfl rfl ?_
  refine K_oinit (kdA dt_MX3_init 1 rfl) (tb1 83 rfl rfl) (by decide) (Nat.le_of_ble_eq_true rfl) ?_
  refine K_aload_n 0 (kdA dt_MX3_init 2 rfl) rfl rfl ?_
  refine K_bipush (kdA dt_MX3_init 3 rfl) (by decide) ?_
  refine K_newi (b2 := (2, 126)) (kdA dt_MX3_init 4 rfl) (by decide +kernel) (by decide) (by decide +kernel) ⟨by decide, by decide⟩ rfl (fun s1 es1 => ?_)
  have hA1 : Ag 103 [(17, 1), (17, 2), (17, 3), (17, 4), (17, 5), (18, 0), (18, 1), (18, 2), (18, 3), (18, 4), (21, 0), (21, 1), (21, 2), (21, 3), (21, 4), (21, 5), (21, 6), (21, 7), (21, 8), (21, 9), (101, 0), (101, 1), (101, 4), (101, 3)] true s1 := by rw [es1]; exact hA.new (by decide +kernel)
  refine pf3_9 rfl rfl (kdA dt_MX3_init 5 rfl) ⟨by decide, by decide, by decide +kernel⟩ (fun s2 es2 => ?_)
  have hA2 : Ag 103 [(17, 1), (17, 2), (17, 3), (17, 4), (17, 5), (18, 0), (18, 1), (18, 2), (18, 3), (18, 4), (21, 0), (21, 1), (21, 2), (21, 3), (21, 4), (21, 5), (21, 6), (21, 7), (21, 8), (21, 9), (101, 1), (101, 4), (101, 3)] true s2 := by rw [es2]; exact hA1.put (by decide +kernel)
  refine K_aload_n 0 (kdA dt_MX3_init 6 rfl) rfl rfl ?_
  refine K_bipush (kdA dt_MX3_init 7 rfl) (by decide) ?_
  refine K_newi (b2 := (1, 6)) (kdA dt_MX3_init 8 rfl) (by decide +kernel) (by decide) (by decide +kernel) ⟨by decide, by decide⟩ rfl (fun s3 es3 => ?_)
  have hA3 : Ag 104 [(17, 1), (17, 2), (17, 3), (17, 4), (17, 5), (18, 0), (18, 1), (18, 2), (18, 3), (18, 4), (21, 0), (21, 1), (21, 2), (21, 3), (21, 4), (21, 5), (21, 6), (21, 7), (21, 8), (21, 9), (101, 1), (101, 4), (101, 3)] true s3 := by rw [es3]; exact hA2.new (by decide +kernel)
  refine pf3_15 rfl rfl (kdA dt_MX3_init 9 rfl) ⟨by decide, by decide, by decide +kernel⟩ (fun s4 es4 => ?_)
  have hA4 : Ag 104 [(17, 1), (17, 2), (17, 3), (17, 4), (17, 5), (18, 0), (18, 1), (18, 2), (18, 3), (18, 4), (21, 0), (21, 1), (21, 2), (21, 3), (21, 4), (21, 5), (21, 6), (21, 7), (21, 8), (21, 9), (101, 4), (101, 3)] true s4 := by rw [es4]; exact hA3.put (by decide +kernel)
  refine K_aload_n 0 (kdA dt_MX3_init 10 rfl) rfl rfl ?_
  refine K_iconst (kdA dt_MX3_init 11 rfl) (by decide) ?_
  refine pf3_18 rfl (kdA dt_MX3_init 12 rfl) ⟨by decide, by decide, by decide +kernel⟩ (fun s5 es5 => ?_)
  have hA5 : Ag 104 [(17, 1), (17, 2), (17, 3), (17, 4), (17, 5), (18, 0), (18, 1), (18, 2), (18, 3), (18, 4), (21, 0), (21, 1), (21, 2), (21, 3), (21, 4), (21, 5), (21, 6), (21, 7), (21, 8), (21, 9), (101, 4)] true s5 := by rw [es5]; exact hA4.put (by decide +kernel)
  refine K_aload_n 0 (kdA dt_MX3_init 13 rfl) rfl rfl ?_
  refine K_bipush (kdA dt_MX3_init 14 rfl) (by decide) ?_
  refine K_newi (b2 := (0, 0)) (kdA dt_MX3_init 15 rfl) (by decide +kernel) (by decide) (by decide +kernel) ⟨by decide, by decide⟩ rfl (fun s6 es6 => ?_)
  have hA6 : Ag 105 [(17, 1), (17, 2), (17, 3), (17, 4), (17, 5), (18, 0), (18, 1), (18, 2), (18, 3), (18, 4), (21, 0), (21, 1), (21, 2), (21, 3), (21, 4), (21, 5), (21, 6), (21, 7), (21, 8), (21, 9), (101, 4)] true s6 := by rw [es6]; exact hA5.new (by decide +kernel)
  refine pf3_22 rfl rfl (kdA dt_MX3_init 16 rfl) ⟨by decide, by decide, by decide +kernel⟩ (fun s7 es7 => ?_)
  have hA7 : Ag 105 [(17, 1), (17, 2), (17, 3), (17, 4), (17, 5), (18, 0), (18, 1), (18, 2), (18, 3), (18, 4), (21, 0), (21, 1), (21, 2), (21, 3), (21, 4), (21, 5), (21, 6), (21, 7), (21, 8), (21, 9)] true s7 := by rw [es7]; exact hA6.put (by decide +kernel)
  exact K_return (kdA dt_MX3_init 17 rfl) rfl ⟨rfl, rfl, hA7⟩
theorem I3_105 {d : Nat} {σ : kS} (hd : 2 ≤ d) (hA : Ag 106 [(17, 2), (17, 3), (17, 4), (17, 5), (18, 0), (18, 1), (18, 2), (18, 3), (18, 4), (21, 0), (21, 1), (21, 2), (21, 3), (21, 4), (21, 5), (21, 6), (21, 7), (21, 8), (21, 9), (105, 0), (105, 1), (105, 4), (105, 3)] true σ) : Ni d MX3_init (3, 246) [(2, 105)] 106 σ 109 (fun s => Ag 109 [(17, 2), (17, 3), (17, 4), (17, 5), (18, 0), (18, 1), (18, 2), (18, 3), (18, 4), (21, 0), (21, 1), (21, 2), (21, 3), (21, 4), (21, 5), (21, 6), (21, 7), (21, 8), (21, 9)] true s) := by
  obtain ⟨d, rfl⟩ : ∃ e, d = e + 1 := ⟨d - 1, by omega⟩
  refine Tri_of (by decide +kernel) (Nat.le_of_ble_eq_true rfl) (fun _ _ => ?_)
  show K (d + 1) MX3_init _ (3, 246) 0 [(0, (2, 105))] [] 106 σ
  refine K_aload_n 0 (kdA dt_MX3_init 0 rfl) rfl rfl ?_
  refine K_oinit (kdA dt_MX3_init 1 rfl) (tb1 83 rfl rfl) (by decide) (Nat.le_of_ble_eq_true rfl) ?_
  refine K_aload_n 0 (kdA dt_MX3_init 2 rfl) rfl rfl ?_
  refine K_bipush (kdA dt_MX3_init 3 rfl) (by decide) ?_
  refine K_newi (b2 := (2, 126)) (kdA dt_MX3_init 4 rfl) (by decide +kernel) (by decide) (by decide +kernel) ⟨by decide, by decide⟩ rfl (fun s1 es1 => ?_)
  have hA1 : Ag 107 [(17, 2), (17, 3), (17, 4), (17, 5), (18, 0), (18, 1), (18, 2), (18, 3), (18, 4), (21, 0), (21, 1), (21, 2), (21, 3), (21, 4), (21, 5), (21, 6), (21, 7), (21, 8), (21, 9), (105, 0), (105, 1), (105, 4), (105, 3)] true s1 := by rw [es1]; exact hA.new (by decide +kernel)
  refine pf3_9 rfl rfl (kdA dt_MX3_init 5 rfl) ⟨by decide, by decide, by decide +kernel⟩ (fun s2 es2 => ?_)
  have hA2 : Ag 107 [(17, 2), (17, 3), (17, 4), (17, 5), (18, 0), (18, 1), (18, 2), (18, 3), (18, 4), (21, 0), (21, 1), (21, 2), (21, 3), (21, 4), (21, 5), (21, 6), (21, 7), (21, 8), (21, 9), (105, 1), (105, 4), (105, 3)] true s2 := by rw [es2]; exact hA1.put (by decide +kernel)
  refine K_aload_n 0 (kdA dt_MX3_init 6 rfl) rfl rfl ?_
  refine K_bipush (kdA dt_MX3_init 7 rfl) (by decide) ?_
  refine K_newi (b2 := (1, 6)) (kdA dt_MX3_init 8 rfl) (by decide +kernel) (by decide) (by decide +kernel) ⟨by decide, by decide⟩ rfl (fun s3 es3 => ?_)
  have hA3 : Ag 108 [(17, 2), (17, 3), (17, 4), (17, 5), (18, 0), (18, 1), (18, 2), (18, 3), (18, 4), (21, 0), (21, 1), (21, 2), (21, 3), (21, 4), (21, 5), (21, 6), (21, 7), (21, 8), (21, 9), (105, 1), (105, 4), (105, 3)] true s3 := by rw [es3]; exact hA2.new (by decide +kernel)
  refine pf3_15 rfl rfl (kdA dt_MX3_init 9 rfl) ⟨by decide, by decide, by decide +kernel⟩ (fun s4 es4 => ?_)
  have hA4 : Ag 108 [(17, 2), (17, 3), (17, 4), (17, 5), (18, 0), (18, 1), (18, 2), (18, 3), (18, 4), (21, 0), (21, 1), (21, 2), (21, 3), (21, 4), (21, 5), (21, 6), (21, 7), (21, 8), (21, 9), (105, 4), (105, 3)] true s4 := by rw [es4]; exact hA3.put (by decide +kernel)
  refine K_aload_n 0 (kdA dt_MX3_init 10 rfl) rfl rfl ?_
  refine K_iconst (kdA dt_MX3_init 11 rfl) (by decide) ?_
  refine pf3_18 rfl (kdA dt_MX3_init 12 rfl) ⟨by decide, by decide, by decide +kernel⟩ (fun s5 es5 => ?_)
  have hA5 : Ag 108 [(17, 2), (17, 3), (17, 4), (17, 5), (18, 0), (18, 1), (18, 2), (18, 3), (18, 4), (21, 0), (21, 1), (21, 2), (21, 3), (21, 4), (21, 5), (21, 6), (21, 7), (21, 8), (21, 9), (105, 4)] true s5 := by rw [es5]; exact hA4.put (by decide +kernel)
  refine K_aload_n 0 (kdA dt_MX3_init 13 rfl) rfl rfl ?_
  refine K_bipush (kdA dt_MX3_init 14 rfl) (by decide) ?_
  refine K_newi (b2 := (0, 0)) (kdA dt_MX3_init 15 rfl) (by decide +kernel) (by decide) (by decide +kernel) ⟨by decide, by decide⟩ rfl (fun s6 es6 => ?_)
  have hA6 : Ag 109 [(17, 2), (17, 3), (17, 4), (17, 5), (18, 0), (18, 1), (18, 2), (18, 3), (18, 4), (21, 0), (21, 1), (21, 2), (21, 3), (21, 4), (21, 5), (21, 6), (21, 7), (21, 8), (21, 9), (105, 4)] true s6 := by rw [es6]; exact hA5.new (by decide +kernel)
  refine pf3_22 rfl rfl (kdA dt_MX3_init 16 rfl) ⟨by decide, by decide, by decide +kernel⟩ (fun s7 es7 => ?_)
  have hA7 : Ag 109 [(17, 2), (17, 3), (17, 4), (17, 5), (18, 0), (18, 1), (18, 2), (18, 3), (18, 4), (21, 0), (21, 1), (21, 2), (21, 3), (21, 4), (21, 5), (21, 6), (21, 7), (21, 8), (21, 9)] true s7 := by rw [es7]; exact hA6.put (by decide +kernel)
  exact K_return (kdA dt_MX3_init 17 rfl) rfl ⟨rfl, rfl, hA7⟩
theorem I3_109 {d : Nat} {σ : kS} (hd : 2 ≤ d) (hA : Ag 110 [(17, 3), (17, 4), (17, 5), (18, 0), (18, 1), (18, 2), (18, 3), (18, 4), (21, 0), (21, 1), (21, 2), (21, 3), (21, 4), (21, 5), (21, 6), (21, 7), (21, 8), (21, 9), (109, 0), (109, 1), (109, 4), (109, 3)] true σ) : Ni d MX3_init (3, 246) [(2, 109)] 110 σ 113 (fun s => Ag 113 [(17, 3), (17, 4), (17, 5), (18, 0), (18, 1), (18, 2), (18, 3), (18, 4), (21, 0), (21, 1), (21, 2), (21, 3), (21, 4), (21, 5), (21, 6), (21, 7), (21, 8), (21, 9)] true s) := by
  obtain ⟨d, rfl⟩ : ∃ e, d = e + 1 := ⟨d - 1, by omega⟩
  refine Tri_of (by decide +kernel) (Nat.le_of_ble_eq_true rfl) (fun _ _ => ?_)
  show K (d + 1) MX3_init _ (3, 246) 0 [(0, (2, 109))] [] 110 σ
  refine K_aload_n 0 (kdA dt_MX3_init 0 rfl) rfl rfl ?_
  refine K_oinit (kdA dt_MX3_init 1 rfl) (tb1 83 rfl rfl) (by decide) (Nat.le_of_ble_eq_true rfl) ?_
  refine K_aload_n 0 (kdA dt_MX3_init 2 rfl) rfl rfl ?_
  refine K_bipush (kdA dt_MX3_init 3 rfl) (by decide) ?_
  refine K_newi (b2 := (2, 126)) (kdA dt_MX3_init 4 rfl) (by decide +kernel) (by decide) (by decide +kernel) ⟨by decide, by decide⟩ rfl (fun s1 es1 => ?_)
  have hA1 : Ag 111 [(17, 3), (17, 4), (17, 5), (18, 0), (18, 1), (18, 2), (18, 3), (18, 4), (21, 0), (21, 1), (21, 2), (21, 3), (21, 4), (21, 5), (21, 6), (21, 7), (21, 8), (21, 9), (109, 0), (109, 1), (109, 4), (109, 3)] true s1 := by rw [es1]; exact hA.new (by decide +kernel)
  refine pf3_9 rfl rfl (kdA dt_MX3_init 5 rfl) ⟨by decide, by decide, by decide +kernel⟩ (fun s2 es2 => ?_)
  have hA2 : Ag 111 [(17, 3), (17, 4), (17, 5), (18, 0), (18, 1), (18, 2), (18, 3), (18, 4), (21, 0), (21, 1), (21, 2), (21, 3), (21, 4), (21, 5), (21, 6), (21, 7), (21, 8), (21, 9), (109, 1), (109, 4), (109, 3)] true s2 := by rw [es2]; exact hA1.put (by decide +kernel)
  refine K_aload_n 0 (kdA dt_MX3_init 6 rfl) rfl rfl ?_
  refine K_bipush (kdA dt_MX3_init 7 rfl) (by decide) ?_
  refine K_newi (b2 := (1, 6)) (kdA dt_MX3_init 8 rfl) (by decide +kernel) (by decide) (by decide +kernel) ⟨by decide, by decide⟩ rfl (fun s3 es3 => ?_)
  have hA3 : Ag 112 [(17, 3), (17, 4), (17, 5), (18, 0), (18, 1), (18, 2), (18, 3), (18, 4), (21, 0), (21, 1), (21, 2), (21, 3), (21, 4), (21, 5), (21, 6), (21, 7), (21, 8), (21, 9), (109, 1), (109, 4), (109, 3)] true s3 := by rw [es3]; exact hA2.new (by decide +kernel)
  refine pf3_15 rfl rfl (kdA dt_MX3_init 9 rfl) ⟨by decide, by decide, by decide +kernel⟩ (fun s4 es4 => ?_)
  have hA4 : Ag 112 [(17, 3), (17, 4), (17, 5), (18, 0), (18, 1), (18, 2), (18, 3), (18, 4), (21, 0), (21, 1), (21, 2), (21, 3), (21, 4), (21, 5), (21, 6), (21, 7), (21, 8), (21, 9), (109, 4), (109, 3)] true s4 := by rw [es4]; exact hA3.put (by decide +kernel)
  refine K_aload_n 0 (kdA dt_MX3_init 10 rfl) rfl rfl ?_
  refine K_iconst (kdA dt_MX3_init 11 rfl) (by decide) ?_
  refine pf3_18 rfl (kdA dt_MX3_init 12 rfl) ⟨by decide, by decide, by decide +kernel⟩ (fun s5 es5 => ?_)
  have hA5 : Ag 112 [(17, 3), (17, 4), (17, 5), (18, 0), (18, 1), (18, 2), (18, 3), (18, 4), (21, 0), (21, 1), (21, 2), (21, 3), (21, 4), (21, 5), (21, 6), (21, 7), (21, 8), (21, 9), (109, 4)] true s5 := by rw [es5]; exact hA4.put (by decide +kernel)
  refine K_aload_n 0 (kdA dt_MX3_init 13 rfl) rfl rfl ?_
  refine K_bipush (kdA dt_MX3_init 14 rfl) (by decide) ?_
  refine K_newi (b2 := (0, 0)) (kdA dt_MX3_init 15 rfl) (by decide +kernel) (by decide) (by decide +kernel) ⟨by decide, by decide⟩ rfl (fun s6 es6 => ?_)
  have hA6 : Ag 113 [(17, 3), (17, 4), (17, 5), (18, 0), (18, 1), (18, 2), (18, 3), (18, 4), (21, 0), (21, 1), (21, 2), (21, 3), (21, 4), (21, 5), (21, 6), (21, 7), (21, 8), (21, 9), (109, 4)] true s6 := by rw [es6]; exact hA5.new (by decide +kernel)
  refine pf3_22 rfl rfl (kdA dt_MX3_init 16 rfl) ⟨by decide, by decide, by decide +kernel⟩ (fun s7 es7 => ?_)
  have hA7 : Ag 113 [(17, 3), (17, 4), (17, 5), (18, 0), (18, 1), (18, 2), (18, 3), (18, 4), (21, 0), (21, 1), (21, 2), (21, 3), (21, 4), (21, 5), (21, 6), (21, 7), (21, 8), (21, 9)] true s7 := by rw [es7]; exact hA6.put (by decide +kernel)
  exact K_return (kdA dt_MX3_init 17 rfl) rfl ⟨rfl, rfl, hA7⟩
theorem I3_113 {d : Nat} {σ : kS} (hd : 2 ≤ d) (hA : Ag 114 [(17, 4), (17, 5), (18, 0), (18, 1), (18, 2), (18, 3), (18, 4), (21, 0), (21, 1), (21, 2), (21, 3), (21, 4), (21, 5), (21, 6), (21, 7), (21, 8), (21, 9), (113, 0), (113, 1), (113, 4), (113, 3)] true σ) : Ni d MX3_init (3, 246) [(2, 113)] 114 σ 117 (fun s => Ag 117 [(17, 4), (17, 5), (18, 0), (18, 1), (18, 2), (18, 3), (18, 4), (21, 0), (21, 1), (21, 2), (21, 3), (21, 4), (21, 5), (21, 6), (21, 7), (21, 8), (21, 9)] true s) := by
  obtain ⟨d, rfl⟩ : ∃ e, d = e + 1 := ⟨d - 1, by omega⟩
  refine Tri_of (by decide +kernel) (Nat.le_of_ble_eq_true rfl) (fun _ _ => ?_)
  show K (d + 1) MX3_init _ (3, 246) 0 [(0, (2, 113))] [] 114 σ
  refine K_aload_n 0 (kdA dt_MX3_init 0 rfl) rfl rfl ?_
  refine K_oinit (kdA dt_MX3_init 1 rfl) (tb1 83 rfl rfl) (by decide) (Nat.le_of_ble_eq_true rfl) ?_
  refine K_aload_n 0 (kdA dt_MX3_init 2 rfl) rfl rfl ?_
  refine K_bipush (kdA dt_MX3_init 3 rfl) (by decide) ?_
  refine K_newi (b2 := (2, 126)) (kdA dt_MX3_init 4 rfl) (by decide +kernel) (by decide) (by decide +kernel) ⟨by decide, by decide⟩ rfl (fun s1 es1 => ?_)
  have hA1 : Ag 115 [(17, 4), (17, 5), (18, 0), (18, 1), (18, 2), (18, 3), (18, 4), (21, 0), (21, 1), (21, 2), (21, 3), (21, 4), (21, 5), (21, 6), (21, 7), (21, 8), (21, 9), (113, 0), (113, 1), (113, 4), (113, 3)] true s1 := by rw [es1]; exact hA.new (by decide +kernel)
  refine pf3_9 rfl rfl (kdA dt_MX3_init 5 rfl) ⟨by decide, by decide, by decide +kernel⟩ (fun s2 es2 => ?_)
  have hA2 : Ag 115 [(17, 4), (17, 5), (18, 0), (18, 1), (18, 2), (18, 3), (18, 4), (21, 0), (21, 1), (21, 2), (21, 3), (21, 4), (21, 5), (21, 6), (21, 7), (21, 8), (21, 9), (113, 1), (113, 4), (113, 3)] true s2 := by rw [es2]; exact hA1.put (by decide +kernel)
  refine K_aload_n 0 (kdA dt_MX3_init 6 rfl) rfl rfl ?_
  refine K_bipush (kdA dt_MX3_init 7 rfl) (by decide) ?_
  refine K_newi (b2 := (1, 6)) (kdA dt_MX3_init 8 rfl) (by decide +kernel) (by decide) (by decide +kernel) ⟨by decide, by decide⟩ rfl (fun s3 es3 => ?_)
  have hA3 : Ag 116 [(17, 4), (17, 5), (18, 0), (18, 1), (18, 2), (18, 3), (18, 4), (21, 0), (21, 1), (21, 2), (21, 3), (21, 4), (21, 5), (21, 6), (21, 7), (21, 8), (21, 9), (113, 1), (113, 4), (113, 3)] true s3 := by rw [es3]; exact hA2.new (by decide +kernel)
  refine pf3_15 rfl rfl (kdA dt_MX3_init 9 rfl) ⟨by decide, by decide, by decide +kernel⟩ (fun s4 es4 => ?_)
  have hA4 : Ag 116 [(17, 4), (17, 5), (18, 0), (18, 1), (18, 2), (18, 3), (18, 4), (21, 0), (21, 1), (21, 2), (21, 3), (21, 4), (21, 5), (21, 6), (21, 7), (21, 8), (21, 9), (113, 4), (113, 3)] true s4 := by rw [es4]; exact hA3.put (by decide +kernel)
  refine K_aload_n 0 (kdA dt_MX3_init 10 rfl) rfl rfl ?_
  refine K_iconst (kdA dt_MX3_init 11 rfl) (by decide) ?_
  refine pf3_18 rfl (kdA dt_MX3_init 12 rfl) ⟨by decide, by decide, by decide +kernel⟩ (fun s5 es5 => ?_)
  have hA5 : Ag 116 [(17, 4), (17, 5), (18, 0), (18, 1), (18, 2), (18, 3), (18, 4), (21, 0), (21, 1), (21, 2), (21, 3), (21, 4), (21, 5), (21, 6), (21, 7), (21, 8), (21, 9), (113, 4)] true s5 := by rw [es5]; exact hA4.put (by decide +kernel)
  refine K_aload_n 0 (kdA dt_MX3_init 13 rfl) rfl rfl ?_
  refine K_bipush (kdA dt_MX3_init 14 rfl) (by decide) ?_
  refine K_newi (b2 := (0, 0)) (kdA dt_MX3_init 15 rfl) (by decide +kernel) (by decide) (by decide +kernel) ⟨by decide, by decide⟩ rfl (fun s6 es6 => ?_)
  have hA6 : Ag 117 [(17, 4), (17, 5), (18, 0), (18, 1), (18, 2), (18, 3), (18, 4), (21, 0), (21, 1), (21, 2), (21, 3), (21, 4), (21, 5), (21, 6), (21, 7), (21, 8), (21, 9), (113, 4)] true s6 := by rw [es6]; exact hA5.new (by decide +kernel)
  refine pf3_22 rfl rfl (kdA dt_MX3_init 16 rfl) ⟨by decide, by decide, by decide +kernel⟩ (fun s7 es7 => ?_)
  have hA7 : Ag 117 [(17, 4), (17, 5), (18, 0), (18, 1), (18, 2), (18, 3), (18, 4), (21, 0), (21, 1), (21, 2), (21, 3), (21, 4), (21, 5), (21, 6), (21, 7), (21, 8), (21, 9)] true s7 := by rw [es7]; exact hA6.put (by decide +kernel)
  exact K_return (kdA dt_MX3_init 17 rfl) rfl ⟨rfl, rfl, hA7⟩
theorem I3_117 {d : Nat} {σ : kS} (hd : 2 ≤ d) (hA : Ag 118 [(17, 5), (18, 0), (18, 1), (18, 2), (18, 3), (18, 4), (21, 0), (21, 1), (21, 2), (21, 3), (21, 4), (21, 5), (21, 6), (21, 7), (21, 8), (21, 9), (117, 0), (117, 1), (117, 4), (117, 3)] true σ) : Ni d MX3_init (3, 246) [(2, 117)] 118 σ 121 (fun s => Ag 121 [(17, 5), (18, 0), (18, 1), (18, 2), (18, 3), (18, 4), (21, 0), (21, 1), (21, 2), (21, 3), (21, 4), (21, 5), (21, 6), (21, 7), (21, 8), (21, 9)] true s) := by
  obtain ⟨d, rfl⟩ : ∃ e, d = e + 1 := ⟨d - 1, by omega⟩
  refine Tri_of (by decide +kernel) (Nat.le_of_ble_eq_true rfl) (fun _ _ => ?_)
  show K (d + 1) MX3_init _ (3, 246) 0 [(0, (2, 117))] [] 118 σ
  refine K_aload_n 0 (kdA dt_MX3_init 0 rfl) rfl rfl ?_
  refine K_oinit (kdA dt_MX3_init 1 rfl) (tb1 83 rfl rfl) (by decide) (Nat.le_of_ble_eq_true rfl) ?_
  refine K_aload_n 0 (kdA dt_MX3_init 2 rfl) rfl rfl ?_
  refine K_bipush (kdA dt_MX3_init 3 rfl) (by decide) ?_
  refine K_newi (b2 := (2, 126)) (kdA dt_MX3_init 4 rfl) (by decide +kernel) (by decide) (by decide +kernel) ⟨by decide, by decide⟩ rfl (fun s1 es1 => ?_)
  have hA1 : Ag 119 [(17, 5), (18, 0), (18, 1), (18, 2), (18, 3), (18, 4), (21, 0), (21, 1), (21, 2), (21, 3), (21, 4), (21, 5), (21, 6), (21, 7), (21, 8), (21, 9), (117, 0), (117, 1), (117, 4), (117, 3)] true s1 := by rw [es1]; exact hA.new (by decide +kernel)
  refine pf3_9 rfl rfl (kdA dt_MX3_init 5 rfl) ⟨by decide, by decide, by decide +kernel⟩ (fun s2 es2 => ?_)
  have hA2 : Ag 119 [(17, 5), (18, 0), (18, 1), (18, 2), (18, 3), (18, 4), (21, 0), (21, 1), (21, 2), (21, 3), (21, 4), (21, 5), (21, 6), (21, 7), (21, 8), (21, 9), (117, 1), (117, 4), (117, 3)] true s2 := by rw [es2]; exact hA1.put (by decide +kernel)
  refine K_aload_n 0 (kdA dt_MX3_init 6 rfl) rfl rfl ?_
  refine K_bipush (kdA dt_MX3_init 7 rfl) (by decide) ?_
  refine K_newi (b2 := (1, 6)) (kdA dt_MX3_init 8 rfl) (by decide +kernel) (by decide) (by decide +kernel) ⟨by decide, by decide⟩ rfl (fun s3 es3 => ?_)
  have hA3 : Ag 120 [(17, 5), (18, 0), (18, 1), (18, 2), (18, 3), (18, 4), (21, 0), (21, 1), (21, 2), (21, 3), (21, 4), (21, 5), (21, 6), (21, 7), (21, 8), (21, 9), (117, 1), (117, 4), (117, 3)] true s3 := by rw [es3]; exact hA2.new (by decide +kernel)
  refine pf3_15 rfl rfl (kdA dt_MX3_init 9 rfl) ⟨by decide, by decide, by decide +kernel⟩ (fun s4 es4 => ?_)
  have hA4 : Ag 120 [(17, 5), (18, 0), (18, 1), (18, 2), (18, 3), (18, 4), (21, 0), (21, 1), (21, 2), (21, 3), (21, 4), (21, 5), (21, 6), (21, 7), (21, 8), (21, 9), (117, 4), (117, 3)] true s4 := by rw [es4]; exact hA3.put (by decide +kernel)
  refine K_aload_n 0 (kdA dt_MX3_init 10 rfl) rfl rfl ?_
  refine K_iconst (kdA dt_MX3_init 11 rfl) (by decide) ?_
  refine pf3_18 rfl (kdA dt_MX3_init 12 rfl) ⟨by decide, by decide, by decide +kernel⟩ (fun s5 es5 => ?_)
  have hA5 : Ag 120 [(17, 5), (18, 0), (18, 1), (18, 2), (18, 3), (18, 4), (21, 0), (21, 1), (21, 2), (21, 3), (21, 4), (21, 5), (21, 6), (21, 7), (21, 8), (21, 9), (117, 4)] true s5 := by rw [es5]; exact hA4.put (by decide +kernel)
  refine K_aload_n 0 (kdA dt_MX3_init 13 rfl) rfl rfl ?_
  refine K_bipush (kdA dt_MX3_init 14 rfl) (by decide) ?_
  refine K_newi (b2 := (0, 0)) (kdA dt_MX3_init 15 rfl) (by decide +kernel) (by decide) (by decide +kernel) ⟨by decide, by decide⟩ rfl (fun s6 es6 => ?_)
  have hA6 : Ag 121 [(17, 5), (18, 0), (18, 1), (18, 2), (18, 3), (18, 4), (21, 0), (21, 1), (21, 2), (21, 3), (21, 4), (21, 5), (21, 6), (21, 7), (21, 8), (21, 9), (117, 4)] true s6 := by rw [es6]; exact hA5.new (by decide +kernel)
  refine pf3_22 rfl rfl (kdA dt_MX3_init 16 rfl) ⟨by decide, by decide, by decide +kernel⟩ (fun s7 es7 => ?_)
  have hA7 : Ag 121 [(17, 5), (18, 0), (18, 1), (18, 2), (18, 3), (18, 4), (21, 0), (21, 1), (21, 2), (21, 3), (21, 4), (21, 5), (21, 6), (21, 7), (21, 8), (21, 9)] true s7 := by rw [es7]; exact hA6.put (by decide +kernel)
  exact K_return (kdA dt_MX3_init 17 rfl) rfl ⟨rfl, rfl, hA7⟩
theorem I8_122 {d : Nat} {σ : kS} (hd : 3 ≤ d) (hA : Ag 123 [(18, 0), (18, 1), (18, 2), (18, 3), (18, 4), (21, 0), (21, 1), (21, 2), (21, 3), (21, 4), (21, 5), (21, 6), (21, 7), (21, 8), (21, 9), (121, 0), (121, 1), (122, 0)] true σ) : Ni d MX8_init (1, 120) [(2, 122), (0, 120)] 123 σ 124 (fun s => Ag 124 [(18, 0), (18, 1), (18, 2), (18, 3), (18, 4), (21, 0), (21, 1), (21, 2), (21, 3), (21, 4), (21, 5), (21, 6), (21, 7), (21, 8), (21, 9), (121, 0), (121, 1)] true s) := by
  obtain ⟨d, rfl⟩ : ∃ e, d = e + 1 := ⟨d - 1, by omega⟩
  refine Tri_of (by decide +kernel) (Nat.le_of_ble_eq_true rfl) (fun _ _ => ?_)
  show K (d + 1) MX8_init _ (1, 120) 0 [(0, (2, 122)), (1, (0, 120))] [] 123 σ
  refine K_aload_n 0 (kdA dt_MX8_init 0 rfl) rfl rfl ?_
  refine K_oinit (kdA dt_MX8_init 1 rfl) (tb1 53 rfl rfl) (by decide) (Nat.le_of_ble_eq_true rfl) ?_
  refine K_aload_n 0 (kdA dt_MX8_init 2 rfl) rfl rfl ?_
  refine K_iload_n 1 (kdA dt_MX8_init 3 rfl) rfl rfl ?_
  refine K_iconst (kdA dt_MX8_init 4 rfl) (by decide) ?_
  refine K_bSi (as := [(0, 120), (0, 0)]) (st := [(2, 122)]) (kdA dt_MX8_init 5 rfl) cl_MJm_max lk8_9 rfl rfl (Nat.le_of_ble_eq_true rfl) (J_max (by omega) ?_)
  rw [show max (120 : Int) 0 = 120 by decide]
  refine K_newi (b2 := (0, 0)) (kdA dt_MX8_init 6 rfl) (by decide +kernel) (by decide) (by decide +kernel) ⟨by decide, by decide⟩ rfl (fun s1 es1 => ?_)
  have hA1 : Ag 124 [(18, 0), (18, 1), (18, 2), (18, 3), (18, 4), (21, 0), (21, 1), (21, 2), (21, 3), (21, 4), (21, 5), (21, 6), (21, 7), (21, 8), (21, 9), (121, 0), (121, 1), (122, 0)] true s1 := by rw [es1]; exact hA.new (by decide +kernel)
  refine pf8_15 rfl rfl (kdA dt_MX8_init 7 rfl) ⟨by decide, by decide, by decide +kernel⟩ (fun s2 es2 => ?_)
  have hA2 : Ag 124 [(18, 0), (18, 1), (18, 2), (18, 3), (18, 4), (21, 0), (21, 1), (21, 2), (21, 3), (21, 4), (21, 5), (21, 6), (21, 7), (21, 8), (21, 9), (121, 0), (121, 1)] true s2 := by rw [es2]; exact hA1.put (by decide +kernel)
  exact K_return (kdA dt_MX8_init 8 rfl) rfl ⟨rfl, rfl, hA2⟩
theorem I8_124 {d : Nat} {σ : kS} (hd : 3 ≤ d) (hA : Ag 125 [(18, 0), (18, 1), (18, 2), (18, 3), (18, 4), (21, 0), (21, 1), (21, 2), (21, 3), (21, 4), (21, 5), (21, 6), (21, 7), (21, 8), (21, 9), (121, 1), (124, 0)] true σ) : Ni d MX8_init (1, 120) [(2, 124), (0, 120)] 125 σ 126 (fun s => Ag 126 [(18, 0), (18, 1), (18, 2), (18, 3), (18, 4), (21, 0), (21, 1), (21, 2), (21, 3), (21, 4), (21, 5), (21, 6), (21, 7), (21, 8), (21, 9), (121, 1)] true s) := by
  obtain ⟨d, rfl⟩ : ∃ e, d = e + 1 := ⟨d - 1, by omega⟩
  refine Tri_of (by decide +kernel) (Nat.le_of_ble_eq_true rfl) (fun _ _ => ?_)
  show K (d + 1) MX8_init _ (1, 120) 0 [(0, (2, 124)), (1, (0, 120))] [] 125 σ
  refine K_aload_n 0 (kdA dt_MX8_init 0 rfl) rfl rfl ?_
  refine K_oinit (kdA dt_MX8_init 1 rfl) (tb1 53 rfl rfl) (by decide) (Nat.le_of_ble_eq_true rfl) ?_
  refine K_aload_n 0 (kdA dt_MX8_init 2 rfl) rfl rfl ?_
  refine K_iload_n 1 (kdA dt_MX8_init 3 rfl) rfl rfl ?_
  refine K_iconst (kdA dt_MX8_init 4 rfl) (by decide) ?_
  refine K_bSi (as := [(0, 120), (0, 0)]) (st := [(2, 124)]) (kdA dt_MX8_init 5 rfl) cl_MJm_max lk8_9 rfl rfl (Nat.le_of_ble_eq_true rfl) (J_max (by omega) ?_)
  rw [show max (120 : Int) 0 = 120 by decide]
  refine K_newi (b2 := (0, 0)) (kdA dt_MX8_init 6 rfl) (by decide +kernel) (by decide) (by decide +kernel) ⟨by decide, by decide⟩ rfl (fun s1 es1 => ?_)
  have hA1 : Ag 126 [(18, 0), (18, 1), (18, 2), (18, 3), (18, 4), (21, 0), (21, 1), (21, 2), (21, 3), (21, 4), (21, 5), (21, 6), (21, 7), (21, 8), (21, 9), (121, 1), (124, 0)] true s1 := by rw [es1]; exact hA.new (by decide +kernel)
  refine pf8_15 rfl rfl (kdA dt_MX8_init 7 rfl) ⟨by decide, by decide, by decide +kernel⟩ (fun s2 es2 => ?_)
  have hA2 : Ag 126 [(18, 0), (18, 1), (18, 2), (18, 3), (18, 4), (21, 0), (21, 1), (21, 2), (21, 3), (21, 4), (21, 5), (21, 6), (21, 7), (21, 8), (21, 9), (121, 1)] true s2 := by rw [es2]; exact hA1.put (by decide +kernel)
  exact K_return (kdA dt_MX8_init 8 rfl) rfl ⟨rfl, rfl, hA2⟩
theorem I0_121 {d : Nat} {σ : kS} (hd : 5 ≤ d) (hA : Ag 122 [(18, 0), (18, 1), (18, 2), (18, 3), (18, 4), (21, 0), (21, 1), (21, 2), (21, 3), (21, 4), (21, 5), (21, 6), (21, 7), (21, 8), (21, 9), (121, 0), (121, 1)] true σ) : Ni d MX0_init (4, 244) [(2, 121)] 122 σ 126 (fun s => Ag 126 [(18, 0), (18, 1), (18, 2), (18, 3), (18, 4), (21, 0), (21, 1), (21, 2), (21, 3), (21, 4), (21, 5), (21, 6), (21, 7), (21, 8), (21, 9)] true s) := by
  obtain ⟨d, rfl⟩ : ∃ e, d = e + 1 := ⟨d - 1, by omega⟩
  refine Tri_of (by decide +kernel) (Nat.le_of_ble_eq_true rfl) (fun _ _ => ?_)
  show K (d + 1) MX0_init _ (4, 244) 0 [(0, (2, 121))] [] 122 σ
  refine K_aload_n 0 (kdA dt_MX0_init 0 rfl) rfl rfl ?_
  refine K_oinit (kdA dt_MX0_init 1 rfl) (tb2 58 rfl rfl) (by decide) (Nat.le_of_ble_eq_true rfl) ?_
  refine K_aload_n 0 (kdA dt_MX0_init 2 rfl) rfl rfl ?_
  refine K_new2 (C := RX8) (N := 2) (b2 := (3, 242)) (kdA dt_MX0_init 3 rfl) ⟨(tb2 59 rfl rfl), (tb1 49 rfl rfl), (tb1 3 rfl rfl)⟩ rfl uw8 ft8 (by decide +kernel) (by decide +kernel) ⟨by decide, by decide⟩ rfl (fun s1 es1 => ?_)
  have hA1 : Ag 123 [(18, 0), (18, 1), (18, 2), (18, 3), (18, 4), (21, 0), (21, 1), (21, 2), (21, 3), (21, 4), (21, 5), (21, 6), (21, 7), (21, 8), (21, 9), (121, 0), (121, 1), (122, 0)] true s1 := by rw [es1]; exact hA.new (by decide +kernel)
  refine K_dup (kdA dt_MX0_init 4 rfl) rfl ?_
  refine K_bipush (kdA dt_MX0_init 5 rfl) (by decide) ?_
  refine K_nI (b' := (1, 120)) (b2 := (2, 122)) (as := [(0, 120)]) (r := 122) (st := [(2, 122), (2, 121)]) (n1 := 124) (kdA dt_MX0_init 6 rfl) ⟨by decide, by decide⟩ cl_MX8_init lk0_11 rfl rfl (Nat.le_of_ble_eq_true rfl) (by decide) rfl (Ni.mono (I8_122 (by omega) hA1) (fun s2 hA2 => ?_))
  refine pf0_14 rfl rfl (kdA dt_MX0_init 7 rfl) ⟨by decide, by decide, by decide +kernel⟩ (fun s3 es3 => ?_)
  have hA3 : Ag 124 [(18, 0), (18, 1), (18, 2), (18, 3), (18, 4), (21, 0), (21, 1), (21, 2), (21, 3), (21, 4), (21, 5), (21, 6), (21, 7), (21, 8), (21, 9), (121, 1)] true s3 := by rw [es3]; exact hA2.put (by decide +kernel)
  refine K_aload_n 0 (kdA dt_MX0_init 8 rfl) rfl rfl ?_
  refine K_new2 (C := RX8) (N := 2) (b2 := (1, 120)) (kdA dt_MX0_init 9 rfl) ⟨(tb2 59 rfl rfl), (tb1 49 rfl rfl), (tb1 3 rfl rfl)⟩ rfl uw8 ft8 (by decide +kernel) (by decide +kernel) ⟨by decide, by decide⟩ rfl (fun s4 es4 => ?_)
  have hA4 : Ag 125 [(18, 0), (18, 1), (18, 2), (18, 3), (18, 4), (21, 0), (21, 1), (21, 2), (21, 3), (21, 4), (21, 5), (21, 6), (21, 7), (21, 8), (21, 9), (121, 1), (124, 0)] true s4 := by rw [es4]; exact hA3.new (by decide +kernel)
  refine K_dup (kdA dt_MX0_init 10 rfl) rfl ?_
  refine K_bipush (kdA dt_MX0_init 11 rfl) (by decide) ?_
  refine K_nI (b' := (1, 120)) (b2 := (0, 0)) (as := [(0, 120)]) (r := 124) (st := [(2, 124), (2, 121)]) (n1 := 126) (kdA dt_MX0_init 12 rfl) ⟨by decide, by decide⟩ cl_MX8_init lk0_11 rfl rfl (Nat.le_of_ble_eq_true rfl) (by decide) rfl (Ni.mono (I8_124 (by omega) hA4) (fun s5 hA5 => ?_))
  refine pf0_20 rfl rfl (kdA dt_MX0_init 13 rfl) ⟨by decide, by decide, by decide +kernel⟩ (fun s6 es6 => ?_)
  have hA6 : Ag 126 [(18, 0), (18, 1), (18, 2), (18, 3), (18, 4), (21, 0), (21, 1), (21, 2), (21, 3), (21, 4), (21, 5), (21, 6), (21, 7), (21, 8), (21, 9)] true s6 := by rw [es6]; exact hA5.put (by decide +kernel)
  exact K_return (kdA dt_MX0_init 14 rfl) rfl ⟨rfl, rfl, hA6⟩
theorem I8_127 {d : Nat} {σ : kS} (hd : 3 ≤ d) (hA : Ag 128 [(18, 1), (18, 2), (18, 3), (18, 4), (21, 0), (21, 1), (21, 2), (21, 3), (21, 4), (21, 5), (21, 6), (21, 7), (21, 8), (21, 9), (126, 0), (126, 1), (127, 0)] true σ) : Ni d MX8_init (1, 120) [(2, 127), (0, 120)] 128 σ 129 (fun s => Ag 129 [(18, 1), (18, 2), (18, 3), (18, 4), (21, 0), (21, 1), (21, 2), (21, 3), (21, 4), (21, 5), (21, 6), (21, 7), (21, 8), (21, 9), (126, 0), (126, 1)] true s) := by
  obtain ⟨d, rfl⟩ : ∃ e, d = e + 1 := ⟨d - 1, by omega⟩
  refine Tri_of (by decide +kernel) (Nat.le_of_ble_eq_true rfl) (fun _ _ => ?_)
  show K (d + 1) MX8_init _ (1, 120) 0 [(0, (2, 127)), (1, (0, 120))] [] 128 σ
  refine K_aload_n 0 (kdA dt_MX8_init 0 rfl) rfl rfl ?_
  refine K_oinit (kdA dt_MX8_init 1 rfl) (tb1 53 rfl rfl) (by decide) (Nat.le_of_ble_eq_true rfl) ?_
  refine K_aload_n 0 (kdA dt_MX8_init 2 rfl) rfl rfl ?_
  refine K_iload_n 1 (kdA dt_MX8_init 3 rfl) rfl rfl ?_
  refine K_iconst (kdA dt_MX8_init 4 rfl) (by decide) ?_
  refine K_bSi (as := [(0, 120), (0, 0)]) (st := [(2, 127)]) (kdA dt_MX8_init 5 rfl) cl_MJm_max lk8_9 rfl rfl (Nat.le_of_ble_eq_true rfl) (J_max (by omega) ?_)
  rw [show max (120 : Int) 0 = 120 by decide]
  refine K_newi (b2 := (0, 0)) (kdA dt_MX8_init 6 rfl) (by decide +kernel) (by decide) (by decide +kernel) ⟨by decide, by decide⟩ rfl (fun s1 es1 => ?_)
  have hA1 : Ag 129 [(18, 1), (18, 2), (18, 3), (18, 4), (21, 0), (21, 1), (21, 2), (21, 3), (21, 4), (21, 5), (21, 6), (21, 7), (21, 8), (21, 9), (126, 0), (126, 1), (127, 0)] true s1 := by rw [es1]; exact hA.new (by decide +kernel)
  refine pf8_15 rfl rfl (kdA dt_MX8_init 7 rfl) ⟨by decide, by decide, by decide +kernel⟩ (fun s2 es2 => ?_)
  have hA2 : Ag 129 [(18, 1), (18, 2), (18, 3), (18, 4), (21, 0), (21, 1), (21, 2), (21, 3), (21, 4), (21, 5), (21, 6), (21, 7), (21, 8), (21, 9), (126, 0), (126, 1)] true s2 := by rw [es2]; exact hA1.put (by decide +kernel)
  exact K_return (kdA dt_MX8_init 8 rfl) rfl ⟨rfl, rfl, hA2⟩
theorem I8_129 {d : Nat} {σ : kS} (hd : 3 ≤ d) (hA : Ag 130 [(18, 1), (18, 2), (18, 3), (18, 4), (21, 0), (21, 1), (21, 2), (21, 3), (21, 4), (21, 5), (21, 6), (21, 7), (21, 8), (21, 9), (126, 1), (129, 0)] true σ) : Ni d MX8_init (1, 120) [(2, 129), (0, 120)] 130 σ 131 (fun s => Ag 131 [(18, 1), (18, 2), (18, 3), (18, 4), (21, 0), (21, 1), (21, 2), (21, 3), (21, 4), (21, 5), (21, 6), (21, 7), (21, 8), (21, 9), (126, 1)] true s) := by
  obtain ⟨d, rfl⟩ : ∃ e, d = e + 1 := ⟨d - 1, by omega⟩
  refine Tri_of (by decide +kernel) (Nat.le_of_ble_eq_true rfl) (fun _ _ => ?_)
  show K (d + 1) MX8_init _ (1, 120) 0 [(0, (2, 129)), (1, (0, 120))] [] 130 σ
  refine K_aload_n 0 (kdA dt_MX8_init 0 rfl) rfl rfl ?_
  refine K_oinit (kdA dt_MX8_init 1 rfl) (tb1 53 rfl rfl) (by decide) (Nat.le_of_ble_eq_true rfl) ?_
  refine K_aload_n 0 (kdA dt_MX8_init 2 rfl) rfl rfl ?_
  refine K_iload_n 1 (kdA dt_MX8_init 3 rfl) rfl rfl ?_
  refine K_iconst (kdA dt_MX8_init 4 rfl) (by decide) ?_
  refine K_bSi (as := [(0, 120), (0, 0)]) (st := [(2, 129)]) (kdA dt_MX8_init 5 rfl) cl_MJm_max lk8_9 rfl rfl (Nat.le_of_ble_eq_true rfl) (J_max (by omega) ?_)
  rw [show max (120 : Int) 0 = 120 by decide]
  refine K_newi (b2 := (0, 0)) (kdA dt_MX8_init 6 rfl) (by decide +kernel) (by decide) (by decide +kernel) ⟨by decide, by decide⟩ rfl (fun s1 es1 => ?_)
  have hA1 : Ag 131 [(18, 1), (18, 2), (18, 3), (18, 4), (21, 0), (21, 1), (21, 2), (21, 3), (21, 4), (21, 5), (21, 6), (21, 7), (21, 8), (21, 9), (126, 1), (129, 0)] true s1 := by rw [es1]; exact hA.new (by decide +kernel)
  refine pf8_15 rfl rfl (kdA dt_MX8_init 7 rfl) ⟨by decide, by decide, by decide +kernel⟩ (fun s2 es2 => ?_)
  have hA2 : Ag 131 [(18, 1), (18, 2), (18, 3), (18, 4), (21, 0), (21, 1), (21, 2), (21, 3), (21, 4), (21, 5), (21, 6), (21, 7), (21, 8), (21, 9), (126, 1)] true s2 := by rw [es2]; exact hA1.put (by decide +kernel)
  exact K_return (kdA dt_MX8_init 8 rfl) rfl ⟨rfl, rfl, hA2⟩
theorem I0_126 {d : Nat} {σ : kS} (hd : 5 ≤ d) (hA : Ag 127 [(18, 1), (18, 2), (18, 3), (18, 4), (21, 0), (21, 1), (21, 2), (21, 3), (21, 4), (21, 5), (21, 6), (21, 7), (21, 8), (21, 9), (126, 0), (126, 1)] true σ) : Ni d MX0_init (4, 244) [(2, 126)] 127 σ 131 (fun s => Ag 131 [(18, 1), (18, 2), (18, 3), (18, 4), (21, 0), (21, 1), (21, 2), (21, 3), (21, 4), (21, 5), (21, 6), (21, 7), (21, 8), (21, 9)] true s) := by
  obtain ⟨d, rfl⟩ : ∃ e, d = e + 1 := ⟨d - 1, by omega⟩
  refine Tri_of (by decide +kernel) (Nat.le_of_ble_eq_true rfl) (fun _ _ => ?_)
  show K (d + 1) MX0_init _ (4, 244) 0 [(0, (2, 126))] [] 127 σ
  refine K_aload_n 0 (kdA dt_MX0_init 0 rfl) rfl rfl ?_
  refine K_oinit (kdA dt_MX0_init 1 rfl) (tb2 58 rfl rfl) (by decide) (Nat.le_of_ble_eq_true rfl) ?_
  refine K_aload_n 0 (kdA dt_MX0_init 2 rfl) rfl rfl ?_
  refine K_new2 (C := RX8) (N := 2) (b2 := (3, 242)) (kdA dt_MX0_init 3 rfl) ⟨(tb2 59 rfl rfl), (tb1 49 rfl rfl), (tb1 3 rfl rfl)⟩ rfl uw8 ft8 (by decide +kernel) (by decide +kernel) ⟨by decide, by decide⟩ rfl (fun s1 es1 => ?_)
  have hA1 : Ag 128 [(18, 1), (18, 2), (18, 3), (18, 4), (21, 0), (21, 1), (21, 2), (21, 3), (21, 4), (21, 5), (21, 6), (21, 7), (21, 8), (21, 9), (126, 0), (126, 1), (127, 0)] true s1 := by rw [es1]; exact hA.new (by decide +kernel)
  refine K_dup (kdA dt_MX0_init 4 rfl) rfl ?_
  refine K_bipush (kdA dt_MX0_init 5 rfl) (by decide) ?_
  refine K_nI (b' := (1, 120)) (b2 := (2, 122)) (as := [(0, 120)]) (r := 127) (st := [(2, 127), (2, 126)]) (n1 := 129) (kdA dt_MX0_init 6 rfl) ⟨by decide, by decide⟩ cl_MX8_init lk0_11 rfl rfl (Nat.le_of_ble_eq_true rfl) (by decide) rfl (Ni.mono (I8_127 (by omega) hA1) (fun s2 hA2 => ?_))
  refine pf0_14 rfl rfl (kdA dt_MX0_init 7 rfl) ⟨by decide, by decide, by decide +kernel⟩ (fun s3 es3 => ?_)
  have hA3 : Ag 129 [(18, 1), (18, 2), (18, 3), (18, 4), (21, 0), (21, 1), (21, 2), (21, 3), (21, 4), (21, 5), (21, 6), (21, 7), (21, 8), (21, 9), (126, 1)] true s3 := by rw [es3]; exact hA2.put (by decide +kernel)
  refine K_aload_n 0 (kdA dt_MX0_init 8 rfl) rfl rfl ?_
  refine K_new2 (C := RX8) (N := 2) (b2 := (1, 120)) (kdA dt_MX0_init 9 rfl) ⟨(tb2 59 rfl rfl), (tb1 49 rfl rfl), (tb1 3 rfl rfl)⟩ rfl uw8 ft8 (by decide +kernel) (by decide +kernel) ⟨by decide, by decide⟩ rfl (fun s4 es4 => ?_)
  have hA4 : Ag 130 [(18, 1), (18, 2), (18, 3), (18, 4), (21, 0), (21, 1), (21, 2), (21, 3), (21, 4), (21, 5), (21, 6), (21, 7), (21, 8), (21, 9), (126, 1), (129, 0)] true s4 := by rw [es4]; exact hA3.new (by decide +kernel)
  refine K_dup (kdA dt_MX0_init 10 rfl) rfl ?_
  refine K_bipush (kdA dt_MX0_init 11 rfl) (by decide) ?_
  refine K_nI (b' := (1, 120)) (b2 := (0, 0)) (as := [(0, 120)]) (r := 129) (st := [(2, 129), (2, 126)]) (n1 := 131) (kdA dt_MX0_init 12 rfl) ⟨by decide, by decide⟩ cl_MX8_init lk0_11 rfl rfl (Nat.le_of_ble_eq_true rfl) (by decide) rfl (Ni.mono (I8_129 (by omega) hA4) (fun s5 hA5 => ?_))
  refine pf0_20 rfl rfl (kdA dt_MX0_init 13 rfl) ⟨by decide, by decide, by decide +kernel⟩ (fun s6 es6 => ?_)
  have hA6 : Ag 131 [(18, 1), (18, 2), (18, 3), (18, 4), (21, 0), (21, 1), (21, 2), (21, 3), (21, 4), (21, 5), (21, 6), (21, 7), (21, 8), (21, 9)] true s6 := by rw [es6]; exact hA5.put (by decide +kernel)
  exact K_return (kdA dt_MX0_init 14 rfl) rfl ⟨rfl, rfl, hA6⟩
theorem I8_132 {d : Nat} {σ : kS} (hd : 3 ≤ d) (hA : Ag 133 [(18, 2), (18, 3), (18, 4), (21, 0), (21, 1), (21, 2), (21, 3), (21, 4), (21, 5), (21, 6), (21, 7), (21, 8), (21, 9), (131, 0), (131, 1), (132, 0)] true σ) : Ni d MX8_init (1, 120) [(2, 132), (0, 120)] 133 σ 134 (fun s => Ag 134 [(18, 2), (18, 3), (18, 4), (21, 0), (21, 1), (21, 2), (21, 3), (21, 4), (21, 5), (21, 6), (21, 7), (21, 8), (21, 9), (131, 0), (131, 1)] true s) := by
  obtain ⟨d, rfl⟩ : ∃ e, d = e + 1 := ⟨d - 1, by omega⟩
  refine Tri_of (by decide +kernel) (Nat.le_of_ble_eq_true rfl) (fun _ _ => ?_)
  show K (d + 1) MX8_init _ (1, 120) 0 [(0, (2, 132)), (1, (0, 120))] [] 133 σ
  refine K_aload_n 0 (kdA dt_MX8_init 0 rfl) rfl rfl ?_
  refine K_oinit (kdA dt_MX8_init 1 rfl) (tb1 53 rfl rfl) (by decide) (Nat.le_of_ble_eq_true rfl) ?_
  refine K_aload_n 0 (kdA dt_MX8_init 2 rfl) rfl rfl ?_
  refine K_iload_n 1 (kdA dt_MX8_init 3 rfl) rfl rfl ?_
  refine K_iconst (kdA dt_MX8_init 4 rfl) (by decide) ?_
  refine K_bSi (as := [(0, 120), (0, 0)]) (st := [(2, 132)]) (kdA dt_MX8_init 5 rfl) cl_MJm_max lk8_9 rfl rfl (Nat.le_of_ble_eq_true rfl) (J_max (by omega) ?_)
  rw [show max (120 : Int) 0 = 120 by decide]
  refine K_newi (b2 := (0, 0)) (kdA dt_MX8_init 6 rfl) (by decide +kernel) (by decide) (by decide +kernel) ⟨by decide, by decide⟩ rfl (fun s1 es1 => ?_)
  have hA1 : Ag 134 [(18, 2), (18, 3), (18, 4), (21, 0), (21, 1), (21, 2), (21, 3), (21, 4), (21, 5), (21, 6), (21, 7), (21, 8), (21, 9), (131, 0), (131, 1), (132, 0)] true s1 := by rw [es1]; exact hA.new (by decide +kernel)
  refine pf8_15 rfl rfl (kdA dt_MX8_init 7 rfl) ⟨by decide, by decide, by decide +kernel⟩ (fun s2 es2 => ?_)
  have hA2 : Ag 134 [(18, 2), (18, 3), (18, 4), (21, 0), (21, 1), (21, 2), (21, 3), (21, 4), (21, 5), (21, 6), (21, 7), (21, 8), (21, 9), (131, 0), (131, 1)] true s2 := by rw [es2]; exact hA1.put (by decide +kernel)
  exact K_return (kdA dt_MX8_init 8 rfl) rfl ⟨rfl, rfl, hA2⟩
theorem I8_134 {d : Nat} {σ : kS} (hd : 3 ≤ d) (hA : Ag 135 [(18, 2), (18, 3), (18, 4), (21, 0), (21, 1), (21, 2), (21, 3), (21, 4), (21, 5), (21, 6), (21, 7), (21, 8), (21, 9), (131, 1), (134, 0)] true σ) : Ni d MX8_init (1, 120) [(2, 134), (0, 120)] 135 σ 136 (fun s => Ag 136 [(18, 2), (18, 3), (18, 4), (21, 0), (21, 1), (21, 2), (21, 3), (21, 4), (21, 5), (21, 6), (21, 7), (21, 8), (21, 9), (131, 1)] true s) := by
  obtain ⟨d, rfl⟩ : ∃ e, d = e + 1 := ⟨d - 1, by omega⟩
  refine Tri_of (by decide +kernel) (Nat.le_of_ble_eq_true rfl) (fun _ _ => ?_)
  show K (d + 1) MX8_init _ (1, 120) 0 [(0, (2, 134)), (1, (0, 120))] [] 135 σ
  refine K_aload_n 0 (kdA dt_MX8_init 0 rfl) rfl rfl ?_
  refine K_oinit (kdA dt_MX8_init 1 rfl) (tb1 53 rfl rfl) (by decide) (Nat.le_of_ble_eq_true rfl) ?_
  refine K_aload_n 0 (kdA dt_MX8_init 2 rfl) rfl rfl ?_
  refine K_iload_n 1 (kdA dt_MX8_init 3 rfl) rfl rfl ?_
  refine K_iconst (kdA dt_MX8_init 4 rfl) (by decide) ?_
  refine K_bSi (as := [(0, 120), (0, 0)]) (st := [(2, 134)]) (kdA dt_MX8_init 5 rfl) cl_MJm_max lk8_9 rfl rfl (Nat.le_of_ble_eq_true rfl) (J_max (by omega) ?_)
  rw [show max (120 : Int) 0 = 120 by decide]
  refine K_newi (b2 := (0, 0)) (kdA dt_MX8_init 6 rfl) (by decide +kernel) (by decide) (by decide +kernel) ⟨by decide, by decide⟩ rfl (fun s1 es1 => ?_)
  have hA1 : Ag 136 [(18, 2), (18, 3), (18, 4), (21, 0), (21, 1), (21, 2), (21, 3), (21, 4), (21, 5), (21, 6), (21, 7), (21, 8), (21, 9), (131, 1), (134, 0)] true s1 := by rw [es1]; exact hA.new (by decide +kernel)
  refine pf8_15 rfl rfl (kdA dt_MX8_init 7 rfl) ⟨by decide, by decide, by decide +kernel⟩ (fun s2 es2 => ?_)
  have hA2 : Ag 136 [(18, 2), (18, 3), (18, 4), (21, 0), (21, 1), (21, 2), (21, 3), (21, 4), (21, 5), (21, 6), (21, 7), (21, 8), (21, 9), (131, 1)] true s2 := by rw [es2]; exact hA1.put (by decide +kernel)
  exact K_return (kdA dt_MX8_init 8 rfl) rfl ⟨rfl, rfl, hA2⟩
theorem I0_131 {d : Nat} {σ : kS} (hd : 5 ≤ d) (hA : Ag 132 [(18, 2), (18, 3), (18, 4), (21, 0), (21, 1), (21, 2), (21, 3), (21, 4), (21, 5), (21, 6), (21, 7), (21, 8), (21, 9), (131, 0), (131, 1)] true σ) : Ni d MX0_init (4, 244) [(2, 131)] 132 σ 136 (fun s => Ag 136 [(18, 2), (18, 3), (18, 4), (21, 0), (21, 1), (21, 2), (21, 3), (21, 4), (21, 5), (21, 6), (21, 7), (21, 8), (21, 9)] true s) := by
  obtain ⟨d, rfl⟩ : ∃ e, d = e + 1 := ⟨d - 1, by omega⟩
  refine Tri_of (by decide +kernel) (Nat.le_of_ble_eq_true rfl) (fun _ _ => ?_)
  show K (d + 1) MX0_init _ (4, 244) 0 [(0, (2, 131))] [] 132 σ
  refine K_aload_n 0 (kdA dt_MX0_init 0 rfl) rfl rfl ?_
  refine K_oinit (kdA dt_MX0_init 1 rfl) (tb2 58 rfl rfl) (by decide) (Nat.le_of_ble_eq_true rfl) ?_
  refine K_aload_n 0 (kdA dt_MX0_init 2 rfl) rfl rfl ?_
  refine K_new2 (C := RX8) (N := 2) (b2 := (3, 242)) (kdA dt_MX0_init 3 rfl) ⟨(tb2 59 rfl rfl), (tb1 49 rfl rfl), (tb1 3 rfl rfl)⟩ rfl uw8 ft8 (by decide +kernel) (by decide +kernel) ⟨by decide, by decide⟩ rfl (fun s1 es1 => ?_)
  have hA1 : Ag 133 [(18, 2), (18, 3), (18, 4), (21, 0), (21, 1), (21, 2), (21, 3), (21, 4), (21, 5), (21, 6), (21, 7), (21, 8), (21, 9), (131, 0), (131, 1), (132, 0)] true s1 := by rw [es1]; exact hA.new (by decide +kernel)
  refine K_dup (kdA dt_MX0_init 4 rfl) rfl ?_
  refine K_bipush (kdA dt_MX0_init 5 rfl) (by decide) ?_
  refine K_nI (b' := (1, 120)) (b2 := (2, 122)) (as := [(0, 120)]) (r := 132) (st := [(2, 132), (2, 131)]) (n1 := 134) (kdA dt_MX0_init 6 rfl) ⟨by decide, by decide⟩ cl_MX8_init lk0_11 rfl rfl (Nat.le_of_ble_eq_true rfl) (by decide) rfl (Ni.mono (I8_132 (by omega) hA1) (fun s2 hA2 => ?_))
  refine pf0_14 rfl rfl (kdA dt_MX0_init 7 rfl) ⟨by decide, by decide, by decide +kernel⟩ (fun s3 es3 => ?_)
  have hA3 : Ag 134 [(18, 2), (18, 3), (18, 4), (21, 0), (21, 1), (21, 2), (21, 3), (21, 4), (21, 5), (21, 6), (21, 7), (21, 8), (21, 9), (131, 1)] true s3 := by rw [es3]; exact hA2.put (by decide +kernel)
  refine K_aload_n 0 (kdA dt_MX0_init 8 rfl) rfl rfl ?_
  refine K_new2 (C := RX8) (N := 2) (b2 := (1, 120)) (kdA dt_MX0_init 9 rfl) ⟨(tb2 59 rfl rfl), (tb1 49 rfl rfl), (tb1 3 rfl rfl)⟩ rfl uw8 ft8 (by decide +kernel) (by decide +kernel) ⟨by decide, by decide⟩ rfl (fun s4 es4 => ?_)
  have hA4 : Ag 135 [(18, 2), (18, 3), (18, 4), (21, 0), (21, 1), (21, 2), (21, 3), (21, 4), (21, 5), (21, 6), (21, 7), (21, 8), (21, 9), (131, 1), (134, 0)] true s4 := by rw [es4]; exact hA3.new (by decide +kernel)
  refine K_dup (kdA dt_MX0_init 10 rfl) rfl ?_
  refine K_bipush (kdA dt_MX0_init 11 rfl) (by decide) ?_
  refine K_nI (b' := (1, 120)) (b2 := (0, 0)) (as := [(0, 120)]) (r := 134) (st := [(2, 134), (2, 131)]) (n1 := 136) (kdA dt_MX0_init 12 rfl) ⟨by decide, by decide⟩ cl_MX8_init lk0_11 rfl rfl (Nat.le_of_ble_eq_true rfl) (by decide) rfl (Ni.mono (I8_134 (by omega) hA4) (fun s5 hA5 => ?_))
  refine pf0_20 rfl rfl (kdA dt_MX0_init 13 rfl) ⟨by decide, by decide, by decide +kernel⟩ (fun s6 es6 => ?_)
  have hA6 : Ag 136 [(18, 2), (18, 3), (18, 4), (21, 0), (21, 1), (21, 2), (21, 3), (21, 4), (21, 5), (21, 6), (21, 7), (21, 8), (21, 9)] true s6 := by rw [es6]; exact hA5.put (by decide +kernel)
  exact K_return (kdA dt_MX0_init 14 rfl) rfl ⟨rfl, rfl, hA6⟩
theorem I8_137 {d : Nat} {σ : kS} (hd : 3 ≤ d) (hA : Ag 138 [(18, 3), (18, 4), (21, 0), (21, 1), (21, 2), (21, 3), (21, 4), (21, 5), (21, 6), (21, 7), (21, 8), (21, 9), (136, 0), (136, 1), (137, 0)] true σ) : Ni d MX8_init (1, 120) [(2, 137), (0, 120)] 138 σ 139 (fun s => Ag 139 [(18, 3), (18, 4), (21, 0), (21, 1), (21, 2), (21, 3), (21, 4), (21, 5), (21, 6), (21, 7), (21, 8), (21, 9), (136, 0), (136, 1)] true s) := by
  obtain ⟨d, rfl⟩ : ∃ e, d = e + 1 := ⟨d - 1, by omega⟩
  refine Tri_of (by decide +kernel) (Nat.le_of_ble_eq_true rfl) (fun _ _ => ?_)
  show K (d + 1) MX8_init _ (1, 120) 0 [(0, (2, 137)), (1, (0, 120))] [] 138 σ
  refine K_aload_n 0 (kdA dt_MX8_init 0 rfl) rfl rfl ?_
  refine K_oinit (kdA dt_MX8_init 1 rfl) (tb1 53 rfl rfl) (by decide) (Nat.le_of_ble_eq_true rfl) ?_
  refine K_aload_n 0 (kdA dt_MX8_init 2 rfl) rfl rfl ?_
  refine K_iload_n 1 (kdA dt_MX8_init 3 rfl) rfl rfl ?_
  refine K_iconst (kdA dt_MX8_init 4 rfl) (by decide) ?_
  refine K_bSi (as := [(0, 120), (0, 0)]) (st := [(2, 137)]) (kdA dt_MX8_init 5 rfl) cl_MJm_max lk8_9 rfl rfl (Nat.le_of_ble_eq_true rfl) (J_max (by omega) ?_)
  rw [show max (120 : Int) 0 = 120 by decide]
  refine K_newi (b2 := (0, 0)) (kdA dt_MX8_init 6 rfl) (by decide +kernel) (by decide) (by decide +kernel) ⟨by decide, by decide⟩ rfl (fun s1 es1 => ?_)
  have hA1 : Ag 139 [(18, 3), (18, 4), (21, 0), (21, 1), (21, 2), (21, 3), (21, 4), (21, 5), (21, 6), (21, 7), (21, 8), (21, 9), (136, 0), (136, 1), (137, 0)] true s1 := by rw [es1]; exact hA.new (by decide +kernel)
  refine pf8_15 rfl rfl (kdA dt_MX8_init 7 rfl) ⟨by decide, by decide, by decide +kernel⟩ (fun s2 es2 => ?_)
  have hA2 : Ag 139 [(18, 3), (18, 4), (21, 0), (21, 1), (21, 2), (21, 3), (21, 4), (21, 5), (21, 6), (21, 7), (21, 8), (21, 9), (136, 0), (136, 1)] true s2 := by rw [es2]; exact hA1.put (by decide +kernel)
  exact K_return (kdA dt_MX8_init 8 rfl) rfl ⟨rfl, rfl, hA2⟩
theorem I8_139 {d : Nat} {σ : kS} (hd : 3 ≤ d) (hA : Ag 140 [(18, 3), (18, 4), (21, 0), (21, 1), (21, 2), (21, 3), (21, 4), (21, 5), (21, 6), (21, 7), (21, 8), (21, 9), (136, 1), (139, 0)] true σ) : Ni d MX8_init (1, 120) [(2, 139), (0, 120)] 140 σ 141 (fun s => Ag 141 [(18, 3), (18, 4), (21, 0), (21, 1), (21, 2), (21, 3), (21, 4), (21, 5), (21, 6), (21, 7), (21, 8), (21, 9), (136, 1)] true s) := by
  obtain ⟨d, rfl⟩ : ∃ e, d = e + 1 := ⟨d - 1, by omega⟩
  refine Tri_of (by decide +kernel) (Nat.le_of_ble_eq_true rfl) (fun _ _ => ?_)
  show K (d + 1) MX8_init _ (1, 120) 0 [(0, (2, 139)), (1, (0, 120))] [] 140 σ
  refine K_aload_n 0 (kdA dt_MX8_init 0 rfl) rfl rfl ?_
  refine K_oinit (kdA dt_MX8_init 1 rfl) (tb1 53 rfl rfl) (by decide) (Nat.le_of_ble_eq_true rfl) ?_
  refine K_aload_n 0 (kdA dt_MX8_init 2 rfl) rfl rfl ?_
  refine K_iload_n 1 (kdA dt_MX8_init 3 rfl) rfl rfl ?_
  refine K_iconst (kdA dt_MX8_init 4 rfl) (by decide) ?_
  refine K_bSi (as := [(0, 120), (0, 0)]) (st := [(2, 139)]) (kdA dt_MX8_init 5 rfl) cl_MJm_max lk8_9 rfl rfl (Nat.le_of_ble_eq_true rfl) (J_max (by omega) ?_)
  rw [show max (120 : Int) 0 = 120 by decide]
  refine K_newi (b2 := (0, 0)) (kdA dt_MX8_init 6 rfl) (by decide +kernel) (by decide) (by decide +kernel) ⟨by decide, by decide⟩ rfl (fun s1 es1 => ?_)
  have hA1 : Ag 141 [(18, 3), (18, 4), (21, 0), (21, 1), (21, 2), (21, 3), (21, 4), (21, 5), (21, 6), (21, 7), (21, 8), (21, 9), (136, 1), (139, 0)] true s1 := by rw [es1]; exact hA.new (by decide +kernel)
  refine pf8_15 rfl rfl (kdA dt_MX8_init 7 rfl) ⟨by decide, by decide, by decide +kernel⟩ (fun s2 es2 => ?_)
  have hA2 : Ag 141 [(18, 3), (18, 4), (21, 0), (21, 1), (21, 2), (21, 3), (21, 4), (21, 5), (21, 6), (21, 7), (21, 8), (21, 9), (136, 1)] true s2 := by rw [es2]; exact hA1.put (by decide +kernel)
  exact K_return (kdA dt_MX8_init 8 rfl) rfl ⟨rfl, rfl, hA2⟩
theorem I0_136 {d : Nat} {σ : kS} (hd : 5 ≤ d) (hA : Ag 137 [(18, 3), (18, 4), (21, 0), (21, 1), (21, 2), (21, 3), (21, 4), (21, 5), (21, 6), (21, 7), (21, 8), (21, 9), (136, 0), (136, 1)] true σ) : Ni d MX0_init (4, 244) [(2, 136)] 137 σ 141 (fun s => Ag 141 [(18, 3), (18, 4), (21, 0), (21, 1), (21, 2), (21, 3), (21, 4), (21, 5), (21, 6), (21, 7), (21, 8), (21, 9)] true s) := by
  obtain ⟨d, rfl⟩ : ∃ e, d = e + 1 := ⟨d - 1, by omega⟩
  refine Tri_of (by decide +kernel) (Nat.le_of_ble_eq_true rfl) (fun _ _ => ?_)
  show K (d + 1) MX0_init _ (4, 244) 0 [(0, (2, 136))] [] 137 σ
  refine K_aload_n 0 (kdA dt_MX0_init 0 rfl) rfl rfl ?_
  refine K_oinit (kdA dt_MX0_init 1 rfl) (tb2 58 rfl rfl) (by decide) (Nat.le_of_ble_eq_true rfl) ?_
  refine K_aload_n 0 (kdA dt_MX0_init 2 rfl) rfl rfl ?_
  refine K_new2 (C := RX8) (N := 2) (b2 := (3, 242)) (kdA dt_MX0_init 3 rfl) ⟨(tb2 59 rfl rfl), (tb1 49 rfl rfl), (tb1 3 rfl rfl)⟩ rfl uw8 ft8 (by decide +kernel) (by decide +kernel) ⟨by decide, by decide⟩ rfl (fun s1 es1 => ?_)
  have hA1 : Ag 138 [(18, 3), (18, 4), (21, 0), (21, 1), (21, 2), (21, 3), (21, 4), (21, 5), (21, 6), (21, 7), (21, 8), (21, 9), (136, 0), (136, 1), (137, 0)] true s1 := by rw [es1]; exact hA.new (by decide +kernel)
  refine K_dup (kdA dt_MX0_init 4 rfl) rfl ?_
  refine K_bipush (kdA dt_MX0_init 5 rfl) (by decide) ?_
  refine K_nI (b' := (1, 120)) (b2 := (2, 122)) (as := [(0, 120)]) (r := 137) (st := [(2, 137), (2, 136)]) (n1 := 139) (kdA dt_MX0_init 6 rfl) ⟨by decide, by decide⟩ cl_MX8_init lk0_11 rfl rfl (Nat.le_of_ble_eq_true rfl) (by decide) rfl (Ni.mono (I8_137 (by omega) hA1) (fun s2 hA2 => ?_))
  refine pf0_14 rfl rfl (kdA dt_MX0_init 7 rfl) ⟨by decide, by decide, by decide +kernel⟩ (fun s3 es3 => ?_)
  have hA3 : Ag 139 [(18, 3), (18, 4), (21, 0), (21, 1), (21, 2), (21, 3), (21, 4), (21, 5), (21, 6), (21, 7), (21, 8), (21, 9), (136, 1)] true s3 := by rw [es3]; exact hA2.put (by decide +kernel)
  refine K_aload_n 0 (kdA dt_MX0_init 8 rfl) rfl rfl ?_
  refine K_new2 (C := RX8) (N := 2) (b2 := (1, 120)) (kdA dt_MX0_init 9 rfl) ⟨(tb2 59 rfl rfl), (tb1 49 rfl rfl), (tb1 3 rfl rfl)⟩ rfl uw8 ft8 (by decide +kernel) (by decide +kernel) ⟨by decide, by decide⟩ rfl (fun s4 es4 => ?_)
  have hA4 : Ag 140 [(18, 3), (18, 4), (21, 0), (21, 1), (21, 2), (21, 3), (21, 4), (21, 5), (21, 6), (21, 7), (21, 8), (21, 9), (136, 1), (139, 0)] true s4 := by rw [es4]; exact hA3.new (by decide +kernel)
  refine K_dup (kdA dt_MX0_init 10 rfl) rfl ?_
  refine K_bipush (kdA dt_MX0_init 11 rfl) (by decide) ?_
  refine K_nI (b' := (1, 120)) (b2 := (0, 0)) (as := [(0, 120)]) (r := 139) (st := [(2, 139), (2, 136)]) (n1 := 141) (kdA dt_MX0_init 12 rfl) ⟨by decide, by decide⟩ cl_MX8_init lk0_11 rfl rfl (Nat.le_of_ble_eq_true rfl) (by decide) rfl (Ni.mono (I8_139 (by omega) hA4) (fun s5 hA5 => ?_))
  refine pf0_20 rfl rfl (kdA dt_MX0_init 13 rfl) ⟨by decide, by decide, by decide +kernel⟩ (fun s6 es6 => ?_)
  have hA6 : Ag 141 [(18, 3), (18, 4), (21, 0), (21, 1), (21, 2), (21, 3), (21, 4), (21, 5), (21, 6), (21, 7), (21, 8), (21, 9)] true s6 := by rw [es6]; exact hA5.put (by decide +kernel)
  exact K_return (kdA dt_MX0_init 14 rfl) rfl ⟨rfl, rfl, hA6⟩
theorem I8_142 {d : Nat} {σ : kS} (hd : 3 ≤ d) (hA : Ag 143 [(18, 4), (21, 0), (21, 1), (21, 2), (21, 3), (21, 4), (21, 5), (21, 6), (21, 7), (21, 8), (21, 9), (141, 0), (141, 1), (142, 0)] true σ) : Ni d MX8_init (1, 120) [(2, 142), (0, 120)] 143 σ 144 (fun s => Ag 144 [(18, 4), (21, 0), (21, 1), (21, 2), (21, 3), (21, 4), (21, 5), (21, 6), (21, 7), (21, 8), (21, 9), (141, 0), (141, 1)] true s) := by
  obtain ⟨d, rfl⟩ : ∃ e, d = e + 1 := ⟨d - 1, by omega⟩
  refine Tri_of (by decide +kernel) (Nat.le_of_ble_eq_true rfl) (fun _ _ => ?_)
  show K (d + 1) MX8_init _ (1, 120) 0 [(0, (2, 142)), (1, (0, 120))] [] 143 σ
  refine K_aload_n 0 (kdA dt_MX8_init 0 rfl) rfl rfl ?_
  refine K_oinit (kdA dt_MX8_init 1 rfl) (tb1 53 rfl rfl) (by decide) (Nat.le_of_ble_eq_true rfl) ?_
  refine K_aload_n 0 (kdA dt_MX8_init 2 rfl) rfl rfl ?_
  refine K_iload_n 1 (kdA dt_MX8_init 3 rfl) rfl rfl ?_
  refine K_iconst (kdA dt_MX8_init 4 rfl) (by decide) ?_
  refine K_bSi (as := [(0, 120), (0, 0)]) (st := [(2, 142)]) (kdA dt_MX8_init 5 rfl) cl_MJm_max lk8_9 rfl rfl (Nat.le_of_ble_eq_true rfl) (J_max (by omega) ?_)
  rw [show max (120 : Int) 0 = 120 by decide]
  refine K_newi (b2 := (0, 0)) (kdA dt_MX8_init 6 rfl) (by decide +kernel) (by decide) (by decide +kernel) ⟨by decide, by decide⟩ rfl (fun s1 es1 => ?_)
  have hA1 : Ag 144 [(18, 4), (21, 0), (21, 1), (21, 2), (21, 3), (21, 4), (21, 5), (21, 6), (21, 7), (21, 8), (21, 9), (141, 0), (141, 1), (142, 0)] true s1 := by rw [es1]; exact hA.new (by decide +kernel)
  refine pf8_15 rfl rfl (kdA dt_MX8_init 7 rfl) ⟨by decide, by decide, by decide +kernel⟩ (fun s2 es2 => ?_)
  have hA2 : Ag 144 [(18, 4), (21, 0), (21, 1), (21, 2), (21, 3), (21, 4), (21, 5), (21, 6), (21, 7), (21, 8), (21, 9), (141, 0), (141, 1)] true s2 := by rw [es2]; exact hA1.put (by decide +kernel)
  exact K_return (kdA dt_MX8_init 8 rfl) rfl ⟨rfl, rfl, hA2⟩
theorem I8_144 {d : Nat} {σ : kS} (hd : 3 ≤ d) (hA : Ag 145 [(18, 4), (21, 0), (21, 1), (21, 2), (21, 3), (21, 4), (21, 5), (21, 6), (21, 7), (21, 8), (21, 9), (141, 1), (144, 0)] true σ) : Ni d MX8_init (1, 120) [(2, 144), (0, 120)] 145 σ 146 (fun s => Ag 146 [(18, 4), (21, 0), (21, 1), (21, 2), (21, 3), (21, 4), (21, 5), (21, 6), (21, 7), (21, 8), (21, 9), (141, 1)] true s) := by
  obtain ⟨d, rfl⟩ : ∃ e, d = e + 1 := ⟨d - 1, by omega⟩
  refine Tri_of (by decide +kernel) (Nat.le_of_ble_eq_true rfl) (fun _ _ => ?_)
  show K (d + 1) MX8_init _ (1, 120) 0 [(0, (2, 144)), (1, (0, 120))] [] 145 σ
  refine K_aload_n 0 (kdA dt_MX8_init 0 rfl) rfl rfl ?_
  refine K_oinit (kdA dt_MX8_init 1 rfl) (tb1 53 rfl rfl) (by decide) (Nat.le_of_ble_eq_true rfl) ?_
  refine K_aload_n 0 (kdA dt_MX8_init 2 rfl) rfl rfl ?_
  refine K_iload_n 1 (kdA dt_MX8_init 3 rfl) rfl rfl ?_
  refine K_iconst (kdA dt_MX8_init 4 rfl) (by decide) ?_
  refine K_bSi (as := [(0, 120), (0, 0)]) (st := [(2, 144)]) (kdA dt_MX8_init 5 rfl) cl_MJm_max lk8_9 rfl rfl (Nat.le_of_ble_eq_true rfl) (J_max (by omega) ?_)
  rw [show max (120 : Int) 0 = 120 by decide]
  refine K_newi (b2 := (0, 0)) (kdA dt_MX8_init 6 rfl) (by decide +kernel) (by decide) (by decide +kernel) ⟨by decide, by decide⟩ rfl (fun s1 es1 => ?_)
  have hA1 : Ag 146 [(18, 4), (21, 0), (21, 1), (21, 2), (21, 3), (21, 4), (21, 5), (21, 6), (21, 7), (21, 8), (21, 9), (141, 1), (144, 0)] true s1 := by rw [es1]; exact hA.new (by decide +kernel)
  refine pf8_15 rfl rfl (kdA dt_MX8_init 7 rfl) ⟨by decide, by decide, by decide +kernel⟩ (fun s2 es2 => ?_)
  have hA2 : Ag 146 [(18, 4), (21, 0), (21, 1), (21, 2), (21, 3), (21, 4), (21, 5), (21, 6), (21, 7), (21, 8), (21, 9), (141, 1)] true s2 := by rw [es2]; exact hA1.put (by decide +kernel)
  exact K_return (kdA dt_MX8_init 8 rfl) rfl ⟨rfl, rfl, hA2⟩
theorem I0_141 {d : Nat} {σ : kS} (hd : 5 ≤ d) (hA : Ag 142 [(18, 4), (21, 0), (21, 1), (21, 2), (21, 3), (21, 4), (21, 5), (21, 6), (21, 7), (21, 8), (21, 9), (141, 0), (141, 1)] true σ) : Ni d MX0_init (4, 244) [(2, 141)] 142 σ 146 (fun s => Ag 146 [(18, 4), (21, 0), (21, 1), (21, 2), (21, 3), (21, 4), (21, 5), (21, 6), (21, 7), (21, 8), (21, 9)] true s) := by
  obtain ⟨d, rfl⟩ : ∃ e, d = e + 1 := ⟨d - 1, by omega⟩
  refine Tri_of (by decide +kernel) (Nat.le_of_ble_eq_true rfl) (fun _ _ => ?_)
  show K (d + 1) MX0_init _ (4, 244) 0 [(0, (2, 141))] [] 142 σ
  refine K_aload_n 0 (kdA dt_MX0_init 0 rfl) rfl rfl ?_
  refine K_oinit (kdA dt_MX0_init 1 rfl) (tb2 58 rfl rfl) (by decide) (Nat.le_of_ble_eq_true rfl) ?_
  refine K_aload_n 0 (kdA dt_MX0_init 2 rfl) rfl rfl ?_
  refine K_new2 (C := RX8) (N := 2) (b2 := (3, 242)) (kdA dt_MX0_init 3 rfl) ⟨(tb2 59 rfl rfl), (tb1 49 rfl rfl), (tb1 3 rfl rfl)⟩ rfl uw8 ft8 (by decide +kernel) (by decide +kernel) ⟨by decide, by decide⟩ rfl (fun s1 es1 => ?_)
  have hA1 : Ag 143 [(18, 4), (21, 0), (21, 1), (21, 2), (21, 3), (21, 4), (21, 5), (21, 6), (21, 7), (21, 8), (21, 9), (141, 0), (141, 1), (142, 0)] true s1 := by rw [es1]; exact hA.new (by decide +kernel)
  refine K_dup (kdA dt_MX0_init 4 rfl) rfl ?_
  refine K_bipush (kdA dt_MX0_init 5 rfl) (by decide) ?_
  refine K_nI (b' := (1, 120)) (b2 := (2, 122)) (as := [(0, 120)]) (r := 142) (st := [(2, 142), (2, 141)]) (n1 := 144) (kdA dt_MX0_init 6 rfl) ⟨by decide, by decide⟩ cl_MX8_init lk0_11 rfl rfl (Nat.le_of_ble_eq_true rfl) (by decide) rfl (Ni.mono (I8_142 (by omega) hA1) (fun s2 hA2 => ?_))
  refine pf0_14 rfl rfl (kdA dt_MX0_init 7 rfl) ⟨by decide, by decide, by decide +kernel⟩ (fun s3 es3 => ?_)
  have hA3 : Ag 144 [(18, 4), (21, 0), (21, 1), (21, 2), (21, 3), (21, 4), (21, 5), (21, 6), (21, 7), (21, 8), (21, 9), (141, 1)] true s3 := by rw [es3]; exact hA2.put (by decide +kernel)
  refine K_aload_n 0 (kdA dt_MX0_init 8 rfl) rfl rfl ?_
  refine K_new2 (C := RX8) (N := 2) (b2 := (1, 120)) (kdA dt_MX0_init 9 rfl) ⟨(tb2 59 rfl rfl), (tb1 49 rfl rfl), (tb1 3 rfl rfl)⟩ rfl uw8 ft8 (by decide +kernel) (by decide +kernel) ⟨by decide, by decide⟩ rfl (fun s4 es4 => ?_)
  have hA4 : Ag 145 [(18, 4), (21, 0), (21, 1), (21, 2), (21, 3), (21, 4), (21, 5), (21, 6), (21, 7), (21, 8), (21, 9), (141, 1), (144, 0)] true s4 := by rw [es4]; exact hA3.new (by decide +kernel)
  refine K_dup (kdA dt_MX0_init 10 rfl) rfl ?_
  refine K_bipush (kdA dt_MX0_init 11 rfl) (by decide) ?_
  refine K_nI (b' := (1, 120)) (b2 := (0, 0)) (as := [(0, 120)]) (r := 144) (st := [(2, 144), (2, 141)]) (n1 := 146) (kdA dt_MX0_init 12 rfl) ⟨by decide, by decide⟩ cl_MX8_init lk0_11 rfl rfl (Nat.le_of_ble_eq_true rfl) (by decide) rfl (Ni.mono (I8_144 (by omega) hA4) (fun s5 hA5 => ?_))
  refine pf0_20 rfl rfl (kdA dt_MX0_init 13 rfl) ⟨by decide, by decide, by decide +kernel⟩ (fun s6 es6 => ?_)
  have hA6 : Ag 146 [(18, 4), (21, 0), (21, 1), (21, 2), (21, 3), (21, 4), (21, 5), (21, 6), (21, 7), (21, 8), (21, 9)] true s6 := by rw [es6]; exact hA5.put (by decide +kernel)
  exact K_return (kdA dt_MX0_init 14 rfl) rfl ⟨rfl, rfl, hA6⟩
theorem I8_146 {d : Nat} {σ : kS} (hd : 3 ≤ d) (hA : Ag 147 [(21, 0), (21, 1), (21, 2), (21, 3), (21, 4), (21, 5), (21, 6), (21, 7), (21, 8), (21, 9), (146, 0)] true σ) : Ni d MX8_init (1, 128) [(2, 146), (0, 128)] 147 σ 148 (fun s => Ag 148 [(21, 0), (21, 1), (21, 2), (21, 3), (21, 4), (21, 5), (21, 6), (21, 7), (21, 8), (21, 9)] true s) := by
  obtain ⟨d, rfl⟩ : ∃ e, d = e + 1 := ⟨d - 1, by omega⟩
  refine Tri_of (by decide +kernel) (Nat.le_of_ble_eq_true rfl) (fun _ _ => ?_)
  show K (d + 1) MX8_init _ (1, 128) 0 [(0, (2, 146)), (1, (0, 128))] [] 147 σ
  refine K_aload_n 0 (kdA dt_MX8_init 0 rfl) rfl rfl ?_
  refine K_oinit (kdA dt_MX8_init 1 rfl) (tb1 53 rfl rfl) (by decide) (Nat.le_of_ble_eq_true rfl) ?_
  refine K_aload_n 0 (kdA dt_MX8_init 2 rfl) rfl rfl ?_
  refine K_iload_n 1 (kdA dt_MX8_init 3 rfl) rfl rfl ?_
  refine K_iconst (kdA dt_MX8_init 4 rfl) (by decide) ?_
  refine K_bSi (as := [(0, 128), (0, 0)]) (st := [(2, 146)]) (kdA dt_MX8_init 5 rfl) cl_MJm_max lk8_9 rfl rfl (Nat.le_of_ble_eq_true rfl) (J_max (by omega) ?_)
  rw [show max (128 : Int) 0 = 128 by decide]
  refine K_newi (b2 := (0, 0)) (kdA dt_MX8_init 6 rfl) (by decide +kernel) (by decide) (by decide +kernel) ⟨by decide, by decide⟩ rfl (fun s1 es1 => ?_)
  have hA1 : Ag 148 [(21, 0), (21, 1), (21, 2), (21, 3), (21, 4), (21, 5), (21, 6), (21, 7), (21, 8), (21, 9), (146, 0)] true s1 := by rw [es1]; exact hA.new (by decide +kernel)
  refine pf8_15 rfl rfl (kdA dt_MX8_init 7 rfl) ⟨by decide, by decide, by decide +kernel⟩ (fun s2 es2 => ?_)
  have hA2 : Ag 148 [(21, 0), (21, 1), (21, 2), (21, 3), (21, 4), (21, 5), (21, 6), (21, 7), (21, 8), (21, 9)] true s2 := by rw [es2]; exact hA1.put (by decide +kernel)
  exact K_return (kdA dt_MX8_init 8 rfl) rfl ⟨rfl, rfl, hA2⟩
theorem I8_148 {d : Nat} {σ : kS} (hd : 3 ≤ d) (hA : Ag 149 [(21, 1), (21, 2), (21, 3), (21, 4), (21, 5), (21, 6), (21, 7), (21, 8), (21, 9), (148, 0)] true σ) : Ni d MX8_init (1, 128) [(2, 148), (0, 128)] 149 σ 150 (fun s => Ag 150 [(21, 1), (21, 2), (21, 3), (21, 4), (21, 5), (21, 6), (21, 7), (21, 8), (21, 9)] true s) := by
  obtain ⟨d, rfl⟩ : ∃ e, d = e + 1 := ⟨d - 1, by omega⟩
  refine Tri_of (by decide +kernel) (Nat.le_of_ble_eq_true rfl) (fun _ _ => ?_)
  show K (d + 1) MX8_init _ (1, 128) 0 [(0, (2, 148)), (1, (0, 128))] [] 149 σ
  refine K_aload_n 0 (kdA dt_MX8_init 0 rfl) rfl rfl ?_
  refine K_oinit (kdA dt_MX8_init 1 rfl) (tb1 53 rfl rfl) (by decide) (Nat.le_of_ble_eq_true rfl) ?_
  refine K_aload_n 0 (kdA dt_MX8_init 2 rfl) rfl rfl ?_
  refine K_iload_n 1 (kdA dt_MX8_init 3 rfl) rfl rfl ?_
  refine K_iconst (kdA dt_MX8_init 4 rfl) (by decide) ?_
  refine K_bSi (as := [(0, 128), (0, 0)]) (st := [(2, 148)]) (kdA dt_MX8_init 5 rfl) cl_MJm_max lk8_9 rfl rfl (Nat.le_of_ble_eq_true rfl) (J_max (by omega) ?_)
  rw [show max (128 : Int) 0 = 128 by decide]
  refine K_newi (b2 := (0, 0)) (kdA dt_MX8_init 6 rfl) (by decide +kernel) (by decide) (by decide +kernel) ⟨by decide, by decide⟩ rfl (fun s1 es1 => ?_)
  have hA1 : Ag 150 [(21, 1), (21, 2), (21, 3), (21, 4), (21, 5), (21, 6), (21, 7), (21, 8), (21, 9), (148, 0)] true s1 := by rw [es1]; exact hA.new (by decide +kernel)
  refine pf8_15 rfl rfl (kdA dt_MX8_init 7 rfl) ⟨by decide, by decide, by decide +kernel⟩ (fun s2 es2 => ?_)
  have hA2 : Ag 150 [(21, 1), (21, 2), (21, 3), (21, 4), (21, 5), (21, 6), (21, 7), (21, 8), (21, 9)] true s2 := by rw [es2]; exact hA1.put (by decide +kernel)
  exact K_return (kdA dt_MX8_init 8 rfl) rfl ⟨rfl, rfl, hA2⟩
theorem I8_150 {d : Nat} {σ : kS} (hd : 3 ≤ d) (hA : Ag 151 [(21, 2), (21, 3), (21, 4), (21, 5), (21, 6), (21, 7), (21, 8), (21, 9), (150, 0)] true σ) : Ni d MX8_init (1, 128) [(2, 150), (0, 128)] 151 σ 152 (fun s => Ag 152 [(21, 2), (21, 3), (21, 4), (21, 5), (21, 6), (21, 7), (21, 8), (21, 9)] true s) := by
  obtain ⟨d, rfl⟩ : ∃ e, d = e + 1 := ⟨d - 1, by omega⟩
  refine Tri_of (by decide +kernel) (Nat.le_of_ble_eq_true rfl) (fun _ _ => ?_)
  show K (d + 1) MX8_init _ (1, 128) 0 [(0, (2, 150)), (1, (0, 128))] [] 151 σ
  refine K_aload_n 0 (kdA dt_MX8_init 0 rfl) rfl rfl ?_
  refine K_oinit (kdA dt_MX8_init 1 rfl) (tb1 53 rfl rfl) (by decide) (Nat.le_of_ble_eq_true rfl) ?_
  refine K_aload_n 0 (kdA dt_MX8_init 2 rfl) rfl rfl ?_
  refine K_iload_n 1 (kdA dt_MX8_init 3 rfl) rfl rfl ?_
  refine K_iconst (kdA dt_MX8_init 4 rfl) (by decide) ?_
  refine K_bSi (as := [(0, 128), (0, 0)]) (st := [(2, 150)]) (kdA dt_MX8_init 5 rfl) cl_MJm_max lk8_9 rfl rfl (Nat.le_of_ble_eq_true rfl) (J_max (by omega) ?_)
  rw [show max (128 : Int) 0 = 128 by decide]
  refine K_newi (b2 := (0, 0)) (kdA dt_MX8_init 6 rfl) (by decide +kernel) (by decide) (by decide +kernel) ⟨by decide, by decide⟩ rfl (fun s1 es1 => ?_)
  have hA1 : Ag 152 [(21, 2), (21, 3), (21, 4), (21, 5), (21, 6), (21, 7), (21, 8), (21, 9), (150, 0)] true s1 := by rw [es1]; exact hA.new (by decide +kernel)
  refine pf8_15 rfl rfl (kdA dt_MX8_init 7 rfl) ⟨by decide, by decide, by decide +kernel⟩ (fun s2 es2 => ?_)
  have hA2 : Ag 152 [(21, 2), (21, 3), (21, 4), (21, 5), (21, 6), (21, 7), (21, 8), (21, 9)] true s2 := by rw [es2]; exact hA1.put (by decide +kernel)
  exact K_return (kdA dt_MX8_init 8 rfl) rfl ⟨rfl, rfl, hA2⟩
theorem I8_152 {d : Nat} {σ : kS} (hd : 3 ≤ d) (hA : Ag 153 [(21, 3), (21, 4), (21, 5), (21, 6), (21, 7), (21, 8), (21, 9), (152, 0)] true σ) : Ni d MX8_init (1, 128) [(2, 152), (0, 128)] 153 σ 154 (fun s => Ag 154 [(21, 3), (21, 4), (21, 5), (21, 6), (21, 7), (21, 8), (21, 9)] true s) := by
  obtain ⟨d, rfl⟩ : ∃ e, d = e + 1 := ⟨d - 1, by omega⟩
  refine Tri_of (by decide +kernel) (Nat.le_of_ble_eq_true rfl) (fun _ _ => ?_)
  show K (d + 1) MX8_init _ (1, 128) 0 [(0, (2, 152)), (1, (0, 128))] [] 153 σ
  refine K_aload_n 0 (kdA dt_MX8_init 0 rfl) rfl rfl ?_
  refine K_oinit (kdA dt_MX8_init 1 rfl) (tb1 53 rfl rfl) (by decide) (Nat.le_of_ble_eq_true rfl) ?_
  refine K_aload_n 0 (kdA dt_MX8_init 2 rfl) rfl rfl ?_
  refine K_iload_n 1 (kdA dt_MX8_init 3 rfl) rfl rfl ?_
  refine K_iconst (kdA dt_MX8_init 4 rfl) (by decide) ?_
  refine K_bSi (as := [(0, 128), (0, 0)]) (st := [(2, 152)]) (kdA dt_MX8_init 5 rfl) cl_MJm_max lk8_9 rfl rfl (Nat.le_of_ble_eq_true rfl) (J_max (by omega) ?_)
  rw [show max (128 : Int) 0 = 128 by decide]
  refine K_newi (b2 := (0, 0)) (kdA dt_MX8_init 6 rfl) (by decide +kernel) (by decide) (by decide +kernel) ⟨by decide, by decide⟩ rfl (fun s1 es1 => ?_)
  have hA1 : Ag 154 [(21, 3), (21, 4), (21, 5), (21, 6), (21, 7), (21, 8), (21, 9), (152, 0)] true s1 := by rw [es1]; exact hA.new (by decide +kernel)
  refine pf8_15 rfl rfl (kdA dt_MX8_init 7 rfl) ⟨by decide, by decide, by decide +kernel⟩ (fun s2 es2 => ?_)
  have hA2 : Ag 154 [(21, 3), (21, 4), (21, 5), (21, 6), (21, 7), (21, 8), (21, 9)] true s2 := by rw [es2]; exact hA1.put (by decide +kernel)
  exact K_return (kdA dt_MX8_init 8 rfl) rfl ⟨rfl, rfl, hA2⟩
theorem I8_154 {d : Nat} {σ : kS} (hd : 3 ≤ d) (hA : Ag 155 [(21, 4), (21, 5), (21, 6), (21, 7), (21, 8), (21, 9), (154, 0)] true σ) : Ni d MX8_init (1, 128) [(2, 154), (0, 128)] 155 σ 156 (fun s => Ag 156 [(21, 4), (21, 5), (21, 6), (21, 7), (21, 8), (21, 9)] true s) := by
  obtain ⟨d, rfl⟩ : ∃ e, d = e + 1 := ⟨d - 1, by omega⟩
  refine Tri_of (by decide +kernel) (Nat.le_of_ble_eq_true rfl) (fun _ _ => ?_)
  show K (d + 1) MX8_init _ (1, 128) 0 [(0, (2, 154)), (1, (0, 128))] [] 155 σ
  refine K_aload_n 0 (kdA dt_MX8_init 0 rfl) rfl rfl ?_
  refine K_oinit (kdA dt_MX8_init 1 rfl) (tb1 53 rfl rfl) (by decide) (Nat.le_of_ble_eq_true rfl) ?_
  refine K_aload_n 0 (kdA dt_MX8_init 2 rfl) rfl rfl ?_
  refine K_iload_n 1 (kdA dt_MX8_init 3 rfl) rfl rfl ?_
  refine K_iconst (kdA dt_MX8_init 4 rfl) (by decide) ?_
  refine K_bSi (as := [(0, 128), (0, 0)]) (st := [(2, 154)]) (kdA dt_MX8_init 5 rfl) cl_MJm_max lk8_9 rfl rfl (Nat.le_of_ble_eq_true rfl) (J_max (by omega) ?_)
  rw [show max (128 : Int) 0 = 128 by decide]
  refine K_newi (b2 := (0, 0)) (kdA dt_MX8_init 6 rfl) (by decide +kernel) (by decide) (by decide +kernel) ⟨by decide, by decide⟩ rfl (fun s1 es1 => ?_)
  have hA1 : Ag 156 [(21, 4), (21, 5), (21, 6), (21, 7), (21, 8), (21, 9), (154, 0)] true s1 := by rw [es1]; exact hA.new (by decide +kernel)
  refine pf8_15 rfl rfl (kdA dt_MX8_init 7 rfl) ⟨by decide, by decide, by decide +kernel⟩ (fun s2 es2 => ?_)
  have hA2 : Ag 156 [(21, 4), (21, 5), (21, 6), (21, 7), (21, 8), (21, 9)] true s2 := by rw [es2]; exact hA1.put (by decide +kernel)
  exact K_return (kdA dt_MX8_init 8 rfl) rfl ⟨rfl, rfl, hA2⟩
theorem I8_156 {d : Nat} {σ : kS} (hd : 3 ≤ d) (hA : Ag 157 [(21, 5), (21, 6), (21, 7), (21, 8), (21, 9), (156, 0)] true σ) : Ni d MX8_init (1, 128) [(2, 156), (0, 128)] 157 σ 158 (fun s => Ag 158 [(21, 5), (21, 6), (21, 7), (21, 8), (21, 9)] true s) := by
  obtain ⟨d, rfl⟩ : ∃ e, d = e + 1 := ⟨d - 1, by omega⟩
  refine Tri_of (by decide +kernel) (Nat.le_of_ble_eq_true rfl) (fun _ _ => ?_)
  show K (d + 1) MX8_init _ (1, 128) 0 [(0, (2, 156)), (1, (0, 128))] [] 157 σ
  refine K_aload_n 0 (kdA dt_MX8_init 0 rfl) rfl rfl ?_
  refine K_oinit (kdA dt_MX8_init 1 rfl) (tb1 53 rfl rfl) (by decide) (Nat.le_of_ble_eq_true rfl) ?_
  refine K_aload_n 0 (kdA dt_MX8_init 2 rfl) rfl rfl ?_
  refine K_iload_n 1 (kdA dt_MX8_init 3 rfl) rfl rfl ?_
  refine K_iconst (kdA dt_MX8_init 4 rfl) (by decide) ?_
  refine K_bSi (as := [(0, 128), (0, 0)]) (st := [(2, 156)]) (kdA dt_MX8_init 5 rfl) cl_MJm_max lk8_9 rfl rfl (Nat.le_of_ble_eq_true rfl) (J_max (by omega) ?_)
  rw [show max (128 : Int) 0 = 128 by decide]
  refine K_newi (b2 := (0, 0)) (kdA dt_MX8_init 6 rfl) (by decide +kernel) (by decide) (by decide +kernel) ⟨by decide, by decide⟩ rfl (fun s1 es1 => ?_)
  have hA1 : Ag 158 [(21, 5), (21, 6), (21, 7), (21, 8), (21, 9), (156, 0)] true s1 := by rw [es1]; exact hA.new (by decide +kernel)
  refine pf8_15 rfl rfl (kdA dt_MX8_init 7 rfl) ⟨by decide, by decide, by decide +kernel⟩ (fun s2 es2 => ?_)
  have hA2 : Ag 158 [(21, 5), (21, 6), (21, 7), (21, 8), (21, 9)] true s2 := by rw [es2]; exact hA1.put (by decide +kernel)
  exact K_return (kdA dt_MX8_init 8 rfl) rfl ⟨rfl, rfl, hA2⟩
theorem I8_158 {d : Nat} {σ : kS} (hd : 3 ≤ d) (hA : Ag 159 [(21, 6), (21, 7), (21, 8), (21, 9), (158, 0)] true σ) : Ni d MX8_init (1, 128) [(2, 158), (0, 128)] 159 σ 160 (fun s => Ag 160 [(21, 6), (21, 7), (21, 8), (21, 9)] true s) := by
  obtain ⟨d, rfl⟩ : ∃ e, d = e + 1 := ⟨d - 1, by omega⟩
  refine Tri_of (by decide +kernel) (Nat.le_of_ble_eq_true rfl) (fun _ _ => ?_)
  show K (d + 1) MX8_init _ (1, 128) 0 [(0, (2, 158)), (1, (0, 128))] [] 159 σ
  refine K_aload_n 0 (kdA dt_MX8_init 0 rfl) rfl rfl ?_
  refine K_oinit (kdA dt_MX8_init 1 rfl) (tb1 53 rfl rfl) (by decide) (Nat.le_of_ble_eq_true rfl) ?_
  refine K_aload_n 0 (kdA dt_MX8_init 2 rfl) rfl rfl ?_
  refine K_iload_n 1 (kdA dt_MX8_init 3 rfl) rfl rfl ?_
  refine K_iconst (kdA dt_MX8_init 4 rfl) (by decide) ?_
  refine K_bSi (as := [(0, 128), (0, 0)]) (st := [(2, 158)]) (kdA dt_MX8_init 5 rfl) cl_MJm_max lk8_9 rfl rfl (Nat.le_of_ble_eq_true rfl) (J_max (by omega) ?_)
  rw [show max (128 : Int) 0 = 128 by decide]
  refine K_newi (b2 := (0, 0)) (kdA dt_MX8_init 6 rfl) (by decide +kernel) (by decide) (by decide +kernel) ⟨by decide, by decide⟩ rfl (fun s1 es1 => ?_)
  have hA1 : Ag 160 [(21, 6), (21, 7), (21, 8), (21, 9), (158, 0)] true s1 := by rw [es1]; exact hA.new (by decide +kernel)
  refine pf8_15 rfl rfl (kdA dt_MX8_init 7 rfl) ⟨by decide, by decide, by decide +kernel⟩ (fun s2 es2 => ?_)
  have hA2 : Ag 160 [(21, 6), (21, 7), (21, 8), (21, 9)] true s2 := by rw [es2]; exact hA1.put (by decide +kernel)
  exact K_return (kdA dt_MX8_init 8 rfl) rfl ⟨rfl, rfl, hA2⟩
theorem I8_160 {d : Nat} {σ : kS} (hd : 3 ≤ d) (hA : Ag 161 [(21, 7), (21, 8), (21, 9), (160, 0)] true σ) : Ni d MX8_init (1, 128) [(2, 160), (0, 128)] 161 σ 162 (fun s => Ag 162 [(21, 7), (21, 8), (21, 9)] true s) := by
  obtain ⟨d, rfl⟩ : ∃ e, d = e + 1 := ⟨d - 1, by omega⟩
  refine Tri_of (by decide +kernel) (Nat.le_of_ble_eq_true rfl) (fun _ _ => ?_)
  show K (d + 1) MX8_init _ (1, 128) 0 [(0, (2, 160)), (1, (0, 128))] [] 161 σ
  refine K_aload_n 0 (kdA dt_MX8_init 0 rfl) rfl rfl ?_
  refine K_oinit (kdA dt_MX8_init 1 rfl) (tb1 53 rfl rfl) (by decide) (Nat.le_of_ble_eq_true rfl) ?_
  refine K_aload_n 0 (kdA dt_MX8_init 2 rfl) rfl rfl ?_
  refine K_iload_n 1 (kdA dt_MX8_init 3 rfl) rfl rfl ?_
  refine K_iconst (kdA dt_MX8_init 4 rfl) (by decide) ?_
  refine K_bSi (as := [(0, 128), (0, 0)]) (st := [(2, 160)]) (kdA dt_MX8_init 5 rfl) cl_MJm_max lk8_9 rfl rfl (Nat.le_of_ble_eq_true rfl) (J_max (by omega) ?_)
  rw [show max (128 : Int) 0 = 128 by decide]
  refine K_newi (b2 := (0, 0)) (kdA dt_MX8_init 6 rfl) (by decide +kernel) (by decide) (by decide +kernel) ⟨by decide, by decide⟩ rfl (fun s1 es1 => ?_)
  have hA1 : Ag 162 [(21, 7), (21, 8), (21, 9), (160, 0)] true s1 := by rw [es1]; exact hA.new (by decide +kernel)
  refine pf8_15 rfl rfl (kdA dt_MX8_init 7 rfl) ⟨by decide, by decide, by decide +kernel⟩ (fun s2 es2 => ?_)
  have hA2 : Ag 162 [(21, 7), (21, 8), (21, 9)] true s2 := by rw [es2]; exact hA1.put (by decide +kernel)
  exact K_return (kdA dt_MX8_init 8 rfl) rfl ⟨rfl, rfl, hA2⟩
theorem I8_162 {d : Nat} {σ : kS} (hd : 3 ≤ d) (hA : Ag 163 [(21, 8), (21, 9), (162, 0)] true σ) : Ni d MX8_init (1, 128) [(2, 162), (0, 128)] 163 σ 164 (fun s => Ag 164 [(21, 8), (21, 9)] true s) := by
  obtain ⟨d, rfl⟩ : ∃ e, d = e + 1 := ⟨d - 1, by omega⟩
  refine Tri_of (by decide +kernel) (Nat.le_of_ble_eq_true rfl) (fun _ _ => ?_)
  show K (d + 1) MX8_init _ (1, 128) 0 [(0, (2, 162)), (1, (0, 128))] [] 163 σ
  refine K_aload_n 0 (kdA dt_MX8_init 0 rfl) rfl rfl ?_
  refine K_oinit (kdA dt_MX8_init 1 rfl) (tb1 53 rfl rfl) (by decide) (Nat.le_of_ble_eq_true rfl) ?_
  refine K_aload_n 0 (kdA dt_MX8_init 2 rfl) rfl rfl ?_
  refine K_iload_n 1 (kdA dt_MX8_init 3 rfl) rfl rfl ?_
  refine K_iconst (kdA dt_MX8_init 4 rfl) (by decide) ?_
  refine K_bSi (as := [(0, 128), (0, 0)]) (st := [(2, 162)]) (kdA dt_MX8_init 5 rfl) cl_MJm_max lk8_9 rfl rfl (Nat.le_of_ble_eq_true rfl) (J_max (by omega) ?_)
  rw [show max (128 : Int) 0 = 128 by decide]
  refine K_newi (b2 := (0, 0)) (kdA dt_MX8_init 6 rfl) (by decide +kernel) (by decide) (by decide +kernel) ⟨by decide, by decide⟩ rfl (fun s1 es1 => ?_)
  have hA1 : Ag 164 [(21, 8), (21, 9), (162, 0)] true s1 := by rw [es1]; exact hA.new (by decide +kernel)
  refine pf8_15 rfl rfl (kdA dt_MX8_init 7 rfl) ⟨by decide, by decide, by decide +kernel⟩ (fun s2 es2 => ?_)
  have hA2 : Ag 164 [(21, 8), (21, 9)] true s2 := by rw [es2]; exact hA1.put (by decide +kernel)
  exact K_return (kdA dt_MX8_init 8 rfl) rfl ⟨rfl, rfl, hA2⟩
theorem I8_164 {d : Nat} {σ : kS} (hd : 3 ≤ d) (hA : Ag 165 [(21, 9), (164, 0)] true σ) : Ni d MX8_init (1, 128) [(2, 164), (0, 128)] 165 σ 166 (fun s => Ag 166 [(21, 9)] true s) := by
  obtain ⟨d, rfl⟩ : ∃ e, d = e + 1 := ⟨d - 1, by omega⟩
  refine Tri_of (by decide +kernel) (Nat.le_of_ble_eq_true rfl) (fun _ _ => ?_)
  show K (d + 1) MX8_init _ (1, 128) 0 [(0, (2, 164)), (1, (0, 128))] [] 165 σ
  refine K_aload_n 0 (kdA dt_MX8_init 0 rfl) rfl rfl ?_
  refine K_oinit (kdA dt_MX8_init 1 rfl) (tb1 53 rfl rfl) (by decide) (Nat.le_of_ble_eq_true rfl) ?_
  refine K_aload_n 0 (kdA dt_MX8_init 2 rfl) rfl rfl ?_
  refine K_iload_n 1 (kdA dt_MX8_init 3 rfl) rfl rfl ?_
  refine K_iconst (kdA dt_MX8_init 4 rfl) (by decide) ?_
  refine K_bSi (as := [(0, 128), (0, 0)]) (st := [(2, 164)]) (kdA dt_MX8_init 5 rfl) cl_MJm_max lk8_9 rfl rfl (Nat.le_of_ble_eq_true rfl) (J_max (by omega) ?_)
  rw [show max (128 : Int) 0 = 128 by decide]
  refine K_newi (b2 := (0, 0)) (kdA dt_MX8_init 6 rfl) (by decide +kernel) (by decide) (by decide +kernel) ⟨by decide, by decide⟩ rfl (fun s1 es1 => ?_)
  have hA1 : Ag 166 [(21, 9), (164, 0)] true s1 := by rw [es1]; exact hA.new (by decide +kernel)
  refine pf8_15 rfl rfl (kdA dt_MX8_init 7 rfl) ⟨by decide, by decide, by decide +kernel⟩ (fun s2 es2 => ?_)
  have hA2 : Ag 166 [(21, 9)] true s2 := by rw [es2]; exact hA1.put (by decide +kernel)
  exact K_return (kdA dt_MX8_init 8 rfl) rfl ⟨rfl, rfl, hA2⟩
