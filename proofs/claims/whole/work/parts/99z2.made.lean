/-! the constructors of the class and of the model, by program -/
theorem I11_0 {d : Nat} {σ : kS} (hd : 7 ≤ d) (hA : Ag 1 [(0, 0), (0, 1), (0, 3), (0, 4), (0, 5), (0, 7), (0, 9), (0, 10), (0, 12), (0, 13), (0, 14), (0, 15), (0, 16), (0, 17), (0, 18), (0, 19)] false σ) : Ni d MX11_init (165, 13713) [(2, 0)] 1 σ 166 (fun s => Ag 166 [] true s) := by
  obtain ⟨d, rfl⟩ : ∃ e, d = e + 1 := ⟨d - 1, by omega⟩
  refine Tri_of (by decide +kernel) (Nat.le_of_ble_eq_true rfl) (fun _ _ => ?_)
  show K (d + 1) MX11_init _ (165, 13713) 0 [(0, (2, 0))] [] 1 σ
  refine K_aload_n 0 (kdA dt_MX11_init 0 rfl) rfl rfl ?_
  refine K_oinit (kdA dt_MX11_init 1 rfl) (tb1 31 rfl rfl) (by decide) (Nat.le_of_ble_eq_true rfl) ?_
  refine K_aload_n 0 (kdA dt_MX11_init 2 rfl) rfl rfl ?_
  refine K_new2 (C := RX5) (N := 1) (b2 := (164, 13712)) (kdA dt_MX11_init 3 rfl) ⟨(tb1 34 rfl rfl), (tb1 35 rfl rfl), (tb1 2 rfl rfl)⟩ rfl uw5 ft5 (by decide +kernel) (by decide +kernel) ⟨by decide, by decide⟩ rfl (fun s1 es1 => ?_)
  have hA1 : Ag 2 [(0, 0), (0, 1), (0, 3), (0, 4), (0, 5), (0, 7), (0, 9), (0, 10), (0, 12), (0, 13), (0, 14), (0, 15), (0, 16), (0, 17), (0, 18), (0, 19), (1, 0)] false s1 := by rw [es1]; exact hA.new (by decide +kernel)
  refine K_dup (kdA dt_MX11_init 4 rfl) rfl ?_
  refine K_nI (b' := (5, 484)) (b2 := (159, 13228)) (as := []) (r := 1) (st := [(2, 1), (2, 0)]) (n1 := 7) (kdA dt_MX11_init 5 rfl) ⟨by decide, by decide⟩ cl_MX5_init lk11_9 rfl rfl (Nat.le_of_ble_eq_true rfl) (by decide) rfl (Ni.mono (I5_1 (by omega) hA1) (fun s2 hA2 => ?_))
  refine pf11_10 rfl rfl (kdA dt_MX11_init 6 rfl) ⟨by decide, by decide, by decide +kernel⟩ (fun s3 es3 => ?_)
  have hA3 : Ag 7 [(0, 1), (0, 3), (0, 4), (0, 5), (0, 7), (0, 9), (0, 10), (0, 12), (0, 13), (0, 14), (0, 15), (0, 16), (0, 17), (0, 18), (0, 19)] false s3 := by rw [es3]; exact hA2.put (by decide +kernel)
  refine K_aload_n 0 (kdA dt_MX11_init 7 rfl) rfl rfl ?_
  refine K_iconst (kdA dt_MX11_init 8 rfl) (by decide) ?_
  refine K_anew2 (C := RX5) (c := 25) (t0 := 5) (b2 := (158, 13224)) (kdA dt_MX11_init 9 rfl) (tb1 34 rfl rfl) (fun X s h => h.2.2.2.2.2.2.2.1) (by decide) (fun _ => rfl) (by decide +kernel) (by decide) (by decide +kernel) ⟨by decide, by decide⟩ rfl (fun s4 es4 => ?_)
  have hA4 : Ag 8 [(0, 1), (0, 3), (0, 4), (0, 5), (0, 7), (0, 9), (0, 10), (0, 12), (0, 13), (0, 14), (0, 15), (0, 16), (0, 17), (0, 18), (0, 19), (7, 0), (7, 1), (7, 2), (7, 3)] false s4 := by rw [es4]; exact hA3.new (by decide +kernel)
  refine pf11_16 rfl rfl (kdA dt_MX11_init 10 rfl) ⟨by decide, by decide, by decide +kernel⟩ (fun s5 es5 => ?_)
  have hA5 : Ag 8 [(0, 3), (0, 4), (0, 5), (0, 7), (0, 9), (0, 10), (0, 12), (0, 13), (0, 14), (0, 15), (0, 16), (0, 17), (0, 18), (0, 19), (7, 0), (7, 1), (7, 2), (7, 3)] false s5 := by rw [es5]; exact hA4.put (by decide +kernel)
  refine K_aload_n 0 (kdA dt_MX11_init 11 rfl) rfl rfl ?_
  refine K_new2 (C := RX8) (N := 2) (b2 := (157, 13222)) (kdA dt_MX11_init 12 rfl) ⟨(tb1 48 rfl rfl), (tb1 49 rfl rfl), (tb1 3 rfl rfl)⟩ rfl uw8 ft8 (by decide +kernel) (by decide +kernel) ⟨by decide, by decide⟩ rfl (fun s6 es6 => ?_)
  have hA6 : Ag 9 [(0, 3), (0, 4), (0, 5), (0, 7), (0, 9), (0, 10), (0, 12), (0, 13), (0, 14), (0, 15), (0, 16), (0, 17), (0, 18), (0, 19), (7, 0), (7, 1), (7, 2), (7, 3), (8, 0)] false s6 := by rw [es6]; exact hA5.new (by decide +kernel)
  refine K_dup (kdA dt_MX11_init 13 rfl) rfl ?_
  refine K_bipush (kdA dt_MX11_init 14 rfl) (by decide) ?_
  refine K_nI (b' := (1, 120)) (b2 := (156, 13102)) (as := [(0, 120)]) (r := 8) (st := [(2, 8), (2, 0)]) (n1 := 10) (kdA dt_MX11_init 15 rfl) ⟨by decide, by decide⟩ cl_MX8_init lk11_22 rfl rfl (Nat.le_of_ble_eq_true rfl) (by decide) rfl (Ni.mono (I8_8 (by omega) hA6) (fun s7 hA7 => ?_))
  refine pf11_25 rfl rfl (kdA dt_MX11_init 16 rfl) ⟨by decide, by decide, by decide +kernel⟩ (fun s8 es8 => ?_)
  have hA8 : Ag 10 [(0, 4), (0, 5), (0, 7), (0, 9), (0, 10), (0, 12), (0, 13), (0, 14), (0, 15), (0, 16), (0, 17), (0, 18), (0, 19), (7, 0), (7, 1), (7, 2), (7, 3)] false s8 := by rw [es8]; exact hA7.put (by decide +kernel)
  refine K_aload_n 0 (kdA dt_MX11_init 17 rfl) rfl rfl ?_
  refine K_new2 (C := RX4) (N := 3) (b2 := (155, 13099)) (kdA dt_MX11_init 18 rfl) ⟨(tb1 72 rfl rfl), (tb1 73 rfl rfl), (tb1 5 rfl rfl)⟩ rfl uw4 ft4 (by decide +kernel) (by decide +kernel) ⟨by decide, by decide⟩ rfl (fun s9 es9 => ?_)
  have hA9 : Ag 11 [(0, 4), (0, 5), (0, 7), (0, 9), (0, 10), (0, 12), (0, 13), (0, 14), (0, 15), (0, 16), (0, 17), (0, 18), (0, 19), (7, 0), (7, 1), (7, 2), (7, 3), (10, 0), (10, 1)] false s9 := by rw [es9]; exact hA8.new (by decide +kernel)
  refine K_dup (kdA dt_MX11_init 19 rfl) rfl ?_
  refine K_nI (b' := (6, 253)) (b2 := (149, 12846)) (as := []) (r := 10) (st := [(2, 10), (2, 0)]) (n1 := 17) (kdA dt_MX11_init 20 rfl) ⟨by decide, by decide⟩ cl_MX4_init lk11_31 rfl rfl (Nat.le_of_ble_eq_true rfl) (by decide) rfl (Ni.mono (I4_10 (by omega) hA9) (fun s10 hA10 => ?_))
  refine pf11_32 rfl rfl (kdA dt_MX11_init 21 rfl) ⟨by decide, by decide, by decide +kernel⟩ (fun s11 es11 => ?_)
  have hA11 : Ag 17 [(0, 5), (0, 7), (0, 9), (0, 10), (0, 12), (0, 13), (0, 14), (0, 15), (0, 16), (0, 17), (0, 18), (0, 19), (7, 0), (7, 1), (7, 2), (7, 3)] false s11 := by rw [es11]; exact hA10.put (by decide +kernel)
  refine K_aload_n 0 (kdA dt_MX11_init 22 rfl) rfl rfl ?_
  refine K_bipush (kdA dt_MX11_init 23 rfl) (by decide) ?_
  refine K_anew2 (C := RX3) (c := 26) (t0 := 6) (b2 := (148, 12840)) (kdA dt_MX11_init 24 rfl) (tb1 117 rfl rfl) (fun X s h => h.2.2.2.2.2.2.2.2.1) (by decide) (fun _ => rfl) (by decide +kernel) (by decide) (by decide +kernel) ⟨by decide, by decide⟩ rfl (fun s12 es12 => ?_)
  have hA12 : Ag 18 [(0, 5), (0, 7), (0, 9), (0, 10), (0, 12), (0, 13), (0, 14), (0, 15), (0, 16), (0, 17), (0, 18), (0, 19), (7, 0), (7, 1), (7, 2), (7, 3), (17, 0), (17, 1), (17, 2), (17, 3), (17, 4), (17, 5)] false s12 := by rw [es12]; exact hA11.new (by decide +kernel)
  refine pf11_38 rfl rfl (kdA dt_MX11_init 25 rfl) ⟨by decide, by decide, by decide +kernel⟩ (fun s13 es13 => ?_)
  have hA13 : Ag 18 [(0, 7), (0, 9), (0, 10), (0, 12), (0, 13), (0, 14), (0, 15), (0, 16), (0, 17), (0, 18), (0, 19), (7, 0), (7, 1), (7, 2), (7, 3), (17, 0), (17, 1), (17, 2), (17, 3), (17, 4), (17, 5)] false s13 := by rw [es13]; exact hA12.put (by decide +kernel)
  refine K_aload_n 0 (kdA dt_MX11_init 26 rfl) rfl rfl ?_
  refine K_iconst (kdA dt_MX11_init 27 rfl) (by decide) ?_
  refine K_anew2 (C := RX0) (c := 27) (t0 := 7) (b2 := (147, 12835)) (kdA dt_MX11_init 28 rfl) (tb1 119 rfl rfl) (fun X s h => h.2.2.2.2.2.2.2.2.2.1) (by decide) (fun _ => rfl) (by decide +kernel) (by decide) (by decide +kernel) ⟨by decide, by decide⟩ rfl (fun s14 es14 => ?_)
  have hA14 : Ag 19 [(0, 7), (0, 9), (0, 10), (0, 12), (0, 13), (0, 14), (0, 15), (0, 16), (0, 17), (0, 18), (0, 19), (7, 0), (7, 1), (7, 2), (7, 3), (17, 0), (17, 1), (17, 2), (17, 3), (17, 4), (17, 5), (18, 0), (18, 1), (18, 2), (18, 3), (18, 4)] false s14 := by rw [es14]; exact hA13.new (by decide +kernel)
  refine pf11_44 rfl rfl (kdA dt_MX11_init 29 rfl) ⟨by decide, by decide, by decide +kernel⟩ (fun s15 es15 => ?_)
  have hA15 : Ag 19 [(0, 9), (0, 10), (0, 12), (0, 13), (0, 14), (0, 15), (0, 16), (0, 17), (0, 18), (0, 19), (7, 0), (7, 1), (7, 2), (7, 3), (17, 0), (17, 1), (17, 2), (17, 3), (17, 4), (17, 5), (18, 0), (18, 1), (18, 2), (18, 3), (18, 4)] false s15 := by rw [es15]; exact hA14.put (by decide +kernel)
  refine K_aload_n 0 (kdA dt_MX11_init 30 rfl) rfl rfl ?_
  refine K_new2 (C := RX8) (N := 2) (b2 := (146, 12833)) (kdA dt_MX11_init 31 rfl) ⟨(tb1 48 rfl rfl), (tb1 49 rfl rfl), (tb1 3 rfl rfl)⟩ rfl uw8 ft8 (by decide +kernel) (by decide +kernel) ⟨by decide, by decide⟩ rfl (fun s16 es16 => ?_)
  have hA16 : Ag 20 [(0, 9), (0, 10), (0, 12), (0, 13), (0, 14), (0, 15), (0, 16), (0, 17), (0, 18), (0, 19), (7, 0), (7, 1), (7, 2), (7, 3), (17, 0), (17, 1), (17, 2), (17, 3), (17, 4), (17, 5), (18, 0), (18, 1), (18, 2), (18, 3), (18, 4), (19, 0)] false s16 := by rw [es16]; exact hA15.new (by decide +kernel)
  refine K_dup (kdA dt_MX11_init 32 rfl) rfl ?_
  refine K_bipush (kdA dt_MX11_init 33 rfl) (by decide) ?_
  refine K_nI (b' := (1, 8)) (b2 := (145, 12825)) (as := [(0, 8)]) (r := 19) (st := [(2, 19), (2, 0)]) (n1 := 21) (kdA dt_MX11_init 34 rfl) ⟨by decide, by decide⟩ cl_MX8_init lk11_22 rfl rfl (Nat.le_of_ble_eq_true rfl) (by decide) rfl (Ni.mono (I8_19 (by omega) hA16) (fun s17 hA17 => ?_))
  refine pf11_48 rfl rfl (kdA dt_MX11_init 35 rfl) ⟨by decide, by decide, by decide +kernel⟩ (fun s18 es18 => ?_)
  have hA18 : Ag 21 [(0, 10), (0, 12), (0, 13), (0, 14), (0, 15), (0, 16), (0, 17), (0, 18), (0, 19), (7, 0), (7, 1), (7, 2), (7, 3), (17, 0), (17, 1), (17, 2), (17, 3), (17, 4), (17, 5), (18, 0), (18, 1), (18, 2), (18, 3), (18, 4)] false s18 := by rw [es18]; exact hA17.put (by decide +kernel)
  refine K_aload_n 0 (kdA dt_MX11_init 36 rfl) rfl rfl ?_
  refine K_bipush (kdA dt_MX11_init 37 rfl) (by decide) ?_
  refine K_anew2 (C := RX8) (c := 28) (t0 := 8) (b2 := (144, 12815)) (kdA dt_MX11_init 38 rfl) (tb1 48 rfl rfl) (fun X s h => h.2.2.2.2.2.2.2.2.2.2.1) (by decide) (fun _ => rfl) (by decide +kernel) (by decide) (by decide +kernel) ⟨by decide, by decide⟩ rfl (fun s19 es19 => ?_)
  have hA19 : Ag 22 [(0, 10), (0, 12), (0, 13), (0, 14), (0, 15), (0, 16), (0, 17), (0, 18), (0, 19), (7, 0), (7, 1), (7, 2), (7, 3), (17, 0), (17, 1), (17, 2), (17, 3), (17, 4), (17, 5), (18, 0), (18, 1), (18, 2), (18, 3), (18, 4), (21, 0), (21, 1), (21, 2), (21, 3), (21, 4), (21, 5), (21, 6), (21, 7), (21, 8), (21, 9)] false s19 := by rw [es19]; exact hA18.new (by decide +kernel)
  refine pf11_51 rfl rfl (kdA dt_MX11_init 39 rfl) ⟨by decide, by decide, by decide +kernel⟩ (fun s20 es20 => ?_)
  have hA20 : Ag 22 [(0, 12), (0, 13), (0, 14), (0, 15), (0, 16), (0, 17), (0, 18), (0, 19), (7, 0), (7, 1), (7, 2), (7, 3), (17, 0), (17, 1), (17, 2), (17, 3), (17, 4), (17, 5), (18, 0), (18, 1), (18, 2), (18, 3), (18, 4), (21, 0), (21, 1), (21, 2), (21, 3), (21, 4), (21, 5), (21, 6), (21, 7), (21, 8), (21, 9)] false s20 := by rw [es20]; exact hA19.put (by decide +kernel)
  refine K_aload_n 0 (kdA dt_MX11_init 40 rfl) rfl rfl ?_
  refine K_new2 (C := RX8) (N := 2) (b2 := (143, 12813)) (kdA dt_MX11_init 41 rfl) ⟨(tb1 48 rfl rfl), (tb1 49 rfl rfl), (tb1 3 rfl rfl)⟩ rfl uw8 ft8 (by decide +kernel) (by decide +kernel) ⟨by decide, by decide⟩ rfl (fun s21 es21 => ?_)
  have hA21 : Ag 23 [(0, 12), (0, 13), (0, 14), (0, 15), (0, 16), (0, 17), (0, 18), (0, 19), (7, 0), (7, 1), (7, 2), (7, 3), (17, 0), (17, 1), (17, 2), (17, 3), (17, 4), (17, 5), (18, 0), (18, 1), (18, 2), (18, 3), (18, 4), (21, 0), (21, 1), (21, 2), (21, 3), (21, 4), (21, 5), (21, 6), (21, 7), (21, 8), (21, 9), (22, 0)] false s21 := by rw [es21]; exact hA20.new (by decide +kernel)
  refine K_dup (kdA dt_MX11_init 42 rfl) rfl ?_
  refine K_bipush (kdA dt_MX11_init 43 rfl) (by decide) ?_
  refine K_nI (b' := (1, 6)) (b2 := (142, 12807)) (as := [(0, 6)]) (r := 22) (st := [(2, 22), (2, 0)]) (n1 := 24) (kdA dt_MX11_init 44 rfl) ⟨by decide, by decide⟩ cl_MX8_init lk11_22 rfl rfl (Nat.le_of_ble_eq_true rfl) (by decide) rfl (Ni.mono (I8_22 (by omega) hA21) (fun s22 hA22 => ?_))
  refine pf11_55 rfl rfl (kdA dt_MX11_init 45 rfl) ⟨by decide, by decide, by decide +kernel⟩ (fun s23 es23 => ?_)
  have hA23 : Ag 24 [(0, 13), (0, 14), (0, 15), (0, 16), (0, 17), (0, 18), (0, 19), (7, 0), (7, 1), (7, 2), (7, 3), (17, 0), (17, 1), (17, 2), (17, 3), (17, 4), (17, 5), (18, 0), (18, 1), (18, 2), (18, 3), (18, 4), (21, 0), (21, 1), (21, 2), (21, 3), (21, 4), (21, 5), (21, 6), (21, 7), (21, 8), (21, 9)] false s23 := by rw [es23]; exact hA22.put (by decide +kernel)
  refine K_aload_n 0 (kdA dt_MX11_init 46 rfl) rfl rfl ?_
  refine K_new2 (C := RX8) (N := 2) (b2 := (141, 12805)) (kdA dt_MX11_init 47 rfl) ⟨(tb1 48 rfl rfl), (tb1 49 rfl rfl), (tb1 3 rfl rfl)⟩ rfl uw8 ft8 (by decide +kernel) (by decide +kernel) ⟨by decide, by decide⟩ rfl (fun s24 es24 => ?_)
  have hA24 : Ag 25 [(0, 13), (0, 14), (0, 15), (0, 16), (0, 17), (0, 18), (0, 19), (7, 0), (7, 1), (7, 2), (7, 3), (17, 0), (17, 1), (17, 2), (17, 3), (17, 4), (17, 5), (18, 0), (18, 1), (18, 2), (18, 3), (18, 4), (21, 0), (21, 1), (21, 2), (21, 3), (21, 4), (21, 5), (21, 6), (21, 7), (21, 8), (21, 9), (24, 0)] false s24 := by rw [es24]; exact hA23.new (by decide +kernel)
  refine K_dup (kdA dt_MX11_init 48 rfl) rfl ?_
  refine K_bipush (kdA dt_MX11_init 49 rfl) (by decide) ?_
  refine K_nI (b' := (1, 32)) (b2 := (140, 12773)) (as := [(0, 32)]) (r := 24) (st := [(2, 24), (2, 0)]) (n1 := 26) (kdA dt_MX11_init 50 rfl) ⟨by decide, by decide⟩ cl_MX8_init lk11_22 rfl rfl (Nat.le_of_ble_eq_true rfl) (by decide) rfl (Ni.mono (I8_24 (by omega) hA24) (fun s25 hA25 => ?_))
  refine pf11_58 rfl rfl (kdA dt_MX11_init 51 rfl) ⟨by decide, by decide, by decide +kernel⟩ (fun s26 es26 => ?_)
  have hA26 : Ag 26 [(0, 14), (0, 15), (0, 16), (0, 17), (0, 18), (0, 19), (7, 0), (7, 1), (7, 2), (7, 3), (17, 0), (17, 1), (17, 2), (17, 3), (17, 4), (17, 5), (18, 0), (18, 1), (18, 2), (18, 3), (18, 4), (21, 0), (21, 1), (21, 2), (21, 3), (21, 4), (21, 5), (21, 6), (21, 7), (21, 8), (21, 9)] false s26 := by rw [es26]; exact hA25.put (by decide +kernel)
  refine K_aload_n 0 (kdA dt_MX11_init 52 rfl) rfl rfl ?_
  refine K_new2 (C := RX10) (N := 15) (b2 := (139, 12758)) (kdA dt_MX11_init 53 rfl) ⟨(tb1 122 rfl rfl), (tb1 123 rfl rfl), (tb1 7 rfl rfl)⟩ rfl uw10 ft10 (by decide +kernel) (by decide +kernel) ⟨by decide, by decide⟩ rfl (fun s27 es27 => ?_)
  have hA27 : Ag 27 [(0, 14), (0, 15), (0, 16), (0, 17), (0, 18), (0, 19), (7, 0), (7, 1), (7, 2), (7, 3), (17, 0), (17, 1), (17, 2), (17, 3), (17, 4), (17, 5), (18, 0), (18, 1), (18, 2), (18, 3), (18, 4), (21, 0), (21, 1), (21, 2), (21, 3), (21, 4), (21, 5), (21, 6), (21, 7), (21, 8), (21, 9), (26, 0), (26, 1), (26, 2), (26, 3), (26, 4), (26, 6), (26, 7), (26, 8), (26, 9), (26, 13), (26, 14)] false s27 := by rw [es27]; exact hA26.new (by decide +kernel)
  refine K_dup (kdA dt_MX11_init 54 rfl) rfl ?_
  refine K_nI (b' := (13, 5956)) (b2 := (126, 6802)) (as := []) (r := 26) (st := [(2, 26), (2, 0)]) (n1 := 40) (kdA dt_MX11_init 55 rfl) ⟨by decide, by decide⟩ cl_MX10_init lk11_63 rfl rfl (Nat.le_of_ble_eq_true rfl) (by decide) rfl (Ni.mono (I10_26 (by omega) hA27) (fun s28 hA28 => ?_))
  refine pf11_64 rfl rfl (kdA dt_MX11_init 56 rfl) ⟨by decide, by decide, by decide +kernel⟩ (fun s29 es29 => ?_)
  have hA29 : Ag 40 [(0, 15), (0, 16), (0, 17), (0, 18), (0, 19), (7, 0), (7, 1), (7, 2), (7, 3), (17, 0), (17, 1), (17, 2), (17, 3), (17, 4), (17, 5), (18, 0), (18, 1), (18, 2), (18, 3), (18, 4), (21, 0), (21, 1), (21, 2), (21, 3), (21, 4), (21, 5), (21, 6), (21, 7), (21, 8), (21, 9)] true s29 := by rw [es29]; exact hA28.put (by decide +kernel)
  refine K_aload_n 0 (kdA dt_MX11_init 57 rfl) rfl rfl ?_
  refine K_new2 (C := RX9) (N := 4) (b2 := (125, 6798)) (kdA dt_MX11_init 58 rfl) ⟨(tb1 192 rfl rfl), (tb1 193 rfl rfl), (tb1 8 rfl rfl)⟩ rfl uw9 ft9 (by decide +kernel) (by decide +kernel) ⟨by decide, by decide⟩ rfl (fun s30 es30 => ?_)
  have hA30 : Ag 41 [(0, 15), (0, 16), (0, 17), (0, 18), (0, 19), (7, 0), (7, 1), (7, 2), (7, 3), (17, 0), (17, 1), (17, 2), (17, 3), (17, 4), (17, 5), (18, 0), (18, 1), (18, 2), (18, 3), (18, 4), (21, 0), (21, 1), (21, 2), (21, 3), (21, 4), (21, 5), (21, 6), (21, 7), (21, 8), (21, 9), (40, 0), (40, 1), (40, 2), (40, 3)] true s30 := by rw [es30]; exact hA29.new (by decide +kernel)
  refine K_dup (kdA dt_MX11_init 59 rfl) rfl ?_
  refine K_nI (b' := (6, 492)) (b2 := (119, 6306)) (as := []) (r := 40) (st := [(2, 40), (2, 0)]) (n1 := 47) (kdA dt_MX11_init 60 rfl) ⟨by decide, by decide⟩ cl_MX9_init lk11_70 rfl rfl (Nat.le_of_ble_eq_true rfl) (by decide) rfl (Ni.mono (I9_40 (by omega) hA30) (fun s31 hA31 => ?_))
  refine pf11_71 rfl rfl (kdA dt_MX11_init 61 rfl) ⟨by decide, by decide, by decide +kernel⟩ (fun s32 es32 => ?_)
  have hA32 : Ag 47 [(0, 16), (0, 17), (0, 18), (0, 19), (7, 0), (7, 1), (7, 2), (7, 3), (17, 0), (17, 1), (17, 2), (17, 3), (17, 4), (17, 5), (18, 0), (18, 1), (18, 2), (18, 3), (18, 4), (21, 0), (21, 1), (21, 2), (21, 3), (21, 4), (21, 5), (21, 6), (21, 7), (21, 8), (21, 9)] true s32 := by rw [es32]; exact hA31.put (by decide +kernel)
  refine K_aload_n 0 (kdA dt_MX11_init 62 rfl) rfl rfl ?_
  refine K_new2 (C := RX2) (N := 3) (b2 := (118, 6303)) (kdA dt_MX11_init 63 rfl) ⟨(tb1 215 rfl rfl), (tb1 216 rfl rfl), (tb1 9 rfl rfl)⟩ rfl uw2 ft2 (by decide +kernel) (by decide +kernel) ⟨by decide, by decide⟩ rfl (fun s33 es33 => ?_)
  have hA33 : Ag 48 [(0, 16), (0, 17), (0, 18), (0, 19), (7, 0), (7, 1), (7, 2), (7, 3), (17, 0), (17, 1), (17, 2), (17, 3), (17, 4), (17, 5), (18, 0), (18, 1), (18, 2), (18, 3), (18, 4), (21, 0), (21, 1), (21, 2), (21, 3), (21, 4), (21, 5), (21, 6), (21, 7), (21, 8), (21, 9), (47, 0), (47, 1), (47, 2)] true s33 := by rw [es33]; exact hA32.new (by decide +kernel)
  refine K_dup (kdA dt_MX11_init 64 rfl) rfl ?_
  refine K_nI (b' := (6, 96)) (b2 := (112, 6207)) (as := []) (r := 47) (st := [(2, 47), (2, 0)]) (n1 := 54) (kdA dt_MX11_init 65 rfl) ⟨by decide, by decide⟩ cl_MX2_init lk11_77 rfl rfl (Nat.le_of_ble_eq_true rfl) (by decide) rfl (Ni.mono (I2_47 (by omega) hA33) (fun s34 hA34 => ?_))
  refine pf11_78 rfl rfl (kdA dt_MX11_init 66 rfl) ⟨by decide, by decide, by decide +kernel⟩ (fun s35 es35 => ?_)
  have hA35 : Ag 54 [(0, 17), (0, 18), (0, 19), (7, 0), (7, 1), (7, 2), (7, 3), (17, 0), (17, 1), (17, 2), (17, 3), (17, 4), (17, 5), (18, 0), (18, 1), (18, 2), (18, 3), (18, 4), (21, 0), (21, 1), (21, 2), (21, 3), (21, 4), (21, 5), (21, 6), (21, 7), (21, 8), (21, 9)] true s35 := by rw [es35]; exact hA34.put (by decide +kernel)
  refine K_aload_n 0 (kdA dt_MX11_init 67 rfl) rfl rfl ?_
  refine K_new2 (C := RX7) (N := 3) (b2 := (111, 6204)) (kdA dt_MX11_init 68 rfl) ⟨(tb1 234 rfl rfl), (tb1 235 rfl rfl), (tb1 10 rfl rfl)⟩ rfl uw7 ft7 (by decide +kernel) (by decide +kernel) ⟨by decide, by decide⟩ rfl (fun s36 es36 => ?_)
  have hA36 : Ag 55 [(0, 17), (0, 18), (0, 19), (7, 0), (7, 1), (7, 2), (7, 3), (17, 0), (17, 1), (17, 2), (17, 3), (17, 4), (17, 5), (18, 0), (18, 1), (18, 2), (18, 3), (18, 4), (21, 0), (21, 1), (21, 2), (21, 3), (21, 4), (21, 5), (21, 6), (21, 7), (21, 8), (21, 9), (54, 0), (54, 1), (54, 2)] true s36 := by rw [es36]; exact hA35.new (by decide +kernel)
  refine K_dup (kdA dt_MX11_init 69 rfl) rfl ?_
  refine K_nI (b' := (6, 24)) (b2 := (105, 6180)) (as := []) (r := 54) (st := [(2, 54), (2, 0)]) (n1 := 61) (kdA dt_MX11_init 70 rfl) ⟨by decide, by decide⟩ cl_MX7_init lk11_84 rfl rfl (Nat.le_of_ble_eq_true rfl) (by decide) rfl (Ni.mono (I7_54 (by omega) hA36) (fun s37 hA37 => ?_))
  refine pf11_85 rfl rfl (kdA dt_MX11_init 71 rfl) ⟨by decide, by decide, by decide +kernel⟩ (fun s38 es38 => ?_)
  have hA38 : Ag 61 [(0, 18), (0, 19), (7, 0), (7, 1), (7, 2), (7, 3), (17, 0), (17, 1), (17, 2), (17, 3), (17, 4), (17, 5), (18, 0), (18, 1), (18, 2), (18, 3), (18, 4), (21, 0), (21, 1), (21, 2), (21, 3), (21, 4), (21, 5), (21, 6), (21, 7), (21, 8), (21, 9)] true s38 := by rw [es38]; exact hA37.put (by decide +kernel)
  refine K_aload_n 0 (kdA dt_MX11_init 72 rfl) rfl rfl ?_
  refine K_new2 (C := RX1) (N := 5) (b2 := (104, 6175)) (kdA dt_MX11_init 73 rfl) ⟨(tb2 13 rfl rfl), (tb2 14 rfl rfl), (tb1 11 rfl rfl)⟩ rfl uw1 ft1 (by decide +kernel) (by decide +kernel) ⟨by decide, by decide⟩ rfl (fun s39 es39 => ?_)
  have hA39 : Ag 62 [(0, 18), (0, 19), (7, 0), (7, 1), (7, 2), (7, 3), (17, 0), (17, 1), (17, 2), (17, 3), (17, 4), (17, 5), (18, 0), (18, 1), (18, 2), (18, 3), (18, 4), (21, 0), (21, 1), (21, 2), (21, 3), (21, 4), (21, 5), (21, 6), (21, 7), (21, 8), (21, 9), (61, 0)] true s39 := by rw [es39]; exact hA38.new (by decide +kernel)
  refine K_dup (kdA dt_MX11_init 74 rfl) rfl ?_
  refine K_nI (b' := (1, 120)) (b2 := (103, 6055)) (as := []) (r := 61) (st := [(2, 61), (2, 0)]) (n1 := 63) (kdA dt_MX11_init 75 rfl) ⟨by decide, by decide⟩ cl_MX1_init lk11_91 rfl rfl (Nat.le_of_ble_eq_true rfl) (by decide) rfl (Ni.mono (I1_61 (by omega) hA39) (fun s40 hA40 => ?_))
  refine pf11_92 rfl rfl (kdA dt_MX11_init 76 rfl) ⟨by decide, by decide, by decide +kernel⟩ (fun s41 es41 => ?_)
  have hA41 : Ag 63 [(0, 19), (7, 0), (7, 1), (7, 2), (7, 3), (17, 0), (17, 1), (17, 2), (17, 3), (17, 4), (17, 5), (18, 0), (18, 1), (18, 2), (18, 3), (18, 4), (21, 0), (21, 1), (21, 2), (21, 3), (21, 4), (21, 5), (21, 6), (21, 7), (21, 8), (21, 9)] true s41 := by rw [es41]; exact hA40.put (by decide +kernel)
  refine K_aload_n 0 (kdA dt_MX11_init 77 rfl) rfl rfl ?_
  refine K_new2 (C := RX6) (N := 2) (b2 := (102, 6053)) (kdA dt_MX11_init 78 rfl) ⟨(tb2 39 rfl rfl), (tb2 40 rfl rfl), (tb1 12 rfl rfl)⟩ rfl uw6 ft6 (by decide +kernel) (by decide +kernel) ⟨by decide, by decide⟩ rfl (fun s42 es42 => ?_)
  have hA42 : Ag 64 [(0, 19), (7, 0), (7, 1), (7, 2), (7, 3), (17, 0), (17, 1), (17, 2), (17, 3), (17, 4), (17, 5), (18, 0), (18, 1), (18, 2), (18, 3), (18, 4), (21, 0), (21, 1), (21, 2), (21, 3), (21, 4), (21, 5), (21, 6), (21, 7), (21, 8), (21, 9), (63, 0)] true s42 := by rw [es42]; exact hA41.new (by decide +kernel)
  refine K_dup (kdA dt_MX11_init 79 rfl) rfl ?_
  refine K_nI (b' := (9, 72)) (b2 := (93, 5981)) (as := []) (r := 63) (st := [(2, 63), (2, 0)]) (n1 := 73) (kdA dt_MX11_init 80 rfl) ⟨by decide, by decide⟩ cl_MX6_init lk11_98 rfl rfl (Nat.le_of_ble_eq_true rfl) (by decide) rfl (Ni.mono (I6_63 (by omega) hA42) (fun s43 hA43 => ?_))
  refine pf11_99 rfl rfl (kdA dt_MX11_init 81 rfl) ⟨by decide, by decide, by decide +kernel⟩ (fun s44 es44 => ?_)
  have hA44 : Ag 73 [(7, 0), (7, 1), (7, 2), (7, 3), (17, 0), (17, 1), (17, 2), (17, 3), (17, 4), (17, 5), (18, 0), (18, 1), (18, 2), (18, 3), (18, 4), (21, 0), (21, 1), (21, 2), (21, 3), (21, 4), (21, 5), (21, 6), (21, 7), (21, 8), (21, 9)] true s44 := by rw [es44]; exact hA43.put (by decide +kernel)
  refine K_iconst (kdA dt_MX11_init 82 rfl) (by decide) ?_
  refine K_istore_n (ls' := [(0, (2, 0)), (1, (0, 0))]) (kdA dt_MX11_init 83 rfl) rfl (by decide) rfl ?_
  refine K_iload_n 1 (kdA dt_MX11_init 84 rfl) rfl rfl ?_
  refine K_aload_n 0 (kdA dt_MX11_init 85 rfl) rfl rfl ?_
  refine gf11_16 rfl (kdA dt_MX11_init 86 rfl) ⟨by decide, by decide, by decide +kernel⟩ ?_
  rw [hA44.at' (k := 0) (j := 1) (v := 7) (by decide +kernel)]
  refine K_alen (c := 25) (kdA dt_MX11_init 87 rfl) (by decide) ⟨by decide, by decide, by decide +kernel⟩ ?_
  refine K_icmp_ge (tgt := 208) (kdA dt_MX11_init 88 rfl) rfl (fun c => absurd c (by decide +kernel)) (fun _ => ?_)
  refine K_aload_n 0 (kdA dt_MX11_init 89 rfl) rfl rfl ?_
  refine gf11_16 rfl (kdA dt_MX11_init 90 rfl) ⟨by decide, by decide, by decide +kernel⟩ ?_
  rw [hA44.at' (k := 0) (j := 1) (v := 7) (by decide +kernel)]
  refine K_iload_n 1 (kdA dt_MX11_init 91 rfl) rfl rfl ?_
  refine K_new2 (C := RX5) (N := 1) (b2 := (92, 5980)) (kdA dt_MX11_init 92 rfl) ⟨(tb1 34 rfl rfl), (tb1 35 rfl rfl), (tb1 2 rfl rfl)⟩ rfl uw5 ft5 (by decide +kernel) (by decide +kernel) ⟨by decide, by decide⟩ rfl (fun s45 es45 => ?_)
  have hA45 : Ag 74 [(7, 0), (7, 1), (7, 2), (7, 3), (17, 0), (17, 1), (17, 2), (17, 3), (17, 4), (17, 5), (18, 0), (18, 1), (18, 2), (18, 3), (18, 4), (21, 0), (21, 1), (21, 2), (21, 3), (21, 4), (21, 5), (21, 6), (21, 7), (21, 8), (21, 9), (73, 0)] true s45 := by rw [es45]; exact hA44.new (by decide +kernel)
  refine K_dup (kdA dt_MX11_init 93 rfl) rfl ?_
  refine K_nI (b' := (5, 484)) (b2 := (87, 5496)) (as := []) (r := 73) (st := [(2, 73), (0, 0), (2, 7)]) (n1 := 79) (kdA dt_MX11_init 94 rfl) ⟨by decide, by decide⟩ cl_MX5_init lk11_9 rfl rfl (Nat.le_of_ble_eq_true rfl) (by decide) rfl (Ni.mono (I5_73 (by omega) hA45) (fun s46 hA46 => ?_))
  refine K_aastore (c := 25) (co := 5) (t0 := 5) (r := (RX5, TX5, 1)) (kdA dt_MX11_init 95 rfl) ⟨by decide, by decide, by decide +kernel⟩ (by decide) (by decide) (by decide +kernel) ⟨by decide, by decide, by decide +kernel⟩ (fun _ => rfl) rfl (fun s47 es47 => ?_)
  have hA47 : Ag 79 [(7, 1), (7, 2), (7, 3), (17, 0), (17, 1), (17, 2), (17, 3), (17, 4), (17, 5), (18, 0), (18, 1), (18, 2), (18, 3), (18, 4), (21, 0), (21, 1), (21, 2), (21, 3), (21, 4), (21, 5), (21, 6), (21, 7), (21, 8), (21, 9)] true s47 := by rw [es47]; exact hA46.put (by decide +kernel)
  refine K_iinc (ls' := [(0, (2, 0)), (1, (0, 1))]) 1 (kdA dt_MX11_init 96 rfl) rfl (by decide) (by decide) rfl ?_
  refine K_goto (tgt := 180) (kdA dt_MX11_init 97 rfl) rfl ?_
  refine K_iload_n 1 (kdA dt_MX11_init 84 rfl) rfl rfl ?_
  refine K_aload_n 0 (kdA dt_MX11_init 85 rfl) rfl rfl ?_
  refine gf11_16 rfl (kdA dt_MX11_init 86 rfl) ⟨by decide, by decide, by decide +kernel⟩ ?_
  rw [hA47.at' (k := 0) (j := 1) (v := 7) (by decide +kernel)]
  refine K_alen (c := 25) (kdA dt_MX11_init 87 rfl) (by decide) ⟨by decide, by decide, by decide +kernel⟩ ?_
  refine K_icmp_ge (tgt := 208) (kdA dt_MX11_init 88 rfl) rfl (fun c => absurd c (by decide +kernel)) (fun _ => ?_)
  refine K_aload_n 0 (kdA dt_MX11_init 89 rfl) rfl rfl ?_
  refine gf11_16 rfl (kdA dt_MX11_init 90 rfl) ⟨by decide, by decide, by decide +kernel⟩ ?_
  rw [hA47.at' (k := 0) (j := 1) (v := 7) (by decide +kernel)]
  refine K_iload_n 1 (kdA dt_MX11_init 91 rfl) rfl rfl ?_
  refine K_new2 (C := RX5) (N := 1) (b2 := (86, 5495)) (kdA dt_MX11_init 92 rfl) ⟨(tb1 34 rfl rfl), (tb1 35 rfl rfl), (tb1 2 rfl rfl)⟩ rfl uw5 ft5 (by decide +kernel) (by decide +kernel) ⟨by decide, by decide⟩ rfl (fun s48 es48 => ?_)
  have hA48 : Ag 80 [(7, 1), (7, 2), (7, 3), (17, 0), (17, 1), (17, 2), (17, 3), (17, 4), (17, 5), (18, 0), (18, 1), (18, 2), (18, 3), (18, 4), (21, 0), (21, 1), (21, 2), (21, 3), (21, 4), (21, 5), (21, 6), (21, 7), (21, 8), (21, 9), (79, 0)] true s48 := by rw [es48]; exact hA47.new (by decide +kernel)
  refine K_dup (kdA dt_MX11_init 93 rfl) rfl ?_
  refine K_nI (b' := (5, 484)) (b2 := (81, 5011)) (as := []) (r := 79) (st := [(2, 79), (0, 1), (2, 7)]) (n1 := 85) (kdA dt_MX11_init 94 rfl) ⟨by decide, by decide⟩ cl_MX5_init lk11_9 rfl rfl (Nat.le_of_ble_eq_true rfl) (by decide) rfl (Ni.mono (I5_79 (by omega) hA48) (fun s49 hA49 => ?_))
  refine K_aastore (c := 25) (co := 5) (t0 := 5) (r := (RX5, TX5, 1)) (kdA dt_MX11_init 95 rfl) ⟨by decide, by decide, by decide +kernel⟩ (by decide) (by decide) (by decide +kernel) ⟨by decide, by decide, by decide +kernel⟩ (fun _ => rfl) rfl (fun s50 es50 => ?_)
  have hA50 : Ag 85 [(7, 2), (7, 3), (17, 0), (17, 1), (17, 2), (17, 3), (17, 4), (17, 5), (18, 0), (18, 1), (18, 2), (18, 3), (18, 4), (21, 0), (21, 1), (21, 2), (21, 3), (21, 4), (21, 5), (21, 6), (21, 7), (21, 8), (21, 9)] true s50 := by rw [es50]; exact hA49.put (by decide +kernel)
  refine K_iinc (ls' := [(0, (2, 0)), (1, (0, 2))]) 1 (kdA dt_MX11_init 96 rfl) rfl (by decide) (by decide) rfl ?_
  refine K_goto (tgt := 180) (kdA dt_MX11_init 97 rfl) rfl ?_
  refine K_iload_n 1 (kdA dt_MX11_init 84 rfl) rfl rfl ?_
  refine K_aload_n 0 (kdA dt_MX11_init 85 rfl) rfl rfl ?_
  refine gf11_16 rfl (kdA dt_MX11_init 86 rfl) ⟨by decide, by decide, by decide +kernel⟩ ?_
  rw [hA50.at' (k := 0) (j := 1) (v := 7) (by decide +kernel)]
  refine K_alen (c := 25) (kdA dt_MX11_init 87 rfl) (by decide) ⟨by decide, by decide, by decide +kernel⟩ ?_
  refine K_icmp_ge (tgt := 208) (kdA dt_MX11_init 88 rfl) rfl (fun c => absurd c (by decide +kernel)) (fun _ => ?_)
  refine K_aload_n 0 (kdA dt_MX11_init 89 rfl) rfl rfl ?_
  refine gf11_16 rfl (kdA dt_MX11_init 90 rfl) ⟨by decide, by decide, by decide +kernel⟩ ?_
  rw [hA50.at' (k := 0) (j := 1) (v := 7) (by decide +kernel)]
  refine K_iload_n 1 (kdA dt_MX11_init 91 rfl) rfl rfl ?_
  refine K_new2 (C := RX5) (N := 1) (b2 := (80, 5010)) (kdA dt_MX11_init 92 rfl) ⟨(tb1 34 rfl rfl), (tb1 35 rfl rfl), (tb1 2 rfl rfl)⟩ rfl uw5 ft5 (by decide +kernel) (by decide +kernel) ⟨by decide, by decide⟩ rfl (fun s51 es51 => ?_)
  have hA51 : Ag 86 [(7, 2), (7, 3), (17, 0), (17, 1), (17, 2), (17, 3), (17, 4), (17, 5), (18, 0), (18, 1), (18, 2), (18, 3), (18, 4), (21, 0), (21, 1), (21, 2), (21, 3), (21, 4), (21, 5), (21, 6), (21, 7), (21, 8), (21, 9), (85, 0)] true s51 := by rw [es51]; exact hA50.new (by decide +kernel)
  refine K_dup (kdA dt_MX11_init 93 rfl) rfl ?_
  refine K_nI (b' := (5, 484)) (b2 := (75, 4526)) (as := []) (r := 85) (st := [(2, 85), (0, 2), (2, 7)]) (n1 := 91) (kdA dt_MX11_init 94 rfl) ⟨by decide, by decide⟩ cl_MX5_init lk11_9 rfl rfl (Nat.le_of_ble_eq_true rfl) (by decide) rfl (Ni.mono (I5_85 (by omega) hA51) (fun s52 hA52 => ?_))
  refine K_aastore (c := 25) (co := 5) (t0 := 5) (r := (RX5, TX5, 1)) (kdA dt_MX11_init 95 rfl) ⟨by decide, by decide, by decide +kernel⟩ (by decide) (by decide) (by decide +kernel) ⟨by decide, by decide, by decide +kernel⟩ (fun _ => rfl) rfl (fun s53 es53 => ?_)
  have hA53 : Ag 91 [(7, 3), (17, 0), (17, 1), (17, 2), (17, 3), (17, 4), (17, 5), (18, 0), (18, 1), (18, 2), (18, 3), (18, 4), (21, 0), (21, 1), (21, 2), (21, 3), (21, 4), (21, 5), (21, 6), (21, 7), (21, 8), (21, 9)] true s53 := by rw [es53]; exact hA52.put (by decide +kernel)
  refine K_iinc (ls' := [(0, (2, 0)), (1, (0, 3))]) 1 (kdA dt_MX11_init 96 rfl) rfl (by decide) (by decide) rfl ?_
  refine K_goto (tgt := 180) (kdA dt_MX11_init 97 rfl) rfl ?_
  refine K_iload_n 1 (kdA dt_MX11_init 84 rfl) rfl rfl ?_
  refine K_aload_n 0 (kdA dt_MX11_init 85 rfl) rfl rfl ?_
  refine gf11_16 rfl (kdA dt_MX11_init 86 rfl) ⟨by decide, by decide, by decide +kernel⟩ ?_
  rw [hA53.at' (k := 0) (j := 1) (v := 7) (by decide +kernel)]
  refine K_alen (c := 25) (kdA dt_MX11_init 87 rfl) (by decide) ⟨by decide, by decide, by decide +kernel⟩ ?_
  refine K_icmp_ge (tgt := 208) (kdA dt_MX11_init 88 rfl) rfl (fun c => absurd c (by decide +kernel)) (fun _ => ?_)
  refine K_aload_n 0 (kdA dt_MX11_init 89 rfl) rfl rfl ?_
  refine gf11_16 rfl (kdA dt_MX11_init 90 rfl) ⟨by decide, by decide, by decide +kernel⟩ ?_
  rw [hA53.at' (k := 0) (j := 1) (v := 7) (by decide +kernel)]
  refine K_iload_n 1 (kdA dt_MX11_init 91 rfl) rfl rfl ?_
  refine K_new2 (C := RX5) (N := 1) (b2 := (74, 4525)) (kdA dt_MX11_init 92 rfl) ⟨(tb1 34 rfl rfl), (tb1 35 rfl rfl), (tb1 2 rfl rfl)⟩ rfl uw5 ft5 (by decide +kernel) (by decide +kernel) ⟨by decide, by decide⟩ rfl (fun s54 es54 => ?_)
  have hA54 : Ag 92 [(7, 3), (17, 0), (17, 1), (17, 2), (17, 3), (17, 4), (17, 5), (18, 0), (18, 1), (18, 2), (18, 3), (18, 4), (21, 0), (21, 1), (21, 2), (21, 3), (21, 4), (21, 5), (21, 6), (21, 7), (21, 8), (21, 9), (91, 0)] true s54 := by rw [es54]; exact hA53.new (by decide +kernel)
  refine K_dup (kdA dt_MX11_init 93 rfl) rfl ?_
  refine K_nI (b' := (5, 484)) (b2 := (69, 4041)) (as := []) (r := 91) (st := [(2, 91), (0, 3), (2, 7)]) (n1 := 97) (kdA dt_MX11_init 94 rfl) ⟨by decide, by decide⟩ cl_MX5_init lk11_9 rfl rfl (Nat.le_of_ble_eq_true rfl) (by decide) rfl (Ni.mono (I5_91 (by omega) hA54) (fun s55 hA55 => ?_))
  refine K_aastore (c := 25) (co := 5) (t0 := 5) (r := (RX5, TX5, 1)) (kdA dt_MX11_init 95 rfl) ⟨by decide, by decide, by decide +kernel⟩ (by decide) (by decide) (by decide +kernel) ⟨by decide, by decide, by decide +kernel⟩ (fun _ => rfl) rfl (fun s56 es56 => ?_)
  have hA56 : Ag 97 [(17, 0), (17, 1), (17, 2), (17, 3), (17, 4), (17, 5), (18, 0), (18, 1), (18, 2), (18, 3), (18, 4), (21, 0), (21, 1), (21, 2), (21, 3), (21, 4), (21, 5), (21, 6), (21, 7), (21, 8), (21, 9)] true s56 := by rw [es56]; exact hA55.put (by decide +kernel)
  refine K_iinc (ls' := [(0, (2, 0)), (1, (0, 4))]) 1 (kdA dt_MX11_init 96 rfl) rfl (by decide) (by decide) rfl ?_
  refine K_goto (tgt := 180) (kdA dt_MX11_init 97 rfl) rfl ?_
  refine K_iload_n 1 (kdA dt_MX11_init 84 rfl) rfl rfl ?_
  refine K_aload_n 0 (kdA dt_MX11_init 85 rfl) rfl rfl ?_
  refine gf11_16 rfl (kdA dt_MX11_init 86 rfl) ⟨by decide, by decide, by decide +kernel⟩ ?_
  rw [hA56.at' (k := 0) (j := 1) (v := 7) (by decide +kernel)]
  refine K_alen (c := 25) (kdA dt_MX11_init 87 rfl) (by decide) ⟨by decide, by decide, by decide +kernel⟩ ?_
  refine K_icmp_ge (tgt := 208) (kdA dt_MX11_init 88 rfl) rfl (fun _ => ?_) (fun c => absurd (by decide +kernel) c)
  refine K_iconst (kdA dt_MX11_init 98 rfl) (by decide) ?_
  refine K_istore_n (ls' := [(0, (2, 0)), (1, (0, 0))]) (kdA dt_MX11_init 99 rfl) rfl (by decide) rfl ?_
  refine K_iload_n 1 (kdA dt_MX11_init 100 rfl) rfl rfl ?_
  refine K_aload_n 0 (kdA dt_MX11_init 101 rfl) rfl rfl ?_
  refine gf11_38 rfl (kdA dt_MX11_init 102 rfl) ⟨by decide, by decide, by decide +kernel⟩ ?_
  rw [hA56.at' (k := 0) (j := 5) (v := 17) (by decide +kernel)]
  refine K_alen (c := 26) (kdA dt_MX11_init 103 rfl) (by decide) ⟨by decide, by decide, by decide +kernel⟩ ?_
  refine K_icmp_ge (tgt := 238) (kdA dt_MX11_init 104 rfl) rfl (fun c => absurd c (by decide +kernel)) (fun _ => ?_)
  refine K_aload_n 0 (kdA dt_MX11_init 105 rfl) rfl rfl ?_
  refine gf11_38 rfl (kdA dt_MX11_init 106 rfl) ⟨by decide, by decide, by decide +kernel⟩ ?_
  rw [hA56.at' (k := 0) (j := 5) (v := 17) (by decide +kernel)]
  refine K_iload_n 1 (kdA dt_MX11_init 107 rfl) rfl rfl ?_
  refine K_new2 (C := RX3) (N := 5) (b2 := (68, 4036)) (kdA dt_MX11_init 108 rfl) ⟨(tb1 117 rfl rfl), (tb1 79 rfl rfl), (tb1 6 rfl rfl)⟩ rfl uw3 ft3 (by decide +kernel) (by decide +kernel) ⟨by decide, by decide⟩ rfl (fun s57 es57 => ?_)
  have hA57 : Ag 98 [(17, 0), (17, 1), (17, 2), (17, 3), (17, 4), (17, 5), (18, 0), (18, 1), (18, 2), (18, 3), (18, 4), (21, 0), (21, 1), (21, 2), (21, 3), (21, 4), (21, 5), (21, 6), (21, 7), (21, 8), (21, 9), (97, 0), (97, 1), (97, 4), (97, 3)] true s57 := by rw [es57]; exact hA56.new (by decide +kernel)
  refine K_dup (kdA dt_MX11_init 109 rfl) rfl ?_
  refine K_nI (b' := (3, 246)) (b2 := (65, 3790)) (as := []) (r := 97) (st := [(2, 97), (0, 0), (2, 17)]) (n1 := 101) (kdA dt_MX11_init 110 rfl) ⟨by decide, by decide⟩ cl_MX3_init lk11_103 rfl rfl (Nat.le_of_ble_eq_true rfl) (by decide) rfl (Ni.mono (I3_97 (by omega) hA57) (fun s58 hA58 => ?_))
  refine K_aastore (c := 26) (co := 3) (t0 := 6) (r := (RX3, TX3, 5)) (kdA dt_MX11_init 111 rfl) ⟨by decide, by decide, by decide +kernel⟩ (by decide) (by decide) (by decide +kernel) ⟨by decide, by decide, by decide +kernel⟩ (fun _ => rfl) rfl (fun s59 es59 => ?_)
  have hA59 : Ag 101 [(17, 1), (17, 2), (17, 3), (17, 4), (17, 5), (18, 0), (18, 1), (18, 2), (18, 3), (18, 4), (21, 0), (21, 1), (21, 2), (21, 3), (21, 4), (21, 5), (21, 6), (21, 7), (21, 8), (21, 9)] true s59 := by rw [es59]; exact hA58.put (by decide +kernel)
  refine K_iinc (ls' := [(0, (2, 0)), (1, (0, 1))]) 1 (kdA dt_MX11_init 112 rfl) rfl (by decide) (by decide) rfl ?_
  refine K_goto (tgt := 210) (kdA dt_MX11_init 113 rfl) rfl ?_
  refine K_iload_n 1 (kdA dt_MX11_init 100 rfl) rfl rfl ?_
  refine K_aload_n 0 (kdA dt_MX11_init 101 rfl) rfl rfl ?_
  refine gf11_38 rfl (kdA dt_MX11_init 102 rfl) ⟨by decide, by decide, by decide +kernel⟩ ?_
  rw [hA59.at' (k := 0) (j := 5) (v := 17) (by decide +kernel)]
  refine K_alen (c := 26) (kdA dt_MX11_init 103 rfl) (by decide) ⟨by decide, by decide, by decide +kernel⟩ ?_
  refine K_icmp_ge (tgt := 238) (kdA dt_MX11_init 104 rfl) rfl (fun c => absurd c (by decide +kernel)) (fun _ => ?_)
  refine K_aload_n 0 (kdA dt_MX11_init 105 rfl) rfl rfl ?_
  refine gf11_38 rfl (kdA dt_MX11_init 106 rfl) ⟨by decide, by decide, by decide +kernel⟩ ?_
  rw [hA59.at' (k := 0) (j := 5) (v := 17) (by decide +kernel)]
  refine K_iload_n 1 (kdA dt_MX11_init 107 rfl) rfl rfl ?_
  refine K_new2 (C := RX3) (N := 5) (b2 := (64, 3785)) (kdA dt_MX11_init 108 rfl) ⟨(tb1 117 rfl rfl), (tb1 79 rfl rfl), (tb1 6 rfl rfl)⟩ rfl uw3 ft3 (by decide +kernel) (by decide +kernel) ⟨by decide, by decide⟩ rfl (fun s60 es60 => ?_)
  have hA60 : Ag 102 [(17, 1), (17, 2), (17, 3), (17, 4), (17, 5), (18, 0), (18, 1), (18, 2), (18, 3), (18, 4), (21, 0), (21, 1), (21, 2), (21, 3), (21, 4), (21, 5), (21, 6), (21, 7), (21, 8), (21, 9), (101, 0), (101, 1), (101, 4), (101, 3)] true s60 := by rw [es60]; exact hA59.new (by decide +kernel)
  refine K_dup (kdA dt_MX11_init 109 rfl) rfl ?_
  refine K_nI (b' := (3, 246)) (b2 := (61, 3539)) (as := []) (r := 101) (st := [(2, 101), (0, 1), (2, 17)]) (n1 := 105) (kdA dt_MX11_init 110 rfl) ⟨by decide, by decide⟩ cl_MX3_init lk11_103 rfl rfl (Nat.le_of_ble_eq_true rfl) (by decide) rfl (Ni.mono (I3_101 (by omega) hA60) (fun s61 hA61 => ?_))
  refine K_aastore (c := 26) (co := 3) (t0 := 6) (r := (RX3, TX3, 5)) (kdA dt_MX11_init 111 rfl) ⟨by decide, by decide, by decide +kernel⟩ (by decide) (by decide) (by decide +kernel) ⟨by decide, by decide, by decide +kernel⟩ (fun _ => rfl) rfl (fun s62 es62 => ?_)
  have hA62 : Ag 105 [(17, 2), (17, 3), (17, 4), (17, 5), (18, 0), (18, 1), (18, 2), (18, 3), (18, 4), (21, 0), (21, 1), (21, 2), (21, 3), (21, 4), (21, 5), (21, 6), (21, 7), (21, 8), (21, 9)] true s62 := by rw [es62]; exact hA61.put (by decide +kernel)
  refine K_iinc (ls' := [(0, (2, 0)), (1, (0, 2))]) 1 (kdA dt_MX11_init 112 rfl) rfl (by decide) (by decide) rfl ?_
  refine K_goto (tgt := 210) (kdA dt_MX11_init 113 rfl) rfl ?_
  refine K_iload_n 1 (kdA dt_MX11_init 100 rfl) rfl rfl ?_
  refine K_aload_n 0 (kdA dt_MX11_init 101 rfl) rfl rfl ?_
  refine gf11_38 rfl (kdA dt_MX11_init 102 rfl) ⟨by decide, by decide, by decide +kernel⟩ ?_
  rw [hA62.at' (k := 0) (j := 5) (v := 17) (by decide +kernel)]
  refine K_alen (c := 26) (kdA dt_MX11_init 103 rfl) (by decide) ⟨by decide, by decide, by decide +kernel⟩ ?_
  refine K_icmp_ge (tgt := 238) (kdA dt_MX11_init 104 rfl) rfl (fun c => absurd c (by decide +kernel)) (fun _ => ?_)
  refine K_aload_n 0 (kdA dt_MX11_init 105 rfl) rfl rfl ?_
  refine gf11_38 rfl (kdA dt_MX11_init 106 rfl) ⟨by decide, by decide, by decide +kernel⟩ ?_
  rw [hA62.at' (k := 0) (j := 5) (v := 17) (by decide +kernel)]
  refine K_iload_n 1 (kdA dt_MX11_init 107 rfl) rfl rfl ?_
  refine K_new2 (C := RX3) (N := 5) (b2 := (60, 3534)) (kdA dt_MX11_init 108 rfl) ⟨(tb1 117 rfl rfl), (tb1 79 rfl rfl), (tb1 6 rfl rfl)⟩ rfl uw3 ft3 (by decide +kernel) (by decide +kernel) ⟨by decide, by decide⟩ rfl (fun s63 es63 => ?_)
  have hA63 : Ag 106 [(17, 2), (17, 3), (17, 4), (17, 5), (18, 0), (18, 1), (18, 2), (18, 3), (18, 4), (21, 0), (21, 1), (21, 2), (21, 3), (21, 4), (21, 5), (21, 6), (21, 7), (21, 8), (21, 9), (105, 0), (105, 1), (105, 4), (105, 3)] true s63 := by rw [es63]; exact hA62.new (by decide +kernel)
  refine K_dup (kdA dt_MX11_init 109 rfl) rfl ?_
  refine K_nI (b' := (3, 246)) (b2 := (57, 3288)) (as := []) (r := 105) (st := [(2, 105), (0, 2), (2, 17)]) (n1 := 109) (kdA dt_MX11_init 110 rfl) ⟨by decide, by decide⟩ cl_MX3_init lk11_103 rfl rfl (Nat.le_of_ble_eq_true rfl) (by decide) rfl (Ni.mono (I3_105 (by omega) hA63) (fun s64 hA64 => ?_))
  refine K_aastore (c := 26) (co := 3) (t0 := 6) (r := (RX3, TX3, 5)) (kdA dt_MX11_init 111 rfl) ⟨by decide, by decide, by decide +kernel⟩ (by decide) (by decide) (by decide +kernel) ⟨by decide, by decide, by decide +kernel⟩ (fun _ => rfl) rfl (fun s65 es65 => ?_)
  have hA65 : Ag 109 [(17, 3), (17, 4), (17, 5), (18, 0), (18, 1), (18, 2), (18, 3), (18, 4), (21, 0), (21, 1), (21, 2), (21, 3), (21, 4), (21, 5), (21, 6), (21, 7), (21, 8), (21, 9)] true s65 := by rw [es65]; exact hA64.put (by decide +kernel)
  refine K_iinc (ls' := [(0, (2, 0)), (1, (0, 3))]) 1 (kdA dt_MX11_init 112 rfl) rfl (by decide) (by decide) rfl ?_
  refine K_goto (tgt := 210) (kdA dt_MX11_init 113 rfl) rfl ?_
  refine K_iload_n 1 (kdA dt_MX11_init 100 rfl) rfl rfl ?_
  refine K_aload_n 0 (kdA dt_MX11_init 101 rfl) rfl rfl ?_
  refine gf11_38 rfl (kdA dt_MX11_init 102 rfl) ⟨by decide, by decide, by decide +kernel⟩ ?_
  rw [hA65.at' (k := 0) (j := 5) (v := 17) (by decide +kernel)]
  refine K_alen (c := 26) (kdA dt_MX11_init 103 rfl) (by decide) ⟨by decide, by decide, by decide +kernel⟩ ?_
  refine K_icmp_ge (tgt := 238) (kdA dt_MX11_init 104 rfl) rfl (fun c => absurd c (by decide +kernel)) (fun _ => ?_)
  refine K_aload_n 0 (kdA dt_MX11_init 105 rfl) rfl rfl ?_
  refine gf11_38 rfl (kdA dt_MX11_init 106 rfl) ⟨by decide, by decide, by decide +kernel⟩ ?_
  rw [hA65.at' (k := 0) (j := 5) (v := 17) (by decide +kernel)]
  refine K_iload_n 1 (kdA dt_MX11_init 107 rfl) rfl rfl ?_
  refine K_new2 (C := RX3) (N := 5) (b2 := (56, 3283)) (kdA dt_MX11_init 108 rfl) ⟨(tb1 117 rfl rfl), (tb1 79 rfl rfl), (tb1 6 rfl rfl)⟩ rfl uw3 ft3 (by decide +kernel) (by decide +kernel) ⟨by decide, by decide⟩ rfl (fun s66 es66 => ?_)
  have hA66 : Ag 110 [(17, 3), (17, 4), (17, 5), (18, 0), (18, 1), (18, 2), (18, 3), (18, 4), (21, 0), (21, 1), (21, 2), (21, 3), (21, 4), (21, 5), (21, 6), (21, 7), (21, 8), (21, 9), (109, 0), (109, 1), (109, 4), (109, 3)] true s66 := by rw [es66]; exact hA65.new (by decide +kernel)
  refine K_dup (kdA dt_MX11_init 109 rfl) rfl ?_
  refine K_nI (b' := (3, 246)) (b2 := (53, 3037)) (as := []) (r := 109) (st := [(2, 109), (0, 3), (2, 17)]) (n1 := 113) (kdA dt_MX11_init 110 rfl) ⟨by decide, by decide⟩ cl_MX3_init lk11_103 rfl rfl (Nat.le_of_ble_eq_true rfl) (by decide) rfl (Ni.mono (I3_109 (by omega) hA66) (fun s67 hA67 => ?_))
  refine K_aastore (c := 26) (co := 3) (t0 := 6) (r := (RX3, TX3, 5)) (kdA dt_MX11_init 111 rfl) ⟨by decide, by decide, by decide +kernel⟩ (by decide) (by decide) (by decide +kernel) ⟨by decide, by decide, by decide +kernel⟩ (fun _ => rfl) rfl (fun s68 es68 => ?_)
  have hA68 : Ag 113 [(17, 4), (17, 5), (18, 0), (18, 1), (18, 2), (18, 3), (18, 4), (21, 0), (21, 1), (21, 2), (21, 3), (21, 4), (21, 5), (21, 6), (21, 7), (21, 8), (21, 9)] true s68 := by rw [es68]; exact hA67.put (by decide +kernel)
  refine K_iinc (ls' := [(0, (2, 0)), (1, (0, 4))]) 1 (kdA dt_MX11_init 112 rfl) rfl (by decide) (by decide) rfl ?_
  refine K_goto (tgt := 210) (kdA dt_MX11_init 113 rfl) rfl ?_
  refine K_iload_n 1 (kdA dt_MX11_init 100 rfl) rfl rfl ?_
  refine K_aload_n 0 (kdA dt_MX11_init 101 rfl) rfl rfl ?_
  refine gf11_38 rfl (kdA dt_MX11_init 102 rfl) ⟨by decide, by decide, by decide +kernel⟩ ?_
  rw [hA68.at' (k := 0) (j := 5) (v := 17) (by decide +kernel)]
  refine K_alen (c := 26) (kdA dt_MX11_init 103 rfl) (by decide) ⟨by decide, by decide, by decide +kernel⟩ ?_
  refine K_icmp_ge (tgt := 238) (kdA dt_MX11_init 104 rfl) rfl (fun c => absurd c (by decide +kernel)) (fun _ => ?_)
  refine K_aload_n 0 (kdA dt_MX11_init 105 rfl) rfl rfl ?_
  refine gf11_38 rfl (kdA dt_MX11_init 106 rfl) ⟨by decide, by decide, by decide +kernel⟩ ?_
  rw [hA68.at' (k := 0) (j := 5) (v := 17) (by decide +kernel)]
  refine K_iload_n 1 (kdA dt_MX11_init 107 rfl) rfl rfl ?_
  refine K_new2 (C := RX3) (N := 5) (b2 := (52, 3032)) (kdA dt_MX11_init 108 rfl) ⟨(tb1 117 rfl rfl), (tb1 79 rfl rfl), (tb1 6 rfl rfl)⟩ rfl uw3 ft3 (by decide +kernel) (by decide +kernel) ⟨by decide, by decide⟩ rfl (fun s69 es69 => ?_)
  have hA69 : Ag 114 [(17, 4), (17, 5), (18, 0), (18, 1), (18, 2), (18, 3), (18, 4), (21, 0), (21, 1), (21, 2), (21, 3), (21, 4), (21, 5), (21, 6), (21, 7), (21, 8), (21, 9), (113, 0), (113, 1), (113, 4), (113, 3)] true s69 := by rw [es69]; exact hA68.new (by decide +kernel)
  refine K_dup (kdA dt_MX11_init 109 rfl) rfl ?_
  refine K_nI (b' := (3, 246)) (b2 := (49, 2786)) (as := []) (r := 113) (st := [(2, 113), (0, 4), (2, 17)]) (n1 := 117) (kdA dt_MX11_init 110 rfl) ⟨by decide, by decide⟩ cl_MX3_init lk11_103 rfl rfl (Nat.le_of_ble_eq_true rfl) (by decide) rfl (Ni.mono (I3_113 (by omega) hA69) (fun s70 hA70 => ?_))
  refine K_aastore (c := 26) (co := 3) (t0 := 6) (r := (RX3, TX3, 5)) (kdA dt_MX11_init 111 rfl) ⟨by decide, by decide, by decide +kernel⟩ (by decide) (by decide) (by decide +kernel) ⟨by decide, by decide, by decide +kernel⟩ (fun _ => rfl) rfl (fun s71 es71 => ?_)
  have hA71 : Ag 117 [(17, 5), (18, 0), (18, 1), (18, 2), (18, 3), (18, 4), (21, 0), (21, 1), (21, 2), (21, 3), (21, 4), (21, 5), (21, 6), (21, 7), (21, 8), (21, 9)] true s71 := by rw [es71]; exact hA70.put (by decide +kernel)
  refine K_iinc (ls' := [(0, (2, 0)), (1, (0, 5))]) 1 (kdA dt_MX11_init 112 rfl) rfl (by decide) (by decide) rfl ?_
  refine K_goto (tgt := 210) (kdA dt_MX11_init 113 rfl) rfl ?_
  refine K_iload_n 1 (kdA dt_MX11_init 100 rfl) rfl rfl ?_
  refine K_aload_n 0 (kdA dt_MX11_init 101 rfl) rfl rfl ?_
  refine gf11_38 rfl (kdA dt_MX11_init 102 rfl) ⟨by decide, by decide, by decide +kernel⟩ ?_
  rw [hA71.at' (k := 0) (j := 5) (v := 17) (by decide +kernel)]
  refine K_alen (c := 26) (kdA dt_MX11_init 103 rfl) (by decide) ⟨by decide, by decide, by decide +kernel⟩ ?_
  refine K_icmp_ge (tgt := 238) (kdA dt_MX11_init 104 rfl) rfl (fun c => absurd c (by decide +kernel)) (fun _ => ?_)
  refine K_aload_n 0 (kdA dt_MX11_init 105 rfl) rfl rfl ?_
  refine gf11_38 rfl (kdA dt_MX11_init 106 rfl) ⟨by decide, by decide, by decide +kernel⟩ ?_
  rw [hA71.at' (k := 0) (j := 5) (v := 17) (by decide +kernel)]
  refine K_iload_n 1 (kdA dt_MX11_init 107 rfl) rfl rfl ?_
  refine K_new2 (C := RX3) (N := 5) (b2 := (48, 2781)) (kdA dt_MX11_init 108 rfl) ⟨(tb1 117 rfl rfl), (tb1 79 rfl rfl), (tb1 6 rfl rfl)⟩ rfl uw3 ft3 (by decide +kernel) (by decide +kernel) ⟨by decide, by decide⟩ rfl (fun s72 es72 => ?_)
  have hA72 : Ag 118 [(17, 5), (18, 0), (18, 1), (18, 2), (18, 3), (18, 4), (21, 0), (21, 1), (21, 2), (21, 3), (21, 4), (21, 5), (21, 6), (21, 7), (21, 8), (21, 9), (117, 0), (117, 1), (117, 4), (117, 3)] true s72 := by rw [es72]; exact hA71.new (by decide +kernel)
  refine K_dup (kdA dt_MX11_init 109 rfl) rfl ?_
  refine K_nI (b' := (3, 246)) (b2 := (45, 2535)) (as := []) (r := 117) (st := [(2, 117), (0, 5), (2, 17)]) (n1 := 121) (kdA dt_MX11_init 110 rfl) ⟨by decide, by decide⟩ cl_MX3_init lk11_103 rfl rfl (Nat.le_of_ble_eq_true rfl) (by decide) rfl (Ni.mono (I3_117 (by omega) hA72) (fun s73 hA73 => ?_))
  refine K_aastore (c := 26) (co := 3) (t0 := 6) (r := (RX3, TX3, 5)) (kdA dt_MX11_init 111 rfl) ⟨by decide, by decide, by decide +kernel⟩ (by decide) (by decide) (by decide +kernel) ⟨by decide, by decide, by decide +kernel⟩ (fun _ => rfl) rfl (fun s74 es74 => ?_)
  have hA74 : Ag 121 [(18, 0), (18, 1), (18, 2), (18, 3), (18, 4), (21, 0), (21, 1), (21, 2), (21, 3), (21, 4), (21, 5), (21, 6), (21, 7), (21, 8), (21, 9)] true s74 := by rw [es74]; exact hA73.put (by decide +kernel)
  refine K_iinc (ls' := [(0, (2, 0)), (1, (0, 6))]) 1 (kdA dt_MX11_init 112 rfl) rfl (by decide) (by decide) rfl ?_
  refine K_goto (tgt := 210) (kdA dt_MX11_init 113 rfl) rfl ?_
  refine K_iload_n 1 (kdA dt_MX11_init 100 rfl) rfl rfl ?_
  refine K_aload_n 0 (kdA dt_MX11_init 101 rfl) rfl rfl ?_
  refine gf11_38 rfl (kdA dt_MX11_init 102 rfl) ⟨by decide, by decide, by decide +kernel⟩ ?_
  rw [hA74.at' (k := 0) (j := 5) (v := 17) (by decide +kernel)]
  refine K_alen (c := 26) (kdA dt_MX11_init 103 rfl) (by decide) ⟨by decide, by decide, by decide +kernel⟩ ?_
  refine K_icmp_ge (tgt := 238) (kdA dt_MX11_init 104 rfl) rfl (fun _ => ?_) (fun c => absurd (by decide +kernel) c)
  refine K_iconst (kdA dt_MX11_init 114 rfl) (by decide) ?_
  refine K_istore_n (ls' := [(0, (2, 0)), (1, (0, 0))]) (kdA dt_MX11_init 115 rfl) rfl (by decide) rfl ?_
  refine K_iload_n 1 (kdA dt_MX11_init 116 rfl) rfl rfl ?_
  refine K_aload_n 0 (kdA dt_MX11_init 117 rfl) rfl rfl ?_
  refine gf11_44 rfl (kdA dt_MX11_init 118 rfl) ⟨by decide, by decide, by decide +kernel⟩ ?_
  rw [hA74.at' (k := 0) (j := 7) (v := 18) (by decide +kernel)]
  refine K_alen (c := 27) (kdA dt_MX11_init 119 rfl) (by decide) ⟨by decide, by decide, by decide +kernel⟩ ?_
  refine K_icmp_ge (tgt := 268) (kdA dt_MX11_init 120 rfl) rfl (fun c => absurd c (by decide +kernel)) (fun _ => ?_)
  refine K_aload_n 0 (kdA dt_MX11_init 121 rfl) rfl rfl ?_
  refine gf11_44 rfl (kdA dt_MX11_init 122 rfl) ⟨by decide, by decide, by decide +kernel⟩ ?_
  rw [hA74.at' (k := 0) (j := 7) (v := 18) (by decide +kernel)]
  refine K_iload_n 1 (kdA dt_MX11_init 123 rfl) rfl rfl ?_
  refine K_new2 (C := RX0) (N := 3) (b2 := (44, 2532)) (kdA dt_MX11_init 124 rfl) ⟨(tb1 119 rfl rfl), (tb2 54 rfl rfl), (tb1 13 rfl rfl)⟩ rfl uw0 ft0 (by decide +kernel) (by decide +kernel) ⟨by decide, by decide⟩ rfl (fun s75 es75 => ?_)
  have hA75 : Ag 122 [(18, 0), (18, 1), (18, 2), (18, 3), (18, 4), (21, 0), (21, 1), (21, 2), (21, 3), (21, 4), (21, 5), (21, 6), (21, 7), (21, 8), (21, 9), (121, 0), (121, 1)] true s75 := by rw [es75]; exact hA74.new (by decide +kernel)
  refine K_dup (kdA dt_MX11_init 125 rfl) rfl ?_
  refine K_nI (b' := (4, 244)) (b2 := (40, 2288)) (as := []) (r := 121) (st := [(2, 121), (0, 0), (2, 18)]) (n1 := 126) (kdA dt_MX11_init 126 rfl) ⟨by decide, by decide⟩ cl_MX0_init lk11_104 rfl rfl (Nat.le_of_ble_eq_true rfl) (by decide) rfl (Ni.mono (I0_121 (by omega) hA75) (fun s76 hA76 => ?_))
  refine K_aastore (c := 27) (co := 0) (t0 := 7) (r := (RX0, TX0, 3)) (kdA dt_MX11_init 127 rfl) ⟨by decide, by decide, by decide +kernel⟩ (by decide) (by decide) (by decide +kernel) ⟨by decide, by decide, by decide +kernel⟩ (fun _ => rfl) rfl (fun s77 es77 => ?_)
  have hA77 : Ag 126 [(18, 1), (18, 2), (18, 3), (18, 4), (21, 0), (21, 1), (21, 2), (21, 3), (21, 4), (21, 5), (21, 6), (21, 7), (21, 8), (21, 9)] true s77 := by rw [es77]; exact hA76.put (by decide +kernel)
  refine K_iinc (ls' := [(0, (2, 0)), (1, (0, 1))]) 1 (kdA dt_MX11_init 128 rfl) rfl (by decide) (by decide) rfl ?_
  refine K_goto (tgt := 240) (kdA dt_MX11_init 129 rfl) rfl ?_
  refine K_iload_n 1 (kdA dt_MX11_init 116 rfl) rfl rfl ?_
  refine K_aload_n 0 (kdA dt_MX11_init 117 rfl) rfl rfl ?_
  refine gf11_44 rfl (kdA dt_MX11_init 118 rfl) ⟨by decide, by decide, by decide +kernel⟩ ?_
  rw [hA77.at' (k := 0) (j := 7) (v := 18) (by decide +kernel)]
  refine K_alen (c := 27) (kdA dt_MX11_init 119 rfl) (by decide) ⟨by decide, by decide, by decide +kernel⟩ ?_
  refine K_icmp_ge (tgt := 268) (kdA dt_MX11_init 120 rfl) rfl (fun c => absurd c (by decide +kernel)) (fun _ => ?_)
  refine K_aload_n 0 (kdA dt_MX11_init 121 rfl) rfl rfl ?_
  refine gf11_44 rfl (kdA dt_MX11_init 122 rfl) ⟨by decide, by decide, by decide +kernel⟩ ?_
  rw [hA77.at' (k := 0) (j := 7) (v := 18) (by decide +kernel)]
  refine K_iload_n 1 (kdA dt_MX11_init 123 rfl) rfl rfl ?_
  refine K_new2 (C := RX0) (N := 3) (b2 := (39, 2285)) (kdA dt_MX11_init 124 rfl) ⟨(tb1 119 rfl rfl), (tb2 54 rfl rfl), (tb1 13 rfl rfl)⟩ rfl uw0 ft0 (by decide +kernel) (by decide +kernel) ⟨by decide, by decide⟩ rfl (fun s78 es78 => ?_)
  have hA78 : Ag 127 [(18, 1), (18, 2), (18, 3), (18, 4), (21, 0), (21, 1), (21, 2), (21, 3), (21, 4), (21, 5), (21, 6), (21, 7), (21, 8), (21, 9), (126, 0), (126, 1)] true s78 := by rw [es78]; exact hA77.new (by decide +kernel)
  refine K_dup (kdA dt_MX11_init 125 rfl) rfl ?_
  refine K_nI (b' := (4, 244)) (b2 := (35, 2041)) (as := []) (r := 126) (st := [(2, 126), (0, 1), (2, 18)]) (n1 := 131) (kdA dt_MX11_init 126 rfl) ⟨by decide, by decide⟩ cl_MX0_init lk11_104 rfl rfl (Nat.le_of_ble_eq_true rfl) (by decide) rfl (Ni.mono (I0_126 (by omega) hA78) (fun s79 hA79 => ?_))
  refine K_aastore (c := 27) (co := 0) (t0 := 7) (r := (RX0, TX0, 3)) (kdA dt_MX11_init 127 rfl) ⟨by decide, by decide, by decide +kernel⟩ (by decide) (by decide) (by decide +kernel) ⟨by decide, by decide, by decide +kernel⟩ (fun _ => rfl) rfl (fun s80 es80 => ?_)
  have hA80 : Ag 131 [(18, 2), (18, 3), (18, 4), (21, 0), (21, 1), (21, 2), (21, 3), (21, 4), (21, 5), (21, 6), (21, 7), (21, 8), (21, 9)] true s80 := by rw [es80]; exact hA79.put (by decide +kernel)
  refine K_iinc (ls' := [(0, (2, 0)), (1, (0, 2))]) 1 (kdA dt_MX11_init 128 rfl) rfl (by decide) (by decide) rfl ?_
  refine K_goto (tgt := 240) (kdA dt_MX11_init 129 rfl) rfl ?_
  refine K_iload_n 1 (kdA dt_MX11_init 116 rfl) rfl rfl ?_
  refine K_aload_n 0 (kdA dt_MX11_init 117 rfl) rfl rfl ?_
  refine gf11_44 rfl (kdA dt_MX11_init 118 rfl) ⟨by decide, by decide, by decide +kernel⟩ ?_
  rw [hA80.at' (k := 0) (j := 7) (v := 18) (by decide +kernel)]
  refine K_alen (c := 27) (kdA dt_MX11_init 119 rfl) (by decide) ⟨by decide, by decide, by decide +kernel⟩ ?_
  refine K_icmp_ge (tgt := 268) (kdA dt_MX11_init 120 rfl) rfl (fun c => absurd c (by decide +kernel)) (fun _ => ?_)
  refine K_aload_n 0 (kdA dt_MX11_init 121 rfl) rfl rfl ?_
  refine gf11_44 rfl (kdA dt_MX11_init 122 rfl) ⟨by decide, by decide, by decide +kernel⟩ ?_
  rw [hA80.at' (k := 0) (j := 7) (v := 18) (by decide +kernel)]
  refine K_iload_n 1 (kdA dt_MX11_init 123 rfl) rfl rfl ?_
  refine K_new2 (C := RX0) (N := 3) (b2 := (34, 2038)) (kdA dt_MX11_init 124 rfl) ⟨(tb1 119 rfl rfl), (tb2 54 rfl rfl), (tb1 13 rfl rfl)⟩ rfl uw0 ft0 (by decide +kernel) (by decide +kernel) ⟨by decide, by decide⟩ rfl (fun s81 es81 => ?_)
  have hA81 : Ag 132 [(18, 2), (18, 3), (18, 4), (21, 0), (21, 1), (21, 2), (21, 3), (21, 4), (21, 5), (21, 6), (21, 7), (21, 8), (21, 9), (131, 0), (131, 1)] true s81 := by rw [es81]; exact hA80.new (by decide +kernel)
  refine K_dup (kdA dt_MX11_init 125 rfl) rfl ?_
  refine K_nI (b' := (4, 244)) (b2 := (30, 1794)) (as := []) (r := 131) (st := [(2, 131), (0, 2), (2, 18)]) (n1 := 136) (kdA dt_MX11_init 126 rfl) ⟨by decide, by decide⟩ cl_MX0_init lk11_104 rfl rfl (Nat.le_of_ble_eq_true rfl) (by decide) rfl (Ni.mono (I0_131 (by omega) hA81) (fun s82 hA82 => ?_))
  refine K_aastore (c := 27) (co := 0) (t0 := 7) (r := (RX0, TX0, 3)) (kdA dt_MX11_init 127 rfl) ⟨by decide, by decide, by decide +kernel⟩ (by decide) (by decide) (by decide +kernel) ⟨by decide, by decide, by decide +kernel⟩ (fun _ => rfl) rfl (fun s83 es83 => ?_)
  have hA83 : Ag 136 [(18, 3), (18, 4), (21, 0), (21, 1), (21, 2), (21, 3), (21, 4), (21, 5), (21, 6), (21, 7), (21, 8), (21, 9)] true s83 := by rw [es83]; exact hA82.put (by decide +kernel)
  refine K_iinc (ls' := [(0, (2, 0)), (1, (0, 3))]) 1 (kdA dt_MX11_init 128 rfl) rfl (by decide) (by decide) rfl ?_
  refine K_goto (tgt := 240) (kdA dt_MX11_init 129 rfl) rfl ?_
  refine K_iload_n 1 (kdA dt_MX11_init 116 rfl) rfl rfl ?_
  refine K_aload_n 0 (kdA dt_MX11_init 117 rfl) rfl rfl ?_
  refine gf11_44 rfl (kdA dt_MX11_init 118 rfl) ⟨by decide, by decide, by decide +kernel⟩ ?_
  rw [hA83.at' (k := 0) (j := 7) (v := 18) (by decide +kernel)]
  refine K_alen (c := 27) (kdA dt_MX11_init 119 rfl) (by decide) ⟨by decide, by decide, by decide +kernel⟩ ?_
  refine K_icmp_ge (tgt := 268) (kdA dt_MX11_init 120 rfl) rfl (fun c => absurd c (by decide +kernel)) (fun _ => ?_)
  refine K_aload_n 0 (kdA dt_MX11_init 121 rfl) rfl rfl ?_
  refine gf11_44 rfl (kdA dt_MX11_init 122 rfl) ⟨by decide, by decide, by decide +kernel⟩ ?_
  rw [hA83.at' (k := 0) (j := 7) (v := 18) (by decide +kernel)]
  refine K_iload_n 1 (kdA dt_MX11_init 123 rfl) rfl rfl ?_
  refine K_new2 (C := RX0) (N := 3) (b2 := (29, 1791)) (kdA dt_MX11_init 124 rfl) ⟨(tb1 119 rfl rfl), (tb2 54 rfl rfl), (tb1 13 rfl rfl)⟩ rfl uw0 ft0 (by decide +kernel) (by decide +kernel) ⟨by decide, by decide⟩ rfl (fun s84 es84 => ?_)
  have hA84 : Ag 137 [(18, 3), (18, 4), (21, 0), (21, 1), (21, 2), (21, 3), (21, 4), (21, 5), (21, 6), (21, 7), (21, 8), (21, 9), (136, 0), (136, 1)] true s84 := by rw [es84]; exact hA83.new (by decide +kernel)
  refine K_dup (kdA dt_MX11_init 125 rfl) rfl ?_
  refine K_nI (b' := (4, 244)) (b2 := (25, 1547)) (as := []) (r := 136) (st := [(2, 136), (0, 3), (2, 18)]) (n1 := 141) (kdA dt_MX11_init 126 rfl) ⟨by decide, by decide⟩ cl_MX0_init lk11_104 rfl rfl (Nat.le_of_ble_eq_true rfl) (by decide) rfl (Ni.mono (I0_136 (by omega) hA84) (fun s85 hA85 => ?_))
  refine K_aastore (c := 27) (co := 0) (t0 := 7) (r := (RX0, TX0, 3)) (kdA dt_MX11_init 127 rfl) ⟨by decide, by decide, by decide +kernel⟩ (by decide) (by decide) (by decide +kernel) ⟨by decide, by decide, by decide +kernel⟩ (fun _ => rfl) rfl (fun s86 es86 => ?_)
  have hA86 : Ag 141 [(18, 4), (21, 0), (21, 1), (21, 2), (21, 3), (21, 4), (21, 5), (21, 6), (21, 7), (21, 8), (21, 9)] true s86 := by rw [es86]; exact hA85.put (by decide +kernel)
  refine K_iinc (ls' := [(0, (2, 0)), (1, (0, 4))]) 1 (kdA dt_MX11_init 128 rfl) rfl (by decide) (by decide) rfl ?_
  refine K_goto (tgt := 240) (kdA dt_MX11_init 129 rfl) rfl ?_
  refine K_iload_n 1 (kdA dt_MX11_init 116 rfl) rfl rfl ?_
  refine K_aload_n 0 (kdA dt_MX11_init 117 rfl) rfl rfl ?_
  refine gf11_44 rfl (kdA dt_MX11_init 118 rfl) ⟨by decide, by decide, by decide +kernel⟩ ?_
  rw [hA86.at' (k := 0) (j := 7) (v := 18) (by decide +kernel)]
  refine K_alen (c := 27) (kdA dt_MX11_init 119 rfl) (by decide) ⟨by decide, by decide, by decide +kernel⟩ ?_
  refine K_icmp_ge (tgt := 268) (kdA dt_MX11_init 120 rfl) rfl (fun c => absurd c (by decide +kernel)) (fun _ => ?_)
  refine K_aload_n 0 (kdA dt_MX11_init 121 rfl) rfl rfl ?_
  refine gf11_44 rfl (kdA dt_MX11_init 122 rfl) ⟨by decide, by decide, by decide +kernel⟩ ?_
  rw [hA86.at' (k := 0) (j := 7) (v := 18) (by decide +kernel)]
  refine K_iload_n 1 (kdA dt_MX11_init 123 rfl) rfl rfl ?_
  refine K_new2 (C := RX0) (N := 3) (b2 := (24, 1544)) (kdA dt_MX11_init 124 rfl) ⟨(tb1 119 rfl rfl), (tb2 54 rfl rfl), (tb1 13 rfl rfl)⟩ rfl uw0 ft0 (by decide +kernel) (by decide +kernel) ⟨by decide, by decide⟩ rfl (fun s87 es87 => ?_)
  have hA87 : Ag 142 [(18, 4), (21, 0), (21, 1), (21, 2), (21, 3), (21, 4), (21, 5), (21, 6), (21, 7), (21, 8), (21, 9), (141, 0), (141, 1)] true s87 := by rw [es87]; exact hA86.new (by decide +kernel)
  refine K_dup (kdA dt_MX11_init 125 rfl) rfl ?_
  refine K_nI (b' := (4, 244)) (b2 := (20, 1300)) (as := []) (r := 141) (st := [(2, 141), (0, 4), (2, 18)]) (n1 := 146) (kdA dt_MX11_init 126 rfl) ⟨by decide, by decide⟩ cl_MX0_init lk11_104 rfl rfl (Nat.le_of_ble_eq_true rfl) (by decide) rfl (Ni.mono (I0_141 (by omega) hA87) (fun s88 hA88 => ?_))
  refine K_aastore (c := 27) (co := 0) (t0 := 7) (r := (RX0, TX0, 3)) (kdA dt_MX11_init 127 rfl) ⟨by decide, by decide, by decide +kernel⟩ (by decide) (by decide) (by decide +kernel) ⟨by decide, by decide, by decide +kernel⟩ (fun _ => rfl) rfl (fun s89 es89 => ?_)
  have hA89 : Ag 146 [(21, 0), (21, 1), (21, 2), (21, 3), (21, 4), (21, 5), (21, 6), (21, 7), (21, 8), (21, 9)] true s89 := by rw [es89]; exact hA88.put (by decide +kernel)
  refine K_iinc (ls' := [(0, (2, 0)), (1, (0, 5))]) 1 (kdA dt_MX11_init 128 rfl) rfl (by decide) (by decide) rfl ?_
  refine K_goto (tgt := 240) (kdA dt_MX11_init 129 rfl) rfl ?_
  refine K_iload_n 1 (kdA dt_MX11_init 116 rfl) rfl rfl ?_
  refine K_aload_n 0 (kdA dt_MX11_init 117 rfl) rfl rfl ?_
  refine gf11_44 rfl (kdA dt_MX11_init 118 rfl) ⟨by decide, by decide, by decide +kernel⟩ ?_
  rw [hA89.at' (k := 0) (j := 7) (v := 18) (by decide +kernel)]
  refine K_alen (c := 27) (kdA dt_MX11_init 119 rfl) (by decide) ⟨by decide, by decide, by decide +kernel⟩ ?_
  refine K_icmp_ge (tgt := 268) (kdA dt_MX11_init 120 rfl) rfl (fun _ => ?_) (fun c => absurd (by decide +kernel) c)
  refine K_iconst (kdA dt_MX11_init 130 rfl) (by decide) ?_
  refine K_istore_n (ls' := [(0, (2, 0)), (1, (0, 0))]) (kdA dt_MX11_init 131 rfl) rfl (by decide) rfl ?_
  refine K_iload_n 1 (kdA dt_MX11_init 132 rfl) rfl rfl ?_
  refine K_aload_n 0 (kdA dt_MX11_init 133 rfl) rfl rfl ?_
  refine gf11_51 rfl (kdA dt_MX11_init 134 rfl) ⟨by decide, by decide, by decide +kernel⟩ ?_
  rw [hA89.at' (k := 0) (j := 10) (v := 21) (by decide +kernel)]
  refine K_alen (c := 28) (kdA dt_MX11_init 135 rfl) (by decide) ⟨by decide, by decide, by decide +kernel⟩ ?_
  refine K_icmp_ge (tgt := 301) (kdA dt_MX11_init 136 rfl) rfl (fun c => absurd c (by decide +kernel)) (fun _ => ?_)
  refine K_aload_n 0 (kdA dt_MX11_init 137 rfl) rfl rfl ?_
  refine gf11_51 rfl (kdA dt_MX11_init 138 rfl) ⟨by decide, by decide, by decide +kernel⟩ ?_
  rw [hA89.at' (k := 0) (j := 10) (v := 21) (by decide +kernel)]
  refine K_iload_n 1 (kdA dt_MX11_init 139 rfl) rfl rfl ?_
  refine K_new2 (C := RX8) (N := 2) (b2 := (19, 1298)) (kdA dt_MX11_init 140 rfl) ⟨(tb1 48 rfl rfl), (tb1 49 rfl rfl), (tb1 3 rfl rfl)⟩ rfl uw8 ft8 (by decide +kernel) (by decide +kernel) ⟨by decide, by decide⟩ rfl (fun s90 es90 => ?_)
  have hA90 : Ag 147 [(21, 0), (21, 1), (21, 2), (21, 3), (21, 4), (21, 5), (21, 6), (21, 7), (21, 8), (21, 9), (146, 0)] true s90 := by rw [es90]; exact hA89.new (by decide +kernel)
  refine K_dup (kdA dt_MX11_init 141 rfl) rfl ?_
  refine K_sipush (kdA dt_MX11_init 142 rfl) (by decide) ?_
  refine K_nI (b' := (1, 128)) (b2 := (18, 1170)) (as := [(0, 128)]) (r := 146) (st := [(2, 146), (0, 0), (2, 21)]) (n1 := 148) (kdA dt_MX11_init 143 rfl) ⟨by decide, by decide⟩ cl_MX8_init lk11_22 rfl rfl (Nat.le_of_ble_eq_true rfl) (by decide) rfl (Ni.mono (I8_146 (by omega) hA90) (fun s91 hA91 => ?_))
  refine K_aastore (c := 28) (co := 8) (t0 := 8) (r := (RX8, TX8, 2)) (kdA dt_MX11_init 144 rfl) ⟨by decide, by decide, by decide +kernel⟩ (by decide) (by decide) (by decide +kernel) ⟨by decide, by decide, by decide +kernel⟩ (fun _ => rfl) rfl (fun s92 es92 => ?_)
  have hA92 : Ag 148 [(21, 1), (21, 2), (21, 3), (21, 4), (21, 5), (21, 6), (21, 7), (21, 8), (21, 9)] true s92 := by rw [es92]; exact hA91.put (by decide +kernel)
  refine K_iinc (ls' := [(0, (2, 0)), (1, (0, 1))]) 1 (kdA dt_MX11_init 145 rfl) rfl (by decide) (by decide) rfl ?_
  refine K_goto (tgt := 270) (kdA dt_MX11_init 146 rfl) rfl ?_
  refine K_iload_n 1 (kdA dt_MX11_init 132 rfl) rfl rfl ?_
  refine K_aload_n 0 (kdA dt_MX11_init 133 rfl) rfl rfl ?_
  refine gf11_51 rfl (kdA dt_MX11_init 134 rfl) ⟨by decide, by decide, by decide +kernel⟩ ?_
  rw [hA92.at' (k := 0) (j := 10) (v := 21) (by decide +kernel)]
  refine K_alen (c := 28) (kdA dt_MX11_init 135 rfl) (by decide) ⟨by decide, by decide, by decide +kernel⟩ ?_
  refine K_icmp_ge (tgt := 301) (kdA dt_MX11_init 136 rfl) rfl (fun c => absurd c (by decide +kernel)) (fun _ => ?_)
  refine K_aload_n 0 (kdA dt_MX11_init 137 rfl) rfl rfl ?_
  refine gf11_51 rfl (kdA dt_MX11_init 138 rfl) ⟨by decide, by decide, by decide +kernel⟩ ?_
  rw [hA92.at' (k := 0) (j := 10) (v := 21) (by decide +kernel)]
  refine K_iload_n 1 (kdA dt_MX11_init 139 rfl) rfl rfl ?_
  refine K_new2 (C := RX8) (N := 2) (b2 := (17, 1168)) (kdA dt_MX11_init 140 rfl) ⟨(tb1 48 rfl rfl), (tb1 49 rfl rfl), (tb1 3 rfl rfl)⟩ rfl uw8 ft8 (by decide +kernel) (by decide +kernel) ⟨by decide, by decide⟩ rfl (fun s93 es93 => ?_)
  have hA93 : Ag 149 [(21, 1), (21, 2), (21, 3), (21, 4), (21, 5), (21, 6), (21, 7), (21, 8), (21, 9), (148, 0)] true s93 := by rw [es93]; exact hA92.new (by decide +kernel)
  refine K_dup (kdA dt_MX11_init 141 rfl) rfl ?_
  refine K_sipush (kdA dt_MX11_init 142 rfl) (by decide) ?_
  refine K_nI (b' := (1, 128)) (b2 := (16, 1040)) (as := [(0, 128)]) (r := 148) (st := [(2, 148), (0, 1), (2, 21)]) (n1 := 150) (kdA dt_MX11_init 143 rfl) ⟨by decide, by decide⟩ cl_MX8_init lk11_22 rfl rfl (Nat.le_of_ble_eq_true rfl) (by decide) rfl (Ni.mono (I8_148 (by omega) hA93) (fun s94 hA94 => ?_))
  refine K_aastore (c := 28) (co := 8) (t0 := 8) (r := (RX8, TX8, 2)) (kdA dt_MX11_init 144 rfl) ⟨by decide, by decide, by decide +kernel⟩ (by decide) (by decide) (by decide +kernel) ⟨by decide, by decide, by decide +kernel⟩ (fun _ => rfl) rfl (fun s95 es95 => ?_)
  have hA95 : Ag 150 [(21, 2), (21, 3), (21, 4), (21, 5), (21, 6), (21, 7), (21, 8), (21, 9)] true s95 := by rw [es95]; exact hA94.put (by decide +kernel)
  refine K_iinc (ls' := [(0, (2, 0)), (1, (0, 2))]) 1 (kdA dt_MX11_init 145 rfl) rfl (by decide) (by decide) rfl ?_
  refine K_goto (tgt := 270) (kdA dt_MX11_init 146 rfl) rfl ?_
  refine K_iload_n 1 (kdA dt_MX11_init 132 rfl) rfl rfl ?_
  refine K_aload_n 0 (kdA dt_MX11_init 133 rfl) rfl rfl ?_
  refine gf11_51 rfl (kdA dt_MX11_init 134 rfl) ⟨by decide, by decide, by decide +kernel⟩ ?_
  rw [hA95.at' (k := 0) (j := 10) (v := 21) (by decide +kernel)]
  refine K_alen (c := 28) (kdA dt_MX11_init 135 rfl) (by decide) ⟨by decide, by decide, by decide +kernel⟩ ?_
  refine K_icmp_ge (tgt := 301) (kdA dt_MX11_init 136 rfl) rfl (fun c => absurd c (by decide +kernel)) (fun _ => ?_)
  refine K_aload_n 0 (kdA dt_MX11_init 137 rfl) rfl rfl ?_
  refine gf11_51 rfl (kdA dt_MX11_init 138 rfl) ⟨by decide, by decide, by decide +kernel⟩ ?_
  rw [hA95.at' (k := 0) (j := 10) (v := 21) (by decide +kernel)]
  refine K_iload_n 1 (kdA dt_MX11_init 139 rfl) rfl rfl ?_
  refine K_new2 (C := RX8) (N := 2) (b2 := (15, 1038)) (kdA dt_MX11_init 140 rfl) ⟨(tb1 48 rfl rfl), (tb1 49 rfl rfl), (tb1 3 rfl rfl)⟩ rfl uw8 ft8 (by decide +kernel) (by decide +kernel) ⟨by decide, by decide⟩ rfl (fun s96 es96 => ?_)
  have hA96 : Ag 151 [(21, 2), (21, 3), (21, 4), (21, 5), (21, 6), (21, 7), (21, 8), (21, 9), (150, 0)] true s96 := by rw [es96]; exact hA95.new (by decide +kernel)
  refine K_dup (kdA dt_MX11_init 141 rfl) rfl ?_
  refine K_sipush (kdA dt_MX11_init 142 rfl) (by decide) ?_
  refine K_nI (b' := (1, 128)) (b2 := (14, 910)) (as := [(0, 128)]) (r := 150) (st := [(2, 150), (0, 2), (2, 21)]) (n1 := 152) (kdA dt_MX11_init 143 rfl) ⟨by decide, by decide⟩ cl_MX8_init lk11_22 rfl rfl (Nat.le_of_ble_eq_true rfl) (by decide) rfl (Ni.mono (I8_150 (by omega) hA96) (fun s97 hA97 => ?_))
  refine K_aastore (c := 28) (co := 8) (t0 := 8) (r := (RX8, TX8, 2)) (kdA dt_MX11_init 144 rfl) ⟨by decide, by decide, by decide +kernel⟩ (by decide) (by decide) (by decide +kernel) ⟨by decide, by decide, by decide +kernel⟩ (fun _ => rfl) rfl (fun s98 es98 => ?_)
  have hA98 : Ag 152 [(21, 3), (21, 4), (21, 5), (21, 6), (21, 7), (21, 8), (21, 9)] true s98 := by rw [es98]; exact hA97.put (by decide +kernel)
  refine K_iinc (ls' := [(0, (2, 0)), (1, (0, 3))]) 1 (kdA dt_MX11_init 145 rfl) rfl (by decide) (by decide) rfl ?_
  refine K_goto (tgt := 270) (kdA dt_MX11_init 146 rfl) rfl ?_
  refine K_iload_n 1 (kdA dt_MX11_init 132 rfl) rfl rfl ?_
  refine K_aload_n 0 (kdA dt_MX11_init 133 rfl) rfl rfl ?_
  refine gf11_51 rfl (kdA dt_MX11_init 134 rfl) ⟨by decide, by decide, by decide +kernel⟩ ?_
  rw [hA98.at' (k := 0) (j := 10) (v := 21) (by decide +kernel)]
  refine K_alen (c := 28) (kdA dt_MX11_init 135 rfl) (by decide) ⟨by decide, by decide, by decide +kernel⟩ ?_
  refine K_icmp_ge (tgt := 301) (kdA dt_MX11_init 136 rfl) rfl (fun c => absurd c (by decide +kernel)) (fun _ => ?_)
  refine K_aload_n 0 (kdA dt_MX11_init 137 rfl) rfl rfl ?_
  refine gf11_51 rfl (kdA dt_MX11_init 138 rfl) ⟨by decide, by decide, by decide +kernel⟩ ?_
  rw [hA98.at' (k := 0) (j := 10) (v := 21) (by decide +kernel)]
  refine K_iload_n 1 (kdA dt_MX11_init 139 rfl) rfl rfl ?_
  refine K_new2 (C := RX8) (N := 2) (b2 := (13, 908)) (kdA dt_MX11_init 140 rfl) ⟨(tb1 48 rfl rfl), (tb1 49 rfl rfl), (tb1 3 rfl rfl)⟩ rfl uw8 ft8 (by decide +kernel) (by decide +kernel) ⟨by decide, by decide⟩ rfl (fun s99 es99 => ?_)
  have hA99 : Ag 153 [(21, 3), (21, 4), (21, 5), (21, 6), (21, 7), (21, 8), (21, 9), (152, 0)] true s99 := by rw [es99]; exact hA98.new (by decide +kernel)
  refine K_dup (kdA dt_MX11_init 141 rfl) rfl ?_
  refine K_sipush (kdA dt_MX11_init 142 rfl) (by decide) ?_
  refine K_nI (b' := (1, 128)) (b2 := (12, 780)) (as := [(0, 128)]) (r := 152) (st := [(2, 152), (0, 3), (2, 21)]) (n1 := 154) (kdA dt_MX11_init 143 rfl) ⟨by decide, by decide⟩ cl_MX8_init lk11_22 rfl rfl (Nat.le_of_ble_eq_true rfl) (by decide) rfl (Ni.mono (I8_152 (by omega) hA99) (fun s100 hA100 => ?_))
  refine K_aastore (c := 28) (co := 8) (t0 := 8) (r := (RX8, TX8, 2)) (kdA dt_MX11_init 144 rfl) ⟨by decide, by decide, by decide +kernel⟩ (by decide) (by decide) (by decide +kernel) ⟨by decide, by decide, by decide +kernel⟩ (fun _ => rfl) rfl (fun s101 es101 => ?_)
  have hA101 : Ag 154 [(21, 4), (21, 5), (21, 6), (21, 7), (21, 8), (21, 9)] true s101 := by rw [es101]; exact hA100.put (by decide +kernel)
  refine K_iinc (ls' := [(0, (2, 0)), (1, (0, 4))]) 1 (kdA dt_MX11_init 145 rfl) rfl (by decide) (by decide) rfl ?_
  refine K_goto (tgt := 270) (kdA dt_MX11_init 146 rfl) rfl ?_
  refine K_iload_n 1 (kdA dt_MX11_init 132 rfl) rfl rfl ?_
  refine K_aload_n 0 (kdA dt_MX11_init 133 rfl) rfl rfl ?_
  refine gf11_51 rfl (kdA dt_MX11_init 134 rfl) ⟨by decide, by decide, by decide +kernel⟩ ?_
  rw [hA101.at' (k := 0) (j := 10) (v := 21) (by decide +kernel)]
  refine K_alen (c := 28) (kdA dt_MX11_init 135 rfl) (by decide) ⟨by decide, by decide, by decide +kernel⟩ ?_
  refine K_icmp_ge (tgt := 301) (kdA dt_MX11_init 136 rfl) rfl (fun c => absurd c (by decide +kernel)) (fun _ => ?_)
  refine K_aload_n 0 (kdA dt_MX11_init 137 rfl) rfl rfl ?_
  refine gf11_51 rfl (kdA dt_MX11_init 138 rfl) ⟨by decide, by decide, by decide +kernel⟩ ?_
  rw [hA101.at' (k := 0) (j := 10) (v := 21) (by decide +kernel)]
  refine K_iload_n 1 (kdA dt_MX11_init 139 rfl) rfl rfl ?_
  refine K_new2 (C := RX8) (N := 2) (b2 := (11, 778)) (kdA dt_MX11_init 140 rfl) ⟨(tb1 48 rfl rfl), (tb1 49 rfl rfl), (tb1 3 rfl rfl)⟩ rfl uw8 ft8 (by decide +kernel) (by decide +kernel) ⟨by decide, by decide⟩ rfl (fun s102 es102 => ?_)
  have hA102 : Ag 155 [(21, 4), (21, 5), (21, 6), (21, 7), (21, 8), (21, 9), (154, 0)] true s102 := by rw [es102]; exact hA101.new (by decide +kernel)
  refine K_dup (kdA dt_MX11_init 141 rfl) rfl ?_
  refine K_sipush (kdA dt_MX11_init 142 rfl) (by decide) ?_
  refine K_nI (b' := (1, 128)) (b2 := (10, 650)) (as := [(0, 128)]) (r := 154) (st := [(2, 154), (0, 4), (2, 21)]) (n1 := 156) (kdA dt_MX11_init 143 rfl) ⟨by decide, by decide⟩ cl_MX8_init lk11_22 rfl rfl (Nat.le_of_ble_eq_true rfl) (by decide) rfl (Ni.mono (I8_154 (by omega) hA102) (fun s103 hA103 => ?_))
  refine K_aastore (c := 28) (co := 8) (t0 := 8) (r := (RX8, TX8, 2)) (kdA dt_MX11_init 144 rfl) ⟨by decide, by decide, by decide +kernel⟩ (by decide) (by decide) (by decide +kernel) ⟨by decide, by decide, by decide +kernel⟩ (fun _ => rfl) rfl (fun s104 es104 => ?_)
  have hA104 : Ag 156 [(21, 5), (21, 6), (21, 7), (21, 8), (21, 9)] true s104 := by rw [es104]; exact hA103.put (by decide +kernel)
  refine K_iinc (ls' := [(0, (2, 0)), (1, (0, 5))]) 1 (kdA dt_MX11_init 145 rfl) rfl (by decide) (by decide) rfl ?_
  refine K_goto (tgt := 270) (kdA dt_MX11_init 146 rfl) rfl ?_
  refine K_iload_n 1 (kdA dt_MX11_init 132 rfl) rfl rfl ?_
  refine K_aload_n 0 (kdA dt_MX11_init 133 rfl) rfl rfl ?_
  refine gf11_51 rfl (kdA dt_MX11_init 134 rfl) ⟨by decide, by decide, by decide +kernel⟩ ?_
  rw [hA104.at' (k := 0) (j := 10) (v := 21) (by decide +kernel)]
  refine K_alen (c := 28) (kdA dt_MX11_init 135 rfl) (by decide) ⟨by decide, by decide, by decide +kernel⟩ ?_
  refine K_icmp_ge (tgt := 301) (kdA dt_MX11_init 136 rfl) rfl (fun c => absurd c (by decide +kernel)) (fun _ => ?_)
  refine K_aload_n 0 (kdA dt_MX11_init 137 rfl) rfl rfl ?_
  refine gf11_51 rfl (kdA dt_MX11_init 138 rfl) ⟨by decide, by decide, by decide +kernel⟩ ?_
  rw [hA104.at' (k := 0) (j := 10) (v := 21) (by decide +kernel)]
  refine K_iload_n 1 (kdA dt_MX11_init 139 rfl) rfl rfl ?_
  refine K_new2 (C := RX8) (N := 2) (b2 := (9, 648)) (kdA dt_MX11_init 140 rfl) ⟨(tb1 48 rfl rfl), (tb1 49 rfl rfl), (tb1 3 rfl rfl)⟩ rfl uw8 ft8 (by decide +kernel) (by decide +kernel) ⟨by decide, by decide⟩ rfl (fun s105 es105 => ?_)
  have hA105 : Ag 157 [(21, 5), (21, 6), (21, 7), (21, 8), (21, 9), (156, 0)] true s105 := by rw [es105]; exact hA104.new (by decide +kernel)
  refine K_dup (kdA dt_MX11_init 141 rfl) rfl ?_
  refine K_sipush (kdA dt_MX11_init 142 rfl) (by decide) ?_
  refine K_nI (b' := (1, 128)) (b2 := (8, 520)) (as := [(0, 128)]) (r := 156) (st := [(2, 156), (0, 5), (2, 21)]) (n1 := 158) (kdA dt_MX11_init 143 rfl) ⟨by decide, by decide⟩ cl_MX8_init lk11_22 rfl rfl (Nat.le_of_ble_eq_true rfl) (by decide) rfl (Ni.mono (I8_156 (by omega) hA105) (fun s106 hA106 => ?_))
  refine K_aastore (c := 28) (co := 8) (t0 := 8) (r := (RX8, TX8, 2)) (kdA dt_MX11_init 144 rfl) ⟨by decide, by decide, by decide +kernel⟩ (by decide) (by decide) (by decide +kernel) ⟨by decide, by decide, by decide +kernel⟩ (fun _ => rfl) rfl (fun s107 es107 => ?_)
  have hA107 : Ag 158 [(21, 6), (21, 7), (21, 8), (21, 9)] true s107 := by rw [es107]; exact hA106.put (by decide +kernel)
  refine K_iinc (ls' := [(0, (2, 0)), (1, (0, 6))]) 1 (kdA dt_MX11_init 145 rfl) rfl (by decide) (by decide) rfl ?_
  refine K_goto (tgt := 270) (kdA dt_MX11_init 146 rfl) rfl ?_
  refine K_iload_n 1 (kdA dt_MX11_init 132 rfl) rfl rfl ?_
  refine K_aload_n 0 (kdA dt_MX11_init 133 rfl) rfl rfl ?_
  refine gf11_51 rfl (kdA dt_MX11_init 134 rfl) ⟨by decide, by decide, by decide +kernel⟩ ?_
  rw [hA107.at' (k := 0) (j := 10) (v := 21) (by decide +kernel)]
  refine K_alen (c := 28) (kdA dt_MX11_init 135 rfl) (by decide) ⟨by decide, by decide, by decide +kernel⟩ ?_
  refine K_icmp_ge (tgt := 301) (kdA dt_MX11_init 136 rfl) rfl (fun c => absurd c (by decide +kernel)) (fun _ => ?_)
  refine K_aload_n 0 (kdA dt_MX11_init 137 rfl) rfl rfl ?_
  refine gf11_51 rfl (kdA dt_MX11_init 138 rfl) ⟨by decide, by decide, by decide +kernel⟩ ?_
  rw [hA107.at' (k := 0) (j := 10) (v := 21) (by decide +kernel)]
  refine K_iload_n 1 (kdA dt_MX11_init 139 rfl) rfl rfl ?_
  refine K_new2 (C := RX8) (N := 2) (b2 := (7, 518)) (kdA dt_MX11_init 140 rfl) ⟨(tb1 48 rfl rfl), (tb1 49 rfl rfl), (tb1 3 rfl rfl)⟩ rfl uw8 ft8 (by decide +kernel) (by decide +kernel) ⟨by decide, by decide⟩ rfl (fun s108 es108 => ?_)
  have hA108 : Ag 159 [(21, 6), (21, 7), (21, 8), (21, 9), (158, 0)] true s108 := by rw [es108]; exact hA107.new (by decide +kernel)
  refine K_dup (kdA dt_MX11_init 141 rfl) rfl ?_
  refine K_sipush (kdA dt_MX11_init 142 rfl) (by decide) ?_
  refine K_nI (b' := (1, 128)) (b2 := (6, 390)) (as := [(0, 128)]) (r := 158) (st := [(2, 158), (0, 6), (2, 21)]) (n1 := 160) (kdA dt_MX11_init 143 rfl) ⟨by decide, by decide⟩ cl_MX8_init lk11_22 rfl rfl (Nat.le_of_ble_eq_true rfl) (by decide) rfl (Ni.mono (I8_158 (by omega) hA108) (fun s109 hA109 => ?_))
  refine K_aastore (c := 28) (co := 8) (t0 := 8) (r := (RX8, TX8, 2)) (kdA dt_MX11_init 144 rfl) ⟨by decide, by decide, by decide +kernel⟩ (by decide) (by decide) (by decide +kernel) ⟨by decide, by decide, by decide +kernel⟩ (fun _ => rfl) rfl (fun s110 es110 => ?_)
  have hA110 : Ag 160 [(21, 7), (21, 8), (21, 9)] true s110 := by rw [es110]; exact hA109.put (by decide +kernel)
  refine K_iinc (ls' := [(0, (2, 0)), (1, (0, 7))]) 1 (kdA dt_MX11_init 145 rfl) rfl (by decide) (by decide) rfl ?_
  refine K_goto (tgt := 270) (kdA dt_MX11_init 146 rfl) rfl ?_
  refine K_iload_n 1 (kdA dt_MX11_init 132 rfl) rfl rfl ?_
  refine K_aload_n 0 (kdA dt_MX11_init 133 rfl) rfl rfl ?_
  refine gf11_51 rfl (kdA dt_MX11_init 134 rfl) ⟨by decide, by decide, by decide +kernel⟩ ?_
  rw [hA110.at' (k := 0) (j := 10) (v := 21) (by decide +kernel)]
  refine K_alen (c := 28) (kdA dt_MX11_init 135 rfl) (by decide) ⟨by decide, by decide, by decide +kernel⟩ ?_
  refine K_icmp_ge (tgt := 301) (kdA dt_MX11_init 136 rfl) rfl (fun c => absurd c (by decide +kernel)) (fun _ => ?_)
  refine K_aload_n 0 (kdA dt_MX11_init 137 rfl) rfl rfl ?_
  refine gf11_51 rfl (kdA dt_MX11_init 138 rfl) ⟨by decide, by decide, by decide +kernel⟩ ?_
  rw [hA110.at' (k := 0) (j := 10) (v := 21) (by decide +kernel)]
  refine K_iload_n 1 (kdA dt_MX11_init 139 rfl) rfl rfl ?_
  refine K_new2 (C := RX8) (N := 2) (b2 := (5, 388)) (kdA dt_MX11_init 140 rfl) ⟨(tb1 48 rfl rfl), (tb1 49 rfl rfl), (tb1 3 rfl rfl)⟩ rfl uw8 ft8 (by decide +kernel) (by decide +kernel) ⟨by decide, by decide⟩ rfl (fun s111 es111 => ?_)
  have hA111 : Ag 161 [(21, 7), (21, 8), (21, 9), (160, 0)] true s111 := by rw [es111]; exact hA110.new (by decide +kernel)
  refine K_dup (kdA dt_MX11_init 141 rfl) rfl ?_
  refine K_sipush (kdA dt_MX11_init 142 rfl) (by decide) ?_
  refine K_nI (b' := (1, 128)) (b2 := (4, 260)) (as := [(0, 128)]) (r := 160) (st := [(2, 160), (0, 7), (2, 21)]) (n1 := 162) (kdA dt_MX11_init 143 rfl) ⟨by decide, by decide⟩ cl_MX8_init lk11_22 rfl rfl (Nat.le_of_ble_eq_true rfl) (by decide) rfl (Ni.mono (I8_160 (by omega) hA111) (fun s112 hA112 => ?_))
  refine K_aastore (c := 28) (co := 8) (t0 := 8) (r := (RX8, TX8, 2)) (kdA dt_MX11_init 144 rfl) ⟨by decide, by decide, by decide +kernel⟩ (by decide) (by decide) (by decide +kernel) ⟨by decide, by decide, by decide +kernel⟩ (fun _ => rfl) rfl (fun s113 es113 => ?_)
  have hA113 : Ag 162 [(21, 8), (21, 9)] true s113 := by rw [es113]; exact hA112.put (by decide +kernel)
  refine K_iinc (ls' := [(0, (2, 0)), (1, (0, 8))]) 1 (kdA dt_MX11_init 145 rfl) rfl (by decide) (by decide) rfl ?_
  refine K_goto (tgt := 270) (kdA dt_MX11_init 146 rfl) rfl ?_
  refine K_iload_n 1 (kdA dt_MX11_init 132 rfl) rfl rfl ?_
  refine K_aload_n 0 (kdA dt_MX11_init 133 rfl) rfl rfl ?_
  refine gf11_51 rfl (kdA dt_MX11_init 134 rfl) ⟨by decide, by decide, by decide +kernel⟩ ?_
  rw [hA113.at' (k := 0) (j := 10) (v := 21) (by decide +kernel)]
  refine K_alen (c := 28) (kdA dt_MX11_init 135 rfl) (by decide) ⟨by decide, by decide, by decide +kernel⟩ ?_
  refine K_icmp_ge (tgt := 301) (kdA dt_MX11_init 136 rfl) rfl (fun c => absurd c (by decide +kernel)) (fun _ => ?_)
  refine K_aload_n 0 (kdA dt_MX11_init 137 rfl) rfl rfl ?_
  refine gf11_51 rfl (kdA dt_MX11_init 138 rfl) ⟨by decide, by decide, by decide +kernel⟩ ?_
  rw [hA113.at' (k := 0) (j := 10) (v := 21) (by decide +kernel)]
  refine K_iload_n 1 (kdA dt_MX11_init 139 rfl) rfl rfl ?_
  refine K_new2 (C := RX8) (N := 2) (b2 := (3, 258)) (kdA dt_MX11_init 140 rfl) ⟨(tb1 48 rfl rfl), (tb1 49 rfl rfl), (tb1 3 rfl rfl)⟩ rfl uw8 ft8 (by decide +kernel) (by decide +kernel) ⟨by decide, by decide⟩ rfl (fun s114 es114 => ?_)
  have hA114 : Ag 163 [(21, 8), (21, 9), (162, 0)] true s114 := by rw [es114]; exact hA113.new (by decide +kernel)
  refine K_dup (kdA dt_MX11_init 141 rfl) rfl ?_
  refine K_sipush (kdA dt_MX11_init 142 rfl) (by decide) ?_
  refine K_nI (b' := (1, 128)) (b2 := (2, 130)) (as := [(0, 128)]) (r := 162) (st := [(2, 162), (0, 8), (2, 21)]) (n1 := 164) (kdA dt_MX11_init 143 rfl) ⟨by decide, by decide⟩ cl_MX8_init lk11_22 rfl rfl (Nat.le_of_ble_eq_true rfl) (by decide) rfl (Ni.mono (I8_162 (by omega) hA114) (fun s115 hA115 => ?_))
  refine K_aastore (c := 28) (co := 8) (t0 := 8) (r := (RX8, TX8, 2)) (kdA dt_MX11_init 144 rfl) ⟨by decide, by decide, by decide +kernel⟩ (by decide) (by decide) (by decide +kernel) ⟨by decide, by decide, by decide +kernel⟩ (fun _ => rfl) rfl (fun s116 es116 => ?_)
  have hA116 : Ag 164 [(21, 9)] true s116 := by rw [es116]; exact hA115.put (by decide +kernel)
  refine K_iinc (ls' := [(0, (2, 0)), (1, (0, 9))]) 1 (kdA dt_MX11_init 145 rfl) rfl (by decide) (by decide) rfl ?_
  refine K_goto (tgt := 270) (kdA dt_MX11_init 146 rfl) rfl ?_
  refine K_iload_n 1 (kdA dt_MX11_init 132 rfl) rfl rfl ?_
  refine K_aload_n 0 (kdA dt_MX11_init 133 rfl) rfl rfl ?_
  refine gf11_51 rfl (kdA dt_MX11_init 134 rfl) ⟨by decide, by decide, by decide +kernel⟩ ?_
  rw [hA116.at' (k := 0) (j := 10) (v := 21) (by decide +kernel)]
  refine K_alen (c := 28) (kdA dt_MX11_init 135 rfl) (by decide) ⟨by decide, by decide, by decide +kernel⟩ ?_
  refine K_icmp_ge (tgt := 301) (kdA dt_MX11_init 136 rfl) rfl (fun c => absurd c (by decide +kernel)) (fun _ => ?_)
  refine K_aload_n 0 (kdA dt_MX11_init 137 rfl) rfl rfl ?_
  refine gf11_51 rfl (kdA dt_MX11_init 138 rfl) ⟨by decide, by decide, by decide +kernel⟩ ?_
  rw [hA116.at' (k := 0) (j := 10) (v := 21) (by decide +kernel)]
  refine K_iload_n 1 (kdA dt_MX11_init 139 rfl) rfl rfl ?_
  refine K_new2 (C := RX8) (N := 2) (b2 := (1, 128)) (kdA dt_MX11_init 140 rfl) ⟨(tb1 48 rfl rfl), (tb1 49 rfl rfl), (tb1 3 rfl rfl)⟩ rfl uw8 ft8 (by decide +kernel) (by decide +kernel) ⟨by decide, by decide⟩ rfl (fun s117 es117 => ?_)
  have hA117 : Ag 165 [(21, 9), (164, 0)] true s117 := by rw [es117]; exact hA116.new (by decide +kernel)
  refine K_dup (kdA dt_MX11_init 141 rfl) rfl ?_
  refine K_sipush (kdA dt_MX11_init 142 rfl) (by decide) ?_
  refine K_nI (b' := (1, 128)) (b2 := (0, 0)) (as := [(0, 128)]) (r := 164) (st := [(2, 164), (0, 9), (2, 21)]) (n1 := 166) (kdA dt_MX11_init 143 rfl) ⟨by decide, by decide⟩ cl_MX8_init lk11_22 rfl rfl (Nat.le_of_ble_eq_true rfl) (by decide) rfl (Ni.mono (I8_164 (by omega) hA117) (fun s118 hA118 => ?_))
  refine K_aastore (c := 28) (co := 8) (t0 := 8) (r := (RX8, TX8, 2)) (kdA dt_MX11_init 144 rfl) ⟨by decide, by decide, by decide +kernel⟩ (by decide) (by decide) (by decide +kernel) ⟨by decide, by decide, by decide +kernel⟩ (fun _ => rfl) rfl (fun s119 es119 => ?_)
  have hA119 : Ag 166 [] true s119 := by rw [es119]; exact hA118.put (by decide +kernel)
  refine K_iinc (ls' := [(0, (2, 0)), (1, (0, 10))]) 1 (kdA dt_MX11_init 145 rfl) rfl (by decide) (by decide) rfl ?_
  refine K_goto (tgt := 270) (kdA dt_MX11_init 146 rfl) rfl ?_
  refine K_iload_n 1 (kdA dt_MX11_init 132 rfl) rfl rfl ?_
  refine K_aload_n 0 (kdA dt_MX11_init 133 rfl) rfl rfl ?_
  refine gf11_51 rfl (kdA dt_MX11_init 134 rfl) ⟨by decide, by decide, by decide +kernel⟩ ?_
  rw [hA119.at' (k := 0) (j := 10) (v := 21) (by decide +kernel)]
  refine K_alen (c := 28) (kdA dt_MX11_init 135 rfl) (by decide) ⟨by decide, by decide, by decide +kernel⟩ ?_
  refine K_icmp_ge (tgt := 301) (kdA dt_MX11_init 136 rfl) rfl (fun _ => ?_) (fun c => absurd (by decide +kernel) c)
  exact K_return (kdA dt_MX11_init 147 rfl) rfl ⟨rfl, rfl, hA119⟩
