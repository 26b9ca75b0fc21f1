/-! the loop of the law, and its start -/
def kPb : Option kV → Nat → kS → Prop := fun v _ _ => v = some (0, 1)
def ScR (σ : kS) : Prop := (0 ≤ σ (-4) (-1) ∧ σ (-4) (-1) ≤ 4096) ∧ ∀ j : Int, 0 ≤ j → j < σ (-4) (-1) → -2147483648 ≤ σ (-4) j ∧ σ (-4) j ≤ 2147483647
theorem ScR.mono {σ s : kS} (h : ScR σ) (e : scrEq σ s) : ScR s := ⟨by rw [e.1]; exact h.1, fun j j0 j1 => by rw [e.1] at j1; rw [e.2 j j0 j1]; exact h.2 j j0 j1⟩
theorem in51 {x : Int} (h : 0 ≤ x ∧ x ≤ 50) : x = 0 ∨ x = 1 ∨ x = 2 ∨ x = 3 ∨ x = 4 ∨ x = 5 ∨ x = 6 ∨ x = 7 ∨ x = 8 ∨ x = 9 ∨ x = 10 ∨ x = 11 ∨ x = 12 ∨ x = 13 ∨ x = 14 ∨ x = 15 ∨ x = 16 ∨ x = 17 ∨ x = 18 ∨ x = 19 ∨ x = 20 ∨ x = 21 ∨ x = 22 ∨ x = 23 ∨ x = 24 ∨ x = 25 ∨ x = 26 ∨ x = 27 ∨ x = 28 ∨ x = 29 ∨ x = 30 ∨ x = 31 ∨ x = 32 ∨ x = 33 ∨ x = 34 ∨ x = 35 ∨ x = 36 ∨ x = 37 ∨ x = 38 ∨ x = 39 ∨ x = 40 ∨ x = 41 ∨ x = 42 ∨ x = 43 ∨ x = 44 ∨ x = 45 ∨ x = 46 ∨ x = 47 ∨ x = 48 ∨ x = 49 ∨ x = 50 := by omega
theorem L_loop {d : Nat} {nm : String} (hd : 62 ≤ d) : ∀ (m : Nat) (b : Nat × Nat) (i : Int) (σ : kS), σ (-4) (-1) - i ≤ 8 * m → m ≤ b.1 → 6 * m ≤ b.2 → Inv σ → 0 ≤ i → i ≤ 4200 → ScR σ → Z (d + 1) (MLaw nm) (zFin kPb) b 23 [(0, (2, -4)), (1, (2, 0)), (2, (2, 166)), (3, (2, 208)), (4, (0, i))] [] kN σ := by
  intro m
  induction m with
  | zero =>
    intro b i σ h1 h2 h3 hI hi hi2 hR
    have hR1 := hR.1
    refine Z_iload 4 (kdA dt_law_0 13 rfl) rfl ?_
    refine Z_aload_n 0 (kdA dt_law_0 14 rfl) rfl rfl ?_
    refine Z_slen (kdA dt_law_0 15 rfl) ?_
    refine Z_bipush (kdA dt_law_0 16 rfl) (by decide) ?_
    refine Z_isub (kdA dt_law_0 17 rfl) (by omega) ?_
    refine Z_icmp_gt (tgt := 3053) (kdA dt_law_0 18 rfl) rfl (fun _ => ?_) (fun c => absurd (by omega) c)
    refine Z_ofK ?_
    refine K_iconst (kdA dt_law_15 126 rfl) (by decide) ?_
    exact K_zreturn (kdA dt_law_15 127 rfl) rfl (Or.inr rfl) rfl
  | succ m ih =>
    intro b i σ h1 h2 h3 hI hi hi2 hR
    have hR1 := hR.1
    refine Z_iload 4 (kdA dt_law_0 13 rfl) rfl ?_
    refine Z_aload_n 0 (kdA dt_law_0 14 rfl) rfl rfl ?_
    refine Z_slen (kdA dt_law_0 15 rfl) ?_
    refine Z_bipush (kdA dt_law_0 16 rfl) (by decide) ?_
    refine Z_isub (kdA dt_law_0 17 rfl) (by omega) ?_
    refine Z_icmp_gt (tgt := 3053) (kdA dt_law_0 18 rfl) rfl (fun _ => ?_) (fun c => ?_)
    · refine Z_ofK ?_
      refine K_iconst (kdA dt_law_15 126 rfl) (by decide) ?_
      exact K_zreturn (kdA dt_law_15 127 rfl) rfl (Or.inr rfl) rfl
    have hle : i + 8 ≤ σ (-4) (-1) := by omega
    have hS : SA σ i (fun j => σ (-4) (i + j)) := ⟨hi, hle, fun _ _ _ => rfl⟩
    have hK : ∀ b' : Nat × Nat, m ≤ b'.1 → 6 * m ≤ b'.2 → ∀ s, Inv s → scrEq σ s → Z (d + 1) (MLaw nm) (zFin kPb) b' 3047 [(0, (2, -4)), (1, (2, 0)), (2, (2, 166)), (3, (2, 208)), (4, (0, i))] [] kN s := fun b' b1 b2 s hIs e => by
      refine Z_iinc (ls' := [(0, (2, -4)), (1, (2, 0)), (2, (2, 166)), (3, (2, 208)), (4, (0, i + 8))]) 4 (kdA dt_law_15 124 rfl) rfl (by omega) (show 4 < 7 by decide) rfl ?_
      refine Z_goto (tgt := 23) (kdA dt_law_15 125 rfl) rfl ?_
      exact ih b' (i + 8) s (by rw [e.1]; omega) b1 b2 hIs (by omega) (by omega) (hR.mono e)
    have hKb := hK b (by omega) (by omega)
    have hi5 : 0 ≤ i ∧ i ≤ 5000 := ⟨hi, by omega⟩
    refine Z_aload_n 0 (kdA dt_law_0 19 rfl) rfl rfl ?_
    refine Z_iload 4 (kdA dt_law_0 20 rfl) rfl ?_
    refine Z_sld (kdA dt_law_0 21 rfl) hi (by omega) ?_
    refine Z_bipush (kdA dt_law_0 22 rfl) (by decide) ?_
    refine Z_iand (kdA dt_law_0 23 rfl) ?_
    generalize kand (σ (-4) i) 63 = x
    by_cases hx : 0 ≤ x ∧ x ≤ 50
    · rcases in51 hx with c | c | c | c | c | c | c | c | c | c | c | c | c | c | c | c | c | c | c | c | c | c | c | c | c | c | c | c | c | c | c | c | c | c | c | c | c | c | c | c | c | c | c | c | c | c | c | c | c | c | c
      · exact Z_sw1 (c := 0) (tgt := 260) (kdA dt_law_0 24 rfl) c ⟨by decide, by decide⟩ rfl rfl (LC_0 hd hI hS hi5 hKb)
      · exact Z_sw1 (c := 1) (tgt := 347) (kdA dt_law_0 24 rfl) c ⟨by decide, by decide⟩ rfl rfl (LC_1 hd hI hS hi5 hKb)
      · exact Z_sw1 (c := 2) (tgt := 384) (kdA dt_law_0 24 rfl) c ⟨by decide, by decide⟩ rfl rfl (LC_2 hd hI hS hi5 hKb)
      · exact Z_sw1 (c := 3) (tgt := 409) (kdA dt_law_0 24 rfl) c ⟨by decide, by decide⟩ rfl rfl (LC_3 hd hI hS hi5 (fun j hj => hR.2 (i + j) (by omega) (by omega)) hKb)
      · exact Z_sw1 (c := 4) (tgt := 482) (kdA dt_law_0 24 rfl) c ⟨by decide, by decide⟩ rfl rfl (LC_4 hd hI hS hi5 hKb)
      · exact Z_sw1 (c := 5) (tgt := 507) (kdA dt_law_0 24 rfl) c ⟨by decide, by decide⟩ rfl rfl (LC_5 hd hI hS hi5 hKb)
      · exact Z_sw1 (c := 6) (tgt := 532) (kdA dt_law_0 24 rfl) c ⟨by decide, by decide⟩ rfl rfl (LC_6 hd hI hS hi5 hKb)
      · exact Z_sw1 (c := 7) (tgt := 557) (kdA dt_law_0 24 rfl) c ⟨by decide, by decide⟩ rfl rfl (LC_7 (b2 := (b.1 - 1, b.2 - 6)) hd hI hS hi5 ⟨by omega, by omega⟩ rfl (hK (b.1 - 1, b.2 - 6) (by show m ≤ b.1 - 1; omega) (by show 6 * m ≤ b.2 - 6; omega)))
      · exact Z_sw1 (c := 8) (tgt := 677) (kdA dt_law_0 24 rfl) c ⟨by decide, by decide⟩ rfl rfl (LC_8 hd hI hS hi5 hKb)
      · exact Z_sw1 (c := 9) (tgt := 766) (kdA dt_law_0 24 rfl) c ⟨by decide, by decide⟩ rfl rfl (LC_9 hd hI hS hi5 hKb)
      · exact Z_sw1 (c := 10) (tgt := 869) (kdA dt_law_0 24 rfl) c ⟨by decide, by decide⟩ rfl rfl (LC_10 hd hI hS hi5 hKb)
      · exact Z_sw1 (c := 11) (tgt := 986) (kdA dt_law_0 24 rfl) c ⟨by decide, by decide⟩ rfl rfl (LC_11 hd hI hS hi5 hKb)
      · exact Z_sw1 (c := 12) (tgt := 1023) (kdA dt_law_0 24 rfl) c ⟨by decide, by decide⟩ rfl rfl (LC_12 hd hI hS hi5 hKb)
      · exact Z_sw1 (c := 13) (tgt := 1084) (kdA dt_law_0 24 rfl) c ⟨by decide, by decide⟩ rfl rfl (LC_13 hd hI hS hi5 hKb)
      · exact Z_sw1 (c := 14) (tgt := 1173) (kdA dt_law_0 24 rfl) c ⟨by decide, by decide⟩ rfl rfl (LC_14 hd hI hS hi5 hKb)
      · exact Z_sw1 (c := 15) (tgt := 1222) (kdA dt_law_0 24 rfl) c ⟨by decide, by decide⟩ rfl rfl (LC_15 hd hI hS hi5 hKb)
      · exact Z_sw1 (c := 16) (tgt := 1247) (kdA dt_law_0 24 rfl) c ⟨by decide, by decide⟩ rfl rfl (LC_16 hd hI hS hi5 hKb)
      · exact Z_sw1 (c := 17) (tgt := 1272) (kdA dt_law_0 24 rfl) c ⟨by decide, by decide⟩ rfl rfl (LC_17 hd hI hS hi5 hKb)
      · exact Z_sw1 (c := 18) (tgt := 1309) (kdA dt_law_0 24 rfl) c ⟨by decide, by decide⟩ rfl rfl (LC_18 hd hI hS hi5 hKb)
      · exact Z_sw1 (c := 19) (tgt := 1346) (kdA dt_law_0 24 rfl) c ⟨by decide, by decide⟩ rfl rfl (LC_19 hd hI hS hi5 hKb)
      · exact Z_sw1 (c := 20) (tgt := 1395) (kdA dt_law_0 24 rfl) c ⟨by decide, by decide⟩ rfl rfl (LC_20 hd hI hS hi5 hKb)
      · exact Z_sw1 (c := 21) (tgt := 1444) (kdA dt_law_0 24 rfl) c ⟨by decide, by decide⟩ rfl rfl (LC_21 hd hI hS hi5 hKb)
      · exact Z_sw1 (c := 22) (tgt := 1505) (kdA dt_law_0 24 rfl) c ⟨by decide, by decide⟩ rfl rfl (LC_22 hd hI hS hi5 hKb)
      · exact Z_sw1 (c := 23) (tgt := 1530) (kdA dt_law_0 24 rfl) c ⟨by decide, by decide⟩ rfl rfl (LC_23 hd hI hS hi5 hKb)
      · exact Z_sw1 (c := 24) (tgt := 1607) (kdA dt_law_0 24 rfl) c ⟨by decide, by decide⟩ rfl rfl (LC_24 hd hI hS hi5 hKb)
      · exact Z_sw1 (c := 25) (tgt := 1672) (kdA dt_law_0 24 rfl) c ⟨by decide, by decide⟩ rfl rfl (LC_25 hd hI hS hi5 hKb)
      · exact Z_sw1 (c := 26) (tgt := 1725) (kdA dt_law_0 24 rfl) c ⟨by decide, by decide⟩ rfl rfl (LC_26 (b2 := (b.1 - 1, b.2 - 6)) hd hI hS hi5 ⟨by omega, by omega⟩ rfl (hK (b.1 - 1, b.2 - 6) (by show m ≤ b.1 - 1; omega) (by show 6 * m ≤ b.2 - 6; omega)))
      · exact Z_sw1 (c := 27) (tgt := 1805) (kdA dt_law_0 24 rfl) c ⟨by decide, by decide⟩ rfl rfl (LC_27 hd hI hS hi5 hKb)
      · exact Z_sw1 (c := 28) (tgt := 1894) (kdA dt_law_0 24 rfl) c ⟨by decide, by decide⟩ rfl rfl (LC_28 hd hI hS hi5 hKb)
      · exact Z_sw1 (c := 29) (tgt := 1997) (kdA dt_law_0 24 rfl) c ⟨by decide, by decide⟩ rfl rfl (LC_29 hd hI hS hi5 hKb)
      · exact Z_sw1 (c := 30) (tgt := 2046) (kdA dt_law_0 24 rfl) c ⟨by decide, by decide⟩ rfl rfl (LC_30 hd hI hS hi5 hKb)
      · exact Z_sw1 (c := 31) (tgt := 2083) (kdA dt_law_0 24 rfl) c ⟨by decide, by decide⟩ rfl rfl (LC_31 hd hI hS hi5 hKb)
      · exact Z_sw1 (c := 32) (tgt := 2132) (kdA dt_law_0 24 rfl) c ⟨by decide, by decide⟩ rfl rfl (LC_32 hd hI hS hi5 hKb)
      · exact Z_sw1 (c := 33) (tgt := 2181) (kdA dt_law_0 24 rfl) c ⟨by decide, by decide⟩ rfl rfl (LC_33 hd hI hS hi5 hKb)
      · exact Z_sw1 (c := 34) (tgt := 2206) (kdA dt_law_0 24 rfl) c ⟨by decide, by decide⟩ rfl rfl (LC_34 hd hI hS hi5 hKb)
      · exact Z_sw1 (c := 35) (tgt := 2255) (kdA dt_law_0 24 rfl) c ⟨by decide, by decide⟩ rfl rfl (LC_35 hd hI hS hi5 hKb)
      · exact Z_sw1 (c := 36) (tgt := 2316) (kdA dt_law_0 24 rfl) c ⟨by decide, by decide⟩ rfl rfl (LC_36 hd hI hS hi5 hKb)
      · exact Z_sw1 (c := 37) (tgt := 2353) (kdA dt_law_0 24 rfl) c ⟨by decide, by decide⟩ rfl rfl (LC_37 hd hI hS hi5 hKb)
      · exact Z_sw1 (c := 38) (tgt := 2378) (kdA dt_law_0 24 rfl) c ⟨by decide, by decide⟩ rfl rfl (LC_38 hd hI hS hi5 hKb)
      · exact Z_sw1 (c := 39) (tgt := 2427) (kdA dt_law_0 24 rfl) c ⟨by decide, by decide⟩ rfl rfl (LC_39 hd hI hS hi5 hKb)
      · exact Z_sw1 (c := 40) (tgt := 2504) (kdA dt_law_0 24 rfl) c ⟨by decide, by decide⟩ rfl rfl (LC_40 hd hI hS hi5 hKb)
      · exact Z_sw1 (c := 41) (tgt := 2641) (kdA dt_law_0 24 rfl) c ⟨by decide, by decide⟩ rfl rfl (LC_41 hd hI hS hi5 hKb)
      · exact Z_sw1 (c := 42) (tgt := 2666) (kdA dt_law_0 24 rfl) c ⟨by decide, by decide⟩ rfl rfl (LC_42 hd hI hS hi5 hKb)
      · exact Z_sw1 (c := 43) (tgt := 2691) (kdA dt_law_0 24 rfl) c ⟨by decide, by decide⟩ rfl rfl (LC_43 hd hI hS hi5 hKb)
      · exact Z_sw1 (c := 44) (tgt := 2716) (kdA dt_law_0 24 rfl) c ⟨by decide, by decide⟩ rfl rfl (LC_44 hd hI hS hi5 hKb)
      · exact Z_sw1 (c := 45) (tgt := 2753) (kdA dt_law_0 24 rfl) c ⟨by decide, by decide⟩ rfl rfl (LC_45 hd hI hS hi5 hKb)
      · exact Z_sw1 (c := 46) (tgt := 2766) (kdA dt_law_0 24 rfl) c ⟨by decide, by decide⟩ rfl rfl (LC_46 hd hI hS hi5 hKb)
      · exact Z_sw1 (c := 47) (tgt := 2791) (kdA dt_law_0 24 rfl) c ⟨by decide, by decide⟩ rfl rfl (LC_47 hd hI hS hi5 hKb)
      · exact Z_sw1 (c := 48) (tgt := 2816) (kdA dt_law_0 24 rfl) c ⟨by decide, by decide⟩ rfl rfl (LC_48 hd hI hS hi5 hKb)
      · exact Z_sw1 (c := 49) (tgt := 2933) (kdA dt_law_0 24 rfl) c ⟨by decide, by decide⟩ rfl rfl (LC_49 hd hI hS hi5 hKb)
      · exact Z_sw1 (c := 50) (tgt := 3022) (kdA dt_law_0 24 rfl) c ⟨by decide, by decide⟩ rfl rfl (LC_50 hd hI hS hi5 hKb)
    · exact Z_sw0 (tgt := 3047) (kdA dt_law_0 24 rfl) (by omega) rfl (hKb σ hI scrEq.rf)
theorem kini_scr {σ : kS} {n : Nat} : scrEq σ (kini σ n) := ⟨by rw [kini_ne (by omega)], fun j _ _ => by rw [kini_ne (by omega)]⟩
theorem lay208 : (layL.all fun q => decide (q.1 ≠ 208)) = true := by decide +kernel
theorem keep_n208 {σ : kS} (hI : Inv σ) : Keep σ (kini σ 208) := by
  refine M_keep (L := [208]) hI (fun k hk => kini_ne (fun e => hk (by rw [e]; exact List.mem_cons_self))) (fun q hq => ?_) (by decide) (fun j _ => by rw [kini_ne (by decide)])
  have h1 := of_decide_eq_true (List.all_eq_true.mp lay208 q hq)
  rw [kini_ne h1]
  exact hI.1 q hq
theorem L_start {d : Nat} {nm : String} (hd : 62 ≤ d) {σ : kS} (hR : ScR σ) : Z (d + 1) (MLaw nm) (zFin kPb) (721, 26894) 0 [(0, (2, -4))] [] 0 σ := by
  refine Z_new (C := RX11) (N := 20) (kdA dt_law_0 0 rfl) ⟨(tb1 26 rfl rfl), (tb1 27 rfl rfl), (tb1 1 rfl rfl)⟩ rfl uw11 ft11 (by decide +kernel) (by decide +kernel) ⟨by decide, by decide⟩ ?_
  have hA1 : Ag 1 [(0, 0), (0, 1), (0, 3), (0, 4), (0, 5), (0, 7), (0, 9), (0, 10), (0, 12), (0, 13), (0, 14), (0, 15), (0, 16), (0, 17), (0, 18), (0, 19)] false (kini σ 0) := Ag.new (n := 0) (P := []) (fun k hk => absurd hk (Nat.not_lt_zero k)) (by decide +kernel)
  have hR1 := hR.mono (kini_scr (σ := σ) (n := 0))
  generalize kini σ 0 = s0 at hA1 hR1
  refine Z_dup (kdA dt_law_0 1 rfl) rfl ?_
  refine Z_callI (d' := d) (y := MX11_init.1) (code' := MX11_init.2.1) (mL := MX11_init.2.2.1) (b' := (165, 13713)) (as := []) (r := 0) (st := [(2, 0)]) (kdA dt_law_0 2 rfl) (Nat.le_refl _) ⟨by decide, by decide⟩ cl_MX11_init lkL_19 rfl rfl (Nat.le_of_ble_eq_true rfl) (by decide) (fun _ _ => I11_0 (by omega) hA1) (fun v n1 s1 _ _ hp e1 => ?_)
  obtain ⟨rfl, rfl, hA2⟩ := hp
  have hR2 := hR1.mono e1
  refine Z_astore_n (ls' := [(0, (2, -4)), (1, (2, 0))]) (kdA dt_law_0 3 rfl) rfl (show 1 < 7 by decide) rfl ?_
  refine Z_new (C := RX12) (N := 69) (kdA dt_law_0 4 rfl) ⟨(tb5 218 rfl rfl), (tb5 219 rfl rfl), (tb1 14 rfl rfl)⟩ rfl uw12 ft12 (by decide +kernel) (by decide +kernel) ⟨by decide, by decide⟩ ?_
  have hA3 : Ag 167 [(166, 1), (166, 2), (166, 4), (166, 5), (166, 6), (166, 7), (166, 8), (166, 9), (166, 10), (166, 11), (166, 26), (166, 27), (166, 28), (166, 29), (166, 31), (166, 32), (166, 33), (166, 35), (166, 36), (166, 37), (166, 39), (166, 40), (166, 42), (166, 43), (166, 44), (166, 45), (166, 46), (166, 47), (166, 48), (166, 50), (166, 51), (166, 52), (166, 53), (166, 55), (166, 56), (166, 57), (166, 59), (166, 60), (166, 65), (166, 66), (166, 67), (166, 12), (166, 23), (166, 24)] true (kini s1 166) := hA2.new (by decide +kernel)
  have hR3 := hR2.mono (kini_scr (σ := s1) (n := 166))
  generalize kini s1 166 = s2 at hA3 hR3
  refine Z_dup (kdA dt_law_0 5 rfl) rfl ?_
  refine Z_callI (d' := d) (y := MX12_init.1) (code' := MX12_init.2.1) (mL := MX12_init.2.2.1) (b' := (41, 10019)) (as := []) (r := 166) (st := [(2, 166)]) (kdA dt_law_0 6 rfl) (Nat.le_refl _) ⟨by decide, by decide⟩ cl_MX12_init lkL_22 rfl rfl (Nat.le_of_ble_eq_true rfl) (by decide) (fun _ _ => I12_166 (by omega) hA3) (fun v n1 s3 _ _ hp e3 => ?_)
  obtain ⟨rfl, rfl, hA4⟩ := hp
  have hR4 := hR3.mono e3
  refine Z_astore_n (ls' := [(0, (2, -4)), (1, (2, 0)), (2, (2, 166))]) (kdA dt_law_0 7 rfl) rfl (show 2 < 7 by decide) rfl ?_
  refine Z_iconst (kdA dt_law_0 8 rfl) (by decide) ?_
  refine Z_newarr (ty := .long) (c := 23) (t0 := 3) (v := .long 0) (kdA dt_law_0 9 rfl) rfl (by decide) (fun _ => rfl) ⟨rfl, rfl⟩ (fun C h => by cases h) (by decide) (tb9 68 rfl rfl) (by decide +kernel) (by decide) (by decide +kernel) ⟨by decide, by decide⟩ ?_
  have hI := Inv_fresh hA4
  have hI5 := hI.keep (keep_n208 hI)
  have hR5 := hR4.mono (kini_scr (σ := s3) (n := 208))
  generalize kini s3 208 = s4 at hI5 hR5
  refine Z_astore_n (ls' := [(0, (2, -4)), (1, (2, 0)), (2, (2, 166)), (3, (2, 208))]) (kdA dt_law_0 10 rfl) rfl (show 3 < 7 by decide) rfl ?_
  refine Z_iconst (kdA dt_law_0 11 rfl) (by decide) ?_
  refine Z_istore (ls' := [(0, (2, -4)), (1, (2, 0)), (2, (2, 166)), (3, (2, 208)), (4, (0, 0))]) (kdA dt_law_0 12 rfl) (show 4 < 7 by decide) rfl ?_
  exact L_loop hd 512 _ 0 s4 (by have := hR5.1; omega) (by decide) (by decide) hI5 (by decide) (by decide) hR5
