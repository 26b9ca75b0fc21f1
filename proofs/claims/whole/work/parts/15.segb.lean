/-! segments, by program -/
def LX1_begin_0 (d n : Nat) (Q : kS → Prop) (a0 : Int) (a1 : Int) (σ : kS) : Prop := K (d + 1) MX1_begin (kPv n Q) (0, 0) 0 [(0, (2, a0)), (1, (1, a1))] [] n σ
theorem SX1_begin_0 {d n : Nat} {Q : kS → Prop} {a0 a1 : Int} {σ : kS} (h : isO 1 n a0 ∧ (Cv d MJm_fill [(2, (σ a0 0)), (0, 0)] n σ (fun s1 => ∀ s2, s2 = kst s1 a0 1 a1 → ∀ s3, s3 = kst s2 a0 2 0 → ∀ s4, s4 = kst s3 a0 3 0 → ∀ s5, s5 = kst s4 a0 4 1 → Q s5))) : LX1_begin_0 d n Q a0 a1 σ := by
  unfold LX1_begin_0
  refine K_aload_n 0 (kdA dt_MX1_begin 0 rfl) rfl rfl ?_
  obtain ⟨c1, h⟩ := h
  refine gf1_9 rfl (kdA dt_MX1_begin 1 rfl) c1 ?_
  refine K_iconst (kdA dt_MX1_begin 2 rfl) (by decide) ?_
  refine K_cSv (as := [(2, (σ a0 0)), (0, 0)]) (st := []) (kdA dt_MX1_begin 3 rfl) cl_MJm_fill lk1_15 rfl rfl (Nat.le_of_ble_eq_true rfl) (Cv.mono h (fun s1 h => ?_))
  refine K_aload_n 0 (kdA dt_MX1_begin 4 rfl) rfl rfl ?_
  refine K_lload_n 1 (kdA dt_MX1_begin 5 rfl) rfl rfl ?_
  refine pf1_21 rfl (kdA dt_MX1_begin 6 rfl) c1 (fun s2 es2 => ?_)
  have h := h s2 es2
  refine K_aload_n 0 (kdA dt_MX1_begin 7 rfl) rfl rfl ?_
  refine K_iconst (kdA dt_MX1_begin 8 rfl) (by decide) ?_
  refine pf1_25 rfl (kdA dt_MX1_begin 9 rfl) c1 (fun s3 es3 => ?_)
  have h := h s3 es3
  refine K_aload_n 0 (kdA dt_MX1_begin 10 rfl) rfl rfl ?_
  refine K_iconst (kdA dt_MX1_begin 11 rfl) (by decide) ?_
  refine pf1_29 rfl (kdA dt_MX1_begin 12 rfl) c1 (fun s4 es4 => ?_)
  have h := h s4 es4
  refine K_aload_n 0 (kdA dt_MX1_begin 13 rfl) rfl rfl ?_
  refine K_iconst (kdA dt_MX1_begin 14 rfl) (by decide) ?_
  refine pf1_32 rfl (kdA dt_MX1_begin 15 rfl) c1 (by decide) (fun s5 es5 => ?_)
  have h := h s5 es5
  exact K_return (kdA dt_MX1_begin 16 rfl) rfl ⟨rfl, rfl, h⟩
theorem EX1_begin {d n : Nat} {Q : kS → Prop} {a0 a1 : Int} {σ : kS} (h : (-9223372036854775808 ≤ a1 ∧ a1 ≤ 9223372036854775807) → kokw n σ → LX1_begin_0 d n Q a0 a1 σ) : Cv (d + 1) MX1_begin [(2, a0), (1, a1)] n σ Q := Tri_of (by decide +kernel) (Nat.le_of_ble_eq_true rfl) (fun hk hw => h (hk (1, a1) (List.mem_of_getElem? (i := 1) rfl)) hw)

def LX1_goOnce_0 (d n : Nat) (Q : kS → Prop) (a0 : Int) (a1 : Int) (a2 : Int) (a3 : Int) (a4 : Int) (σ : kS) : Prop := K (d + 1) MX1_goOnce (kPv n Q) (0, 0) 0 [(0, (2, a0)), (1, (2, a1)), (2, (2, a2)), (3, (0, a3)), (4, (0, a4))] [] n σ
theorem SX1_goOnce_0 {d n : Nat} {Q : kS → Prop} {a0 a1 a2 a3 a4 : Int} {σ : kS} (h : isO 8 n a2 ∧ (isO 1 n a0 ∧ (Ci d MX1_oneOf [(2, a0), (0, (σ a2 1))] n σ (fun x3 s1 => (-2147483648 ≤ ((s1 a2 1) - 1) ∧ ((s1 a2 1) - 1) ≤ 2147483647) ∧ (Ci d MX1_oneOf [(2, a0), (0, ((s1 a2 1) - 1))] n s1 (fun x5 s2 => (x5 < x3 → Ci d MX8_at [(2, a2), (0, x3)] n s2 (fun x6 s3 => Ci d MX8_at [(2, a2), (0, x5)] n s3 (fun x7 s4 => isO 10 n a1 ∧ (Cv d MX10_lay [(2, a1), (0, x6), (0, x7)] n s4 (fun s5 => Ci d MX1_tread [(2, a0), (2, a1), (0, a4)] n s5 (fun x10 s6 => (x10 = 0 → Q s6) ∧ (¬ x10 = 0 → (-2147483648 ≤ ((s6 a0 2) + 1) ∧ ((s6 a0 2) + 1) ≤ 2147483647) ∧ (∀ s7, s7 = kst s6 a0 2 ((s6 a0 2) + 1) → ∀ s8, s8 = kst s7 a0 3 a3 → Q s8)))))))) ∧ (¬ x5 < x3 → (-2147483648 ≤ (x5 + 1) ∧ (x5 + 1) ≤ 2147483647) ∧ (Ci d MX8_at [(2, a2), (0, x3)] n s2 (fun x7 s3 => Ci d MX8_at [(2, a2), (0, (x5 + 1))] n s3 (fun x8 s4 => isO 10 n a1 ∧ (Cv d MX10_lay [(2, a1), (0, x7), (0, x8)] n s4 (fun s5 => Ci d MX1_tread [(2, a0), (2, a1), (0, a4)] n s5 (fun x11 s6 => (x11 = 0 → Q s6) ∧ (¬ x11 = 0 → (-2147483648 ≤ ((s6 a0 2) + 1) ∧ ((s6 a0 2) + 1) ≤ 2147483647) ∧ (∀ s7, s7 = kst s6 a0 2 ((s6 a0 2) + 1) → ∀ s8, s8 = kst s7 a0 3 a3 → Q s8))))))))))))))) : LX1_goOnce_0 d n Q a0 a1 a2 a3 a4 σ := by
  unfold LX1_goOnce_0
  refine K_aload_n 0 (kdA dt_MX1_goOnce 0 rfl) rfl rfl ?_
  refine K_aload_n 2 (kdA dt_MX1_goOnce 1 rfl) rfl rfl ?_
  obtain ⟨c1, h⟩ := h
  refine gf1_36 rfl (kdA dt_MX1_goOnce 2 rfl) c1 ?_
  obtain ⟨c2, h⟩ := h
  refine K_cVi (c := 1) (as := [(0, (σ a2 1))]) (st := []) (kdA dt_MX1_goOnce 3 rfl) rfl cl_MX1_oneOf lk1_41 rfl rfl (Nat.le_of_ble_eq_true rfl) c2 (Ci.mono h (fun x3 s1 h => ?_))
  refine K_istore (ls' := [(0, (2, a0)), (1, (2, a1)), (2, (2, a2)), (3, (0, a3)), (4, (0, a4)), (5, (0, x3))]) (kdA dt_MX1_goOnce 4 rfl) (by decide) rfl ?_
  refine K_aload_n 0 (kdA dt_MX1_goOnce 5 rfl) rfl rfl ?_
  refine K_aload_n 2 (kdA dt_MX1_goOnce 6 rfl) rfl rfl ?_
  refine gf1_36 rfl (kdA dt_MX1_goOnce 7 rfl) c1 ?_
  refine K_iconst (kdA dt_MX1_goOnce 8 rfl) (by decide) ?_
  obtain ⟨c4, h⟩ := h
  refine K_isub (kdA dt_MX1_goOnce 9 rfl) c4 ?_
  refine K_cVi (c := 1) (as := [(0, ((s1 a2 1) - 1))]) (st := []) (kdA dt_MX1_goOnce 10 rfl) rfl cl_MX1_oneOf lk1_41 rfl rfl (Nat.le_of_ble_eq_true rfl) c2 (Ci.mono h (fun x5 s2 h => ?_))
  refine K_istore (ls' := [(0, (2, a0)), (1, (2, a1)), (2, (2, a2)), (3, (0, a3)), (4, (0, a4)), (5, (0, x3)), (6, (0, x5))]) (kdA dt_MX1_goOnce 11 rfl) (by decide) rfl ?_
  refine K_iload 6 (kdA dt_MX1_goOnce 12 rfl) rfl ?_
  refine K_iload 5 (kdA dt_MX1_goOnce 13 rfl) rfl ?_
  refine K_icmp_lt (tgt := 32) (kdA dt_MX1_goOnce 14 rfl) rfl (fun c => ?_) (fun c => ?_)
  · have h := h.1 c
    refine K_aload_n 1 (kdA dt_MX1_goOnce 16 rfl) rfl rfl ?_
    refine K_aload_n 2 (kdA dt_MX1_goOnce 17 rfl) rfl rfl ?_
    refine K_iload 5 (kdA dt_MX1_goOnce 18 rfl) rfl ?_
    refine K_cVi (c := 8) (as := [(0, x3)]) (st := [(2, a1)]) (kdA dt_MX1_goOnce 19 rfl) rfl cl_MX8_at lk1_45 rfl rfl (Nat.le_of_ble_eq_true rfl) c1 (Ci.mono h (fun x6 s3 h => ?_))
    refine K_aload_n 2 (kdA dt_MX1_goOnce 20 rfl) rfl rfl ?_
    refine K_iload 6 (kdA dt_MX1_goOnce 21 rfl) rfl ?_
    refine K_cVi (c := 8) (as := [(0, x5)]) (st := [(0, x6), (2, a1)]) (kdA dt_MX1_goOnce 22 rfl) rfl cl_MX8_at lk1_45 rfl rfl (Nat.le_of_ble_eq_true rfl) c1 (Ci.mono h (fun x7 s4 h => ?_))
    obtain ⟨c8, h⟩ := h
    refine K_cVv (c := 10) (as := [(0, x6), (0, x7)]) (st := []) (kdA dt_MX1_goOnce 23 rfl) rfl cl_MX10_lay lk1_48 rfl rfl (Nat.le_of_ble_eq_true rfl) c8 (Cv.mono h (fun s5 h => ?_))
    refine K_aload_n 0 (kdA dt_MX1_goOnce 24 rfl) rfl rfl ?_
    refine K_aload_n 1 (kdA dt_MX1_goOnce 25 rfl) rfl rfl ?_
    refine K_iload 4 (kdA dt_MX1_goOnce 26 rfl) rfl ?_
    refine K_cVi (c := 1) (as := [(2, a1), (0, a4)]) (st := []) (kdA dt_MX1_goOnce 27 rfl) rfl cl_MX1_tread lk1_54 rfl rfl (Nat.le_of_ble_eq_true rfl) c2 (Ci.mono h (fun x10 s6 h => ?_))
    refine K_if_eq (tgt := 73) (kdA dt_MX1_goOnce 28 rfl) rfl (fun c => ?_) (fun c => ?_)
    · have h := h.1 c
      exact K_return (kdA dt_MX1_goOnce 38 rfl) rfl ⟨rfl, rfl, h⟩
    · have h := h.2 c
      refine K_aload_n 0 (kdA dt_MX1_goOnce 29 rfl) rfl rfl ?_
      refine K_dup (kdA dt_MX1_goOnce 30 rfl) rfl ?_
      refine gf1_25 rfl (kdA dt_MX1_goOnce 31 rfl) c2 ?_
      refine K_iconst (kdA dt_MX1_goOnce 32 rfl) (by decide) ?_
      obtain ⟨c11, h⟩ := h
      refine K_iadd (kdA dt_MX1_goOnce 33 rfl) c11 ?_
      refine pf1_25 rfl (kdA dt_MX1_goOnce 34 rfl) c2 (fun s7 es7 => ?_)
      have h := h s7 es7
      refine K_aload_n 0 (kdA dt_MX1_goOnce 35 rfl) rfl rfl ?_
      refine K_iload_n 3 (kdA dt_MX1_goOnce 36 rfl) rfl rfl ?_
      refine pf1_29 rfl (kdA dt_MX1_goOnce 37 rfl) c2 (fun s8 es8 => ?_)
      have h := h s8 es8
      exact K_return (kdA dt_MX1_goOnce 38 rfl) rfl ⟨rfl, rfl, h⟩
  · have h := h.2 c
    obtain ⟨c6, h⟩ := h
    refine K_iinc (ls' := [(0, (2, a0)), (1, (2, a1)), (2, (2, a2)), (3, (0, a3)), (4, (0, a4)), (5, (0, x3)), (6, (0, (x5 + 1)))]) 6 (kdA dt_MX1_goOnce 15 rfl) rfl c6 (by decide) rfl ?_
    refine K_aload_n 1 (kdA dt_MX1_goOnce 16 rfl) rfl rfl ?_
    refine K_aload_n 2 (kdA dt_MX1_goOnce 17 rfl) rfl rfl ?_
    refine K_iload 5 (kdA dt_MX1_goOnce 18 rfl) rfl ?_
    refine K_cVi (c := 8) (as := [(0, x3)]) (st := [(2, a1)]) (kdA dt_MX1_goOnce 19 rfl) rfl cl_MX8_at lk1_45 rfl rfl (Nat.le_of_ble_eq_true rfl) c1 (Ci.mono h (fun x7 s3 h => ?_))
    refine K_aload_n 2 (kdA dt_MX1_goOnce 20 rfl) rfl rfl ?_
    refine K_iload 6 (kdA dt_MX1_goOnce 21 rfl) rfl ?_
    refine K_cVi (c := 8) (as := [(0, (x5 + 1))]) (st := [(0, x7), (2, a1)]) (kdA dt_MX1_goOnce 22 rfl) rfl cl_MX8_at lk1_45 rfl rfl (Nat.le_of_ble_eq_true rfl) c1 (Ci.mono h (fun x8 s4 h => ?_))
    obtain ⟨c9, h⟩ := h
    refine K_cVv (c := 10) (as := [(0, x7), (0, x8)]) (st := []) (kdA dt_MX1_goOnce 23 rfl) rfl cl_MX10_lay lk1_48 rfl rfl (Nat.le_of_ble_eq_true rfl) c9 (Cv.mono h (fun s5 h => ?_))
    refine K_aload_n 0 (kdA dt_MX1_goOnce 24 rfl) rfl rfl ?_
    refine K_aload_n 1 (kdA dt_MX1_goOnce 25 rfl) rfl rfl ?_
    refine K_iload 4 (kdA dt_MX1_goOnce 26 rfl) rfl ?_
    refine K_cVi (c := 1) (as := [(2, a1), (0, a4)]) (st := []) (kdA dt_MX1_goOnce 27 rfl) rfl cl_MX1_tread lk1_54 rfl rfl (Nat.le_of_ble_eq_true rfl) c2 (Ci.mono h (fun x11 s6 h => ?_))
    refine K_if_eq (tgt := 73) (kdA dt_MX1_goOnce 28 rfl) rfl (fun c => ?_) (fun c => ?_)
    · have h := h.1 c
      exact K_return (kdA dt_MX1_goOnce 38 rfl) rfl ⟨rfl, rfl, h⟩
    · have h := h.2 c
      refine K_aload_n 0 (kdA dt_MX1_goOnce 29 rfl) rfl rfl ?_
      refine K_dup (kdA dt_MX1_goOnce 30 rfl) rfl ?_
      refine gf1_25 rfl (kdA dt_MX1_goOnce 31 rfl) c2 ?_
      refine K_iconst (kdA dt_MX1_goOnce 32 rfl) (by decide) ?_
      obtain ⟨c12, h⟩ := h
      refine K_iadd (kdA dt_MX1_goOnce 33 rfl) c12 ?_
      refine pf1_25 rfl (kdA dt_MX1_goOnce 34 rfl) c2 (fun s7 es7 => ?_)
      have h := h s7 es7
      refine K_aload_n 0 (kdA dt_MX1_goOnce 35 rfl) rfl rfl ?_
      refine K_iload_n 3 (kdA dt_MX1_goOnce 36 rfl) rfl rfl ?_
      refine pf1_29 rfl (kdA dt_MX1_goOnce 37 rfl) c2 (fun s8 es8 => ?_)
      have h := h s8 es8
      exact K_return (kdA dt_MX1_goOnce 38 rfl) rfl ⟨rfl, rfl, h⟩
theorem EX1_goOnce {d n : Nat} {Q : kS → Prop} {a0 a1 a2 a3 a4 : Int} {σ : kS} (h : (-2147483648 ≤ a3 ∧ a3 ≤ 2147483647) → (-2147483648 ≤ a4 ∧ a4 ≤ 2147483647) → kokw n σ → LX1_goOnce_0 d n Q a0 a1 a2 a3 a4 σ) : Cv (d + 1) MX1_goOnce [(2, a0), (2, a1), (2, a2), (0, a3), (0, a4)] n σ Q := Tri_of (by decide +kernel) (Nat.le_of_ble_eq_true rfl) (fun hk hw => h (hk (0, a3) (List.mem_of_getElem? (i := 3) rfl)) (hk (0, a4) (List.mem_of_getElem? (i := 4) rfl)) hw)

def LX1_oneOf_0 (d n : Nat) (Q : Int → kS → Prop) (a0 : Int) (a1 : Int) (σ : kS) : Prop := K (d + 1) MX1_oneOf (kPi n Q) (0, 0) 0 [(0, (2, a0)), (1, (0, a1))] [] n σ
theorem SX1_oneOf_0 {d n : Nat} {Q : Int → kS → Prop} {a0 a1 : Int} {σ : kS} (h : isO 1 n a0 ∧ (∀ s1, s1 = kst σ a0 1 (kladd (klmul (σ a0 1) 6364136223846793005) 1442695040888963407) → (1 ≤ a1 → (a1 ≠ 0) ∧ ((-2147483648 ≤ (klrem (klushr (s1 a0 1) 33) a1) ∧ (klrem (klushr (s1 a0 1) 33) a1) ≤ 2147483647) ∧ (Q (klrem (klushr (s1 a0 1) 33) a1) s1))) ∧ (¬ 1 ≤ a1 → Q 0 s1))) : LX1_oneOf_0 d n Q a0 a1 σ := by
  unfold LX1_oneOf_0
  refine K_aload_n 0 (kdA dt_MX1_oneOf 0 rfl) rfl rfl ?_
  refine K_aload_n 0 (kdA dt_MX1_oneOf 1 rfl) rfl rfl ?_
  obtain ⟨c1, h⟩ := h
  refine gf1_21 rfl (kdA dt_MX1_oneOf 2 rfl) c1 ?_
  refine K_ldc2 (x := 6364136223846793005) (kdA dt_MX1_oneOf 3 rfl) (tb5 55 rfl rfl) (by decide +kernel) ?_
  refine K_lmul (kdA dt_MX1_oneOf 4 rfl) ?_
  refine K_ldc2 (x := 1442695040888963407) (kdA dt_MX1_oneOf 5 rfl) (tb5 56 rfl rfl) (by decide +kernel) ?_
  refine K_ladd (kdA dt_MX1_oneOf 6 rfl) ?_
  refine pf1_21 rfl (kdA dt_MX1_oneOf 7 rfl) c1 (fun s1 es1 => ?_)
  have h := h s1 es1
  refine K_iload_n 1 (kdA dt_MX1_oneOf 8 rfl) rfl rfl ?_
  refine K_iconst (kdA dt_MX1_oneOf 9 rfl) (by decide) ?_
  refine K_icmp_ge (tgt := 25) (kdA dt_MX1_oneOf 10 rfl) rfl (fun c => ?_) (fun c => ?_)
  · have h := h.1 c
    refine K_aload_n 0 (kdA dt_MX1_oneOf 13 rfl) rfl rfl ?_
    refine gf1_21 rfl (kdA dt_MX1_oneOf 14 rfl) c1 ?_
    refine K_bipush (kdA dt_MX1_oneOf 15 rfl) (by decide +kernel) ?_
    refine K_lushr (kdA dt_MX1_oneOf 16 rfl) ?_
    refine K_iload_n 1 (kdA dt_MX1_oneOf 17 rfl) rfl rfl ?_
    refine K_i2l (kdA dt_MX1_oneOf 18 rfl) ?_
    obtain ⟨c2, h⟩ := h
    refine K_lrem (kdA dt_MX1_oneOf 19 rfl) c2 ?_
    obtain ⟨c3, h⟩ := h
    refine K_l2i (kdA dt_MX1_oneOf 20 rfl) c3 ?_
    exact K_ireturn (kdA dt_MX1_oneOf 21 rfl) rfl ⟨rfl, _, rfl, h⟩
  · have h := h.2 c
    refine K_iconst (kdA dt_MX1_oneOf 11 rfl) (by decide) ?_
    refine K_goto (tgt := 36) (kdA dt_MX1_oneOf 12 rfl) rfl ?_
    exact K_ireturn (kdA dt_MX1_oneOf 21 rfl) rfl ⟨rfl, _, rfl, h⟩
theorem EX1_oneOf {d n : Nat} {Q : Int → kS → Prop} {a0 a1 : Int} {σ : kS} (h : (-2147483648 ≤ a1 ∧ a1 ≤ 2147483647) → kokw n σ → LX1_oneOf_0 d n Q a0 a1 σ) : Ci (d + 1) MX1_oneOf [(2, a0), (0, a1)] n σ Q := Tri_of (by decide +kernel) (Nat.le_of_ble_eq_true rfl) (fun hk hw => h (hk (0, a1) (List.mem_of_getElem? (i := 1) rfl)) hw)

def LX1_tread_0 (d n : Nat) (Q : Int → kS → Prop) (a0 : Int) (a1 : Int) (a2 : Int) (σ : kS) : Prop := K (d + 1) MX1_tread (kPi n Q) (0, 0) 0 [(0, (2, a0)), (1, (2, a1)), (2, (0, a2))] [] n σ
def LX1_tread_5 (d n : Nat) (Q : Int → kS → Prop) (a0 : Int) (a1 : Int) (a2 : Int) (a3 : Int) (a4 : Int) (σ : kS) : Prop := K (d + 1) MX1_tread (kPi n Q) (0, 0) 5 [(0, (2, a0)), (1, (2, a1)), (2, (0, a2)), (3, (0, a3)), (4, (0, a4))] [] n σ
theorem SX1_tread_0 {d n : Nat} {Q : Int → kS → Prop} {a0 a1 a2 : Int} {σ : kS} (h : LX1_tread_5 d n Q a0 a1 a2 0 0 σ) : LX1_tread_0 d n Q a0 a1 a2 σ := by
  unfold LX1_tread_0
  refine K_iconst (kdA dt_MX1_tread 0 rfl) (by decide) ?_
  refine K_istore_n (ls' := [(0, (2, a0)), (1, (2, a1)), (2, (0, a2)), (3, (0, 0))]) (kdA dt_MX1_tread 1 rfl) rfl (by decide) rfl ?_
  refine K_iconst (kdA dt_MX1_tread 2 rfl) (by decide) ?_
  refine K_istore (ls' := [(0, (2, a0)), (1, (2, a1)), (2, (0, a2)), (3, (0, 0)), (4, (0, 0))]) (kdA dt_MX1_tread 3 rfl) (by decide) rfl ?_
  exact h
theorem SX1_tread_5 {d n : Nat} {Q : Int → kS → Prop} {a0 a1 a2 a3 a4 : Int} {σ : kS} (h : isO 10 n a1 ∧ (isO 8 n (σ a1 13) ∧ (((σ (σ a1 13) 1) ≤ a4 → (a3 = 0 ∨ a3 = 1) ∧ (Q a3 σ)) ∧ (¬ (σ (σ a1 13) 1) ≤ a4 → Ci d MX8_at [(2, (σ a1 13)), (0, a4)] n σ (fun x3 s1 => Ci d MX11_isCell [(0, x3)] n s1 (fun x4 s2 => (x4 = 0 → (-2147483648 ≤ (a4 + 1) ∧ (a4 + 1) ≤ 2147483647) ∧ (LX1_tread_5 d n Q a0 a1 a2 a3 (a4 + 1) s2)) ∧ (¬ x4 = 0 → isO 1 n a0 ∧ (isA 20 n (s2 a0 0) ∧ (((0 : Int) ≤ x3 ∧ x3 < klen (s2 a0 0)) ∧ (((s2 (s2 a0 0) x3) < 99 → (¬ a3 = 0 → (-2147483648 ≤ ((s2 (s2 a0 0) x3) + 1) ∧ ((s2 (s2 a0 0) x3) + 1) ≤ 2147483647) ∧ (∀ s3, s3 = kst s2 (s2 a0 0) x3 ((s2 (s2 a0 0) x3) + 1) → Cv d MX10_ease [(2, a1), (0, x3), (0, a2)] n s3 (fun s4 => (-2147483648 ≤ (a4 + 1) ∧ (a4 + 1) ≤ 2147483647) ∧ (LX1_tread_5 d n Q a0 a1 a2 1 (a4 + 1) s4)))) ∧ (¬ (¬ a3 = 0) → (¬ (s2 (s2 a0 0) x3) = 0 → (-2147483648 ≤ ((s2 (s2 a0 0) x3) + 1) ∧ ((s2 (s2 a0 0) x3) + 1) ≤ 2147483647) ∧ (∀ s3, s3 = kst s2 (s2 a0 0) x3 ((s2 (s2 a0 0) x3) + 1) → Cv d MX10_ease [(2, a1), (0, x3), (0, a2)] n s3 (fun s4 => (-2147483648 ≤ (a4 + 1) ∧ (a4 + 1) ≤ 2147483647) ∧ (LX1_tread_5 d n Q a0 a1 a2 0 (a4 + 1) s4)))) ∧ (¬ (¬ (s2 (s2 a0 0) x3) = 0) → (-2147483648 ≤ ((s2 (s2 a0 0) x3) + 1) ∧ ((s2 (s2 a0 0) x3) + 1) ≤ 2147483647) ∧ (∀ s3, s3 = kst s2 (s2 a0 0) x3 ((s2 (s2 a0 0) x3) + 1) → Cv d MX10_ease [(2, a1), (0, x3), (0, a2)] n s3 (fun s4 => (-2147483648 ≤ (a4 + 1) ∧ (a4 + 1) ≤ 2147483647) ∧ (LX1_tread_5 d n Q a0 a1 a2 1 (a4 + 1) s4)))))) ∧ (¬ (s2 (s2 a0 0) x3) < 99 → (-2147483648 ≤ (a4 + 1) ∧ (a4 + 1) ≤ 2147483647) ∧ (LX1_tread_5 d n Q a0 a1 a2 a3 (a4 + 1) s2)))))))))))) : LX1_tread_5 d n Q a0 a1 a2 a3 a4 σ := by
  unfold LX1_tread_5
  refine K_iload 4 (kdA dt_MX1_tread 4 rfl) rfl ?_
  refine K_aload_n 1 (kdA dt_MX1_tread 5 rfl) rfl rfl ?_
  obtain ⟨c1, h⟩ := h
  refine gf1_62 rfl (kdA dt_MX1_tread 6 rfl) c1 ?_
  obtain ⟨c2, h⟩ := h
  refine gf1_36 rfl (kdA dt_MX1_tread 7 rfl) c2 ?_
  refine K_icmp_ge (tgt := 95) (kdA dt_MX1_tread 8 rfl) rfl (fun c => ?_) (fun c => ?_)
  · have h := h.1 c
    refine K_iload_n 3 (kdA dt_MX1_tread 49 rfl) rfl rfl ?_
    obtain ⟨c3, h⟩ := h
    exact K_zreturn (kdA dt_MX1_tread 50 rfl) rfl c3 ⟨rfl, _, rfl, h⟩
  · have h := h.2 c
    refine K_aload_n 1 (kdA dt_MX1_tread 9 rfl) rfl rfl ?_
    refine gf1_62 rfl (kdA dt_MX1_tread 10 rfl) c1 ?_
    refine K_iload 4 (kdA dt_MX1_tread 11 rfl) rfl ?_
    refine K_cVi (c := 8) (as := [(0, a4)]) (st := []) (kdA dt_MX1_tread 12 rfl) rfl cl_MX8_at lk1_45 rfl rfl (Nat.le_of_ble_eq_true rfl) c2 (Ci.mono h (fun x3 s1 h => ?_))
    refine K_istore (ls' := [(0, (2, a0)), (1, (2, a1)), (2, (0, a2)), (3, (0, a3)), (4, (0, a4)), (5, (0, x3))]) (kdA dt_MX1_tread 13 rfl) (by decide) rfl ?_
    refine K_iload 5 (kdA dt_MX1_tread 14 rfl) rfl ?_
    refine K_cSi (as := [(0, x3)]) (st := []) (kdA dt_MX1_tread 15 rfl) cl_MX11_isCell lk1_66 rfl rfl (Nat.le_of_ble_eq_true rfl) (Ci.mono h (fun x4 s2 h => ?_))
    refine K_if_eq (tgt := 89) (kdA dt_MX1_tread 16 rfl) rfl (fun c => ?_) (fun c => ?_)
    · have h := h.1 c
      obtain ⟨c5, h⟩ := h
      refine K_iinc (ls' := [(0, (2, a0)), (1, (2, a1)), (2, (0, a2)), (3, (0, a3)), (4, (0, (a4 + 1))), (5, (0, x3))]) 4 (kdA dt_MX1_tread 47 rfl) rfl c5 (by decide) rfl ?_
      refine K_goto (tgt := 5) (kdA dt_MX1_tread 48 rfl) rfl ?_
      refine K_pick [0, 1, 2, 3, 4] (ls' := [(0, (2, a0)), (1, (2, a1)), (2, (0, a2)), (3, (0, a3)), (4, (0, (a4 + 1)))]) rfl ?_
      exact h
    · have h := h.2 c
      refine K_aload_n 0 (kdA dt_MX1_tread 17 rfl) rfl rfl ?_
      obtain ⟨c5, h⟩ := h
      refine gf1_9 rfl (kdA dt_MX1_tread 18 rfl) c5 ?_
      refine K_iload 5 (kdA dt_MX1_tread 19 rfl) rfl ?_
      obtain ⟨c6, h⟩ := h
      obtain ⟨c7, h⟩ := h
      refine K_iaload (kdA dt_MX1_tread 20 rfl) c6 c7.1 c7.2 ?_
      refine K_bipush (kdA dt_MX1_tread 21 rfl) (by decide +kernel) ?_
      refine K_icmp_lt (tgt := 51) (kdA dt_MX1_tread 22 rfl) rfl (fun c => ?_) (fun c => ?_)
      · have h := h.1 c
        refine K_iload_n 3 (kdA dt_MX1_tread 24 rfl) rfl rfl ?_
        refine K_if_ne (tgt := 65) (kdA dt_MX1_tread 25 rfl) rfl (fun c => ?_) (fun c => ?_)
        · have h := h.1 c
          refine K_iconst (kdA dt_MX1_tread 31 rfl) (by decide) ?_
          refine K_goto (tgt := 70) (kdA dt_MX1_tread 32 rfl) rfl ?_
          refine K_istore_n (ls' := [(0, (2, a0)), (1, (2, a1)), (2, (0, a2)), (3, (0, 1)), (4, (0, a4)), (5, (0, x3))]) (kdA dt_MX1_tread 34 rfl) rfl (by decide) rfl ?_
          refine K_aload_n 0 (kdA dt_MX1_tread 35 rfl) rfl rfl ?_
          refine gf1_9 rfl (kdA dt_MX1_tread 36 rfl) c5 ?_
          refine K_iload 5 (kdA dt_MX1_tread 37 rfl) rfl ?_
          refine K_dup2 (kdA dt_MX1_tread 38 rfl) rfl rfl ?_
          refine K_iaload (kdA dt_MX1_tread 39 rfl) c6 c7.1 c7.2 ?_
          refine K_iconst (kdA dt_MX1_tread 40 rfl) (by decide) ?_
          obtain ⟨c8, h⟩ := h
          refine K_iadd (kdA dt_MX1_tread 41 rfl) c8 ?_
          refine K_iastore' (kdA dt_MX1_tread 42 rfl) c6 c7.1 c7.2 (fun s3 es3 => ?_)
          have h := h s3 es3
          refine K_aload_n 1 (kdA dt_MX1_tread 43 rfl) rfl rfl ?_
          refine K_iload 5 (kdA dt_MX1_tread 44 rfl) rfl ?_
          refine K_iload_n 2 (kdA dt_MX1_tread 45 rfl) rfl rfl ?_
          refine K_cVv (c := 10) (as := [(0, x3), (0, a2)]) (st := []) (kdA dt_MX1_tread 46 rfl) rfl cl_MX10_ease lk1_70 rfl rfl (Nat.le_of_ble_eq_true rfl) c1 (Cv.mono h (fun s4 h => ?_))
          obtain ⟨c10, h⟩ := h
          refine K_iinc (ls' := [(0, (2, a0)), (1, (2, a1)), (2, (0, a2)), (3, (0, 1)), (4, (0, (a4 + 1))), (5, (0, x3))]) 4 (kdA dt_MX1_tread 47 rfl) rfl c10 (by decide) rfl ?_
          refine K_goto (tgt := 5) (kdA dt_MX1_tread 48 rfl) rfl ?_
          refine K_pick [0, 1, 2, 3, 4] (ls' := [(0, (2, a0)), (1, (2, a1)), (2, (0, a2)), (3, (0, 1)), (4, (0, (a4 + 1)))]) rfl ?_
          exact h
        · have h := h.2 c
          refine K_aload_n 0 (kdA dt_MX1_tread 26 rfl) rfl rfl ?_
          refine gf1_9 rfl (kdA dt_MX1_tread 27 rfl) c5 ?_
          refine K_iload 5 (kdA dt_MX1_tread 28 rfl) rfl ?_
          refine K_iaload (kdA dt_MX1_tread 29 rfl) c6 c7.1 c7.2 ?_
          refine K_if_ne (tgt := 69) (kdA dt_MX1_tread 30 rfl) rfl (fun c => ?_) (fun c => ?_)
          · have h := h.1 c
            refine K_iconst (kdA dt_MX1_tread 33 rfl) (by decide) ?_
            refine K_istore_n (ls' := [(0, (2, a0)), (1, (2, a1)), (2, (0, a2)), (3, (0, 0)), (4, (0, a4)), (5, (0, x3))]) (kdA dt_MX1_tread 34 rfl) rfl (by decide) rfl ?_
            refine K_aload_n 0 (kdA dt_MX1_tread 35 rfl) rfl rfl ?_
            refine gf1_9 rfl (kdA dt_MX1_tread 36 rfl) c5 ?_
            refine K_iload 5 (kdA dt_MX1_tread 37 rfl) rfl ?_
            refine K_dup2 (kdA dt_MX1_tread 38 rfl) rfl rfl ?_
            refine K_iaload (kdA dt_MX1_tread 39 rfl) c6 c7.1 c7.2 ?_
            refine K_iconst (kdA dt_MX1_tread 40 rfl) (by decide) ?_
            obtain ⟨c8, h⟩ := h
            refine K_iadd (kdA dt_MX1_tread 41 rfl) c8 ?_
            refine K_iastore' (kdA dt_MX1_tread 42 rfl) c6 c7.1 c7.2 (fun s3 es3 => ?_)
            have h := h s3 es3
            refine K_aload_n 1 (kdA dt_MX1_tread 43 rfl) rfl rfl ?_
            refine K_iload 5 (kdA dt_MX1_tread 44 rfl) rfl ?_
            refine K_iload_n 2 (kdA dt_MX1_tread 45 rfl) rfl rfl ?_
            refine K_cVv (c := 10) (as := [(0, x3), (0, a2)]) (st := []) (kdA dt_MX1_tread 46 rfl) rfl cl_MX10_ease lk1_70 rfl rfl (Nat.le_of_ble_eq_true rfl) c1 (Cv.mono h (fun s4 h => ?_))
            obtain ⟨c10, h⟩ := h
            refine K_iinc (ls' := [(0, (2, a0)), (1, (2, a1)), (2, (0, a2)), (3, (0, 0)), (4, (0, (a4 + 1))), (5, (0, x3))]) 4 (kdA dt_MX1_tread 47 rfl) rfl c10 (by decide) rfl ?_
            refine K_goto (tgt := 5) (kdA dt_MX1_tread 48 rfl) rfl ?_
            refine K_pick [0, 1, 2, 3, 4] (ls' := [(0, (2, a0)), (1, (2, a1)), (2, (0, a2)), (3, (0, 0)), (4, (0, (a4 + 1)))]) rfl ?_
            exact h
          · have h := h.2 c
            refine K_iconst (kdA dt_MX1_tread 31 rfl) (by decide) ?_
            refine K_goto (tgt := 70) (kdA dt_MX1_tread 32 rfl) rfl ?_
            refine K_istore_n (ls' := [(0, (2, a0)), (1, (2, a1)), (2, (0, a2)), (3, (0, 1)), (4, (0, a4)), (5, (0, x3))]) (kdA dt_MX1_tread 34 rfl) rfl (by decide) rfl ?_
            refine K_aload_n 0 (kdA dt_MX1_tread 35 rfl) rfl rfl ?_
            refine gf1_9 rfl (kdA dt_MX1_tread 36 rfl) c5 ?_
            refine K_iload 5 (kdA dt_MX1_tread 37 rfl) rfl ?_
            refine K_dup2 (kdA dt_MX1_tread 38 rfl) rfl rfl ?_
            refine K_iaload (kdA dt_MX1_tread 39 rfl) c6 c7.1 c7.2 ?_
            refine K_iconst (kdA dt_MX1_tread 40 rfl) (by decide) ?_
            obtain ⟨c8, h⟩ := h
            refine K_iadd (kdA dt_MX1_tread 41 rfl) c8 ?_
            refine K_iastore' (kdA dt_MX1_tread 42 rfl) c6 c7.1 c7.2 (fun s3 es3 => ?_)
            have h := h s3 es3
            refine K_aload_n 1 (kdA dt_MX1_tread 43 rfl) rfl rfl ?_
            refine K_iload 5 (kdA dt_MX1_tread 44 rfl) rfl ?_
            refine K_iload_n 2 (kdA dt_MX1_tread 45 rfl) rfl rfl ?_
            refine K_cVv (c := 10) (as := [(0, x3), (0, a2)]) (st := []) (kdA dt_MX1_tread 46 rfl) rfl cl_MX10_ease lk1_70 rfl rfl (Nat.le_of_ble_eq_true rfl) c1 (Cv.mono h (fun s4 h => ?_))
            obtain ⟨c10, h⟩ := h
            refine K_iinc (ls' := [(0, (2, a0)), (1, (2, a1)), (2, (0, a2)), (3, (0, 1)), (4, (0, (a4 + 1))), (5, (0, x3))]) 4 (kdA dt_MX1_tread 47 rfl) rfl c10 (by decide) rfl ?_
            refine K_goto (tgt := 5) (kdA dt_MX1_tread 48 rfl) rfl ?_
            refine K_pick [0, 1, 2, 3, 4] (ls' := [(0, (2, a0)), (1, (2, a1)), (2, (0, a2)), (3, (0, 1)), (4, (0, (a4 + 1)))]) rfl ?_
            exact h
      · have h := h.2 c
        refine K_goto (tgt := 89) (kdA dt_MX1_tread 23 rfl) rfl ?_
        obtain ⟨c8, h⟩ := h
        refine K_iinc (ls' := [(0, (2, a0)), (1, (2, a1)), (2, (0, a2)), (3, (0, a3)), (4, (0, (a4 + 1))), (5, (0, x3))]) 4 (kdA dt_MX1_tread 47 rfl) rfl c8 (by decide) rfl ?_
        refine K_goto (tgt := 5) (kdA dt_MX1_tread 48 rfl) rfl ?_
        refine K_pick [0, 1, 2, 3, 4] (ls' := [(0, (2, a0)), (1, (2, a1)), (2, (0, a2)), (3, (0, a3)), (4, (0, (a4 + 1)))]) rfl ?_
        exact h
theorem EX1_tread {d n : Nat} {Q : Int → kS → Prop} {a0 a1 a2 : Int} {σ : kS} (h : (-2147483648 ≤ a2 ∧ a2 ≤ 2147483647) → kokw n σ → LX1_tread_0 d n Q a0 a1 a2 σ) : Ci (d + 1) MX1_tread [(2, a0), (2, a1), (0, a2)] n σ Q := Tri_of (by decide +kernel) (Nat.le_of_ble_eq_true rfl) (fun hk hw => h (hk (0, a2) (List.mem_of_getElem? (i := 2) rfl)) hw)

def LX1_troddenCells_0 (d n : Nat) (Q : Int → kS → Prop) (a0 : Int) (a1 : Int) (σ : kS) : Prop := K (d + 1) MX1_troddenCells (kPi n Q) (0, 0) 0 [(0, (2, a0)), (1, (0, a1))] [] n σ
def LX1_troddenCells_4 (d n : Nat) (Q : Int → kS → Prop) (a0 : Int) (a1 : Int) (a2 : Int) (a3 : Int) (σ : kS) : Prop := K (d + 1) MX1_troddenCells (kPi n Q) (0, 0) 4 [(0, (2, a0)), (1, (0, a1)), (2, (0, a2)), (3, (0, a3))] [] n σ
theorem SX1_troddenCells_0 {d n : Nat} {Q : Int → kS → Prop} {a0 a1 : Int} {σ : kS} (h : LX1_troddenCells_4 d n Q a0 a1 0 0 σ) : LX1_troddenCells_0 d n Q a0 a1 σ := by
  unfold LX1_troddenCells_0
  refine K_iconst (kdA dt_MX1_troddenCells 0 rfl) (by decide) ?_
  refine K_istore_n (ls' := [(0, (2, a0)), (1, (0, a1)), (2, (0, 0))]) (kdA dt_MX1_troddenCells 1 rfl) rfl (by decide) rfl ?_
  refine K_iconst (kdA dt_MX1_troddenCells 2 rfl) (by decide) ?_
  refine K_istore_n (ls' := [(0, (2, a0)), (1, (0, a1)), (2, (0, 0)), (3, (0, 0))]) (kdA dt_MX1_troddenCells 3 rfl) rfl (by decide) rfl ?_
  exact h
theorem SX1_troddenCells_4 {d n : Nat} {Q : Int → kS → Prop} {a0 a1 a2 a3 : Int} {σ : kS} (h : (120 ≤ a3 → Q a2 σ) ∧ (¬ 120 ≤ a3 → isO 1 n a0 ∧ (isA 20 n (σ a0 0) ∧ (((0 : Int) ≤ a3 ∧ a3 < klen (σ a0 0)) ∧ (((σ (σ a0 0) a3) < a1 → (-2147483648 ≤ (a3 + 1) ∧ (a3 + 1) ≤ 2147483647) ∧ (LX1_troddenCells_4 d n Q a0 a1 a2 (a3 + 1) σ)) ∧ (¬ (σ (σ a0 0) a3) < a1 → (-2147483648 ≤ (a2 + 1) ∧ (a2 + 1) ≤ 2147483647) ∧ ((-2147483648 ≤ (a3 + 1) ∧ (a3 + 1) ≤ 2147483647) ∧ (LX1_troddenCells_4 d n Q a0 a1 (a2 + 1) (a3 + 1) σ)))))))) : LX1_troddenCells_4 d n Q a0 a1 a2 a3 σ := by
  unfold LX1_troddenCells_4
  refine K_iload_n 3 (kdA dt_MX1_troddenCells 4 rfl) rfl rfl ?_
  refine K_bipush (kdA dt_MX1_troddenCells 5 rfl) (by decide +kernel) ?_
  refine K_icmp_ge (tgt := 29) (kdA dt_MX1_troddenCells 6 rfl) rfl (fun c => ?_) (fun c => ?_)
  · have h := h.1 c
    refine K_iload_n 2 (kdA dt_MX1_troddenCells 16 rfl) rfl rfl ?_
    exact K_ireturn (kdA dt_MX1_troddenCells 17 rfl) rfl ⟨rfl, _, rfl, h⟩
  · have h := h.2 c
    refine K_aload_n 0 (kdA dt_MX1_troddenCells 7 rfl) rfl rfl ?_
    obtain ⟨c1, h⟩ := h
    refine gf1_9 rfl (kdA dt_MX1_troddenCells 8 rfl) c1 ?_
    refine K_iload_n 3 (kdA dt_MX1_troddenCells 9 rfl) rfl rfl ?_
    obtain ⟨c2, h⟩ := h
    obtain ⟨c3, h⟩ := h
    refine K_iaload (kdA dt_MX1_troddenCells 10 rfl) c2 c3.1 c3.2 ?_
    refine K_iload_n 1 (kdA dt_MX1_troddenCells 11 rfl) rfl rfl ?_
    refine K_icmp_lt (tgt := 23) (kdA dt_MX1_troddenCells 12 rfl) rfl (fun c => ?_) (fun c => ?_)
    · have h := h.1 c
      obtain ⟨c4, h⟩ := h
      refine K_iinc (ls' := [(0, (2, a0)), (1, (0, a1)), (2, (0, a2)), (3, (0, (a3 + 1)))]) 3 (kdA dt_MX1_troddenCells 14 rfl) rfl c4 (by decide) rfl ?_
      refine K_goto (tgt := 4) (kdA dt_MX1_troddenCells 15 rfl) rfl ?_
      exact h
    · have h := h.2 c
      obtain ⟨c4, h⟩ := h
      refine K_iinc (ls' := [(0, (2, a0)), (1, (0, a1)), (2, (0, (a2 + 1))), (3, (0, a3))]) 2 (kdA dt_MX1_troddenCells 13 rfl) rfl c4 (by decide) rfl ?_
      obtain ⟨c5, h⟩ := h
      refine K_iinc (ls' := [(0, (2, a0)), (1, (0, a1)), (2, (0, (a2 + 1))), (3, (0, (a3 + 1)))]) 3 (kdA dt_MX1_troddenCells 14 rfl) rfl c5 (by decide) rfl ?_
      refine K_goto (tgt := 4) (kdA dt_MX1_troddenCells 15 rfl) rfl ?_
      exact h
theorem EX1_troddenCells {d n : Nat} {Q : Int → kS → Prop} {a0 a1 : Int} {σ : kS} (h : (-2147483648 ≤ a1 ∧ a1 ≤ 2147483647) → kokw n σ → LX1_troddenCells_0 d n Q a0 a1 σ) : Ci (d + 1) MX1_troddenCells [(2, a0), (0, a1)] n σ Q := Tri_of (by decide +kernel) (Nat.le_of_ble_eq_true rfl) (fun hk hw => h (hk (0, a1) (List.mem_of_getElem? (i := 1) rfl)) hw)

def LX2_add_0 (d n : Nat) (Q : Int → kS → Prop) (a0 : Int) (a1 : Int) (a2 : Int) (a3 : Int) (σ : kS) : Prop := K (d + 1) MX2_add (kPi n Q) (0, 0) 0 [(0, (2, a0)), (1, (0, a1)), (2, (0, a2)), (3, (0, a3))] [] n σ
theorem SX2_add_0 {d n : Nat} {Q : Int → kS → Prop} {a0 a1 a2 a3 : Int} {σ : kS} (h : isO 2 n a0 ∧ (isO 8 n (σ a0 0) ∧ (Ci d MX8_add [(2, (σ a0 0)), (0, a1)] n σ (fun x3 s1 => (¬ x3 = 0 → isO 8 n (s1 a0 1) ∧ (Ci d MX8_add [(2, (s1 a0 1)), (0, a2)] n s1 (fun x5 s2 => isO 8 n (s2 a0 2) ∧ (Ci d MX8_add [(2, (s2 a0 2)), (0, a3)] n s2 (fun x7 s3 => isO 8 n (s3 a0 0) ∧ ((-2147483648 ≤ ((s3 (s3 a0 0) 1) - 1) ∧ ((s3 (s3 a0 0) 1) - 1) ≤ 2147483647) ∧ (Q ((s3 (s3 a0 0) 1) - 1) s3))))))) ∧ (¬ (¬ x3 = 0) → Q (-1) s1))))) : LX2_add_0 d n Q a0 a1 a2 a3 σ := by
  unfold LX2_add_0
  refine K_aload_n 0 (kdA dt_MX2_add 0 rfl) rfl rfl ?_
  obtain ⟨c1, h⟩ := h
  refine gf2_14 rfl (kdA dt_MX2_add 1 rfl) c1 ?_
  refine K_iload_n 1 (kdA dt_MX2_add 2 rfl) rfl rfl ?_
  obtain ⟨c2, h⟩ := h
  refine K_cVi (c := 8) (as := [(0, a1)]) (st := []) (kdA dt_MX2_add 3 rfl) rfl cl_MX8_add lk2_26 rfl rfl (Nat.le_of_ble_eq_true rfl) c2 (Ci.mono h (fun x3 s1 h => ?_))
  refine K_if_ne (tgt := 13) (kdA dt_MX2_add 4 rfl) rfl (fun c => ?_) (fun c => ?_)
  · have h := h.1 c
    refine K_aload_n 0 (kdA dt_MX2_add 7 rfl) rfl rfl ?_
    refine gf2_20 rfl (kdA dt_MX2_add 8 rfl) c1 ?_
    refine K_iload_n 2 (kdA dt_MX2_add 9 rfl) rfl rfl ?_
    obtain ⟨c4, h⟩ := h
    refine K_cVi (c := 8) (as := [(0, a2)]) (st := []) (kdA dt_MX2_add 10 rfl) rfl cl_MX8_add lk2_26 rfl rfl (Nat.le_of_ble_eq_true rfl) c4 (Ci.mono h (fun x5 s2 h => ?_))
    refine K_pop (kdA dt_MX2_add 11 rfl) rfl ?_
    refine K_aload_n 0 (kdA dt_MX2_add 12 rfl) rfl rfl ?_
    refine gf2_23 rfl (kdA dt_MX2_add 13 rfl) c1 ?_
    refine K_iload_n 3 (kdA dt_MX2_add 14 rfl) rfl rfl ?_
    obtain ⟨c6, h⟩ := h
    refine K_cVi (c := 8) (as := [(0, a3)]) (st := []) (kdA dt_MX2_add 15 rfl) rfl cl_MX8_add lk2_26 rfl rfl (Nat.le_of_ble_eq_true rfl) c6 (Ci.mono h (fun x7 s3 h => ?_))
    refine K_pop (kdA dt_MX2_add 16 rfl) rfl ?_
    refine K_aload_n 0 (kdA dt_MX2_add 17 rfl) rfl rfl ?_
    refine gf2_14 rfl (kdA dt_MX2_add 18 rfl) c1 ?_
    obtain ⟨c8, h⟩ := h
    refine gf2_30 rfl (kdA dt_MX2_add 19 rfl) c8 ?_
    refine K_iconst (kdA dt_MX2_add 20 rfl) (by decide) ?_
    obtain ⟨c9, h⟩ := h
    refine K_isub (kdA dt_MX2_add 21 rfl) c9 ?_
    exact K_ireturn (kdA dt_MX2_add 22 rfl) rfl ⟨rfl, _, rfl, h⟩
  · have h := h.2 c
    refine K_iconst (kdA dt_MX2_add 5 rfl) (by decide) ?_
    exact K_ireturn (kdA dt_MX2_add 6 rfl) rfl ⟨rfl, _, rfl, h⟩
theorem EX2_add {d n : Nat} {Q : Int → kS → Prop} {a0 a1 a2 a3 : Int} {σ : kS} (h : (-2147483648 ≤ a1 ∧ a1 ≤ 2147483647) → (-2147483648 ≤ a2 ∧ a2 ≤ 2147483647) → (-2147483648 ≤ a3 ∧ a3 ≤ 2147483647) → kokw n σ → LX2_add_0 d n Q a0 a1 a2 a3 σ) : Ci (d + 1) MX2_add [(2, a0), (0, a1), (0, a2), (0, a3)] n σ Q := Tri_of (by decide +kernel) (Nat.le_of_ble_eq_true rfl) (fun hk hw => h (hk (0, a1) (List.mem_of_getElem? (i := 1) rfl)) (hk (0, a2) (List.mem_of_getElem? (i := 2) rfl)) (hk (0, a3) (List.mem_of_getElem? (i := 3) rfl)) hw)

def LX2_besides_0 (d n : Nat) (Q : Int → kS → Prop) (a0 : Int) (a1 : Int) (a2 : Int) (a3 : Int) (a4 : Int) (σ : kS) : Prop := K (d + 1) MX2_besides (kPi n Q) (0, 0) 0 [(0, (2, a0)), (1, (2, a1)), (2, (0, a2)), (3, (0, a3)), (4, (0, a4))] [] n σ
def LX2_besides_18 (d n : Nat) (Q : Int → kS → Prop) (a0 : Int) (a1 : Int) (a2 : Int) (a3 : Int) (a4 : Int) (a5 : Int) (a6 : Int) (a7 : Int) (σ : kS) : Prop := K (d + 1) MX2_besides (kPi n Q) (0, 0) 18 [(0, (2, a0)), (1, (2, a1)), (2, (0, a2)), (3, (0, a3)), (4, (0, a4)), (5, (0, a5)), (6, (0, a6)), (7, (0, a7))] [] n σ
def LX2_besides_28 (d n : Nat) (Q : Int → kS → Prop) (a0 : Int) (a1 : Int) (a2 : Int) (a3 : Int) (a4 : Int) (a5 : Int) (a6 : Int) (a7 : Int) (a8 : Int) (σ : kS) : Prop := K (d + 1) MX2_besides (kPi n Q) (0, 0) 28 [(0, (2, a0)), (1, (2, a1)), (2, (0, a2)), (3, (0, a3)), (4, (0, a4)), (5, (0, a5)), (6, (0, a6)), (7, (0, a7)), (8, (0, a8))] [] n σ
theorem SX2_besides_0 {d n : Nat} {Q : Int → kS → Prop} {a0 a1 a2 a3 a4 : Int} {σ : kS} (h : isO 2 n a0 ∧ (Ci d MX2_nearMoved [(2, a0), (2, a1), (0, 0), (0, 0), (0, a2), (0, a3)] n σ (fun x2 s1 => LX2_besides_18 d n Q a0 a1 a2 a3 a4 x2 0 (-3) s1))) : LX2_besides_0 d n Q a0 a1 a2 a3 a4 σ := by
  unfold LX2_besides_0
  refine K_aload_n 0 (kdA dt_MX2_besides 0 rfl) rfl rfl ?_
  refine K_aload_n 1 (kdA dt_MX2_besides 1 rfl) rfl rfl ?_
  refine K_iconst (kdA dt_MX2_besides 2 rfl) (by decide) ?_
  refine K_iconst (kdA dt_MX2_besides 3 rfl) (by decide) ?_
  refine K_iload_n 2 (kdA dt_MX2_besides 4 rfl) rfl rfl ?_
  refine K_iload_n 3 (kdA dt_MX2_besides 5 rfl) rfl rfl ?_
  obtain ⟨c1, h⟩ := h
  refine K_cVi (c := 2) (as := [(2, a1), (0, 0), (0, 0), (0, a2), (0, a3)]) (st := []) (kdA dt_MX2_besides 6 rfl) rfl cl_MX2_nearMoved lk2_42 rfl rfl (Nat.le_of_ble_eq_true rfl) c1 (Ci.mono h (fun x2 s1 h => ?_))
  refine K_istore (ls' := [(0, (2, a0)), (1, (2, a1)), (2, (0, a2)), (3, (0, a3)), (4, (0, a4)), (5, (0, x2))]) (kdA dt_MX2_besides 7 rfl) (by decide) rfl ?_
  refine K_iconst (kdA dt_MX2_besides 8 rfl) (by decide) ?_
  refine K_istore (ls' := [(0, (2, a0)), (1, (2, a1)), (2, (0, a2)), (3, (0, a3)), (4, (0, a4)), (5, (0, x2)), (6, (0, 0))]) (kdA dt_MX2_besides 9 rfl) (by decide) rfl ?_
  refine K_bipush (kdA dt_MX2_besides 10 rfl) (by decide +kernel) ?_
  refine K_istore (ls' := [(0, (2, a0)), (1, (2, a1)), (2, (0, a2)), (3, (0, a3)), (4, (0, a4)), (5, (0, x2)), (6, (0, 0)), (7, (0, (-3)))]) (kdA dt_MX2_besides 11 rfl) (by decide) rfl ?_
  exact h
theorem SX2_besides_18 {d n : Nat} {Q : Int → kS → Prop} {a0 a1 a2 a3 a4 a5 a6 a7 : Int} {σ : kS} (h : (3 < a7 → Q a6 σ) ∧ (¬ 3 < a7 → LX2_besides_28 d n Q a0 a1 a2 a3 a4 a5 a6 a7 (-3) σ)) : LX2_besides_18 d n Q a0 a1 a2 a3 a4 a5 a6 a7 σ := by
  unfold LX2_besides_18
  refine K_iload 7 (kdA dt_MX2_besides 12 rfl) rfl ?_
  refine K_iconst (kdA dt_MX2_besides 13 rfl) (by decide) ?_
  refine K_icmp_gt (tgt := 94) (kdA dt_MX2_besides 14 rfl) rfl (fun c => ?_) (fun c => ?_)
  · have h := h.1 c
    refine K_iload 6 (kdA dt_MX2_besides 46 rfl) rfl ?_
    exact K_ireturn (kdA dt_MX2_besides 47 rfl) rfl ⟨rfl, _, rfl, h⟩
  · have h := h.2 c
    refine K_bipush (kdA dt_MX2_besides 15 rfl) (by decide +kernel) ?_
    refine K_istore (ls' := [(0, (2, a0)), (1, (2, a1)), (2, (0, a2)), (3, (0, a3)), (4, (0, a4)), (5, (0, a5)), (6, (0, a6)), (7, (0, a7)), (8, (0, (-3)))]) (kdA dt_MX2_besides 16 rfl) (by decide) rfl ?_
    exact h
theorem SX2_besides_28 {d n : Nat} {Q : Int → kS → Prop} {a0 a1 a2 a3 a4 a5 a6 a7 a8 : Int} {σ : kS} (h : (3 < a8 → (-2147483648 ≤ (a7 + 1) ∧ (a7 + 1) ≤ 2147483647) ∧ (LX2_besides_18 d n Q a0 a1 a2 a3 a4 a5 a6 (a7 + 1) σ)) ∧ (¬ 3 < a8 → (¬ a8 = 0 → isO 8 n a1 ∧ (Ci d MX8_fitsMoved [(2, a1), (0, a8), (0, a7)] n σ (fun x2 s1 => (¬ x2 = 0 → (a4 = 0 → (-2147483648 ≤ (a6 + 1) ∧ (a6 + 1) ≤ 2147483647) ∧ ((-2147483648 ≤ (a8 + 1) ∧ (a8 + 1) ≤ 2147483647) ∧ (LX2_besides_28 d n Q a0 a1 a2 a3 a4 a5 (a6 + 1) a7 (a8 + 1) s1))) ∧ (¬ a4 = 0 → isO 2 n a0 ∧ (Ci d MX2_nearMoved [(2, a0), (2, a1), (0, a8), (0, a7), (0, a2), (0, a3)] n s1 (fun x4 s2 => (x4 < a5 → (-2147483648 ≤ (a8 + 1) ∧ (a8 + 1) ≤ 2147483647) ∧ (LX2_besides_28 d n Q a0 a1 a2 a3 a4 a5 a6 a7 (a8 + 1) s2)) ∧ (¬ x4 < a5 → (-2147483648 ≤ (a6 + 1) ∧ (a6 + 1) ≤ 2147483647) ∧ ((-2147483648 ≤ (a8 + 1) ∧ (a8 + 1) ≤ 2147483647) ∧ (LX2_besides_28 d n Q a0 a1 a2 a3 a4 a5 (a6 + 1) a7 (a8 + 1) s2))))))) ∧ (¬ (¬ x2 = 0) → (-2147483648 ≤ (a8 + 1) ∧ (a8 + 1) ≤ 2147483647) ∧ (LX2_besides_28 d n Q a0 a1 a2 a3 a4 a5 a6 a7 (a8 + 1) s1))))) ∧ (¬ (¬ a8 = 0) → (a7 = 0 → (-2147483648 ≤ (a8 + 1) ∧ (a8 + 1) ≤ 2147483647) ∧ (LX2_besides_28 d n Q a0 a1 a2 a3 a4 a5 a6 a7 (a8 + 1) σ)) ∧ (¬ a7 = 0 → isO 8 n a1 ∧ (Ci d MX8_fitsMoved [(2, a1), (0, a8), (0, a7)] n σ (fun x2 s1 => (¬ x2 = 0 → (a4 = 0 → (-2147483648 ≤ (a6 + 1) ∧ (a6 + 1) ≤ 2147483647) ∧ ((-2147483648 ≤ (a8 + 1) ∧ (a8 + 1) ≤ 2147483647) ∧ (LX2_besides_28 d n Q a0 a1 a2 a3 a4 a5 (a6 + 1) a7 (a8 + 1) s1))) ∧ (¬ a4 = 0 → isO 2 n a0 ∧ (Ci d MX2_nearMoved [(2, a0), (2, a1), (0, a8), (0, a7), (0, a2), (0, a3)] n s1 (fun x4 s2 => (x4 < a5 → (-2147483648 ≤ (a8 + 1) ∧ (a8 + 1) ≤ 2147483647) ∧ (LX2_besides_28 d n Q a0 a1 a2 a3 a4 a5 a6 a7 (a8 + 1) s2)) ∧ (¬ x4 < a5 → (-2147483648 ≤ (a6 + 1) ∧ (a6 + 1) ≤ 2147483647) ∧ ((-2147483648 ≤ (a8 + 1) ∧ (a8 + 1) ≤ 2147483647) ∧ (LX2_besides_28 d n Q a0 a1 a2 a3 a4 a5 (a6 + 1) a7 (a8 + 1) s2))))))) ∧ (¬ (¬ x2 = 0) → (-2147483648 ≤ (a8 + 1) ∧ (a8 + 1) ≤ 2147483647) ∧ (LX2_besides_28 d n Q a0 a1 a2 a3 a4 a5 a6 a7 (a8 + 1) s1)))))))) : LX2_besides_28 d n Q a0 a1 a2 a3 a4 a5 a6 a7 a8 σ := by
  unfold LX2_besides_28
  refine K_iload 8 (kdA dt_MX2_besides 17 rfl) rfl ?_
  refine K_iconst (kdA dt_MX2_besides 18 rfl) (by decide) ?_
  refine K_icmp_gt (tgt := 88) (kdA dt_MX2_besides 19 rfl) rfl (fun c => ?_) (fun c => ?_)
  · have h := h.1 c
    obtain ⟨c1, h⟩ := h
    refine K_iinc (ls' := [(0, (2, a0)), (1, (2, a1)), (2, (0, a2)), (3, (0, a3)), (4, (0, a4)), (5, (0, a5)), (6, (0, a6)), (7, (0, (a7 + 1))), (8, (0, a8))]) 7 (kdA dt_MX2_besides 44 rfl) rfl c1 (by decide) rfl ?_
    refine K_goto (tgt := 18) (kdA dt_MX2_besides 45 rfl) rfl ?_
    refine K_pick [0, 1, 2, 3, 4, 5, 6, 7] (ls' := [(0, (2, a0)), (1, (2, a1)), (2, (0, a2)), (3, (0, a3)), (4, (0, a4)), (5, (0, a5)), (6, (0, a6)), (7, (0, (a7 + 1)))]) rfl ?_
    exact h
  · have h := h.2 c
    refine K_iload 8 (kdA dt_MX2_besides 20 rfl) rfl ?_
    refine K_if_ne (tgt := 44) (kdA dt_MX2_besides 21 rfl) rfl (fun c => ?_) (fun c => ?_)
    · have h := h.1 c
      refine K_aload_n 1 (kdA dt_MX2_besides 24 rfl) rfl rfl ?_
      refine K_iload 8 (kdA dt_MX2_besides 25 rfl) rfl ?_
      refine K_iload 7 (kdA dt_MX2_besides 26 rfl) rfl ?_
      obtain ⟨c1, h⟩ := h
      refine K_cVi (c := 8) (as := [(0, a8), (0, a7)]) (st := []) (kdA dt_MX2_besides 27 rfl) rfl cl_MX8_fitsMoved lk2_46 rfl rfl (Nat.le_of_ble_eq_true rfl) c1 (Ci.mono h (fun x2 s1 h => ?_))
      refine K_if_ne (tgt := 58) (kdA dt_MX2_besides 28 rfl) rfl (fun c => ?_) (fun c => ?_)
      · have h := h.1 c
        refine K_iload 4 (kdA dt_MX2_besides 30 rfl) rfl ?_
        refine K_if_eq (tgt := 79) (kdA dt_MX2_besides 31 rfl) rfl (fun c => ?_) (fun c => ?_)
        · have h := h.1 c
          obtain ⟨c3, h⟩ := h
          refine K_iinc (ls' := [(0, (2, a0)), (1, (2, a1)), (2, (0, a2)), (3, (0, a3)), (4, (0, a4)), (5, (0, a5)), (6, (0, (a6 + 1))), (7, (0, a7)), (8, (0, a8))]) 6 (kdA dt_MX2_besides 41 rfl) rfl c3 (by decide) rfl ?_
          obtain ⟨c4, h⟩ := h
          refine K_iinc (ls' := [(0, (2, a0)), (1, (2, a1)), (2, (0, a2)), (3, (0, a3)), (4, (0, a4)), (5, (0, a5)), (6, (0, (a6 + 1))), (7, (0, a7)), (8, (0, (a8 + 1)))]) 8 (kdA dt_MX2_besides 42 rfl) rfl c4 (by decide) rfl ?_
          refine K_goto (tgt := 28) (kdA dt_MX2_besides 43 rfl) rfl ?_
          exact h
        · have h := h.2 c
          refine K_aload_n 0 (kdA dt_MX2_besides 32 rfl) rfl rfl ?_
          refine K_aload_n 1 (kdA dt_MX2_besides 33 rfl) rfl rfl ?_
          refine K_iload 8 (kdA dt_MX2_besides 34 rfl) rfl ?_
          refine K_iload 7 (kdA dt_MX2_besides 35 rfl) rfl ?_
          refine K_iload_n 2 (kdA dt_MX2_besides 36 rfl) rfl rfl ?_
          refine K_iload_n 3 (kdA dt_MX2_besides 37 rfl) rfl rfl ?_
          obtain ⟨c3, h⟩ := h
          refine K_cVi (c := 2) (as := [(2, a1), (0, a8), (0, a7), (0, a2), (0, a3)]) (st := []) (kdA dt_MX2_besides 38 rfl) rfl cl_MX2_nearMoved lk2_42 rfl rfl (Nat.le_of_ble_eq_true rfl) c3 (Ci.mono h (fun x4 s2 h => ?_))
          refine K_iload 5 (kdA dt_MX2_besides 39 rfl) rfl ?_
          refine K_icmp_lt (tgt := 82) (kdA dt_MX2_besides 40 rfl) rfl (fun c => ?_) (fun c => ?_)
          · have h := h.1 c
            obtain ⟨c5, h⟩ := h
            refine K_iinc (ls' := [(0, (2, a0)), (1, (2, a1)), (2, (0, a2)), (3, (0, a3)), (4, (0, a4)), (5, (0, a5)), (6, (0, a6)), (7, (0, a7)), (8, (0, (a8 + 1)))]) 8 (kdA dt_MX2_besides 42 rfl) rfl c5 (by decide) rfl ?_
            refine K_goto (tgt := 28) (kdA dt_MX2_besides 43 rfl) rfl ?_
            exact h
          · have h := h.2 c
            obtain ⟨c5, h⟩ := h
            refine K_iinc (ls' := [(0, (2, a0)), (1, (2, a1)), (2, (0, a2)), (3, (0, a3)), (4, (0, a4)), (5, (0, a5)), (6, (0, (a6 + 1))), (7, (0, a7)), (8, (0, a8))]) 6 (kdA dt_MX2_besides 41 rfl) rfl c5 (by decide) rfl ?_
            obtain ⟨c6, h⟩ := h
            refine K_iinc (ls' := [(0, (2, a0)), (1, (2, a1)), (2, (0, a2)), (3, (0, a3)), (4, (0, a4)), (5, (0, a5)), (6, (0, (a6 + 1))), (7, (0, a7)), (8, (0, (a8 + 1)))]) 8 (kdA dt_MX2_besides 42 rfl) rfl c6 (by decide) rfl ?_
            refine K_goto (tgt := 28) (kdA dt_MX2_besides 43 rfl) rfl ?_
            exact h
      · have h := h.2 c
        refine K_goto (tgt := 82) (kdA dt_MX2_besides 29 rfl) rfl ?_
        obtain ⟨c3, h⟩ := h
        refine K_iinc (ls' := [(0, (2, a0)), (1, (2, a1)), (2, (0, a2)), (3, (0, a3)), (4, (0, a4)), (5, (0, a5)), (6, (0, a6)), (7, (0, a7)), (8, (0, (a8 + 1)))]) 8 (kdA dt_MX2_besides 42 rfl) rfl c3 (by decide) rfl ?_
        refine K_goto (tgt := 28) (kdA dt_MX2_besides 43 rfl) rfl ?_
        exact h
    · have h := h.2 c
      refine K_iload 7 (kdA dt_MX2_besides 22 rfl) rfl ?_
      refine K_if_eq (tgt := 82) (kdA dt_MX2_besides 23 rfl) rfl (fun c => ?_) (fun c => ?_)
      · have h := h.1 c
        obtain ⟨c1, h⟩ := h
        refine K_iinc (ls' := [(0, (2, a0)), (1, (2, a1)), (2, (0, a2)), (3, (0, a3)), (4, (0, a4)), (5, (0, a5)), (6, (0, a6)), (7, (0, a7)), (8, (0, (a8 + 1)))]) 8 (kdA dt_MX2_besides 42 rfl) rfl c1 (by decide) rfl ?_
        refine K_goto (tgt := 28) (kdA dt_MX2_besides 43 rfl) rfl ?_
        exact h
      · have h := h.2 c
        refine K_aload_n 1 (kdA dt_MX2_besides 24 rfl) rfl rfl ?_
        refine K_iload 8 (kdA dt_MX2_besides 25 rfl) rfl ?_
        refine K_iload 7 (kdA dt_MX2_besides 26 rfl) rfl ?_
        obtain ⟨c1, h⟩ := h
        refine K_cVi (c := 8) (as := [(0, a8), (0, a7)]) (st := []) (kdA dt_MX2_besides 27 rfl) rfl cl_MX8_fitsMoved lk2_46 rfl rfl (Nat.le_of_ble_eq_true rfl) c1 (Ci.mono h (fun x2 s1 h => ?_))
        refine K_if_ne (tgt := 58) (kdA dt_MX2_besides 28 rfl) rfl (fun c => ?_) (fun c => ?_)
        · have h := h.1 c
          refine K_iload 4 (kdA dt_MX2_besides 30 rfl) rfl ?_
          refine K_if_eq (tgt := 79) (kdA dt_MX2_besides 31 rfl) rfl (fun c => ?_) (fun c => ?_)
          · have h := h.1 c
            obtain ⟨c3, h⟩ := h
            refine K_iinc (ls' := [(0, (2, a0)), (1, (2, a1)), (2, (0, a2)), (3, (0, a3)), (4, (0, a4)), (5, (0, a5)), (6, (0, (a6 + 1))), (7, (0, a7)), (8, (0, a8))]) 6 (kdA dt_MX2_besides 41 rfl) rfl c3 (by decide) rfl ?_
            obtain ⟨c4, h⟩ := h
            refine K_iinc (ls' := [(0, (2, a0)), (1, (2, a1)), (2, (0, a2)), (3, (0, a3)), (4, (0, a4)), (5, (0, a5)), (6, (0, (a6 + 1))), (7, (0, a7)), (8, (0, (a8 + 1)))]) 8 (kdA dt_MX2_besides 42 rfl) rfl c4 (by decide) rfl ?_
            refine K_goto (tgt := 28) (kdA dt_MX2_besides 43 rfl) rfl ?_
            exact h
          · have h := h.2 c
            refine K_aload_n 0 (kdA dt_MX2_besides 32 rfl) rfl rfl ?_
            refine K_aload_n 1 (kdA dt_MX2_besides 33 rfl) rfl rfl ?_
            refine K_iload 8 (kdA dt_MX2_besides 34 rfl) rfl ?_
            refine K_iload 7 (kdA dt_MX2_besides 35 rfl) rfl ?_
            refine K_iload_n 2 (kdA dt_MX2_besides 36 rfl) rfl rfl ?_
            refine K_iload_n 3 (kdA dt_MX2_besides 37 rfl) rfl rfl ?_
            obtain ⟨c3, h⟩ := h
            refine K_cVi (c := 2) (as := [(2, a1), (0, a8), (0, a7), (0, a2), (0, a3)]) (st := []) (kdA dt_MX2_besides 38 rfl) rfl cl_MX2_nearMoved lk2_42 rfl rfl (Nat.le_of_ble_eq_true rfl) c3 (Ci.mono h (fun x4 s2 h => ?_))
            refine K_iload 5 (kdA dt_MX2_besides 39 rfl) rfl ?_
            refine K_icmp_lt (tgt := 82) (kdA dt_MX2_besides 40 rfl) rfl (fun c => ?_) (fun c => ?_)
            · have h := h.1 c
              obtain ⟨c5, h⟩ := h
              refine K_iinc (ls' := [(0, (2, a0)), (1, (2, a1)), (2, (0, a2)), (3, (0, a3)), (4, (0, a4)), (5, (0, a5)), (6, (0, a6)), (7, (0, a7)), (8, (0, (a8 + 1)))]) 8 (kdA dt_MX2_besides 42 rfl) rfl c5 (by decide) rfl ?_
              refine K_goto (tgt := 28) (kdA dt_MX2_besides 43 rfl) rfl ?_
              exact h
            · have h := h.2 c
              obtain ⟨c5, h⟩ := h
              refine K_iinc (ls' := [(0, (2, a0)), (1, (2, a1)), (2, (0, a2)), (3, (0, a3)), (4, (0, a4)), (5, (0, a5)), (6, (0, (a6 + 1))), (7, (0, a7)), (8, (0, a8))]) 6 (kdA dt_MX2_besides 41 rfl) rfl c5 (by decide) rfl ?_
              obtain ⟨c6, h⟩ := h
              refine K_iinc (ls' := [(0, (2, a0)), (1, (2, a1)), (2, (0, a2)), (3, (0, a3)), (4, (0, a4)), (5, (0, a5)), (6, (0, (a6 + 1))), (7, (0, a7)), (8, (0, (a8 + 1)))]) 8 (kdA dt_MX2_besides 42 rfl) rfl c6 (by decide) rfl ?_
              refine K_goto (tgt := 28) (kdA dt_MX2_besides 43 rfl) rfl ?_
              exact h
        · have h := h.2 c
          refine K_goto (tgt := 82) (kdA dt_MX2_besides 29 rfl) rfl ?_
          obtain ⟨c3, h⟩ := h
          refine K_iinc (ls' := [(0, (2, a0)), (1, (2, a1)), (2, (0, a2)), (3, (0, a3)), (4, (0, a4)), (5, (0, a5)), (6, (0, a6)), (7, (0, a7)), (8, (0, (a8 + 1)))]) 8 (kdA dt_MX2_besides 42 rfl) rfl c3 (by decide) rfl ?_
          refine K_goto (tgt := 28) (kdA dt_MX2_besides 43 rfl) rfl ?_
          exact h
theorem EX2_besides {d n : Nat} {Q : Int → kS → Prop} {a0 a1 a2 a3 a4 : Int} {σ : kS} (h : (-2147483648 ≤ a2 ∧ a2 ≤ 2147483647) → (-2147483648 ≤ a3 ∧ a3 ≤ 2147483647) → (-2147483648 ≤ a4 ∧ a4 ≤ 2147483647) → kokw n σ → LX2_besides_0 d n Q a0 a1 a2 a3 a4 σ) : Ci (d + 1) MX2_besides [(2, a0), (2, a1), (0, a2), (0, a3), (0, a4)] n σ Q := Tri_of (by decide +kernel) (Nat.le_of_ble_eq_true rfl) (fun hk hw => h (hk (0, a2) (List.mem_of_getElem? (i := 2) rfl)) (hk (0, a3) (List.mem_of_getElem? (i := 3) rfl)) (hk (0, a4) (List.mem_of_getElem? (i := 4) rfl)) hw)

def LX2_nearMoved_0 (d n : Nat) (Q : Int → kS → Prop) (a0 : Int) (a1 : Int) (a2 : Int) (a3 : Int) (a4 : Int) (a5 : Int) (σ : kS) : Prop := K (d + 1) MX2_nearMoved (kPi n Q) (0, 0) 0 [(0, (2, a0)), (1, (2, a1)), (2, (0, a2)), (3, (0, a3)), (4, (0, a4)), (5, (0, a5))] [] n σ
def LX2_nearMoved_6 (d n : Nat) (Q : Int → kS → Prop) (a0 : Int) (a1 : Int) (a2 : Int) (a3 : Int) (a4 : Int) (a5 : Int) (a6 : Int) (a7 : Int) (σ : kS) : Prop := K (d + 1) MX2_nearMoved (kPi n Q) (0, 0) 6 [(0, (2, a0)), (1, (2, a1)), (2, (0, a2)), (3, (0, a3)), (4, (0, a4)), (5, (0, a5)), (6, (0, a6)), (7, (0, a7))] [] n σ
theorem SX2_nearMoved_0 {d n : Nat} {Q : Int → kS → Prop} {a0 a1 a2 a3 a4 a5 : Int} {σ : kS} (h : LX2_nearMoved_6 d n Q a0 a1 a2 a3 a4 a5 0 0 σ) : LX2_nearMoved_0 d n Q a0 a1 a2 a3 a4 a5 σ := by
  unfold LX2_nearMoved_0
  refine K_iconst (kdA dt_MX2_nearMoved 0 rfl) (by decide) ?_
  refine K_istore (ls' := [(0, (2, a0)), (1, (2, a1)), (2, (0, a2)), (3, (0, a3)), (4, (0, a4)), (5, (0, a5)), (6, (0, 0))]) (kdA dt_MX2_nearMoved 1 rfl) (by decide) rfl ?_
  refine K_iconst (kdA dt_MX2_nearMoved 2 rfl) (by decide) ?_
  refine K_istore (ls' := [(0, (2, a0)), (1, (2, a1)), (2, (0, a2)), (3, (0, a3)), (4, (0, a4)), (5, (0, a5)), (6, (0, 0)), (7, (0, 0))]) (kdA dt_MX2_nearMoved 3 rfl) (by decide) rfl ?_
  exact h
theorem SX2_nearMoved_6 {d n : Nat} {Q : Int → kS → Prop} {a0 a1 a2 a3 a4 a5 a6 a7 : Int} {σ : kS} (h : isO 2 n a0 ∧ (isO 8 n (σ a0 0) ∧ (((σ (σ a0 0) 1) ≤ a7 → Q a6 σ) ∧ (¬ (σ (σ a0 0) 1) ≤ a7 → isO 8 n (σ a0 1) ∧ (Ci d MX8_at [(2, (σ a0 1)), (0, a7)] n σ (fun x4 s1 => (¬ (kand (kishr a5 x4) 1) = 1 → (-2147483648 ≤ (a7 + 1) ∧ (a7 + 1) ≤ 2147483647) ∧ (LX2_nearMoved_6 d n Q a0 a1 a2 a3 a4 a5 a6 (a7 + 1) s1)) ∧ (¬ (¬ (kand (kishr a5 x4) 1) = 1) → isO 8 n (s1 a0 0) ∧ (Ci d MX8_at [(2, (s1 a0 0)), (0, a7)] n s1 (fun x6 s2 => ((0 : Int) ≤ x6) ∧ ((-2147483648 ≤ ((x6 % 12) - a2) ∧ ((x6 % 12) - a2) ≤ 2147483647) ∧ (isO 8 n (s2 a0 0) ∧ (Ci d MX8_at [(2, (s2 a0 0)), (0, a7)] n s2 (fun x10 s3 => ((0 : Int) ≤ x10) ∧ ((-2147483648 ≤ ((x10 / 12) - a3) ∧ ((x10 / 12) - a3) ≤ 2147483647) ∧ (isO 8 n a1 ∧ (Ci d MX8_isNear [(2, a1), (0, ((x6 % 12) - a2)), (0, ((x10 / 12) - a3)), (0, a4)] n s3 (fun x14 s4 => (x14 = 0 → (-2147483648 ≤ (a7 + 1) ∧ (a7 + 1) ≤ 2147483647) ∧ (LX2_nearMoved_6 d n Q a0 a1 a2 a3 a4 a5 a6 (a7 + 1) s4)) ∧ (¬ x14 = 0 → isO 8 n (s4 a0 2) ∧ (Ci d MX8_at [(2, (s4 a0 2)), (0, a7)] n s4 (fun x16 s5 => (-2147483648 ≤ (a6 + x16) ∧ (a6 + x16) ≤ 2147483647) ∧ ((-2147483648 ≤ (a7 + 1) ∧ (a7 + 1) ≤ 2147483647) ∧ (LX2_nearMoved_6 d n Q a0 a1 a2 a3 a4 a5 (a6 + x16) (a7 + 1) s5)))))))))))))))))))))) : LX2_nearMoved_6 d n Q a0 a1 a2 a3 a4 a5 a6 a7 σ := by
  unfold LX2_nearMoved_6
  refine K_iload 7 (kdA dt_MX2_nearMoved 4 rfl) rfl ?_
  refine K_aload_n 0 (kdA dt_MX2_nearMoved 5 rfl) rfl rfl ?_
  obtain ⟨c1, h⟩ := h
  refine gf2_14 rfl (kdA dt_MX2_nearMoved 6 rfl) c1 ?_
  obtain ⟨c2, h⟩ := h
  refine gf2_30 rfl (kdA dt_MX2_nearMoved 7 rfl) c2 ?_
  refine K_icmp_ge (tgt := 105) (kdA dt_MX2_nearMoved 8 rfl) rfl (fun c => ?_) (fun c => ?_)
  · have h := h.1 c
    refine K_iload 6 (kdA dt_MX2_nearMoved 54 rfl) rfl ?_
    exact K_ireturn (kdA dt_MX2_nearMoved 55 rfl) rfl ⟨rfl, _, rfl, h⟩
  · have h := h.2 c
    refine K_iload 5 (kdA dt_MX2_nearMoved 9 rfl) rfl ?_
    refine K_aload_n 0 (kdA dt_MX2_nearMoved 10 rfl) rfl rfl ?_
    refine gf2_20 rfl (kdA dt_MX2_nearMoved 11 rfl) c1 ?_
    refine K_iload 7 (kdA dt_MX2_nearMoved 12 rfl) rfl ?_
    obtain ⟨c3, h⟩ := h
    refine K_cVi (c := 8) (as := [(0, a7)]) (st := [(0, a5)]) (kdA dt_MX2_nearMoved 13 rfl) rfl cl_MX8_at lk2_34 rfl rfl (Nat.le_of_ble_eq_true rfl) c3 (Ci.mono h (fun x4 s1 h => ?_))
    refine K_ishr (kdA dt_MX2_nearMoved 14 rfl) ?_
    refine K_iconst (kdA dt_MX2_nearMoved 15 rfl) (by decide) ?_
    refine K_iand (kdA dt_MX2_nearMoved 16 rfl) ?_
    refine K_iconst (kdA dt_MX2_nearMoved 17 rfl) (by decide) ?_
    refine K_icmp_ne (tgt := 40) (kdA dt_MX2_nearMoved 18 rfl) rfl (fun c => ?_) (fun c => ?_)
    · have h := h.1 c
      refine K_iconst (kdA dt_MX2_nearMoved 21 rfl) (by decide) ?_
      refine K_istore (ls' := [(0, (2, a0)), (1, (2, a1)), (2, (0, a2)), (3, (0, a3)), (4, (0, a4)), (5, (0, a5)), (6, (0, a6)), (7, (0, a7)), (8, (0, 0))]) (kdA dt_MX2_nearMoved 22 rfl) (by decide) rfl ?_
      refine K_iload 8 (kdA dt_MX2_nearMoved 23 rfl) rfl ?_
      refine K_if_eq (tgt := 99) (kdA dt_MX2_nearMoved 24 rfl) rfl (fun _ => ?_) (fun c => absurd (by decide) c)
      obtain ⟨c5, h⟩ := h
      refine K_iinc (ls' := [(0, (2, a0)), (1, (2, a1)), (2, (0, a2)), (3, (0, a3)), (4, (0, a4)), (5, (0, a5)), (6, (0, a6)), (7, (0, (a7 + 1))), (8, (0, 0))]) 7 (kdA dt_MX2_nearMoved 52 rfl) rfl c5 (by decide) rfl ?_
      refine K_goto (tgt := 6) (kdA dt_MX2_nearMoved 53 rfl) rfl ?_
      refine K_pick [0, 1, 2, 3, 4, 5, 6, 7] (ls' := [(0, (2, a0)), (1, (2, a1)), (2, (0, a2)), (3, (0, a3)), (4, (0, a4)), (5, (0, a5)), (6, (0, a6)), (7, (0, (a7 + 1)))]) rfl ?_
      exact h
    · have h := h.2 c
      refine K_iconst (kdA dt_MX2_nearMoved 19 rfl) (by decide) ?_
      refine K_goto (tgt := 41) (kdA dt_MX2_nearMoved 20 rfl) rfl ?_
      refine K_istore (ls' := [(0, (2, a0)), (1, (2, a1)), (2, (0, a2)), (3, (0, a3)), (4, (0, a4)), (5, (0, a5)), (6, (0, a6)), (7, (0, a7)), (8, (0, 1))]) (kdA dt_MX2_nearMoved 22 rfl) (by decide) rfl ?_
      refine K_iload 8 (kdA dt_MX2_nearMoved 23 rfl) rfl ?_
      refine K_if_eq (tgt := 99) (kdA dt_MX2_nearMoved 24 rfl) rfl (fun c => absurd c (by decide)) (fun _ => ?_)
      refine K_aload_n 1 (kdA dt_MX2_nearMoved 25 rfl) rfl rfl ?_
      refine K_aload_n 0 (kdA dt_MX2_nearMoved 26 rfl) rfl rfl ?_
      refine gf2_14 rfl (kdA dt_MX2_nearMoved 27 rfl) c1 ?_
      refine K_iload 7 (kdA dt_MX2_nearMoved 28 rfl) rfl ?_
      obtain ⟨c5, h⟩ := h
      refine K_cVi (c := 8) (as := [(0, a7)]) (st := [(2, a1)]) (kdA dt_MX2_nearMoved 29 rfl) rfl cl_MX8_at lk2_34 rfl rfl (Nat.le_of_ble_eq_true rfl) c5 (Ci.mono h (fun x6 s2 h => ?_))
      refine K_bipush (kdA dt_MX2_nearMoved 30 rfl) (by decide +kernel) ?_
      obtain ⟨c7, h⟩ := h
      refine K_irem (kdA dt_MX2_nearMoved 31 rfl) c7 (by decide) ?_
      refine K_iload_n 2 (kdA dt_MX2_nearMoved 32 rfl) rfl rfl ?_
      obtain ⟨c8, h⟩ := h
      refine K_isub (kdA dt_MX2_nearMoved 33 rfl) c8 ?_
      refine K_aload_n 0 (kdA dt_MX2_nearMoved 34 rfl) rfl rfl ?_
      refine gf2_14 rfl (kdA dt_MX2_nearMoved 35 rfl) c1 ?_
      refine K_iload 7 (kdA dt_MX2_nearMoved 36 rfl) rfl ?_
      obtain ⟨c9, h⟩ := h
      refine K_cVi (c := 8) (as := [(0, a7)]) (st := [(0, ((x6 % 12) - a2)), (2, a1)]) (kdA dt_MX2_nearMoved 37 rfl) rfl cl_MX8_at lk2_34 rfl rfl (Nat.le_of_ble_eq_true rfl) c9 (Ci.mono h (fun x10 s3 h => ?_))
      refine K_bipush (kdA dt_MX2_nearMoved 38 rfl) (by decide +kernel) ?_
      obtain ⟨c11, h⟩ := h
      refine K_idiv (kdA dt_MX2_nearMoved 39 rfl) c11 (by decide) ?_
      refine K_iload_n 3 (kdA dt_MX2_nearMoved 40 rfl) rfl rfl ?_
      obtain ⟨c12, h⟩ := h
      refine K_isub (kdA dt_MX2_nearMoved 41 rfl) c12 ?_
      refine K_iload 4 (kdA dt_MX2_nearMoved 42 rfl) rfl ?_
      obtain ⟨c13, h⟩ := h
      refine K_cVi (c := 8) (as := [(0, ((x6 % 12) - a2)), (0, ((x10 / 12) - a3)), (0, a4)]) (st := []) (kdA dt_MX2_nearMoved 43 rfl) rfl cl_MX8_isNear lk2_38 rfl rfl (Nat.le_of_ble_eq_true rfl) c13 (Ci.mono h (fun x14 s4 h => ?_))
      refine K_if_eq (tgt := 99) (kdA dt_MX2_nearMoved 44 rfl) rfl (fun c => ?_) (fun c => ?_)
      · have h := h.1 c
        obtain ⟨c15, h⟩ := h
        refine K_iinc (ls' := [(0, (2, a0)), (1, (2, a1)), (2, (0, a2)), (3, (0, a3)), (4, (0, a4)), (5, (0, a5)), (6, (0, a6)), (7, (0, (a7 + 1))), (8, (0, 1))]) 7 (kdA dt_MX2_nearMoved 52 rfl) rfl c15 (by decide) rfl ?_
        refine K_goto (tgt := 6) (kdA dt_MX2_nearMoved 53 rfl) rfl ?_
        refine K_pick [0, 1, 2, 3, 4, 5, 6, 7] (ls' := [(0, (2, a0)), (1, (2, a1)), (2, (0, a2)), (3, (0, a3)), (4, (0, a4)), (5, (0, a5)), (6, (0, a6)), (7, (0, (a7 + 1)))]) rfl ?_
        exact h
      · have h := h.2 c
        refine K_iload 6 (kdA dt_MX2_nearMoved 45 rfl) rfl ?_
        refine K_aload_n 0 (kdA dt_MX2_nearMoved 46 rfl) rfl rfl ?_
        refine gf2_23 rfl (kdA dt_MX2_nearMoved 47 rfl) c1 ?_
        refine K_iload 7 (kdA dt_MX2_nearMoved 48 rfl) rfl ?_
        obtain ⟨c15, h⟩ := h
        refine K_cVi (c := 8) (as := [(0, a7)]) (st := [(0, a6)]) (kdA dt_MX2_nearMoved 49 rfl) rfl cl_MX8_at lk2_34 rfl rfl (Nat.le_of_ble_eq_true rfl) c15 (Ci.mono h (fun x16 s5 h => ?_))
        obtain ⟨c17, h⟩ := h
        refine K_iadd (kdA dt_MX2_nearMoved 50 rfl) c17 ?_
        refine K_istore (ls' := [(0, (2, a0)), (1, (2, a1)), (2, (0, a2)), (3, (0, a3)), (4, (0, a4)), (5, (0, a5)), (6, (0, (a6 + x16))), (7, (0, a7)), (8, (0, 1))]) (kdA dt_MX2_nearMoved 51 rfl) (by decide) rfl ?_
        obtain ⟨c18, h⟩ := h
        refine K_iinc (ls' := [(0, (2, a0)), (1, (2, a1)), (2, (0, a2)), (3, (0, a3)), (4, (0, a4)), (5, (0, a5)), (6, (0, (a6 + x16))), (7, (0, (a7 + 1))), (8, (0, 1))]) 7 (kdA dt_MX2_nearMoved 52 rfl) rfl c18 (by decide) rfl ?_
        refine K_goto (tgt := 6) (kdA dt_MX2_nearMoved 53 rfl) rfl ?_
        refine K_pick [0, 1, 2, 3, 4, 5, 6, 7] (ls' := [(0, (2, a0)), (1, (2, a1)), (2, (0, a2)), (3, (0, a3)), (4, (0, a4)), (5, (0, a5)), (6, (0, (a6 + x16))), (7, (0, (a7 + 1)))]) rfl ?_
        exact h
theorem EX2_nearMoved {d n : Nat} {Q : Int → kS → Prop} {a0 a1 a2 a3 a4 a5 : Int} {σ : kS} (h : (-2147483648 ≤ a2 ∧ a2 ≤ 2147483647) → (-2147483648 ≤ a3 ∧ a3 ≤ 2147483647) → (-2147483648 ≤ a4 ∧ a4 ≤ 2147483647) → (-2147483648 ≤ a5 ∧ a5 ≤ 2147483647) → kokw n σ → LX2_nearMoved_0 d n Q a0 a1 a2 a3 a4 a5 σ) : Ci (d + 1) MX2_nearMoved [(2, a0), (2, a1), (0, a2), (0, a3), (0, a4), (0, a5)] n σ Q := Tri_of (by decide +kernel) (Nat.le_of_ble_eq_true rfl) (fun hk hw => h (hk (0, a2) (List.mem_of_getElem? (i := 2) rfl)) (hk (0, a3) (List.mem_of_getElem? (i := 3) rfl)) (hk (0, a4) (List.mem_of_getElem? (i := 4) rfl)) (hk (0, a5) (List.mem_of_getElem? (i := 5) rfl)) hw)

def LX2_speakFor_0 (d n : Nat) (Q : Int → kS → Prop) (a0 : Int) (a1 : Int) (σ : kS) : Prop := K (d + 1) MX2_speakFor (kPi n Q) (0, 0) 0 [(0, (2, a0)), (1, (2, a1))] [] n σ
def LX2_speakFor_4 (d n : Nat) (Q : Int → kS → Prop) (a0 : Int) (a1 : Int) (a2 : Int) (a3 : Int) (σ : kS) : Prop := K (d + 1) MX2_speakFor (kPi n Q) (0, 0) 4 [(0, (2, a0)), (1, (2, a1)), (2, (0, a2)), (3, (0, a3))] [] n σ
theorem SX2_speakFor_0 {d n : Nat} {Q : Int → kS → Prop} {a0 a1 : Int} {σ : kS} (h : LX2_speakFor_4 d n Q a0 a1 1 0 σ) : LX2_speakFor_0 d n Q a0 a1 σ := by
  unfold LX2_speakFor_0
  refine K_iconst (kdA dt_MX2_speakFor 0 rfl) (by decide) ?_
  refine K_istore_n (ls' := [(0, (2, a0)), (1, (2, a1)), (2, (0, 1))]) (kdA dt_MX2_speakFor 1 rfl) rfl (by decide) rfl ?_
  refine K_iconst (kdA dt_MX2_speakFor 2 rfl) (by decide) ?_
  refine K_istore_n (ls' := [(0, (2, a0)), (1, (2, a1)), (2, (0, 1)), (3, (0, 0))]) (kdA dt_MX2_speakFor 3 rfl) rfl (by decide) rfl ?_
  exact h
theorem SX2_speakFor_4 {d n : Nat} {Q : Int → kS → Prop} {a0 a1 a2 a3 : Int} {σ : kS} (h : isO 2 n a0 ∧ (isO 8 n (σ a0 0) ∧ (((σ (σ a0 0) 1) ≤ a3 → Q a2 σ) ∧ (¬ (σ (σ a0 0) 1) ≤ a3 → Ci d MX8_at [(2, (σ a0 0)), (0, a3)] n σ (fun x3 s1 => ((0 : Int) ≤ x3) ∧ (isO 8 n (s1 a0 0) ∧ (Ci d MX8_at [(2, (s1 a0 0)), (0, a3)] n s1 (fun x6 s2 => ((0 : Int) ≤ x6) ∧ (isO 8 n a1 ∧ (Ci d MX8_isNear [(2, a1), (0, (x3 % 12)), (0, (x6 / 12)), (0, 1)] n s2 (fun x9 s3 => isO 8 n (s3 a0 1) ∧ (Ci d MX8_at [(2, (s3 a0 1)), (0, a3)] n s3 (fun x11 s4 => (¬ x11 = 0 → isO 8 n (s4 a0 1) ∧ (Ci d MX8_at [(2, (s4 a0 1)), (0, a3)] n s4 (fun x13 s5 => (¬ x13 = 1 → (-2147483648 ≤ (a3 + 1) ∧ (a3 + 1) ≤ 2147483647) ∧ (LX2_speakFor_4 d n Q a0 a1 a2 (a3 + 1) s5)) ∧ (¬ (¬ x13 = 1) → (x9 = 0 → (-2147483648 ≤ (a3 + 1) ∧ (a3 + 1) ≤ 2147483647) ∧ (LX2_speakFor_4 d n Q a0 a1 a2 (a3 + 1) s5)) ∧ (¬ x9 = 0 → isO 8 n (s5 a0 2) ∧ (Ci d MX8_at [(2, (s5 a0 2)), (0, a3)] n s5 (fun x15 s6 => (-2147483648 ≤ (a2 + x15) ∧ (a2 + x15) ≤ 2147483647) ∧ ((-2147483648 ≤ (a3 + 1) ∧ (a3 + 1) ≤ 2147483647) ∧ (LX2_speakFor_4 d n Q a0 a1 (a2 + x15) (a3 + 1) s6))))))))) ∧ (¬ (¬ x11 = 0) → (¬ x9 = 0 → isO 8 n (s4 a0 1) ∧ (Ci d MX8_at [(2, (s4 a0 1)), (0, a3)] n s4 (fun x13 s5 => (¬ x13 = 1 → (-2147483648 ≤ (a3 + 1) ∧ (a3 + 1) ≤ 2147483647) ∧ (LX2_speakFor_4 d n Q a0 a1 a2 (a3 + 1) s5)) ∧ (¬ (¬ x13 = 1) → (x9 = 0 → (-2147483648 ≤ (a3 + 1) ∧ (a3 + 1) ≤ 2147483647) ∧ (LX2_speakFor_4 d n Q a0 a1 a2 (a3 + 1) s5)) ∧ (¬ x9 = 0 → isO 8 n (s5 a0 2) ∧ (Ci d MX8_at [(2, (s5 a0 2)), (0, a3)] n s5 (fun x15 s6 => (-2147483648 ≤ (a2 + x15) ∧ (a2 + x15) ≤ 2147483647) ∧ ((-2147483648 ≤ (a3 + 1) ∧ (a3 + 1) ≤ 2147483647) ∧ (LX2_speakFor_4 d n Q a0 a1 (a2 + x15) (a3 + 1) s6))))))))) ∧ (¬ (¬ x9 = 0) → Q 0 s4))))))))))))))) : LX2_speakFor_4 d n Q a0 a1 a2 a3 σ := by
  unfold LX2_speakFor_4
  refine K_iload_n 3 (kdA dt_MX2_speakFor 4 rfl) rfl rfl ?_
  refine K_aload_n 0 (kdA dt_MX2_speakFor 5 rfl) rfl rfl ?_
  obtain ⟨c1, h⟩ := h
  refine gf2_14 rfl (kdA dt_MX2_speakFor 6 rfl) c1 ?_
  obtain ⟨c2, h⟩ := h
  refine gf2_30 rfl (kdA dt_MX2_speakFor 7 rfl) c2 ?_
  refine K_icmp_ge (tgt := 96) (kdA dt_MX2_speakFor 8 rfl) rfl (fun c => ?_) (fun c => ?_)
  · have h := h.1 c
    refine K_iload_n 2 (kdA dt_MX2_speakFor 51 rfl) rfl rfl ?_
    exact K_ireturn (kdA dt_MX2_speakFor 52 rfl) rfl ⟨rfl, _, rfl, h⟩
  · have h := h.2 c
    refine K_aload_n 1 (kdA dt_MX2_speakFor 9 rfl) rfl rfl ?_
    refine K_aload_n 0 (kdA dt_MX2_speakFor 10 rfl) rfl rfl ?_
    refine gf2_14 rfl (kdA dt_MX2_speakFor 11 rfl) c1 ?_
    refine K_iload_n 3 (kdA dt_MX2_speakFor 12 rfl) rfl rfl ?_
    refine K_cVi (c := 8) (as := [(0, a3)]) (st := [(2, a1)]) (kdA dt_MX2_speakFor 13 rfl) rfl cl_MX8_at lk2_34 rfl rfl (Nat.le_of_ble_eq_true rfl) c2 (Ci.mono h (fun x3 s1 h => ?_))
    refine K_bipush (kdA dt_MX2_speakFor 14 rfl) (by decide +kernel) ?_
    obtain ⟨c4, h⟩ := h
    refine K_irem (kdA dt_MX2_speakFor 15 rfl) c4 (by decide) ?_
    refine K_aload_n 0 (kdA dt_MX2_speakFor 16 rfl) rfl rfl ?_
    refine gf2_14 rfl (kdA dt_MX2_speakFor 17 rfl) c1 ?_
    refine K_iload_n 3 (kdA dt_MX2_speakFor 18 rfl) rfl rfl ?_
    obtain ⟨c5, h⟩ := h
    refine K_cVi (c := 8) (as := [(0, a3)]) (st := [(0, (x3 % 12)), (2, a1)]) (kdA dt_MX2_speakFor 19 rfl) rfl cl_MX8_at lk2_34 rfl rfl (Nat.le_of_ble_eq_true rfl) c5 (Ci.mono h (fun x6 s2 h => ?_))
    refine K_bipush (kdA dt_MX2_speakFor 20 rfl) (by decide +kernel) ?_
    obtain ⟨c7, h⟩ := h
    refine K_idiv (kdA dt_MX2_speakFor 21 rfl) c7 (by decide) ?_
    refine K_iconst (kdA dt_MX2_speakFor 22 rfl) (by decide) ?_
    obtain ⟨c8, h⟩ := h
    refine K_cVi (c := 8) (as := [(0, (x3 % 12)), (0, (x6 / 12)), (0, 1)]) (st := []) (kdA dt_MX2_speakFor 23 rfl) rfl cl_MX8_isNear lk2_38 rfl rfl (Nat.le_of_ble_eq_true rfl) c8 (Ci.mono h (fun x9 s3 h => ?_))
    refine K_istore (ls' := [(0, (2, a0)), (1, (2, a1)), (2, (0, a2)), (3, (0, a3)), (4, (0, x9))]) (kdA dt_MX2_speakFor 24 rfl) (by decide) rfl ?_
    refine K_aload_n 0 (kdA dt_MX2_speakFor 25 rfl) rfl rfl ?_
    refine gf2_20 rfl (kdA dt_MX2_speakFor 26 rfl) c1 ?_
    refine K_iload_n 3 (kdA dt_MX2_speakFor 27 rfl) rfl rfl ?_
    obtain ⟨c10, h⟩ := h
    refine K_cVi (c := 8) (as := [(0, a3)]) (st := []) (kdA dt_MX2_speakFor 28 rfl) rfl cl_MX8_at lk2_34 rfl rfl (Nat.le_of_ble_eq_true rfl) c10 (Ci.mono h (fun x11 s4 h => ?_))
    refine K_if_ne (tgt := 62) (kdA dt_MX2_speakFor 29 rfl) rfl (fun c => ?_) (fun c => ?_)
    · have h := h.1 c
      refine K_aload_n 0 (kdA dt_MX2_speakFor 34 rfl) rfl rfl ?_
      refine gf2_20 rfl (kdA dt_MX2_speakFor 35 rfl) c1 ?_
      refine K_iload_n 3 (kdA dt_MX2_speakFor 36 rfl) rfl rfl ?_
      obtain ⟨c12, h⟩ := h
      refine K_cVi (c := 8) (as := [(0, a3)]) (st := []) (kdA dt_MX2_speakFor 37 rfl) rfl cl_MX8_at lk2_34 rfl rfl (Nat.le_of_ble_eq_true rfl) c12 (Ci.mono h (fun x13 s5 h => ?_))
      refine K_iconst (kdA dt_MX2_speakFor 38 rfl) (by decide) ?_
      refine K_icmp_ne (tgt := 90) (kdA dt_MX2_speakFor 39 rfl) rfl (fun c => ?_) (fun c => ?_)
      · have h := h.1 c
        obtain ⟨c14, h⟩ := h
        refine K_iinc (ls' := [(0, (2, a0)), (1, (2, a1)), (2, (0, a2)), (3, (0, (a3 + 1))), (4, (0, x9))]) 3 (kdA dt_MX2_speakFor 49 rfl) rfl c14 (by decide) rfl ?_
        refine K_goto (tgt := 4) (kdA dt_MX2_speakFor 50 rfl) rfl ?_
        refine K_pick [0, 1, 2, 3] (ls' := [(0, (2, a0)), (1, (2, a1)), (2, (0, a2)), (3, (0, (a3 + 1)))]) rfl ?_
        exact h
      · have h := h.2 c
        refine K_iload 4 (kdA dt_MX2_speakFor 40 rfl) rfl ?_
        refine K_if_eq (tgt := 90) (kdA dt_MX2_speakFor 41 rfl) rfl (fun c => ?_) (fun c => ?_)
        · have h := h.1 c
          obtain ⟨c14, h⟩ := h
          refine K_iinc (ls' := [(0, (2, a0)), (1, (2, a1)), (2, (0, a2)), (3, (0, (a3 + 1))), (4, (0, x9))]) 3 (kdA dt_MX2_speakFor 49 rfl) rfl c14 (by decide) rfl ?_
          refine K_goto (tgt := 4) (kdA dt_MX2_speakFor 50 rfl) rfl ?_
          refine K_pick [0, 1, 2, 3] (ls' := [(0, (2, a0)), (1, (2, a1)), (2, (0, a2)), (3, (0, (a3 + 1)))]) rfl ?_
          exact h
        · have h := h.2 c
          refine K_iload_n 2 (kdA dt_MX2_speakFor 42 rfl) rfl rfl ?_
          refine K_aload_n 0 (kdA dt_MX2_speakFor 43 rfl) rfl rfl ?_
          refine gf2_23 rfl (kdA dt_MX2_speakFor 44 rfl) c1 ?_
          refine K_iload_n 3 (kdA dt_MX2_speakFor 45 rfl) rfl rfl ?_
          obtain ⟨c14, h⟩ := h
          refine K_cVi (c := 8) (as := [(0, a3)]) (st := [(0, a2)]) (kdA dt_MX2_speakFor 46 rfl) rfl cl_MX8_at lk2_34 rfl rfl (Nat.le_of_ble_eq_true rfl) c14 (Ci.mono h (fun x15 s6 h => ?_))
          obtain ⟨c16, h⟩ := h
          refine K_iadd (kdA dt_MX2_speakFor 47 rfl) c16 ?_
          refine K_istore_n (ls' := [(0, (2, a0)), (1, (2, a1)), (2, (0, (a2 + x15))), (3, (0, a3)), (4, (0, x9))]) (kdA dt_MX2_speakFor 48 rfl) rfl (by decide) rfl ?_
          obtain ⟨c17, h⟩ := h
          refine K_iinc (ls' := [(0, (2, a0)), (1, (2, a1)), (2, (0, (a2 + x15))), (3, (0, (a3 + 1))), (4, (0, x9))]) 3 (kdA dt_MX2_speakFor 49 rfl) rfl c17 (by decide) rfl ?_
          refine K_goto (tgt := 4) (kdA dt_MX2_speakFor 50 rfl) rfl ?_
          refine K_pick [0, 1, 2, 3] (ls' := [(0, (2, a0)), (1, (2, a1)), (2, (0, (a2 + x15))), (3, (0, (a3 + 1)))]) rfl ?_
          exact h
    · have h := h.2 c
      refine K_iload 4 (kdA dt_MX2_speakFor 30 rfl) rfl ?_
      refine K_if_ne (tgt := 62) (kdA dt_MX2_speakFor 31 rfl) rfl (fun c => ?_) (fun c => ?_)
      · have h := h.1 c
        refine K_aload_n 0 (kdA dt_MX2_speakFor 34 rfl) rfl rfl ?_
        refine gf2_20 rfl (kdA dt_MX2_speakFor 35 rfl) c1 ?_
        refine K_iload_n 3 (kdA dt_MX2_speakFor 36 rfl) rfl rfl ?_
        obtain ⟨c12, h⟩ := h
        refine K_cVi (c := 8) (as := [(0, a3)]) (st := []) (kdA dt_MX2_speakFor 37 rfl) rfl cl_MX8_at lk2_34 rfl rfl (Nat.le_of_ble_eq_true rfl) c12 (Ci.mono h (fun x13 s5 h => ?_))
        refine K_iconst (kdA dt_MX2_speakFor 38 rfl) (by decide) ?_
        refine K_icmp_ne (tgt := 90) (kdA dt_MX2_speakFor 39 rfl) rfl (fun c => ?_) (fun c => ?_)
        · have h := h.1 c
          obtain ⟨c14, h⟩ := h
          refine K_iinc (ls' := [(0, (2, a0)), (1, (2, a1)), (2, (0, a2)), (3, (0, (a3 + 1))), (4, (0, x9))]) 3 (kdA dt_MX2_speakFor 49 rfl) rfl c14 (by decide) rfl ?_
          refine K_goto (tgt := 4) (kdA dt_MX2_speakFor 50 rfl) rfl ?_
          refine K_pick [0, 1, 2, 3] (ls' := [(0, (2, a0)), (1, (2, a1)), (2, (0, a2)), (3, (0, (a3 + 1)))]) rfl ?_
          exact h
        · have h := h.2 c
          refine K_iload 4 (kdA dt_MX2_speakFor 40 rfl) rfl ?_
          refine K_if_eq (tgt := 90) (kdA dt_MX2_speakFor 41 rfl) rfl (fun c => ?_) (fun c => ?_)
          · have h := h.1 c
            obtain ⟨c14, h⟩ := h
            refine K_iinc (ls' := [(0, (2, a0)), (1, (2, a1)), (2, (0, a2)), (3, (0, (a3 + 1))), (4, (0, x9))]) 3 (kdA dt_MX2_speakFor 49 rfl) rfl c14 (by decide) rfl ?_
            refine K_goto (tgt := 4) (kdA dt_MX2_speakFor 50 rfl) rfl ?_
            refine K_pick [0, 1, 2, 3] (ls' := [(0, (2, a0)), (1, (2, a1)), (2, (0, a2)), (3, (0, (a3 + 1)))]) rfl ?_
            exact h
          · have h := h.2 c
            refine K_iload_n 2 (kdA dt_MX2_speakFor 42 rfl) rfl rfl ?_
            refine K_aload_n 0 (kdA dt_MX2_speakFor 43 rfl) rfl rfl ?_
            refine gf2_23 rfl (kdA dt_MX2_speakFor 44 rfl) c1 ?_
            refine K_iload_n 3 (kdA dt_MX2_speakFor 45 rfl) rfl rfl ?_
            obtain ⟨c14, h⟩ := h
            refine K_cVi (c := 8) (as := [(0, a3)]) (st := [(0, a2)]) (kdA dt_MX2_speakFor 46 rfl) rfl cl_MX8_at lk2_34 rfl rfl (Nat.le_of_ble_eq_true rfl) c14 (Ci.mono h (fun x15 s6 h => ?_))
            obtain ⟨c16, h⟩ := h
            refine K_iadd (kdA dt_MX2_speakFor 47 rfl) c16 ?_
            refine K_istore_n (ls' := [(0, (2, a0)), (1, (2, a1)), (2, (0, (a2 + x15))), (3, (0, a3)), (4, (0, x9))]) (kdA dt_MX2_speakFor 48 rfl) rfl (by decide) rfl ?_
            obtain ⟨c17, h⟩ := h
            refine K_iinc (ls' := [(0, (2, a0)), (1, (2, a1)), (2, (0, (a2 + x15))), (3, (0, (a3 + 1))), (4, (0, x9))]) 3 (kdA dt_MX2_speakFor 49 rfl) rfl c17 (by decide) rfl ?_
            refine K_goto (tgt := 4) (kdA dt_MX2_speakFor 50 rfl) rfl ?_
            refine K_pick [0, 1, 2, 3] (ls' := [(0, (2, a0)), (1, (2, a1)), (2, (0, (a2 + x15))), (3, (0, (a3 + 1)))]) rfl ?_
            exact h
      · have h := h.2 c
        refine K_iconst (kdA dt_MX2_speakFor 32 rfl) (by decide) ?_
        exact K_ireturn (kdA dt_MX2_speakFor 33 rfl) rfl ⟨rfl, _, rfl, h⟩
theorem EX2_speakFor {d n : Nat} {Q : Int → kS → Prop} {a0 a1 : Int} {σ : kS} (h : kokw n σ → LX2_speakFor_0 d n Q a0 a1 σ) : Ci (d + 1) MX2_speakFor [(2, a0), (2, a1)] n σ Q := Tri_of (by decide +kernel) (Nat.le_of_ble_eq_true rfl) (fun hk hw => h hw)

def LX4_atom_0 (d n : Nat) (Q : Int → kS → Prop) (a0 : Int) (a1 : Int) (σ : kS) : Prop := K (d + 1) MX4_atom (kPi n Q) (0, 0) 0 [(0, (2, a0)), (1, (0, a1))] [] n σ
theorem SX4_atom_0 {d n : Nat} {Q : Int → kS → Prop} {a0 a1 : Int} {σ : kS} (h : isO 4 n a0 ∧ (isO 8 n (σ a0 1) ∧ (Ci d MX8_at [(2, (σ a0 1)), (0, (σ a0 2))] n σ (fun x3 s1 => (¬ x3 = 91 → (x3 < 48 → Ci d MX4_letterNumber [(0, x3)] n s1 (fun x4 s2 => (¬ x4 = (-1) → (-2147483648 ≤ (10000 + x4) ∧ (10000 + x4) ≤ 2147483647) ∧ (isO 3 n (s2 a0 0) ∧ (Cv d MX3_add [(2, (s2 a0 0)), (0, (10000 + x4))] n s2 (fun s3 => Ci d MX4_takes [(2, a0), (0, x3)] n s3 (fun x8 s4 => (x8 = 0 ∨ x8 = 1) ∧ (Q x8 s4)))))) ∧ (¬ (¬ x4 = (-1)) → Q 0 s2))) ∧ (¬ x3 < 48 → (57 < x3 → Ci d MX4_letterNumber [(0, x3)] n s1 (fun x4 s2 => (¬ x4 = (-1) → (-2147483648 ≤ (10000 + x4) ∧ (10000 + x4) ≤ 2147483647) ∧ (isO 3 n (s2 a0 0) ∧ (Cv d MX3_add [(2, (s2 a0 0)), (0, (10000 + x4))] n s2 (fun s3 => Ci d MX4_takes [(2, a0), (0, x3)] n s3 (fun x8 s4 => (x8 = 0 ∨ x8 = 1) ∧ (Q x8 s4)))))) ∧ (¬ (¬ x4 = (-1)) → Q 0 s2))) ∧ (¬ 57 < x3 → Ci d MX4_number [(2, a0)] n s1 (fun x4 s2 => isO 3 n (s1 a0 0) ∧ (Cv d MX3_add [(2, (s1 a0 0)), (0, x4)] n s2 (fun s3 => Cv d MX4_skipBlanks [(2, a0)] n s3 (fun s4 => Q 1 s4))))))) ∧ (¬ (¬ x3 = 91) → (6 ≤ a1 → Q 0 s1) ∧ (¬ 6 ≤ a1 → Ci d MX4_takes [(2, a0), (0, 91)] n s1 (fun x4 s2 => (x4 = 0 → Q 0 s2) ∧ (¬ x4 = 0 → (-2147483648 ≤ (a1 + 1) ∧ (a1 + 1) ≤ 2147483647) ∧ (Ci d MX4_sum [(2, a0), (0, (a1 + 1))] n s2 (fun x6 s3 => (x6 = 0 → Q 0 s3) ∧ (¬ x6 = 0 → Ci d MX4_takes [(2, a0), (0, 93)] n s3 (fun x7 s4 => (x7 = 0 → Q 0 s4) ∧ (¬ x7 = 0 → Q 1 s4))))))))))))) : LX4_atom_0 d n Q a0 a1 σ := by
  unfold LX4_atom_0
  refine K_aload_n 0 (kdA dt_MX4_atom 0 rfl) rfl rfl ?_
  obtain ⟨c1, h⟩ := h
  refine gf4_23 rfl (kdA dt_MX4_atom 1 rfl) c1 ?_
  refine K_aload_n 0 (kdA dt_MX4_atom 2 rfl) rfl rfl ?_
  refine gf4_27 rfl (kdA dt_MX4_atom 3 rfl) c1 ?_
  obtain ⟨c2, h⟩ := h
  refine K_cVi (c := 8) (as := [(0, (σ a0 2))]) (st := []) (kdA dt_MX4_atom 4 rfl) rfl cl_MX8_at lk4_46 rfl rfl (Nat.le_of_ble_eq_true rfl) c2 (Ci.mono h (fun x3 s1 h => ?_))
  refine K_istore_n (ls' := [(0, (2, a0)), (1, (0, a1)), (2, (0, x3))]) (kdA dt_MX4_atom 5 rfl) rfl (by decide) rfl ?_
  refine K_iload_n 2 (kdA dt_MX4_atom 6 rfl) rfl rfl ?_
  refine K_bipush (kdA dt_MX4_atom 7 rfl) (by decide +kernel) ?_
  refine K_icmp_ne (tgt := 58) (kdA dt_MX4_atom 8 rfl) rfl (fun c => ?_) (fun c => ?_)
  · have h := h.1 c
    refine K_iload_n 2 (kdA dt_MX4_atom 30 rfl) rfl rfl ?_
    refine K_bipush (kdA dt_MX4_atom 31 rfl) (by decide +kernel) ?_
    refine K_icmp_lt (tgt := 87) (kdA dt_MX4_atom 32 rfl) rfl (fun c => ?_) (fun c => ?_)
    · have h := h.1 c
      refine K_iload_n 2 (kdA dt_MX4_atom 45 rfl) rfl rfl ?_
      refine K_cSi (as := [(0, x3)]) (st := []) (kdA dt_MX4_atom 46 rfl) cl_MX4_letterNumber lk4_82 rfl rfl (Nat.le_of_ble_eq_true rfl) (Ci.mono h (fun x4 s2 h => ?_))
      refine K_istore_n (ls' := [(0, (2, a0)), (1, (0, a1)), (2, (0, x3)), (3, (0, x4))]) (kdA dt_MX4_atom 47 rfl) rfl (by decide) rfl ?_
      refine K_iload_n 3 (kdA dt_MX4_atom 48 rfl) rfl rfl ?_
      refine K_iconst (kdA dt_MX4_atom 49 rfl) (by decide) ?_
      refine K_icmp_ne (tgt := 99) (kdA dt_MX4_atom 50 rfl) rfl (fun c => ?_) (fun c => ?_)
      · have h := h.1 c
        refine K_aload_n 0 (kdA dt_MX4_atom 53 rfl) rfl rfl ?_
        refine gf4_12 rfl (kdA dt_MX4_atom 54 rfl) c1 ?_
        refine K_sipush (kdA dt_MX4_atom 55 rfl) (by decide +kernel) ?_
        refine K_iload_n 3 (kdA dt_MX4_atom 56 rfl) rfl rfl ?_
        obtain ⟨c5, h⟩ := h
        refine K_iadd (kdA dt_MX4_atom 57 rfl) c5 ?_
        obtain ⟨c6, h⟩ := h
        refine K_cVv (c := 3) (as := [(0, (10000 + x4))]) (st := []) (kdA dt_MX4_atom 58 rfl) rfl cl_MX3_add lk4_56 rfl rfl (Nat.le_of_ble_eq_true rfl) c6 (Cv.mono h (fun s3 h => ?_))
        refine K_aload_n 0 (kdA dt_MX4_atom 59 rfl) rfl rfl ?_
        refine K_iload_n 2 (kdA dt_MX4_atom 60 rfl) rfl rfl ?_
        refine K_cVi (c := 4) (as := [(0, x3)]) (st := []) (kdA dt_MX4_atom 61 rfl) rfl cl_MX4_takes lk4_42 rfl rfl (Nat.le_of_ble_eq_true rfl) c1 (Ci.mono h (fun x8 s4 h => ?_))
        obtain ⟨c9, h⟩ := h
        exact K_zreturn (kdA dt_MX4_atom 62 rfl) rfl c9 ⟨rfl, _, rfl, h⟩
      · have h := h.2 c
        refine K_iconst (kdA dt_MX4_atom 51 rfl) (by decide) ?_
        exact K_zreturn (kdA dt_MX4_atom 52 rfl) rfl (Or.inl rfl) ⟨rfl, _, rfl, h⟩
    · have h := h.2 c
      refine K_iload_n 2 (kdA dt_MX4_atom 33 rfl) rfl rfl ?_
      refine K_bipush (kdA dt_MX4_atom 34 rfl) (by decide +kernel) ?_
      refine K_icmp_gt (tgt := 87) (kdA dt_MX4_atom 35 rfl) rfl (fun c => ?_) (fun c => ?_)
      · have h := h.1 c
        refine K_iload_n 2 (kdA dt_MX4_atom 45 rfl) rfl rfl ?_
        refine K_cSi (as := [(0, x3)]) (st := []) (kdA dt_MX4_atom 46 rfl) cl_MX4_letterNumber lk4_82 rfl rfl (Nat.le_of_ble_eq_true rfl) (Ci.mono h (fun x4 s2 h => ?_))
        refine K_istore_n (ls' := [(0, (2, a0)), (1, (0, a1)), (2, (0, x3)), (3, (0, x4))]) (kdA dt_MX4_atom 47 rfl) rfl (by decide) rfl ?_
        refine K_iload_n 3 (kdA dt_MX4_atom 48 rfl) rfl rfl ?_
        refine K_iconst (kdA dt_MX4_atom 49 rfl) (by decide) ?_
        refine K_icmp_ne (tgt := 99) (kdA dt_MX4_atom 50 rfl) rfl (fun c => ?_) (fun c => ?_)
        · have h := h.1 c
          refine K_aload_n 0 (kdA dt_MX4_atom 53 rfl) rfl rfl ?_
          refine gf4_12 rfl (kdA dt_MX4_atom 54 rfl) c1 ?_
          refine K_sipush (kdA dt_MX4_atom 55 rfl) (by decide +kernel) ?_
          refine K_iload_n 3 (kdA dt_MX4_atom 56 rfl) rfl rfl ?_
          obtain ⟨c5, h⟩ := h
          refine K_iadd (kdA dt_MX4_atom 57 rfl) c5 ?_
          obtain ⟨c6, h⟩ := h
          refine K_cVv (c := 3) (as := [(0, (10000 + x4))]) (st := []) (kdA dt_MX4_atom 58 rfl) rfl cl_MX3_add lk4_56 rfl rfl (Nat.le_of_ble_eq_true rfl) c6 (Cv.mono h (fun s3 h => ?_))
          refine K_aload_n 0 (kdA dt_MX4_atom 59 rfl) rfl rfl ?_
          refine K_iload_n 2 (kdA dt_MX4_atom 60 rfl) rfl rfl ?_
          refine K_cVi (c := 4) (as := [(0, x3)]) (st := []) (kdA dt_MX4_atom 61 rfl) rfl cl_MX4_takes lk4_42 rfl rfl (Nat.le_of_ble_eq_true rfl) c1 (Ci.mono h (fun x8 s4 h => ?_))
          obtain ⟨c9, h⟩ := h
          exact K_zreturn (kdA dt_MX4_atom 62 rfl) rfl c9 ⟨rfl, _, rfl, h⟩
        · have h := h.2 c
          refine K_iconst (kdA dt_MX4_atom 51 rfl) (by decide) ?_
          exact K_zreturn (kdA dt_MX4_atom 52 rfl) rfl (Or.inl rfl) ⟨rfl, _, rfl, h⟩
      · have h := h.2 c
        refine K_aload_n 0 (kdA dt_MX4_atom 36 rfl) rfl rfl ?_
        refine gf4_12 rfl (kdA dt_MX4_atom 37 rfl) c1 ?_
        refine K_aload_n 0 (kdA dt_MX4_atom 38 rfl) rfl rfl ?_
        refine K_cVi (c := 4) (as := []) (st := [(2, (s1 a0 0))]) (kdA dt_MX4_atom 39 rfl) rfl cl_MX4_number lk4_78 rfl rfl (Nat.le_of_ble_eq_true rfl) c1 (Ci.mono h (fun x4 s2 h => ?_))
        obtain ⟨c5, h⟩ := h
        refine K_cVv (c := 3) (as := [(0, x4)]) (st := []) (kdA dt_MX4_atom 40 rfl) rfl cl_MX3_add lk4_56 rfl rfl (Nat.le_of_ble_eq_true rfl) c5 (Cv.mono h (fun s3 h => ?_))
        refine K_aload_n 0 (kdA dt_MX4_atom 41 rfl) rfl rfl ?_
        refine K_cVv (c := 4) (as := []) (st := []) (kdA dt_MX4_atom 42 rfl) rfl cl_MX4_skipBlanks lk4_34 rfl rfl (Nat.le_of_ble_eq_true rfl) c1 (Cv.mono h (fun s4 h => ?_))
        refine K_iconst (kdA dt_MX4_atom 43 rfl) (by decide) ?_
        exact K_zreturn (kdA dt_MX4_atom 44 rfl) rfl (Or.inr rfl) ⟨rfl, _, rfl, h⟩
  · have h := h.2 c
    refine K_iload_n 1 (kdA dt_MX4_atom 9 rfl) rfl rfl ?_
    refine K_bipush (kdA dt_MX4_atom 10 rfl) (by decide +kernel) ?_
    refine K_icmp_ge (tgt := 56) (kdA dt_MX4_atom 11 rfl) rfl (fun c => ?_) (fun c => ?_)
    · have h := h.1 c
      refine K_iconst (kdA dt_MX4_atom 28 rfl) (by decide) ?_
      exact K_zreturn (kdA dt_MX4_atom 29 rfl) rfl (Or.inl rfl) ⟨rfl, _, rfl, h⟩
    · have h := h.2 c
      refine K_aload_n 0 (kdA dt_MX4_atom 12 rfl) rfl rfl ?_
      refine K_bipush (kdA dt_MX4_atom 13 rfl) (by decide +kernel) ?_
      refine K_cVi (c := 4) (as := [(0, 91)]) (st := []) (kdA dt_MX4_atom 14 rfl) rfl cl_MX4_takes lk4_42 rfl rfl (Nat.le_of_ble_eq_true rfl) c1 (Ci.mono h (fun x4 s2 h => ?_))
      refine K_if_eq (tgt := 56) (kdA dt_MX4_atom 15 rfl) rfl (fun c => ?_) (fun c => ?_)
      · have h := h.1 c
        refine K_iconst (kdA dt_MX4_atom 28 rfl) (by decide) ?_
        exact K_zreturn (kdA dt_MX4_atom 29 rfl) rfl (Or.inl rfl) ⟨rfl, _, rfl, h⟩
      · have h := h.2 c
        refine K_aload_n 0 (kdA dt_MX4_atom 16 rfl) rfl rfl ?_
        refine K_iload_n 1 (kdA dt_MX4_atom 17 rfl) rfl rfl ?_
        refine K_iconst (kdA dt_MX4_atom 18 rfl) (by decide) ?_
        obtain ⟨c5, h⟩ := h
        refine K_iadd (kdA dt_MX4_atom 19 rfl) c5 ?_
        refine K_cVi (c := 4) (as := [(0, (a1 + 1))]) (st := []) (kdA dt_MX4_atom 20 rfl) rfl cl_MX4_sum lk4_49 rfl rfl (Nat.le_of_ble_eq_true rfl) c1 (Ci.mono h (fun x6 s3 h => ?_))
        refine K_if_eq (tgt := 56) (kdA dt_MX4_atom 21 rfl) rfl (fun c => ?_) (fun c => ?_)
        · have h := h.1 c
          refine K_iconst (kdA dt_MX4_atom 28 rfl) (by decide) ?_
          exact K_zreturn (kdA dt_MX4_atom 29 rfl) rfl (Or.inl rfl) ⟨rfl, _, rfl, h⟩
        · have h := h.2 c
          refine K_aload_n 0 (kdA dt_MX4_atom 22 rfl) rfl rfl ?_
          refine K_bipush (kdA dt_MX4_atom 23 rfl) (by decide +kernel) ?_
          refine K_cVi (c := 4) (as := [(0, 93)]) (st := []) (kdA dt_MX4_atom 24 rfl) rfl cl_MX4_takes lk4_42 rfl rfl (Nat.le_of_ble_eq_true rfl) c1 (Ci.mono h (fun x7 s4 h => ?_))
          refine K_if_eq (tgt := 56) (kdA dt_MX4_atom 25 rfl) rfl (fun c => ?_) (fun c => ?_)
          · have h := h.1 c
            refine K_iconst (kdA dt_MX4_atom 28 rfl) (by decide) ?_
            exact K_zreturn (kdA dt_MX4_atom 29 rfl) rfl (Or.inl rfl) ⟨rfl, _, rfl, h⟩
          · have h := h.2 c
            refine K_iconst (kdA dt_MX4_atom 26 rfl) (by decide) ?_
            refine K_goto (tgt := 57) (kdA dt_MX4_atom 27 rfl) rfl ?_
            exact K_zreturn (kdA dt_MX4_atom 29 rfl) rfl (Or.inr rfl) ⟨rfl, _, rfl, h⟩
theorem EX4_atom {d n : Nat} {Q : Int → kS → Prop} {a0 a1 : Int} {σ : kS} (h : (-2147483648 ≤ a1 ∧ a1 ≤ 2147483647) → kokw n σ → LX4_atom_0 d n Q a0 a1 σ) : Ci (d + 1) MX4_atom [(2, a0), (0, a1)] n σ Q := Tri_of (by decide +kernel) (Nat.le_of_ble_eq_true rfl) (fun hk hw => h (hk (0, a1) (List.mem_of_getElem? (i := 1) rfl)) hw)

def LX4_clause_0 (d n : Nat) (Q : Int → kS → Prop) (a0 : Int) (σ : kS) : Prop := K (d + 1) MX4_clause (kPi n Q) (0, 0) 0 [(0, (2, a0))] [] n σ
theorem SX4_clause_0 {d n : Nat} {Q : Int → kS → Prop} {a0 : Int} {σ : kS} (h : isO 4 n a0 ∧ (Ci d MX4_takes [(2, a0), (0, 121)] n σ (fun x2 s1 => (x2 = 0 → Q 0 s1) ∧ (¬ x2 = 0 → Ci d MX4_takes [(2, a0), (0, 58)] n s1 (fun x3 s2 => (¬ x3 = 0 → isO 8 n (s2 a0 1) ∧ (Ci d MX8_at [(2, (s2 a0 1)), (0, (s2 a0 2))] n s2 (fun x5 s3 => (x5 = 33 → Ci d MX4_condition [(2, a0), (0, 0), (0, 0)] n s3 (fun x6 s4 => (x6 = 0 → Q 0 s4) ∧ (¬ x6 = 0 → Ci d MX4_takes [(2, a0), (0, 63)] n s4 (fun x7 s5 => (¬ x7 = 0 → isO 3 n (s5 a0 0) ∧ (Cv d MX3_add [(2, (s5 a0 0)), (0, 30000)] n s5 (fun s6 => Ci d MX4_sum [(2, a0), (0, 0)] n s6 (fun x10 s7 => (¬ x10 = 0 → isO 3 n (s7 a0 0) ∧ (Cv d MX3_add [(2, (s7 a0 0)), (0, 40000)] n s7 (fun s8 => isO 3 n (s8 a0 0) ∧ (Cv d MX3_leadOn [(2, (s8 a0 0)), (0, (s5 (s5 a0 0) 2))] n s8 (fun s9 => Q 1 s9))))) ∧ (¬ (¬ x10 = 0) → Q 0 s7))))) ∧ (¬ (¬ x7 = 0) → Q 0 s5))))) ∧ (¬ x5 = 33 → isO 8 n (s3 a0 1) ∧ (Ci d MX8_at [(2, (s3 a0 1)), (0, (s3 a0 2))] n s3 (fun x7 s4 => (x7 = 40 → Ci d MX4_condition [(2, a0), (0, 0), (0, 0)] n s4 (fun x8 s5 => (x8 = 0 → Q 0 s5) ∧ (¬ x8 = 0 → Ci d MX4_takes [(2, a0), (0, 63)] n s5 (fun x9 s6 => (¬ x9 = 0 → isO 3 n (s6 a0 0) ∧ (Cv d MX3_add [(2, (s6 a0 0)), (0, 30000)] n s6 (fun s7 => Ci d MX4_sum [(2, a0), (0, 0)] n s7 (fun x12 s8 => (¬ x12 = 0 → isO 3 n (s8 a0 0) ∧ (Cv d MX3_add [(2, (s8 a0 0)), (0, 40000)] n s8 (fun s9 => isO 3 n (s9 a0 0) ∧ (Cv d MX3_leadOn [(2, (s9 a0 0)), (0, (s6 (s6 a0 0) 2))] n s9 (fun s10 => Q 1 s10))))) ∧ (¬ (¬ x12 = 0) → Q 0 s8))))) ∧ (¬ (¬ x9 = 0) → Q 0 s6))))) ∧ (¬ x7 = 40 → Ci d MX4_sum [(2, a0), (0, 0)] n s4 (fun x8 s5 => (¬ x8 = 0 → isO 8 n (s5 a0 1) ∧ (Ci d MX8_at [(2, (s5 a0 1)), (0, (s5 a0 2))] n s5 (fun x10 s6 => Ci d MX4_isComparison [(0, x10)] n s6 (fun x11 s7 => (¬ x11 = 0 → Ci d MX4_condition [(2, a0), (0, 0), (0, 1)] n s7 (fun x12 s8 => (x12 = 0 → Q 0 s8) ∧ (¬ x12 = 0 → Ci d MX4_takes [(2, a0), (0, 63)] n s8 (fun x13 s9 => (¬ x13 = 0 → isO 3 n (s9 a0 0) ∧ (Cv d MX3_add [(2, (s9 a0 0)), (0, 30000)] n s9 (fun s10 => Ci d MX4_sum [(2, a0), (0, 0)] n s10 (fun x16 s11 => (¬ x16 = 0 → isO 3 n (s11 a0 0) ∧ (Cv d MX3_add [(2, (s11 a0 0)), (0, 40000)] n s11 (fun s12 => isO 3 n (s12 a0 0) ∧ (Cv d MX3_leadOn [(2, (s12 a0 0)), (0, (s9 (s9 a0 0) 2))] n s12 (fun s13 => Q 1 s13))))) ∧ (¬ (¬ x16 = 0) → Q 0 s11))))) ∧ (¬ (¬ x13 = 0) → Q 0 s9))))) ∧ (¬ (¬ x11 = 0) → isO 3 n (s7 a0 0) ∧ (Cv d MX3_add [(2, (s7 a0 0)), (0, 40000)] n s7 (fun s8 => Q 1 s8))))))) ∧ (¬ (¬ x8 = 0) → Q 0 s5))))))))) ∧ (¬ (¬ x3 = 0) → Q 0 s2)))))) : LX4_clause_0 d n Q a0 σ := by
  unfold LX4_clause_0
  refine K_aload_n 0 (kdA dt_MX4_clause 0 rfl) rfl rfl ?_
  refine K_bipush (kdA dt_MX4_clause 1 rfl) (by decide +kernel) ?_
  obtain ⟨c1, h⟩ := h
  refine K_cVi (c := 4) (as := [(0, 121)]) (st := []) (kdA dt_MX4_clause 2 rfl) rfl cl_MX4_takes lk4_42 rfl rfl (Nat.le_of_ble_eq_true rfl) c1 (Ci.mono h (fun x2 s1 h => ?_))
  refine K_if_eq (tgt := 18) (kdA dt_MX4_clause 3 rfl) rfl (fun c => ?_) (fun c => ?_)
  · have h := h.1 c
    refine K_iconst (kdA dt_MX4_clause 8 rfl) (by decide) ?_
    exact K_zreturn (kdA dt_MX4_clause 9 rfl) rfl (Or.inl rfl) ⟨rfl, _, rfl, h⟩
  · have h := h.2 c
    refine K_aload_n 0 (kdA dt_MX4_clause 4 rfl) rfl rfl ?_
    refine K_bipush (kdA dt_MX4_clause 5 rfl) (by decide +kernel) ?_
    refine K_cVi (c := 4) (as := [(0, 58)]) (st := []) (kdA dt_MX4_clause 6 rfl) rfl cl_MX4_takes lk4_42 rfl rfl (Nat.le_of_ble_eq_true rfl) c1 (Ci.mono h (fun x3 s2 h => ?_))
    refine K_if_ne (tgt := 20) (kdA dt_MX4_clause 7 rfl) rfl (fun c => ?_) (fun c => ?_)
    · have h := h.1 c
      refine K_aload_n 0 (kdA dt_MX4_clause 10 rfl) rfl rfl ?_
      refine gf4_23 rfl (kdA dt_MX4_clause 11 rfl) c1 ?_
      refine K_aload_n 0 (kdA dt_MX4_clause 12 rfl) rfl rfl ?_
      refine gf4_27 rfl (kdA dt_MX4_clause 13 rfl) c1 ?_
      obtain ⟨c4, h⟩ := h
      refine K_cVi (c := 8) (as := [(0, (s2 a0 2))]) (st := []) (kdA dt_MX4_clause 14 rfl) rfl cl_MX8_at lk4_46 rfl rfl (Nat.le_of_ble_eq_true rfl) c4 (Ci.mono h (fun x5 s3 h => ?_))
      refine K_bipush (kdA dt_MX4_clause 15 rfl) (by decide +kernel) ?_
      refine K_icmp_eq (tgt := 56) (kdA dt_MX4_clause 16 rfl) rfl (fun c => ?_) (fun c => ?_)
      · have h := h.1 c
        refine K_iconst (kdA dt_MX4_clause 26 rfl) (by decide) ?_
        refine K_istore_n (ls' := [(0, (2, a0)), (1, (0, 0))]) (kdA dt_MX4_clause 27 rfl) rfl (by decide) rfl ?_
        refine K_iload_n 1 (kdA dt_MX4_clause 28 rfl) rfl rfl ?_
        refine K_if_eq (tgt := 100) (kdA dt_MX4_clause 29 rfl) rfl (fun _ => ?_) (fun c => absurd (by decide) c)
        refine K_aload_n 0 (kdA dt_MX4_clause 49 rfl) rfl rfl ?_
        refine K_iconst (kdA dt_MX4_clause 50 rfl) (by decide) ?_
        refine K_iload_n 1 (kdA dt_MX4_clause 51 rfl) rfl rfl ?_
        refine K_cVi (c := 4) (as := [(0, 0), (0, 0)]) (st := []) (kdA dt_MX4_clause 52 rfl) rfl cl_MX4_condition lk4_59 rfl rfl (Nat.le_of_ble_eq_true rfl) c1 (Ci.mono h (fun x6 s4 h => ?_))
        refine K_if_eq (tgt := 118) (kdA dt_MX4_clause 53 rfl) rfl (fun c => ?_) (fun c => ?_)
        · have h := h.1 c
          refine K_iconst (kdA dt_MX4_clause 58 rfl) (by decide) ?_
          exact K_zreturn (kdA dt_MX4_clause 59 rfl) rfl (Or.inl rfl) ⟨rfl, _, rfl, h⟩
        · have h := h.2 c
          refine K_aload_n 0 (kdA dt_MX4_clause 54 rfl) rfl rfl ?_
          refine K_bipush (kdA dt_MX4_clause 55 rfl) (by decide +kernel) ?_
          refine K_cVi (c := 4) (as := [(0, 63)]) (st := []) (kdA dt_MX4_clause 56 rfl) rfl cl_MX4_takes lk4_42 rfl rfl (Nat.le_of_ble_eq_true rfl) c1 (Ci.mono h (fun x7 s5 h => ?_))
          refine K_if_ne (tgt := 120) (kdA dt_MX4_clause 57 rfl) rfl (fun c => ?_) (fun c => ?_)
          · have h := h.1 c
            refine K_aload_n 0 (kdA dt_MX4_clause 60 rfl) rfl rfl ?_
            refine gf4_12 rfl (kdA dt_MX4_clause 61 rfl) c1 ?_
            obtain ⟨c8, h⟩ := h
            refine gf4_31 rfl (kdA dt_MX4_clause 62 rfl) c8 ?_
            refine K_istore_n (ls' := [(0, (2, a0)), (1, (0, 0)), (2, (0, (s5 (s5 a0 0) 2)))]) (kdA dt_MX4_clause 63 rfl) rfl (by decide) rfl ?_
            refine K_aload_n 0 (kdA dt_MX4_clause 64 rfl) rfl rfl ?_
            refine gf4_12 rfl (kdA dt_MX4_clause 65 rfl) c1 ?_
            refine K_sipush (kdA dt_MX4_clause 66 rfl) (by decide +kernel) ?_
            refine K_cVv (c := 3) (as := [(0, 30000)]) (st := []) (kdA dt_MX4_clause 67 rfl) rfl cl_MX3_add lk4_56 rfl rfl (Nat.le_of_ble_eq_true rfl) c8 (Cv.mono h (fun s6 h => ?_))
            refine K_aload_n 0 (kdA dt_MX4_clause 68 rfl) rfl rfl ?_
            refine K_iconst (kdA dt_MX4_clause 69 rfl) (by decide) ?_
            refine K_cVi (c := 4) (as := [(0, 0)]) (st := []) (kdA dt_MX4_clause 70 rfl) rfl cl_MX4_sum lk4_49 rfl rfl (Nat.le_of_ble_eq_true rfl) c1 (Ci.mono h (fun x10 s7 h => ?_))
            refine K_if_ne (tgt := 148) (kdA dt_MX4_clause 71 rfl) rfl (fun c => ?_) (fun c => ?_)
            · have h := h.1 c
              refine K_aload_n 0 (kdA dt_MX4_clause 74 rfl) rfl rfl ?_
              refine gf4_12 rfl (kdA dt_MX4_clause 75 rfl) c1 ?_
              refine K_ldc (x := 40000) (kdA dt_MX4_clause 76 rfl) (tb2 238 rfl rfl) (by decide +kernel) ?_
              obtain ⟨c11, h⟩ := h
              refine K_cVv (c := 3) (as := [(0, 40000)]) (st := []) (kdA dt_MX4_clause 77 rfl) rfl cl_MX3_add lk4_56 rfl rfl (Nat.le_of_ble_eq_true rfl) c11 (Cv.mono h (fun s8 h => ?_))
              refine K_aload_n 0 (kdA dt_MX4_clause 78 rfl) rfl rfl ?_
              refine gf4_12 rfl (kdA dt_MX4_clause 79 rfl) c1 ?_
              refine K_iload_n 2 (kdA dt_MX4_clause 80 rfl) rfl rfl ?_
              obtain ⟨c13, h⟩ := h
              refine K_cVv (c := 3) (as := [(0, (s5 (s5 a0 0) 2))]) (st := []) (kdA dt_MX4_clause 81 rfl) rfl cl_MX3_leadOn lk4_63 rfl rfl (Nat.le_of_ble_eq_true rfl) c13 (Cv.mono h (fun s9 h => ?_))
              refine K_iconst (kdA dt_MX4_clause 82 rfl) (by decide) ?_
              exact K_zreturn (kdA dt_MX4_clause 83 rfl) rfl (Or.inr rfl) ⟨rfl, _, rfl, h⟩
            · have h := h.2 c
              refine K_iconst (kdA dt_MX4_clause 72 rfl) (by decide) ?_
              exact K_zreturn (kdA dt_MX4_clause 73 rfl) rfl (Or.inl rfl) ⟨rfl, _, rfl, h⟩
          · have h := h.2 c
            refine K_iconst (kdA dt_MX4_clause 58 rfl) (by decide) ?_
            exact K_zreturn (kdA dt_MX4_clause 59 rfl) rfl (Or.inl rfl) ⟨rfl, _, rfl, h⟩
      · have h := h.2 c
        refine K_aload_n 0 (kdA dt_MX4_clause 17 rfl) rfl rfl ?_
        refine gf4_23 rfl (kdA dt_MX4_clause 18 rfl) c1 ?_
        refine K_aload_n 0 (kdA dt_MX4_clause 19 rfl) rfl rfl ?_
        refine gf4_27 rfl (kdA dt_MX4_clause 20 rfl) c1 ?_
        obtain ⟨c6, h⟩ := h
        refine K_cVi (c := 8) (as := [(0, (s3 a0 2))]) (st := []) (kdA dt_MX4_clause 21 rfl) rfl cl_MX8_at lk4_46 rfl rfl (Nat.le_of_ble_eq_true rfl) c6 (Ci.mono h (fun x7 s4 h => ?_))
        refine K_bipush (kdA dt_MX4_clause 22 rfl) (by decide +kernel) ?_
        refine K_icmp_eq (tgt := 56) (kdA dt_MX4_clause 23 rfl) rfl (fun c => ?_) (fun c => ?_)
        · have h := h.1 c
          refine K_iconst (kdA dt_MX4_clause 26 rfl) (by decide) ?_
          refine K_istore_n (ls' := [(0, (2, a0)), (1, (0, 0))]) (kdA dt_MX4_clause 27 rfl) rfl (by decide) rfl ?_
          refine K_iload_n 1 (kdA dt_MX4_clause 28 rfl) rfl rfl ?_
          refine K_if_eq (tgt := 100) (kdA dt_MX4_clause 29 rfl) rfl (fun _ => ?_) (fun c => absurd (by decide) c)
          refine K_aload_n 0 (kdA dt_MX4_clause 49 rfl) rfl rfl ?_
          refine K_iconst (kdA dt_MX4_clause 50 rfl) (by decide) ?_
          refine K_iload_n 1 (kdA dt_MX4_clause 51 rfl) rfl rfl ?_
          refine K_cVi (c := 4) (as := [(0, 0), (0, 0)]) (st := []) (kdA dt_MX4_clause 52 rfl) rfl cl_MX4_condition lk4_59 rfl rfl (Nat.le_of_ble_eq_true rfl) c1 (Ci.mono h (fun x8 s5 h => ?_))
          refine K_if_eq (tgt := 118) (kdA dt_MX4_clause 53 rfl) rfl (fun c => ?_) (fun c => ?_)
          · have h := h.1 c
            refine K_iconst (kdA dt_MX4_clause 58 rfl) (by decide) ?_
            exact K_zreturn (kdA dt_MX4_clause 59 rfl) rfl (Or.inl rfl) ⟨rfl, _, rfl, h⟩
          · have h := h.2 c
            refine K_aload_n 0 (kdA dt_MX4_clause 54 rfl) rfl rfl ?_
            refine K_bipush (kdA dt_MX4_clause 55 rfl) (by decide +kernel) ?_
            refine K_cVi (c := 4) (as := [(0, 63)]) (st := []) (kdA dt_MX4_clause 56 rfl) rfl cl_MX4_takes lk4_42 rfl rfl (Nat.le_of_ble_eq_true rfl) c1 (Ci.mono h (fun x9 s6 h => ?_))
            refine K_if_ne (tgt := 120) (kdA dt_MX4_clause 57 rfl) rfl (fun c => ?_) (fun c => ?_)
            · have h := h.1 c
              refine K_aload_n 0 (kdA dt_MX4_clause 60 rfl) rfl rfl ?_
              refine gf4_12 rfl (kdA dt_MX4_clause 61 rfl) c1 ?_
              obtain ⟨c10, h⟩ := h
              refine gf4_31 rfl (kdA dt_MX4_clause 62 rfl) c10 ?_
              refine K_istore_n (ls' := [(0, (2, a0)), (1, (0, 0)), (2, (0, (s6 (s6 a0 0) 2)))]) (kdA dt_MX4_clause 63 rfl) rfl (by decide) rfl ?_
              refine K_aload_n 0 (kdA dt_MX4_clause 64 rfl) rfl rfl ?_
              refine gf4_12 rfl (kdA dt_MX4_clause 65 rfl) c1 ?_
              refine K_sipush (kdA dt_MX4_clause 66 rfl) (by decide +kernel) ?_
              refine K_cVv (c := 3) (as := [(0, 30000)]) (st := []) (kdA dt_MX4_clause 67 rfl) rfl cl_MX3_add lk4_56 rfl rfl (Nat.le_of_ble_eq_true rfl) c10 (Cv.mono h (fun s7 h => ?_))
              refine K_aload_n 0 (kdA dt_MX4_clause 68 rfl) rfl rfl ?_
              refine K_iconst (kdA dt_MX4_clause 69 rfl) (by decide) ?_
              refine K_cVi (c := 4) (as := [(0, 0)]) (st := []) (kdA dt_MX4_clause 70 rfl) rfl cl_MX4_sum lk4_49 rfl rfl (Nat.le_of_ble_eq_true rfl) c1 (Ci.mono h (fun x12 s8 h => ?_))
              refine K_if_ne (tgt := 148) (kdA dt_MX4_clause 71 rfl) rfl (fun c => ?_) (fun c => ?_)
              · have h := h.1 c
                refine K_aload_n 0 (kdA dt_MX4_clause 74 rfl) rfl rfl ?_
                refine gf4_12 rfl (kdA dt_MX4_clause 75 rfl) c1 ?_
                refine K_ldc (x := 40000) (kdA dt_MX4_clause 76 rfl) (tb2 238 rfl rfl) (by decide +kernel) ?_
                obtain ⟨c13, h⟩ := h
                refine K_cVv (c := 3) (as := [(0, 40000)]) (st := []) (kdA dt_MX4_clause 77 rfl) rfl cl_MX3_add lk4_56 rfl rfl (Nat.le_of_ble_eq_true rfl) c13 (Cv.mono h (fun s9 h => ?_))
                refine K_aload_n 0 (kdA dt_MX4_clause 78 rfl) rfl rfl ?_
                refine gf4_12 rfl (kdA dt_MX4_clause 79 rfl) c1 ?_
                refine K_iload_n 2 (kdA dt_MX4_clause 80 rfl) rfl rfl ?_
                obtain ⟨c15, h⟩ := h
                refine K_cVv (c := 3) (as := [(0, (s6 (s6 a0 0) 2))]) (st := []) (kdA dt_MX4_clause 81 rfl) rfl cl_MX3_leadOn lk4_63 rfl rfl (Nat.le_of_ble_eq_true rfl) c15 (Cv.mono h (fun s10 h => ?_))
                refine K_iconst (kdA dt_MX4_clause 82 rfl) (by decide) ?_
                exact K_zreturn (kdA dt_MX4_clause 83 rfl) rfl (Or.inr rfl) ⟨rfl, _, rfl, h⟩
              · have h := h.2 c
                refine K_iconst (kdA dt_MX4_clause 72 rfl) (by decide) ?_
                exact K_zreturn (kdA dt_MX4_clause 73 rfl) rfl (Or.inl rfl) ⟨rfl, _, rfl, h⟩
            · have h := h.2 c
              refine K_iconst (kdA dt_MX4_clause 58 rfl) (by decide) ?_
              exact K_zreturn (kdA dt_MX4_clause 59 rfl) rfl (Or.inl rfl) ⟨rfl, _, rfl, h⟩
        · have h := h.2 c
          refine K_iconst (kdA dt_MX4_clause 24 rfl) (by decide) ?_
          refine K_goto (tgt := 57) (kdA dt_MX4_clause 25 rfl) rfl ?_
          refine K_istore_n (ls' := [(0, (2, a0)), (1, (0, 1))]) (kdA dt_MX4_clause 27 rfl) rfl (by decide) rfl ?_
          refine K_iload_n 1 (kdA dt_MX4_clause 28 rfl) rfl rfl ?_
          refine K_if_eq (tgt := 100) (kdA dt_MX4_clause 29 rfl) rfl (fun c => absurd c (by decide)) (fun _ => ?_)
          refine K_aload_n 0 (kdA dt_MX4_clause 30 rfl) rfl rfl ?_
          refine K_iconst (kdA dt_MX4_clause 31 rfl) (by decide) ?_
          refine K_cVi (c := 4) (as := [(0, 0)]) (st := []) (kdA dt_MX4_clause 32 rfl) rfl cl_MX4_sum lk4_49 rfl rfl (Nat.le_of_ble_eq_true rfl) c1 (Ci.mono h (fun x8 s5 h => ?_))
          refine K_if_ne (tgt := 72) (kdA dt_MX4_clause 33 rfl) rfl (fun c => ?_) (fun c => ?_)
          · have h := h.1 c
            refine K_aload_n 0 (kdA dt_MX4_clause 36 rfl) rfl rfl ?_
            refine gf4_23 rfl (kdA dt_MX4_clause 37 rfl) c1 ?_
            refine K_aload_n 0 (kdA dt_MX4_clause 38 rfl) rfl rfl ?_
            refine gf4_27 rfl (kdA dt_MX4_clause 39 rfl) c1 ?_
            obtain ⟨c9, h⟩ := h
            refine K_cVi (c := 8) (as := [(0, (s5 a0 2))]) (st := []) (kdA dt_MX4_clause 40 rfl) rfl cl_MX8_at lk4_46 rfl rfl (Nat.le_of_ble_eq_true rfl) c9 (Ci.mono h (fun x10 s6 h => ?_))
            refine K_cSi (as := [(0, x10)]) (st := []) (kdA dt_MX4_clause 41 rfl) cl_MX4_isComparison lk4_52 rfl rfl (Nat.le_of_ble_eq_true rfl) (Ci.mono h (fun x11 s7 h => ?_))
            refine K_if_ne (tgt := 100) (kdA dt_MX4_clause 42 rfl) rfl (fun c => ?_) (fun c => ?_)
            · have h := h.1 c
              refine K_aload_n 0 (kdA dt_MX4_clause 49 rfl) rfl rfl ?_
              refine K_iconst (kdA dt_MX4_clause 50 rfl) (by decide) ?_
              refine K_iload_n 1 (kdA dt_MX4_clause 51 rfl) rfl rfl ?_
              refine K_cVi (c := 4) (as := [(0, 0), (0, 1)]) (st := []) (kdA dt_MX4_clause 52 rfl) rfl cl_MX4_condition lk4_59 rfl rfl (Nat.le_of_ble_eq_true rfl) c1 (Ci.mono h (fun x12 s8 h => ?_))
              refine K_if_eq (tgt := 118) (kdA dt_MX4_clause 53 rfl) rfl (fun c => ?_) (fun c => ?_)
              · have h := h.1 c
                refine K_iconst (kdA dt_MX4_clause 58 rfl) (by decide) ?_
                exact K_zreturn (kdA dt_MX4_clause 59 rfl) rfl (Or.inl rfl) ⟨rfl, _, rfl, h⟩
              · have h := h.2 c
                refine K_aload_n 0 (kdA dt_MX4_clause 54 rfl) rfl rfl ?_
                refine K_bipush (kdA dt_MX4_clause 55 rfl) (by decide +kernel) ?_
                refine K_cVi (c := 4) (as := [(0, 63)]) (st := []) (kdA dt_MX4_clause 56 rfl) rfl cl_MX4_takes lk4_42 rfl rfl (Nat.le_of_ble_eq_true rfl) c1 (Ci.mono h (fun x13 s9 h => ?_))
                refine K_if_ne (tgt := 120) (kdA dt_MX4_clause 57 rfl) rfl (fun c => ?_) (fun c => ?_)
                · have h := h.1 c
                  refine K_aload_n 0 (kdA dt_MX4_clause 60 rfl) rfl rfl ?_
                  refine gf4_12 rfl (kdA dt_MX4_clause 61 rfl) c1 ?_
                  obtain ⟨c14, h⟩ := h
                  refine gf4_31 rfl (kdA dt_MX4_clause 62 rfl) c14 ?_
                  refine K_istore_n (ls' := [(0, (2, a0)), (1, (0, 1)), (2, (0, (s9 (s9 a0 0) 2)))]) (kdA dt_MX4_clause 63 rfl) rfl (by decide) rfl ?_
                  refine K_aload_n 0 (kdA dt_MX4_clause 64 rfl) rfl rfl ?_
                  refine gf4_12 rfl (kdA dt_MX4_clause 65 rfl) c1 ?_
                  refine K_sipush (kdA dt_MX4_clause 66 rfl) (by decide +kernel) ?_
                  refine K_cVv (c := 3) (as := [(0, 30000)]) (st := []) (kdA dt_MX4_clause 67 rfl) rfl cl_MX3_add lk4_56 rfl rfl (Nat.le_of_ble_eq_true rfl) c14 (Cv.mono h (fun s10 h => ?_))
                  refine K_aload_n 0 (kdA dt_MX4_clause 68 rfl) rfl rfl ?_
                  refine K_iconst (kdA dt_MX4_clause 69 rfl) (by decide) ?_
                  refine K_cVi (c := 4) (as := [(0, 0)]) (st := []) (kdA dt_MX4_clause 70 rfl) rfl cl_MX4_sum lk4_49 rfl rfl (Nat.le_of_ble_eq_true rfl) c1 (Ci.mono h (fun x16 s11 h => ?_))
                  refine K_if_ne (tgt := 148) (kdA dt_MX4_clause 71 rfl) rfl (fun c => ?_) (fun c => ?_)
                  · have h := h.1 c
                    refine K_aload_n 0 (kdA dt_MX4_clause 74 rfl) rfl rfl ?_
                    refine gf4_12 rfl (kdA dt_MX4_clause 75 rfl) c1 ?_
                    refine K_ldc (x := 40000) (kdA dt_MX4_clause 76 rfl) (tb2 238 rfl rfl) (by decide +kernel) ?_
                    obtain ⟨c17, h⟩ := h
                    refine K_cVv (c := 3) (as := [(0, 40000)]) (st := []) (kdA dt_MX4_clause 77 rfl) rfl cl_MX3_add lk4_56 rfl rfl (Nat.le_of_ble_eq_true rfl) c17 (Cv.mono h (fun s12 h => ?_))
                    refine K_aload_n 0 (kdA dt_MX4_clause 78 rfl) rfl rfl ?_
                    refine gf4_12 rfl (kdA dt_MX4_clause 79 rfl) c1 ?_
                    refine K_iload_n 2 (kdA dt_MX4_clause 80 rfl) rfl rfl ?_
                    obtain ⟨c19, h⟩ := h
                    refine K_cVv (c := 3) (as := [(0, (s9 (s9 a0 0) 2))]) (st := []) (kdA dt_MX4_clause 81 rfl) rfl cl_MX3_leadOn lk4_63 rfl rfl (Nat.le_of_ble_eq_true rfl) c19 (Cv.mono h (fun s13 h => ?_))
                    refine K_iconst (kdA dt_MX4_clause 82 rfl) (by decide) ?_
                    exact K_zreturn (kdA dt_MX4_clause 83 rfl) rfl (Or.inr rfl) ⟨rfl, _, rfl, h⟩
                  · have h := h.2 c
                    refine K_iconst (kdA dt_MX4_clause 72 rfl) (by decide) ?_
                    exact K_zreturn (kdA dt_MX4_clause 73 rfl) rfl (Or.inl rfl) ⟨rfl, _, rfl, h⟩
                · have h := h.2 c
                  refine K_iconst (kdA dt_MX4_clause 58 rfl) (by decide) ?_
                  exact K_zreturn (kdA dt_MX4_clause 59 rfl) rfl (Or.inl rfl) ⟨rfl, _, rfl, h⟩
            · have h := h.2 c
              refine K_aload_n 0 (kdA dt_MX4_clause 43 rfl) rfl rfl ?_
              refine gf4_12 rfl (kdA dt_MX4_clause 44 rfl) c1 ?_
              refine K_ldc (x := 40000) (kdA dt_MX4_clause 45 rfl) (tb2 238 rfl rfl) (by decide +kernel) ?_
              obtain ⟨c12, h⟩ := h
              refine K_cVv (c := 3) (as := [(0, 40000)]) (st := []) (kdA dt_MX4_clause 46 rfl) rfl cl_MX3_add lk4_56 rfl rfl (Nat.le_of_ble_eq_true rfl) c12 (Cv.mono h (fun s8 h => ?_))
              refine K_iconst (kdA dt_MX4_clause 47 rfl) (by decide) ?_
              exact K_zreturn (kdA dt_MX4_clause 48 rfl) rfl (Or.inr rfl) ⟨rfl, _, rfl, h⟩
          · have h := h.2 c
            refine K_iconst (kdA dt_MX4_clause 34 rfl) (by decide) ?_
            exact K_zreturn (kdA dt_MX4_clause 35 rfl) rfl (Or.inl rfl) ⟨rfl, _, rfl, h⟩
    · have h := h.2 c
      refine K_iconst (kdA dt_MX4_clause 8 rfl) (by decide) ?_
      exact K_zreturn (kdA dt_MX4_clause 9 rfl) rfl (Or.inl rfl) ⟨rfl, _, rfl, h⟩
theorem EX4_clause {d n : Nat} {Q : Int → kS → Prop} {a0 : Int} {σ : kS} (h : kokw n σ → LX4_clause_0 d n Q a0 σ) : Ci (d + 1) MX4_clause [(2, a0)] n σ Q := Tri_of (by decide +kernel) (Nat.le_of_ble_eq_true rfl) (fun hk hw => h hw)

def LX4_condition_0 (d n : Nat) (Q : Int → kS → Prop) (a0 : Int) (a1 : Int) (a2 : Int) (σ : kS) : Prop := K (d + 1) MX4_condition (kPi n Q) (0, 0) 0 [(0, (2, a0)), (1, (0, a1)), (2, (0, a2))] [] n σ
def LX4_condition_13 (d n : Nat) (Q : Int → kS → Prop) (a0 : Int) (a1 : Int) (a3 : Int) (σ : kS) : Prop := K (d + 1) MX4_condition (kPi n Q) (0, 0) 13 [(0, (2, a0)), (1, (0, a1)), (3, (0, a3))] [] n σ
theorem SX4_condition_0 {d n : Nat} {Q : Int → kS → Prop} {a0 a1 a2 : Int} {σ : kS} (h : isO 4 n a0 ∧ (Ci d MX4_truth [(2, a0), (0, a1), (0, a2)] n σ (fun x2 s1 => (¬ x2 = 0 → LX4_condition_13 d n Q a0 a1 0 s1) ∧ (¬ (¬ x2 = 0) → Q 0 s1)))) : LX4_condition_0 d n Q a0 a1 a2 σ := by
  unfold LX4_condition_0
  refine K_aload_n 0 (kdA dt_MX4_condition 0 rfl) rfl rfl ?_
  refine K_iload_n 1 (kdA dt_MX4_condition 1 rfl) rfl rfl ?_
  refine K_iload_n 2 (kdA dt_MX4_condition 2 rfl) rfl rfl ?_
  obtain ⟨c1, h⟩ := h
  refine K_cVi (c := 4) (as := [(0, a1), (0, a2)]) (st := []) (kdA dt_MX4_condition 3 rfl) rfl cl_MX4_truth lk4_66 rfl rfl (Nat.le_of_ble_eq_true rfl) c1 (Ci.mono h (fun x2 s1 h => ?_))
  refine K_if_ne (tgt := 11) (kdA dt_MX4_condition 4 rfl) rfl (fun c => ?_) (fun c => ?_)
  · have h := h.1 c
    refine K_iconst (kdA dt_MX4_condition 7 rfl) (by decide) ?_
    refine K_istore_n (ls' := [(0, (2, a0)), (1, (0, a1)), (2, (0, a2)), (3, (0, 0))]) (kdA dt_MX4_condition 8 rfl) rfl (by decide) rfl ?_
    refine K_pick [0, 1, 3] (ls' := [(0, (2, a0)), (1, (0, a1)), (3, (0, 0))]) rfl ?_
    exact h
  · have h := h.2 c
    refine K_iconst (kdA dt_MX4_condition 5 rfl) (by decide) ?_
    exact K_zreturn (kdA dt_MX4_condition 6 rfl) rfl (Or.inl rfl) ⟨rfl, _, rfl, h⟩
theorem SX4_condition_13 {d n : Nat} {Q : Int → kS → Prop} {a0 a1 a3 : Int} {σ : kS} (h : (120 ≤ a3 → Q 1 σ) ∧ (¬ 120 ≤ a3 → isO 4 n a0 ∧ (Ci d MX4_takes [(2, a0), (0, 124)] n σ (fun x2 s1 => (x2 = 0 → Q 1 s1) ∧ (¬ x2 = 0 → Ci d MX4_truth [(2, a0), (0, a1), (0, 0)] n s1 (fun x3 s2 => (¬ x3 = 0 → isO 3 n (s2 a0 0) ∧ (Cv d MX3_add [(2, (s2 a0 0)), (0, 20124)] n s2 (fun s3 => (-2147483648 ≤ (a3 + 1) ∧ (a3 + 1) ≤ 2147483647) ∧ (LX4_condition_13 d n Q a0 a1 (a3 + 1) s3)))) ∧ (¬ (¬ x3 = 0) → Q 0 s2))))))) : LX4_condition_13 d n Q a0 a1 a3 σ := by
  unfold LX4_condition_13
  refine K_iload_n 2 (kdA dt_MX4_condition 9 rfl) rfl rfl ?_
  refine K_bipush (kdA dt_MX4_condition 10 rfl) (by decide +kernel) ?_
  refine K_icmp_ge (tgt := 55) (kdA dt_MX4_condition 11 rfl) rfl (fun c => ?_) (fun c => ?_)
  · have h := h.1 c
    refine K_iconst (kdA dt_MX4_condition 29 rfl) (by decide) ?_
    exact K_zreturn (kdA dt_MX4_condition 30 rfl) rfl (Or.inr rfl) ⟨rfl, _, rfl, h⟩
  · have h := h.2 c
    refine K_aload_n 0 (kdA dt_MX4_condition 12 rfl) rfl rfl ?_
    refine K_bipush (kdA dt_MX4_condition 13 rfl) (by decide +kernel) ?_
    obtain ⟨c1, h⟩ := h
    refine K_cVi (c := 4) (as := [(0, 124)]) (st := []) (kdA dt_MX4_condition 14 rfl) rfl cl_MX4_takes lk4_42 rfl rfl (Nat.le_of_ble_eq_true rfl) c1 (Ci.mono h (fun x2 s1 h => ?_))
    refine K_if_eq (tgt := 55) (kdA dt_MX4_condition 15 rfl) rfl (fun c => ?_) (fun c => ?_)
    · have h := h.1 c
      refine K_iconst (kdA dt_MX4_condition 29 rfl) (by decide) ?_
      exact K_zreturn (kdA dt_MX4_condition 30 rfl) rfl (Or.inr rfl) ⟨rfl, _, rfl, h⟩
    · have h := h.2 c
      refine K_aload_n 0 (kdA dt_MX4_condition 16 rfl) rfl rfl ?_
      refine K_iload_n 1 (kdA dt_MX4_condition 17 rfl) rfl rfl ?_
      refine K_iconst (kdA dt_MX4_condition 18 rfl) (by decide) ?_
      refine K_cVi (c := 4) (as := [(0, a1), (0, 0)]) (st := []) (kdA dt_MX4_condition 19 rfl) rfl cl_MX4_truth lk4_66 rfl rfl (Nat.le_of_ble_eq_true rfl) c1 (Ci.mono h (fun x3 s2 h => ?_))
      refine K_if_ne (tgt := 39) (kdA dt_MX4_condition 20 rfl) rfl (fun c => ?_) (fun c => ?_)
      · have h := h.1 c
        refine K_aload_n 0 (kdA dt_MX4_condition 23 rfl) rfl rfl ?_
        refine gf4_12 rfl (kdA dt_MX4_condition 24 rfl) c1 ?_
        refine K_sipush (kdA dt_MX4_condition 25 rfl) (by decide +kernel) ?_
        obtain ⟨c4, h⟩ := h
        refine K_cVv (c := 3) (as := [(0, 20124)]) (st := []) (kdA dt_MX4_condition 26 rfl) rfl cl_MX3_add lk4_56 rfl rfl (Nat.le_of_ble_eq_true rfl) c4 (Cv.mono h (fun s3 h => ?_))
        obtain ⟨c6, h⟩ := h
        refine K_iinc (ls' := [(0, (2, a0)), (1, (0, a1)), (3, (0, (a3 + 1)))]) 2 (kdA dt_MX4_condition 27 rfl) rfl c6 (by decide) rfl ?_
        refine K_goto (tgt := 13) (kdA dt_MX4_condition 28 rfl) rfl ?_
        exact h
      · have h := h.2 c
        refine K_iconst (kdA dt_MX4_condition 21 rfl) (by decide) ?_
        exact K_zreturn (kdA dt_MX4_condition 22 rfl) rfl (Or.inl rfl) ⟨rfl, _, rfl, h⟩
theorem EX4_condition {d n : Nat} {Q : Int → kS → Prop} {a0 a1 a2 : Int} {σ : kS} (h : (-2147483648 ≤ a1 ∧ a1 ≤ 2147483647) → (-2147483648 ≤ a2 ∧ a2 ≤ 2147483647) → kokw n σ → LX4_condition_0 d n Q a0 a1 a2 σ) : Ci (d + 1) MX4_condition [(2, a0), (0, a1), (0, a2)] n σ Q := Tri_of (by decide +kernel) (Nat.le_of_ble_eq_true rfl) (fun hk hw => h (hk (0, a1) (List.mem_of_getElem? (i := 1) rfl)) (hk (0, a2) (List.mem_of_getElem? (i := 2) rfl)) hw)

def LX4_isComparison_0 (d n : Nat) (Q : Int → kS → Prop) (a0 : Int) (σ : kS) : Prop := K (d + 1) MX4_isComparison (kPi n Q) (0, 0) 0 [(0, (0, a0))] [] n σ
theorem SX4_isComparison_0 {d n : Nat} {Q : Int → kS → Prop} {a0 : Int} {σ : kS} (h : (a0 = 61 → Q 1 σ) ∧ (¬ a0 = 61 → (a0 = 60 → Q 1 σ) ∧ (¬ a0 = 60 → (¬ a0 = 62 → Q 0 σ) ∧ (¬ (¬ a0 = 62) → Q 1 σ)))) : LX4_isComparison_0 d n Q a0 σ := by
  unfold LX4_isComparison_0
  refine K_iload_n 0 (kdA dt_MX4_isComparison 0 rfl) rfl rfl ?_
  refine K_bipush (kdA dt_MX4_isComparison 1 rfl) (by decide +kernel) ?_
  refine K_icmp_eq (tgt := 18) (kdA dt_MX4_isComparison 2 rfl) rfl (fun c => ?_) (fun c => ?_)
  · have h := h.1 c
    refine K_iconst (kdA dt_MX4_isComparison 9 rfl) (by decide) ?_
    refine K_goto (tgt := 23) (kdA dt_MX4_isComparison 10 rfl) rfl ?_
    exact K_zreturn (kdA dt_MX4_isComparison 12 rfl) rfl (Or.inr rfl) ⟨rfl, _, rfl, h⟩
  · have h := h.2 c
    refine K_iload_n 0 (kdA dt_MX4_isComparison 3 rfl) rfl rfl ?_
    refine K_bipush (kdA dt_MX4_isComparison 4 rfl) (by decide +kernel) ?_
    refine K_icmp_eq (tgt := 18) (kdA dt_MX4_isComparison 5 rfl) rfl (fun c => ?_) (fun c => ?_)
    · have h := h.1 c
      refine K_iconst (kdA dt_MX4_isComparison 9 rfl) (by decide) ?_
      refine K_goto (tgt := 23) (kdA dt_MX4_isComparison 10 rfl) rfl ?_
      exact K_zreturn (kdA dt_MX4_isComparison 12 rfl) rfl (Or.inr rfl) ⟨rfl, _, rfl, h⟩
    · have h := h.2 c
      refine K_iload_n 0 (kdA dt_MX4_isComparison 6 rfl) rfl rfl ?_
      refine K_bipush (kdA dt_MX4_isComparison 7 rfl) (by decide +kernel) ?_
      refine K_icmp_ne (tgt := 22) (kdA dt_MX4_isComparison 8 rfl) rfl (fun c => ?_) (fun c => ?_)
      · have h := h.1 c
        refine K_iconst (kdA dt_MX4_isComparison 11 rfl) (by decide) ?_
        exact K_zreturn (kdA dt_MX4_isComparison 12 rfl) rfl (Or.inl rfl) ⟨rfl, _, rfl, h⟩
      · have h := h.2 c
        refine K_iconst (kdA dt_MX4_isComparison 9 rfl) (by decide) ?_
        refine K_goto (tgt := 23) (kdA dt_MX4_isComparison 10 rfl) rfl ?_
        exact K_zreturn (kdA dt_MX4_isComparison 12 rfl) rfl (Or.inr rfl) ⟨rfl, _, rfl, h⟩
theorem EX4_isComparison {d n : Nat} {Q : Int → kS → Prop} {a0 : Int} {σ : kS} (h : (-2147483648 ≤ a0 ∧ a0 ≤ 2147483647) → kokw n σ → LX4_isComparison_0 d n Q a0 σ) : Ci (d + 1) MX4_isComparison [(0, a0)] n σ Q := Tri_of (by decide +kernel) (Nat.le_of_ble_eq_true rfl) (fun hk hw => h (hk (0, a0) (List.mem_of_getElem? (i := 0) rfl)) hw)

def LX4_letterNumber_0 (d n : Nat) (Q : Int → kS → Prop) (a0 : Int) (σ : kS) : Prop := K (d + 1) MX4_letterNumber (kPi n Q) (0, 0) 0 [(0, (0, a0))] [] n σ
theorem SX4_letterNumber_0 {d n : Nat} {Q : Int → kS → Prop} {a0 : Int} {σ : kS} (h : (a0 < 100 ∨ 119 < a0 → Q (-1) σ) ∧ (a0 = 100 → Q 1 σ) ∧ (a0 = 101 → Q (-1) σ) ∧ (a0 = 102 → Q 3 σ) ∧ (a0 = 103 → Q 6 σ) ∧ (a0 = 104 → Q (-1) σ) ∧ (a0 = 105 → Q (-1) σ) ∧ (a0 = 106 → Q (-1) σ) ∧ (a0 = 107 → Q (-1) σ) ∧ (a0 = 108 → Q (-1) σ) ∧ (a0 = 109 → Q 4 σ) ∧ (a0 = 110 → Q (-1) σ) ∧ (a0 = 111 → Q (-1) σ) ∧ (a0 = 112 → Q (-1) σ) ∧ (a0 = 113 → Q (-1) σ) ∧ (a0 = 114 → Q (-1) σ) ∧ (a0 = 115 → Q 5 σ) ∧ (a0 = 116 → Q 7 σ) ∧ (a0 = 117 → Q 0 σ) ∧ (a0 = 118 → Q (-1) σ) ∧ (a0 = 119 → Q 2 σ)) : LX4_letterNumber_0 d n Q a0 σ := by
  unfold LX4_letterNumber_0
  refine K_iload_n 0 (kdA dt_MX4_letterNumber 0 rfl) rfl rfl ?_
  by_cases hx : a0 < 100 ∨ 119 < a0
  · refine K_sw0 (tgt := 114) (kdA dt_MX4_letterNumber 1 rfl) hx rfl ?_
    have h := h.1 hx
    refine K_iconst (kdA dt_MX4_letterNumber 18 rfl) (by decide) ?_
    exact K_ireturn (kdA dt_MX4_letterNumber 19 rfl) rfl ⟨rfl, _, rfl, h⟩
  have h := h.2
  have l100 : (100 : Int) ≤ a0 := Int.not_lt.mp (fun q => hx (Or.inl q))
  by_cases e100 : a0 = 100
  · refine K_sw1 (tgt := 98) (kdA dt_MX4_letterNumber 1 rfl) e100 (by decide) rfl rfl ?_
    have h := h.1 e100
    refine K_iconst (kdA dt_MX4_letterNumber 4 rfl) (by decide) ?_
    exact K_ireturn (kdA dt_MX4_letterNumber 5 rfl) rfl ⟨rfl, _, rfl, h⟩
  have h := h.2
  have l101 := k_sn l100 e100 (show (100 : Int) + 1 = 101 by decide)
  by_cases e101 : a0 = 101
  · refine K_sw1 (tgt := 114) (kdA dt_MX4_letterNumber 1 rfl) e101 (by decide) rfl rfl ?_
    have h := h.1 e101
    refine K_iconst (kdA dt_MX4_letterNumber 18 rfl) (by decide) ?_
    exact K_ireturn (kdA dt_MX4_letterNumber 19 rfl) rfl ⟨rfl, _, rfl, h⟩
  have h := h.2
  have l102 := k_sn l101 e101 (show (101 : Int) + 1 = 102 by decide)
  by_cases e102 : a0 = 102
  · refine K_sw1 (tgt := 102) (kdA dt_MX4_letterNumber 1 rfl) e102 (by decide) rfl rfl ?_
    have h := h.1 e102
    refine K_iconst (kdA dt_MX4_letterNumber 8 rfl) (by decide) ?_
    exact K_ireturn (kdA dt_MX4_letterNumber 9 rfl) rfl ⟨rfl, _, rfl, h⟩
  have h := h.2
  have l103 := k_sn l102 e102 (show (102 : Int) + 1 = 103 by decide)
  by_cases e103 : a0 = 103
  · refine K_sw1 (tgt := 108) (kdA dt_MX4_letterNumber 1 rfl) e103 (by decide) rfl rfl ?_
    have h := h.1 e103
    refine K_bipush (kdA dt_MX4_letterNumber 14 rfl) (by decide +kernel) ?_
    exact K_ireturn (kdA dt_MX4_letterNumber 15 rfl) rfl ⟨rfl, _, rfl, h⟩
  have h := h.2
  have l104 := k_sn l103 e103 (show (103 : Int) + 1 = 104 by decide)
  by_cases e104 : a0 = 104
  · refine K_sw1 (tgt := 114) (kdA dt_MX4_letterNumber 1 rfl) e104 (by decide) rfl rfl ?_
    have h := h.1 e104
    refine K_iconst (kdA dt_MX4_letterNumber 18 rfl) (by decide) ?_
    exact K_ireturn (kdA dt_MX4_letterNumber 19 rfl) rfl ⟨rfl, _, rfl, h⟩
  have h := h.2
  have l105 := k_sn l104 e104 (show (104 : Int) + 1 = 105 by decide)
  by_cases e105 : a0 = 105
  · refine K_sw1 (tgt := 114) (kdA dt_MX4_letterNumber 1 rfl) e105 (by decide) rfl rfl ?_
    have h := h.1 e105
    refine K_iconst (kdA dt_MX4_letterNumber 18 rfl) (by decide) ?_
    exact K_ireturn (kdA dt_MX4_letterNumber 19 rfl) rfl ⟨rfl, _, rfl, h⟩
  have h := h.2
  have l106 := k_sn l105 e105 (show (105 : Int) + 1 = 106 by decide)
  by_cases e106 : a0 = 106
  · refine K_sw1 (tgt := 114) (kdA dt_MX4_letterNumber 1 rfl) e106 (by decide) rfl rfl ?_
    have h := h.1 e106
    refine K_iconst (kdA dt_MX4_letterNumber 18 rfl) (by decide) ?_
    exact K_ireturn (kdA dt_MX4_letterNumber 19 rfl) rfl ⟨rfl, _, rfl, h⟩
  have h := h.2
  have l107 := k_sn l106 e106 (show (106 : Int) + 1 = 107 by decide)
  by_cases e107 : a0 = 107
  · refine K_sw1 (tgt := 114) (kdA dt_MX4_letterNumber 1 rfl) e107 (by decide) rfl rfl ?_
    have h := h.1 e107
    refine K_iconst (kdA dt_MX4_letterNumber 18 rfl) (by decide) ?_
    exact K_ireturn (kdA dt_MX4_letterNumber 19 rfl) rfl ⟨rfl, _, rfl, h⟩
  have h := h.2
  have l108 := k_sn l107 e107 (show (107 : Int) + 1 = 108 by decide)
  by_cases e108 : a0 = 108
  · refine K_sw1 (tgt := 114) (kdA dt_MX4_letterNumber 1 rfl) e108 (by decide) rfl rfl ?_
    have h := h.1 e108
    refine K_iconst (kdA dt_MX4_letterNumber 18 rfl) (by decide) ?_
    exact K_ireturn (kdA dt_MX4_letterNumber 19 rfl) rfl ⟨rfl, _, rfl, h⟩
  have h := h.2
  have l109 := k_sn l108 e108 (show (108 : Int) + 1 = 109 by decide)
  by_cases e109 : a0 = 109
  · refine K_sw1 (tgt := 104) (kdA dt_MX4_letterNumber 1 rfl) e109 (by decide) rfl rfl ?_
    have h := h.1 e109
    refine K_iconst (kdA dt_MX4_letterNumber 10 rfl) (by decide) ?_
    exact K_ireturn (kdA dt_MX4_letterNumber 11 rfl) rfl ⟨rfl, _, rfl, h⟩
  have h := h.2
  have l110 := k_sn l109 e109 (show (109 : Int) + 1 = 110 by decide)
  by_cases e110 : a0 = 110
  · refine K_sw1 (tgt := 114) (kdA dt_MX4_letterNumber 1 rfl) e110 (by decide) rfl rfl ?_
    have h := h.1 e110
    refine K_iconst (kdA dt_MX4_letterNumber 18 rfl) (by decide) ?_
    exact K_ireturn (kdA dt_MX4_letterNumber 19 rfl) rfl ⟨rfl, _, rfl, h⟩
  have h := h.2
  have l111 := k_sn l110 e110 (show (110 : Int) + 1 = 111 by decide)
  by_cases e111 : a0 = 111
  · refine K_sw1 (tgt := 114) (kdA dt_MX4_letterNumber 1 rfl) e111 (by decide) rfl rfl ?_
    have h := h.1 e111
    refine K_iconst (kdA dt_MX4_letterNumber 18 rfl) (by decide) ?_
    exact K_ireturn (kdA dt_MX4_letterNumber 19 rfl) rfl ⟨rfl, _, rfl, h⟩
  have h := h.2
  have l112 := k_sn l111 e111 (show (111 : Int) + 1 = 112 by decide)
  by_cases e112 : a0 = 112
  · refine K_sw1 (tgt := 114) (kdA dt_MX4_letterNumber 1 rfl) e112 (by decide) rfl rfl ?_
    have h := h.1 e112
    refine K_iconst (kdA dt_MX4_letterNumber 18 rfl) (by decide) ?_
    exact K_ireturn (kdA dt_MX4_letterNumber 19 rfl) rfl ⟨rfl, _, rfl, h⟩
  have h := h.2
  have l113 := k_sn l112 e112 (show (112 : Int) + 1 = 113 by decide)
  by_cases e113 : a0 = 113
  · refine K_sw1 (tgt := 114) (kdA dt_MX4_letterNumber 1 rfl) e113 (by decide) rfl rfl ?_
    have h := h.1 e113
    refine K_iconst (kdA dt_MX4_letterNumber 18 rfl) (by decide) ?_
    exact K_ireturn (kdA dt_MX4_letterNumber 19 rfl) rfl ⟨rfl, _, rfl, h⟩
  have h := h.2
  have l114 := k_sn l113 e113 (show (113 : Int) + 1 = 114 by decide)
  by_cases e114 : a0 = 114
  · refine K_sw1 (tgt := 114) (kdA dt_MX4_letterNumber 1 rfl) e114 (by decide) rfl rfl ?_
    have h := h.1 e114
    refine K_iconst (kdA dt_MX4_letterNumber 18 rfl) (by decide) ?_
    exact K_ireturn (kdA dt_MX4_letterNumber 19 rfl) rfl ⟨rfl, _, rfl, h⟩
  have h := h.2
  have l115 := k_sn l114 e114 (show (114 : Int) + 1 = 115 by decide)
  by_cases e115 : a0 = 115
  · refine K_sw1 (tgt := 106) (kdA dt_MX4_letterNumber 1 rfl) e115 (by decide) rfl rfl ?_
    have h := h.1 e115
    refine K_iconst (kdA dt_MX4_letterNumber 12 rfl) (by decide) ?_
    exact K_ireturn (kdA dt_MX4_letterNumber 13 rfl) rfl ⟨rfl, _, rfl, h⟩
  have h := h.2
  have l116 := k_sn l115 e115 (show (115 : Int) + 1 = 116 by decide)
  by_cases e116 : a0 = 116
  · refine K_sw1 (tgt := 111) (kdA dt_MX4_letterNumber 1 rfl) e116 (by decide) rfl rfl ?_
    have h := h.1 e116
    refine K_bipush (kdA dt_MX4_letterNumber 16 rfl) (by decide +kernel) ?_
    exact K_ireturn (kdA dt_MX4_letterNumber 17 rfl) rfl ⟨rfl, _, rfl, h⟩
  have h := h.2
  have l117 := k_sn l116 e116 (show (116 : Int) + 1 = 117 by decide)
  by_cases e117 : a0 = 117
  · refine K_sw1 (tgt := 96) (kdA dt_MX4_letterNumber 1 rfl) e117 (by decide) rfl rfl ?_
    have h := h.1 e117
    refine K_iconst (kdA dt_MX4_letterNumber 2 rfl) (by decide) ?_
    exact K_ireturn (kdA dt_MX4_letterNumber 3 rfl) rfl ⟨rfl, _, rfl, h⟩
  have h := h.2
  have l118 := k_sn l117 e117 (show (117 : Int) + 1 = 118 by decide)
  by_cases e118 : a0 = 118
  · refine K_sw1 (tgt := 114) (kdA dt_MX4_letterNumber 1 rfl) e118 (by decide) rfl rfl ?_
    have h := h.1 e118
    refine K_iconst (kdA dt_MX4_letterNumber 18 rfl) (by decide) ?_
    exact K_ireturn (kdA dt_MX4_letterNumber 19 rfl) rfl ⟨rfl, _, rfl, h⟩
  have h := h.2
  have l119 := k_sn l118 e118 (show (118 : Int) + 1 = 119 by decide)
  by_cases e119 : a0 = 119
  · refine K_sw1 (tgt := 100) (kdA dt_MX4_letterNumber 1 rfl) e119 (by decide) rfl rfl ?_
    have h := h e119
    refine K_iconst (kdA dt_MX4_letterNumber 6 rfl) (by decide) ?_
    exact K_ireturn (kdA dt_MX4_letterNumber 7 rfl) rfl ⟨rfl, _, rfl, h⟩
  have l120 := k_sn l119 e119 (show (119 : Int) + 1 = 120 by decide)
  exact absurd (Or.inr (Int.lt_of_lt_of_le (show (119 : Int) < 120 by decide) l120)) hx
theorem EX4_letterNumber {d n : Nat} {Q : Int → kS → Prop} {a0 : Int} {σ : kS} (h : (-2147483648 ≤ a0 ∧ a0 ≤ 2147483647) → kokw n σ → LX4_letterNumber_0 d n Q a0 σ) : Ci (d + 1) MX4_letterNumber [(0, a0)] n σ Q := Tri_of (by decide +kernel) (Nat.le_of_ble_eq_true rfl) (fun hk hw => h (hk (0, a0) (List.mem_of_getElem? (i := 0) rfl)) hw)

def LX4_number_0 (d n : Nat) (Q : Int → kS → Prop) (a0 : Int) (σ : kS) : Prop := K (d + 1) MX4_number (kPi n Q) (0, 0) 0 [(0, (2, a0))] [] n σ
def LX4_number_4 (d n : Nat) (Q : Int → kS → Prop) (a0 : Int) (a1 : Int) (a2 : Int) (σ : kS) : Prop := K (d + 1) MX4_number (kPi n Q) (0, 0) 4 [(0, (2, a0)), (1, (0, a1)), (2, (0, a2))] [] n σ
theorem SX4_number_0 {d n : Nat} {Q : Int → kS → Prop} {a0 : Int} {σ : kS} (h : LX4_number_4 d n Q a0 0 0 σ) : LX4_number_0 d n Q a0 σ := by
  unfold LX4_number_0
  refine K_iconst (kdA dt_MX4_number 0 rfl) (by decide) ?_
  refine K_istore_n (ls' := [(0, (2, a0)), (1, (0, 0))]) (kdA dt_MX4_number 1 rfl) rfl (by decide) rfl ?_
  refine K_iconst (kdA dt_MX4_number 2 rfl) (by decide) ?_
  refine K_istore_n (ls' := [(0, (2, a0)), (1, (0, 0)), (2, (0, 0))]) (kdA dt_MX4_number 3 rfl) rfl (by decide) rfl ?_
  exact h
theorem SX4_number_4 {d n : Nat} {Q : Int → kS → Prop} {a0 a1 a2 : Int} {σ : kS} (h : (4 ≤ a2 → Q a1 σ) ∧ (¬ 4 ≤ a2 → isO 4 n a0 ∧ (isO 8 n (σ a0 1) ∧ (Ci d MX8_at [(2, (σ a0 1)), (0, (σ a0 2))] n σ (fun x3 s1 => (x3 < 48 → Q a1 s1) ∧ (¬ x3 < 48 → (x3 ≤ 57 → (-2147483648 ≤ (a1 * 10) ∧ (a1 * 10) ≤ 2147483647) ∧ ((-2147483648 ≤ ((a1 * 10) + x3) ∧ ((a1 * 10) + x3) ≤ 2147483647) ∧ ((-2147483648 ≤ (((a1 * 10) + x3) - 48) ∧ (((a1 * 10) + x3) - 48) ≤ 2147483647) ∧ ((-2147483648 ≤ ((s1 a0 2) + 1) ∧ ((s1 a0 2) + 1) ≤ 2147483647) ∧ (∀ s2, s2 = kst s1 a0 2 ((s1 a0 2) + 1) → (-2147483648 ≤ (a2 + 1) ∧ (a2 + 1) ≤ 2147483647) ∧ (LX4_number_4 d n Q a0 (((a1 * 10) + x3) - 48) (a2 + 1) s2)))))) ∧ (¬ x3 ≤ 57 → Q a1 s1))))))) : LX4_number_4 d n Q a0 a1 a2 σ := by
  unfold LX4_number_4
  refine K_iload_n 2 (kdA dt_MX4_number 4 rfl) rfl rfl ?_
  refine K_iconst (kdA dt_MX4_number 5 rfl) (by decide) ?_
  refine K_icmp_ge (tgt := 62) (kdA dt_MX4_number 6 rfl) rfl (fun c => ?_) (fun c => ?_)
  · have h := h.1 c
    refine K_iload_n 1 (kdA dt_MX4_number 36 rfl) rfl rfl ?_
    exact K_ireturn (kdA dt_MX4_number 37 rfl) rfl ⟨rfl, _, rfl, h⟩
  · have h := h.2 c
    refine K_aload_n 0 (kdA dt_MX4_number 7 rfl) rfl rfl ?_
    obtain ⟨c1, h⟩ := h
    refine gf4_23 rfl (kdA dt_MX4_number 8 rfl) c1 ?_
    refine K_aload_n 0 (kdA dt_MX4_number 9 rfl) rfl rfl ?_
    refine gf4_27 rfl (kdA dt_MX4_number 10 rfl) c1 ?_
    obtain ⟨c2, h⟩ := h
    refine K_cVi (c := 8) (as := [(0, (σ a0 2))]) (st := []) (kdA dt_MX4_number 11 rfl) rfl cl_MX8_at lk4_46 rfl rfl (Nat.le_of_ble_eq_true rfl) c2 (Ci.mono h (fun x3 s1 h => ?_))
    refine K_istore_n (ls' := [(0, (2, a0)), (1, (0, a1)), (2, (0, a2)), (3, (0, x3))]) (kdA dt_MX4_number 12 rfl) rfl (by decide) rfl ?_
    refine K_iload_n 3 (kdA dt_MX4_number 13 rfl) rfl rfl ?_
    refine K_bipush (kdA dt_MX4_number 14 rfl) (by decide +kernel) ?_
    refine K_icmp_lt (tgt := 62) (kdA dt_MX4_number 15 rfl) rfl (fun c => ?_) (fun c => ?_)
    · have h := h.1 c
      refine K_iload_n 1 (kdA dt_MX4_number 36 rfl) rfl rfl ?_
      exact K_ireturn (kdA dt_MX4_number 37 rfl) rfl ⟨rfl, _, rfl, h⟩
    · have h := h.2 c
      refine K_iload_n 3 (kdA dt_MX4_number 16 rfl) rfl rfl ?_
      refine K_bipush (kdA dt_MX4_number 17 rfl) (by decide +kernel) ?_
      refine K_icmp_le (tgt := 36) (kdA dt_MX4_number 18 rfl) rfl (fun c => ?_) (fun c => ?_)
      · have h := h.1 c
        refine K_iload_n 1 (kdA dt_MX4_number 20 rfl) rfl rfl ?_
        refine K_bipush (kdA dt_MX4_number 21 rfl) (by decide +kernel) ?_
        obtain ⟨c4, h⟩ := h
        refine K_imul (kdA dt_MX4_number 22 rfl) c4 ?_
        refine K_iload_n 3 (kdA dt_MX4_number 23 rfl) rfl rfl ?_
        obtain ⟨c5, h⟩ := h
        refine K_iadd (kdA dt_MX4_number 24 rfl) c5 ?_
        refine K_bipush (kdA dt_MX4_number 25 rfl) (by decide +kernel) ?_
        obtain ⟨c6, h⟩ := h
        refine K_isub (kdA dt_MX4_number 26 rfl) c6 ?_
        refine K_istore_n (ls' := [(0, (2, a0)), (1, (0, (((a1 * 10) + x3) - 48))), (2, (0, a2)), (3, (0, x3))]) (kdA dt_MX4_number 27 rfl) rfl (by decide) rfl ?_
        refine K_aload_n 0 (kdA dt_MX4_number 28 rfl) rfl rfl ?_
        refine K_dup (kdA dt_MX4_number 29 rfl) rfl ?_
        refine gf4_27 rfl (kdA dt_MX4_number 30 rfl) c1 ?_
        refine K_iconst (kdA dt_MX4_number 31 rfl) (by decide) ?_
        obtain ⟨c7, h⟩ := h
        refine K_iadd (kdA dt_MX4_number 32 rfl) c7 ?_
        refine pf4_27 rfl (kdA dt_MX4_number 33 rfl) c1 (fun s2 es2 => ?_)
        have h := h s2 es2
        obtain ⟨c8, h⟩ := h
        refine K_iinc (ls' := [(0, (2, a0)), (1, (0, (((a1 * 10) + x3) - 48))), (2, (0, (a2 + 1))), (3, (0, x3))]) 2 (kdA dt_MX4_number 34 rfl) rfl c8 (by decide) rfl ?_
        refine K_goto (tgt := 4) (kdA dt_MX4_number 35 rfl) rfl ?_
        refine K_pick [0, 1, 2] (ls' := [(0, (2, a0)), (1, (0, (((a1 * 10) + x3) - 48))), (2, (0, (a2 + 1)))]) rfl ?_
        exact h
      · have h := h.2 c
        refine K_goto (tgt := 62) (kdA dt_MX4_number 19 rfl) rfl ?_
        refine K_iload_n 1 (kdA dt_MX4_number 36 rfl) rfl rfl ?_
        exact K_ireturn (kdA dt_MX4_number 37 rfl) rfl ⟨rfl, _, rfl, h⟩
theorem EX4_number {d n : Nat} {Q : Int → kS → Prop} {a0 : Int} {σ : kS} (h : kokw n σ → LX4_number_0 d n Q a0 σ) : Ci (d + 1) MX4_number [(2, a0)] n σ Q := Tri_of (by decide +kernel) (Nat.le_of_ble_eq_true rfl) (fun hk hw => h hw)

def LX4_reads_0 (d n : Nat) (Q : Int → kS → Prop) (a0 : Int) (a1 : Int) (σ : kS) : Prop := K (d + 1) MX4_reads (kPi n Q) (0, 0) 0 [(0, (2, a0)), (1, (2, a1))] [] n σ
def LX4_reads_24 (d n : Nat) (Q : Int → kS → Prop) (a0 : Int) (a2 : Int) (σ : kS) : Prop := K (d + 1) MX4_reads (kPi n Q) (0, 0) 24 [(0, (2, a0)), (2, (0, a2))] [] n σ
theorem SX4_reads_0 {d n : Nat} {Q : Int → kS → Prop} {a0 a1 : Int} {σ : kS} (h : isO 4 n a0 ∧ (∀ s1, s1 = kst σ a0 1 a1 → ∀ s2, s2 = kst s1 a0 2 0 → isO 3 n (s2 a0 0) ∧ (∀ s3, s3 = kst s2 (s2 a0 0) 2 0 → Cv d MX4_skipBlanks [(2, a0)] n s3 (fun s4 => LX4_reads_24 d n Q a0 0 s4)))) : LX4_reads_0 d n Q a0 a1 σ := by
  unfold LX4_reads_0
  refine K_aload_n 0 (kdA dt_MX4_reads 0 rfl) rfl rfl ?_
  refine K_aload_n 1 (kdA dt_MX4_reads 1 rfl) rfl rfl ?_
  obtain ⟨c1, h⟩ := h
  refine pf4_23 rfl (kdA dt_MX4_reads 2 rfl) c1 (fun s1 es1 => ?_)
  have h := h s1 es1
  refine K_aload_n 0 (kdA dt_MX4_reads 3 rfl) rfl rfl ?_
  refine K_iconst (kdA dt_MX4_reads 4 rfl) (by decide) ?_
  refine pf4_27 rfl (kdA dt_MX4_reads 5 rfl) c1 (fun s2 es2 => ?_)
  have h := h s2 es2
  refine K_aload_n 0 (kdA dt_MX4_reads 6 rfl) rfl rfl ?_
  refine gf4_12 rfl (kdA dt_MX4_reads 7 rfl) c1 ?_
  refine K_iconst (kdA dt_MX4_reads 8 rfl) (by decide) ?_
  obtain ⟨c2, h⟩ := h
  refine pf4_31 rfl (kdA dt_MX4_reads 9 rfl) c2 (fun s3 es3 => ?_)
  have h := h s3 es3
  refine K_aload_n 0 (kdA dt_MX4_reads 10 rfl) rfl rfl ?_
  refine K_cVv (c := 4) (as := []) (st := []) (kdA dt_MX4_reads 11 rfl) rfl cl_MX4_skipBlanks lk4_34 rfl rfl (Nat.le_of_ble_eq_true rfl) c1 (Cv.mono h (fun s4 h => ?_))
  refine K_iconst (kdA dt_MX4_reads 12 rfl) (by decide) ?_
  refine K_istore_n (ls' := [(0, (2, a0)), (1, (2, a1)), (2, (0, 0))]) (kdA dt_MX4_reads 13 rfl) rfl (by decide) rfl ?_
  refine K_pick [0, 2] (ls' := [(0, (2, a0)), (2, (0, 0))]) rfl ?_
  exact h
theorem SX4_reads_24 {d n : Nat} {Q : Int → kS → Prop} {a0 a2 : Int} {σ : kS} (h : (120 ≤ a2 → Q 0 σ) ∧ (¬ 120 ≤ a2 → isO 4 n a0 ∧ (Ci d MX4_clause [(2, a0)] n σ (fun x2 s1 => (¬ x2 = 0 → isO 8 n (s1 a0 1) ∧ (((s1 a0 2) < (s1 (s1 a0 1) 1) → Ci d MX4_takes [(2, a0), (0, 59)] n s1 (fun x4 s2 => (¬ x4 = 0 → (-2147483648 ≤ (a2 + 1) ∧ (a2 + 1) ≤ 2147483647) ∧ (LX4_reads_24 d n Q a0 (a2 + 1) s2)) ∧ (¬ (¬ x4 = 0) → Q 0 s2))) ∧ (¬ (s1 a0 2) < (s1 (s1 a0 1) 1) → Q 1 s1))) ∧ (¬ (¬ x2 = 0) → Q 0 s1))))) : LX4_reads_24 d n Q a0 a2 σ := by
  unfold LX4_reads_24
  refine K_iload_n 1 (kdA dt_MX4_reads 14 rfl) rfl rfl ?_
  refine K_bipush (kdA dt_MX4_reads 15 rfl) (by decide +kernel) ?_
  refine K_icmp_ge (tgt := 72) (kdA dt_MX4_reads 16 rfl) rfl (fun c => ?_) (fun c => ?_)
  · have h := h.1 c
    refine K_iconst (kdA dt_MX4_reads 38 rfl) (by decide) ?_
    exact K_zreturn (kdA dt_MX4_reads 39 rfl) rfl (Or.inl rfl) ⟨rfl, _, rfl, h⟩
  · have h := h.2 c
    refine K_aload_n 0 (kdA dt_MX4_reads 17 rfl) rfl rfl ?_
    obtain ⟨c1, h⟩ := h
    refine K_cVi (c := 4) (as := []) (st := []) (kdA dt_MX4_reads 18 rfl) rfl cl_MX4_clause lk4_37 rfl rfl (Nat.le_of_ble_eq_true rfl) c1 (Ci.mono h (fun x2 s1 h => ?_))
    refine K_if_ne (tgt := 39) (kdA dt_MX4_reads 19 rfl) rfl (fun c => ?_) (fun c => ?_)
    · have h := h.1 c
      refine K_aload_n 0 (kdA dt_MX4_reads 22 rfl) rfl rfl ?_
      refine gf4_27 rfl (kdA dt_MX4_reads 23 rfl) c1 ?_
      refine K_aload_n 0 (kdA dt_MX4_reads 24 rfl) rfl rfl ?_
      refine gf4_23 rfl (kdA dt_MX4_reads 25 rfl) c1 ?_
      obtain ⟨c3, h⟩ := h
      refine gf4_41 rfl (kdA dt_MX4_reads 26 rfl) c3 ?_
      refine K_icmp_lt (tgt := 55) (kdA dt_MX4_reads 27 rfl) rfl (fun c => ?_) (fun c => ?_)
      · have h := h.1 c
        refine K_aload_n 0 (kdA dt_MX4_reads 30 rfl) rfl rfl ?_
        refine K_bipush (kdA dt_MX4_reads 31 rfl) (by decide +kernel) ?_
        refine K_cVi (c := 4) (as := [(0, 59)]) (st := []) (kdA dt_MX4_reads 32 rfl) rfl cl_MX4_takes lk4_42 rfl rfl (Nat.le_of_ble_eq_true rfl) c1 (Ci.mono h (fun x4 s2 h => ?_))
        refine K_if_ne (tgt := 66) (kdA dt_MX4_reads 33 rfl) rfl (fun c => ?_) (fun c => ?_)
        · have h := h.1 c
          obtain ⟨c5, h⟩ := h
          refine K_iinc (ls' := [(0, (2, a0)), (2, (0, (a2 + 1)))]) 1 (kdA dt_MX4_reads 36 rfl) rfl c5 (by decide) rfl ?_
          refine K_goto (tgt := 24) (kdA dt_MX4_reads 37 rfl) rfl ?_
          exact h
        · have h := h.2 c
          refine K_iconst (kdA dt_MX4_reads 34 rfl) (by decide) ?_
          exact K_zreturn (kdA dt_MX4_reads 35 rfl) rfl (Or.inl rfl) ⟨rfl, _, rfl, h⟩
      · have h := h.2 c
        refine K_iconst (kdA dt_MX4_reads 28 rfl) (by decide) ?_
        exact K_zreturn (kdA dt_MX4_reads 29 rfl) rfl (Or.inr rfl) ⟨rfl, _, rfl, h⟩
    · have h := h.2 c
      refine K_iconst (kdA dt_MX4_reads 20 rfl) (by decide) ?_
      exact K_zreturn (kdA dt_MX4_reads 21 rfl) rfl (Or.inl rfl) ⟨rfl, _, rfl, h⟩
theorem EX4_reads {d n : Nat} {Q : Int → kS → Prop} {a0 a1 : Int} {σ : kS} (h : kokw n σ → LX4_reads_0 d n Q a0 a1 σ) : Ci (d + 1) MX4_reads [(2, a0), (2, a1)] n σ Q := Tri_of (by decide +kernel) (Nat.le_of_ble_eq_true rfl) (fun hk hw => h hw)

def LX4_skipBlanks_0 (d n : Nat) (Q : kS → Prop) (a0 : Int) (σ : kS) : Prop := K (d + 1) MX4_skipBlanks (kPv n Q) (0, 0) 0 [(0, (2, a0))] [] n σ
theorem SX4_skipBlanks_0 {d n : Nat} {Q : kS → Prop} {a0 : Int} {σ : kS} (h : isO 4 n a0 ∧ (isO 8 n (σ a0 1) ∧ (((σ (σ a0 1) 1) ≤ (σ a0 2) → Q σ) ∧ (¬ (σ (σ a0 1) 1) ≤ (σ a0 2) → isA 20 n (σ (σ a0 1) 0) ∧ (((0 : Int) ≤ (σ a0 2) ∧ (σ a0 2) < klen (σ (σ a0 1) 0)) ∧ ((¬ (σ (σ (σ a0 1) 0) (σ a0 2)) = 32 → Q σ) ∧ (¬ (¬ (σ (σ (σ a0 1) 0) (σ a0 2)) = 32) → (-2147483648 ≤ ((σ a0 2) + 1) ∧ ((σ a0 2) + 1) ≤ 2147483647) ∧ (∀ s1, s1 = kst σ a0 2 ((σ a0 2) + 1) → LX4_skipBlanks_0 d n Q a0 s1)))))))) : LX4_skipBlanks_0 d n Q a0 σ := by
  unfold LX4_skipBlanks_0
  refine K_aload_n 0 (kdA dt_MX4_skipBlanks 0 rfl) rfl rfl ?_
  obtain ⟨c1, h⟩ := h
  refine gf4_27 rfl (kdA dt_MX4_skipBlanks 1 rfl) c1 ?_
  refine K_aload_n 0 (kdA dt_MX4_skipBlanks 2 rfl) rfl rfl ?_
  refine gf4_23 rfl (kdA dt_MX4_skipBlanks 3 rfl) c1 ?_
  obtain ⟨c2, h⟩ := h
  refine gf4_41 rfl (kdA dt_MX4_skipBlanks 4 rfl) c2 ?_
  refine K_icmp_ge (tgt := 44) (kdA dt_MX4_skipBlanks 5 rfl) rfl (fun c => ?_) (fun c => ?_)
  · have h := h.1 c
    exact K_return (kdA dt_MX4_skipBlanks 21 rfl) rfl ⟨rfl, rfl, h⟩
  · have h := h.2 c
    refine K_aload_n 0 (kdA dt_MX4_skipBlanks 6 rfl) rfl rfl ?_
    refine gf4_23 rfl (kdA dt_MX4_skipBlanks 7 rfl) c1 ?_
    refine gf4_85 rfl (kdA dt_MX4_skipBlanks 8 rfl) c2 ?_
    refine K_aload_n 0 (kdA dt_MX4_skipBlanks 9 rfl) rfl rfl ?_
    refine gf4_27 rfl (kdA dt_MX4_skipBlanks 10 rfl) c1 ?_
    obtain ⟨c3, h⟩ := h
    obtain ⟨c4, h⟩ := h
    refine K_iaload (kdA dt_MX4_skipBlanks 11 rfl) c3 c4.1 c4.2 ?_
    refine K_bipush (kdA dt_MX4_skipBlanks 12 rfl) (by decide +kernel) ?_
    refine K_icmp_ne (tgt := 44) (kdA dt_MX4_skipBlanks 13 rfl) rfl (fun c => ?_) (fun c => ?_)
    · have h := h.1 c
      exact K_return (kdA dt_MX4_skipBlanks 21 rfl) rfl ⟨rfl, rfl, h⟩
    · have h := h.2 c
      refine K_aload_n 0 (kdA dt_MX4_skipBlanks 14 rfl) rfl rfl ?_
      refine K_dup (kdA dt_MX4_skipBlanks 15 rfl) rfl ?_
      refine gf4_27 rfl (kdA dt_MX4_skipBlanks 16 rfl) c1 ?_
      refine K_iconst (kdA dt_MX4_skipBlanks 17 rfl) (by decide) ?_
      obtain ⟨c5, h⟩ := h
      refine K_iadd (kdA dt_MX4_skipBlanks 18 rfl) c5 ?_
      refine pf4_27 rfl (kdA dt_MX4_skipBlanks 19 rfl) c1 (fun s1 es1 => ?_)
      have h := h s1 es1
      refine K_goto (tgt := 0) (kdA dt_MX4_skipBlanks 20 rfl) rfl ?_
      exact h
theorem EX4_skipBlanks {d n : Nat} {Q : kS → Prop} {a0 : Int} {σ : kS} (h : kokw n σ → LX4_skipBlanks_0 d n Q a0 σ) : Cv (d + 1) MX4_skipBlanks [(2, a0)] n σ Q := Tri_of (by decide +kernel) (Nat.le_of_ble_eq_true rfl) (fun hk hw => h hw)

def LX4_sum_0 (d n : Nat) (Q : Int → kS → Prop) (a0 : Int) (a1 : Int) (σ : kS) : Prop := K (d + 1) MX4_sum (kPi n Q) (0, 0) 0 [(0, (2, a0)), (1, (0, a1))] [] n σ
def LX4_sum_12 (d n : Nat) (Q : Int → kS → Prop) (a0 : Int) (a1 : Int) (a2 : Int) (σ : kS) : Prop := K (d + 1) MX4_sum (kPi n Q) (0, 0) 12 [(0, (2, a0)), (1, (0, a1)), (2, (0, a2))] [] n σ
theorem SX4_sum_0 {d n : Nat} {Q : Int → kS → Prop} {a0 a1 : Int} {σ : kS} (h : isO 4 n a0 ∧ (Ci d MX4_term [(2, a0), (0, a1)] n σ (fun x2 s1 => (¬ x2 = 0 → LX4_sum_12 d n Q a0 a1 0 s1) ∧ (¬ (¬ x2 = 0) → Q 0 s1)))) : LX4_sum_0 d n Q a0 a1 σ := by
  unfold LX4_sum_0
  refine K_aload_n 0 (kdA dt_MX4_sum 0 rfl) rfl rfl ?_
  refine K_iload_n 1 (kdA dt_MX4_sum 1 rfl) rfl rfl ?_
  obtain ⟨c1, h⟩ := h
  refine K_cVi (c := 4) (as := [(0, a1)]) (st := []) (kdA dt_MX4_sum 2 rfl) rfl cl_MX4_term lk4_72 rfl rfl (Nat.le_of_ble_eq_true rfl) c1 (Ci.mono h (fun x2 s1 h => ?_))
  refine K_if_ne (tgt := 10) (kdA dt_MX4_sum 3 rfl) rfl (fun c => ?_) (fun c => ?_)
  · have h := h.1 c
    refine K_iconst (kdA dt_MX4_sum 6 rfl) (by decide) ?_
    refine K_istore_n (ls' := [(0, (2, a0)), (1, (0, a1)), (2, (0, 0))]) (kdA dt_MX4_sum 7 rfl) rfl (by decide) rfl ?_
    exact h
  · have h := h.2 c
    refine K_iconst (kdA dt_MX4_sum 4 rfl) (by decide) ?_
    exact K_zreturn (kdA dt_MX4_sum 5 rfl) rfl (Or.inl rfl) ⟨rfl, _, rfl, h⟩
theorem SX4_sum_12 {d n : Nat} {Q : Int → kS → Prop} {a0 a1 a2 : Int} {σ : kS} (h : (120 ≤ a2 → Q 1 σ) ∧ (¬ 120 ≤ a2 → isO 4 n a0 ∧ (isO 8 n (σ a0 1) ∧ (Ci d MX8_at [(2, (σ a0 1)), (0, (σ a0 2))] n σ (fun x3 s1 => (x3 = 43 → Ci d MX4_takes [(2, a0), (0, x3)] n s1 (fun x4 s2 => (x4 = 0 → Q 0 s2) ∧ (¬ x4 = 0 → Ci d MX4_term [(2, a0), (0, a1)] n s2 (fun x5 s3 => (¬ x5 = 0 → (-2147483648 ≤ (20000 + x3) ∧ (20000 + x3) ≤ 2147483647) ∧ (isO 3 n (s3 a0 0) ∧ (Cv d MX3_add [(2, (s3 a0 0)), (0, (20000 + x3))] n s3 (fun s4 => (-2147483648 ≤ (a2 + 1) ∧ (a2 + 1) ≤ 2147483647) ∧ (LX4_sum_12 d n Q a0 a1 (a2 + 1) s4))))) ∧ (¬ (¬ x5 = 0) → Q 0 s3))))) ∧ (¬ x3 = 43 → (x3 = 45 → Ci d MX4_takes [(2, a0), (0, x3)] n s1 (fun x4 s2 => (x4 = 0 → Q 0 s2) ∧ (¬ x4 = 0 → Ci d MX4_term [(2, a0), (0, a1)] n s2 (fun x5 s3 => (¬ x5 = 0 → (-2147483648 ≤ (20000 + x3) ∧ (20000 + x3) ≤ 2147483647) ∧ (isO 3 n (s3 a0 0) ∧ (Cv d MX3_add [(2, (s3 a0 0)), (0, (20000 + x3))] n s3 (fun s4 => (-2147483648 ≤ (a2 + 1) ∧ (a2 + 1) ≤ 2147483647) ∧ (LX4_sum_12 d n Q a0 a1 (a2 + 1) s4))))) ∧ (¬ (¬ x5 = 0) → Q 0 s3))))) ∧ (¬ x3 = 45 → Q 1 s1))))))) : LX4_sum_12 d n Q a0 a1 a2 σ := by
  unfold LX4_sum_12
  refine K_iload_n 2 (kdA dt_MX4_sum 8 rfl) rfl rfl ?_
  refine K_bipush (kdA dt_MX4_sum 9 rfl) (by decide +kernel) ?_
  refine K_icmp_ge (tgt := 80) (kdA dt_MX4_sum 10 rfl) rfl (fun c => ?_) (fun c => ?_)
  · have h := h.1 c
    refine K_iconst (kdA dt_MX4_sum 43 rfl) (by decide) ?_
    exact K_zreturn (kdA dt_MX4_sum 44 rfl) rfl (Or.inr rfl) ⟨rfl, _, rfl, h⟩
  · have h := h.2 c
    refine K_aload_n 0 (kdA dt_MX4_sum 11 rfl) rfl rfl ?_
    obtain ⟨c1, h⟩ := h
    refine gf4_23 rfl (kdA dt_MX4_sum 12 rfl) c1 ?_
    refine K_aload_n 0 (kdA dt_MX4_sum 13 rfl) rfl rfl ?_
    refine gf4_27 rfl (kdA dt_MX4_sum 14 rfl) c1 ?_
    obtain ⟨c2, h⟩ := h
    refine K_cVi (c := 8) (as := [(0, (σ a0 2))]) (st := []) (kdA dt_MX4_sum 15 rfl) rfl cl_MX8_at lk4_46 rfl rfl (Nat.le_of_ble_eq_true rfl) c2 (Ci.mono h (fun x3 s1 h => ?_))
    refine K_istore_n (ls' := [(0, (2, a0)), (1, (0, a1)), (2, (0, a2)), (3, (0, x3))]) (kdA dt_MX4_sum 16 rfl) rfl (by decide) rfl ?_
    refine K_iload_n 3 (kdA dt_MX4_sum 17 rfl) rfl rfl ?_
    refine K_bipush (kdA dt_MX4_sum 18 rfl) (by decide +kernel) ?_
    refine K_icmp_eq (tgt := 44) (kdA dt_MX4_sum 19 rfl) rfl (fun c => ?_) (fun c => ?_)
    · have h := h.1 c
      refine K_aload_n 0 (kdA dt_MX4_sum 25 rfl) rfl rfl ?_
      refine K_iload_n 3 (kdA dt_MX4_sum 26 rfl) rfl rfl ?_
      refine K_cVi (c := 4) (as := [(0, x3)]) (st := []) (kdA dt_MX4_sum 27 rfl) rfl cl_MX4_takes lk4_42 rfl rfl (Nat.le_of_ble_eq_true rfl) c1 (Ci.mono h (fun x4 s2 h => ?_))
      refine K_if_eq (tgt := 60) (kdA dt_MX4_sum 28 rfl) rfl (fun c => ?_) (fun c => ?_)
      · have h := h.1 c
        refine K_iconst (kdA dt_MX4_sum 33 rfl) (by decide) ?_
        exact K_zreturn (kdA dt_MX4_sum 34 rfl) rfl (Or.inl rfl) ⟨rfl, _, rfl, h⟩
      · have h := h.2 c
        refine K_aload_n 0 (kdA dt_MX4_sum 29 rfl) rfl rfl ?_
        refine K_iload_n 1 (kdA dt_MX4_sum 30 rfl) rfl rfl ?_
        refine K_cVi (c := 4) (as := [(0, a1)]) (st := []) (kdA dt_MX4_sum 31 rfl) rfl cl_MX4_term lk4_72 rfl rfl (Nat.le_of_ble_eq_true rfl) c1 (Ci.mono h (fun x5 s3 h => ?_))
        refine K_if_ne (tgt := 62) (kdA dt_MX4_sum 32 rfl) rfl (fun c => ?_) (fun c => ?_)
        · have h := h.1 c
          refine K_aload_n 0 (kdA dt_MX4_sum 35 rfl) rfl rfl ?_
          refine gf4_12 rfl (kdA dt_MX4_sum 36 rfl) c1 ?_
          refine K_sipush (kdA dt_MX4_sum 37 rfl) (by decide +kernel) ?_
          refine K_iload_n 3 (kdA dt_MX4_sum 38 rfl) rfl rfl ?_
          obtain ⟨c6, h⟩ := h
          refine K_iadd (kdA dt_MX4_sum 39 rfl) c6 ?_
          obtain ⟨c7, h⟩ := h
          refine K_cVv (c := 3) (as := [(0, (20000 + x3))]) (st := []) (kdA dt_MX4_sum 40 rfl) rfl cl_MX3_add lk4_56 rfl rfl (Nat.le_of_ble_eq_true rfl) c7 (Cv.mono h (fun s4 h => ?_))
          obtain ⟨c9, h⟩ := h
          refine K_iinc (ls' := [(0, (2, a0)), (1, (0, a1)), (2, (0, (a2 + 1))), (3, (0, x3))]) 2 (kdA dt_MX4_sum 41 rfl) rfl c9 (by decide) rfl ?_
          refine K_goto (tgt := 12) (kdA dt_MX4_sum 42 rfl) rfl ?_
          refine K_pick [0, 1, 2] (ls' := [(0, (2, a0)), (1, (0, a1)), (2, (0, (a2 + 1)))]) rfl ?_
          exact h
        · have h := h.2 c
          refine K_iconst (kdA dt_MX4_sum 33 rfl) (by decide) ?_
          exact K_zreturn (kdA dt_MX4_sum 34 rfl) rfl (Or.inl rfl) ⟨rfl, _, rfl, h⟩
    · have h := h.2 c
      refine K_iload_n 3 (kdA dt_MX4_sum 20 rfl) rfl rfl ?_
      refine K_bipush (kdA dt_MX4_sum 21 rfl) (by decide +kernel) ?_
      refine K_icmp_eq (tgt := 44) (kdA dt_MX4_sum 22 rfl) rfl (fun c => ?_) (fun c => ?_)
      · have h := h.1 c
        refine K_aload_n 0 (kdA dt_MX4_sum 25 rfl) rfl rfl ?_
        refine K_iload_n 3 (kdA dt_MX4_sum 26 rfl) rfl rfl ?_
        refine K_cVi (c := 4) (as := [(0, x3)]) (st := []) (kdA dt_MX4_sum 27 rfl) rfl cl_MX4_takes lk4_42 rfl rfl (Nat.le_of_ble_eq_true rfl) c1 (Ci.mono h (fun x4 s2 h => ?_))
        refine K_if_eq (tgt := 60) (kdA dt_MX4_sum 28 rfl) rfl (fun c => ?_) (fun c => ?_)
        · have h := h.1 c
          refine K_iconst (kdA dt_MX4_sum 33 rfl) (by decide) ?_
          exact K_zreturn (kdA dt_MX4_sum 34 rfl) rfl (Or.inl rfl) ⟨rfl, _, rfl, h⟩
        · have h := h.2 c
          refine K_aload_n 0 (kdA dt_MX4_sum 29 rfl) rfl rfl ?_
          refine K_iload_n 1 (kdA dt_MX4_sum 30 rfl) rfl rfl ?_
          refine K_cVi (c := 4) (as := [(0, a1)]) (st := []) (kdA dt_MX4_sum 31 rfl) rfl cl_MX4_term lk4_72 rfl rfl (Nat.le_of_ble_eq_true rfl) c1 (Ci.mono h (fun x5 s3 h => ?_))
          refine K_if_ne (tgt := 62) (kdA dt_MX4_sum 32 rfl) rfl (fun c => ?_) (fun c => ?_)
          · have h := h.1 c
            refine K_aload_n 0 (kdA dt_MX4_sum 35 rfl) rfl rfl ?_
            refine gf4_12 rfl (kdA dt_MX4_sum 36 rfl) c1 ?_
            refine K_sipush (kdA dt_MX4_sum 37 rfl) (by decide +kernel) ?_
            refine K_iload_n 3 (kdA dt_MX4_sum 38 rfl) rfl rfl ?_
            obtain ⟨c6, h⟩ := h
            refine K_iadd (kdA dt_MX4_sum 39 rfl) c6 ?_
            obtain ⟨c7, h⟩ := h
            refine K_cVv (c := 3) (as := [(0, (20000 + x3))]) (st := []) (kdA dt_MX4_sum 40 rfl) rfl cl_MX3_add lk4_56 rfl rfl (Nat.le_of_ble_eq_true rfl) c7 (Cv.mono h (fun s4 h => ?_))
            obtain ⟨c9, h⟩ := h
            refine K_iinc (ls' := [(0, (2, a0)), (1, (0, a1)), (2, (0, (a2 + 1))), (3, (0, x3))]) 2 (kdA dt_MX4_sum 41 rfl) rfl c9 (by decide) rfl ?_
            refine K_goto (tgt := 12) (kdA dt_MX4_sum 42 rfl) rfl ?_
            refine K_pick [0, 1, 2] (ls' := [(0, (2, a0)), (1, (0, a1)), (2, (0, (a2 + 1)))]) rfl ?_
            exact h
          · have h := h.2 c
            refine K_iconst (kdA dt_MX4_sum 33 rfl) (by decide) ?_
            exact K_zreturn (kdA dt_MX4_sum 34 rfl) rfl (Or.inl rfl) ⟨rfl, _, rfl, h⟩
      · have h := h.2 c
        refine K_iconst (kdA dt_MX4_sum 23 rfl) (by decide) ?_
        exact K_zreturn (kdA dt_MX4_sum 24 rfl) rfl (Or.inr rfl) ⟨rfl, _, rfl, h⟩
theorem EX4_sum {d n : Nat} {Q : Int → kS → Prop} {a0 a1 : Int} {σ : kS} (h : (-2147483648 ≤ a1 ∧ a1 ≤ 2147483647) → kokw n σ → LX4_sum_0 d n Q a0 a1 σ) : Ci (d + 1) MX4_sum [(2, a0), (0, a1)] n σ Q := Tri_of (by decide +kernel) (Nat.le_of_ble_eq_true rfl) (fun hk hw => h (hk (0, a1) (List.mem_of_getElem? (i := 1) rfl)) hw)

def LX4_takes_0 (d n : Nat) (Q : Int → kS → Prop) (a0 : Int) (a1 : Int) (σ : kS) : Prop := K (d + 1) MX4_takes (kPi n Q) (0, 0) 0 [(0, (2, a0)), (1, (0, a1))] [] n σ
theorem SX4_takes_0 {d n : Nat} {Q : Int → kS → Prop} {a0 a1 : Int} {σ : kS} (h : isO 4 n a0 ∧ (isO 8 n (σ a0 1) ∧ (Ci d MX8_at [(2, (σ a0 1)), (0, (σ a0 2))] n σ (fun x3 s1 => (x3 = a1 → (-2147483648 ≤ ((s1 a0 2) + 1) ∧ ((s1 a0 2) + 1) ≤ 2147483647) ∧ (∀ s2, s2 = kst s1 a0 2 ((s1 a0 2) + 1) → Cv d MX4_skipBlanks [(2, a0)] n s2 (fun s3 => Q 1 s3))) ∧ (¬ x3 = a1 → Q 0 s1))))) : LX4_takes_0 d n Q a0 a1 σ := by
  unfold LX4_takes_0
  refine K_aload_n 0 (kdA dt_MX4_takes 0 rfl) rfl rfl ?_
  obtain ⟨c1, h⟩ := h
  refine gf4_23 rfl (kdA dt_MX4_takes 1 rfl) c1 ?_
  refine K_aload_n 0 (kdA dt_MX4_takes 2 rfl) rfl rfl ?_
  refine gf4_27 rfl (kdA dt_MX4_takes 3 rfl) c1 ?_
  obtain ⟨c2, h⟩ := h
  refine K_cVi (c := 8) (as := [(0, (σ a0 2))]) (st := []) (kdA dt_MX4_takes 4 rfl) rfl cl_MX8_at lk4_46 rfl rfl (Nat.le_of_ble_eq_true rfl) c2 (Ci.mono h (fun x3 s1 h => ?_))
  refine K_iload_n 1 (kdA dt_MX4_takes 5 rfl) rfl rfl ?_
  refine K_icmp_eq (tgt := 17) (kdA dt_MX4_takes 6 rfl) rfl (fun c => ?_) (fun c => ?_)
  · have h := h.1 c
    refine K_aload_n 0 (kdA dt_MX4_takes 9 rfl) rfl rfl ?_
    refine K_dup (kdA dt_MX4_takes 10 rfl) rfl ?_
    refine gf4_27 rfl (kdA dt_MX4_takes 11 rfl) c1 ?_
    refine K_iconst (kdA dt_MX4_takes 12 rfl) (by decide) ?_
    obtain ⟨c4, h⟩ := h
    refine K_iadd (kdA dt_MX4_takes 13 rfl) c4 ?_
    refine pf4_27 rfl (kdA dt_MX4_takes 14 rfl) c1 (fun s2 es2 => ?_)
    have h := h s2 es2
    refine K_aload_n 0 (kdA dt_MX4_takes 15 rfl) rfl rfl ?_
    refine K_cVv (c := 4) (as := []) (st := []) (kdA dt_MX4_takes 16 rfl) rfl cl_MX4_skipBlanks lk4_34 rfl rfl (Nat.le_of_ble_eq_true rfl) c1 (Cv.mono h (fun s3 h => ?_))
    refine K_iconst (kdA dt_MX4_takes 17 rfl) (by decide) ?_
    exact K_zreturn (kdA dt_MX4_takes 18 rfl) rfl (Or.inr rfl) ⟨rfl, _, rfl, h⟩
  · have h := h.2 c
    refine K_iconst (kdA dt_MX4_takes 7 rfl) (by decide) ?_
    exact K_zreturn (kdA dt_MX4_takes 8 rfl) rfl (Or.inl rfl) ⟨rfl, _, rfl, h⟩
theorem EX4_takes {d n : Nat} {Q : Int → kS → Prop} {a0 a1 : Int} {σ : kS} (h : (-2147483648 ≤ a1 ∧ a1 ≤ 2147483647) → kokw n σ → LX4_takes_0 d n Q a0 a1 σ) : Ci (d + 1) MX4_takes [(2, a0), (0, a1)] n σ Q := Tri_of (by decide +kernel) (Nat.le_of_ble_eq_true rfl) (fun hk hw => h (hk (0, a1) (List.mem_of_getElem? (i := 1) rfl)) hw)

def LX4_term_0 (d n : Nat) (Q : Int → kS → Prop) (a0 : Int) (a1 : Int) (σ : kS) : Prop := K (d + 1) MX4_term (kPi n Q) (0, 0) 0 [(0, (2, a0)), (1, (0, a1))] [] n σ
def LX4_term_12 (d n : Nat) (Q : Int → kS → Prop) (a0 : Int) (a1 : Int) (a2 : Int) (σ : kS) : Prop := K (d + 1) MX4_term (kPi n Q) (0, 0) 12 [(0, (2, a0)), (1, (0, a1)), (2, (0, a2))] [] n σ
theorem SX4_term_0 {d n : Nat} {Q : Int → kS → Prop} {a0 a1 : Int} {σ : kS} (h : isO 4 n a0 ∧ (Ci d MX4_atom [(2, a0), (0, a1)] n σ (fun x2 s1 => (¬ x2 = 0 → LX4_term_12 d n Q a0 a1 0 s1) ∧ (¬ (¬ x2 = 0) → Q 0 s1)))) : LX4_term_0 d n Q a0 a1 σ := by
  unfold LX4_term_0
  refine K_aload_n 0 (kdA dt_MX4_term 0 rfl) rfl rfl ?_
  refine K_iload_n 1 (kdA dt_MX4_term 1 rfl) rfl rfl ?_
  obtain ⟨c1, h⟩ := h
  refine K_cVi (c := 4) (as := [(0, a1)]) (st := []) (kdA dt_MX4_term 2 rfl) rfl cl_MX4_atom lk4_75 rfl rfl (Nat.le_of_ble_eq_true rfl) c1 (Ci.mono h (fun x2 s1 h => ?_))
  refine K_if_ne (tgt := 10) (kdA dt_MX4_term 3 rfl) rfl (fun c => ?_) (fun c => ?_)
  · have h := h.1 c
    refine K_iconst (kdA dt_MX4_term 6 rfl) (by decide) ?_
    refine K_istore_n (ls' := [(0, (2, a0)), (1, (0, a1)), (2, (0, 0))]) (kdA dt_MX4_term 7 rfl) rfl (by decide) rfl ?_
    exact h
  · have h := h.2 c
    refine K_iconst (kdA dt_MX4_term 4 rfl) (by decide) ?_
    exact K_zreturn (kdA dt_MX4_term 5 rfl) rfl (Or.inl rfl) ⟨rfl, _, rfl, h⟩
theorem SX4_term_12 {d n : Nat} {Q : Int → kS → Prop} {a0 a1 a2 : Int} {σ : kS} (h : (120 ≤ a2 → Q 1 σ) ∧ (¬ 120 ≤ a2 → isO 4 n a0 ∧ (isO 8 n (σ a0 1) ∧ (Ci d MX8_at [(2, (σ a0 1)), (0, (σ a0 2))] n σ (fun x3 s1 => (x3 = 42 → Ci d MX4_takes [(2, a0), (0, x3)] n s1 (fun x4 s2 => (x4 = 0 → Q 0 s2) ∧ (¬ x4 = 0 → Ci d MX4_atom [(2, a0), (0, a1)] n s2 (fun x5 s3 => (¬ x5 = 0 → (-2147483648 ≤ (20000 + x3) ∧ (20000 + x3) ≤ 2147483647) ∧ (isO 3 n (s3 a0 0) ∧ (Cv d MX3_add [(2, (s3 a0 0)), (0, (20000 + x3))] n s3 (fun s4 => (-2147483648 ≤ (a2 + 1) ∧ (a2 + 1) ≤ 2147483647) ∧ (LX4_term_12 d n Q a0 a1 (a2 + 1) s4))))) ∧ (¬ (¬ x5 = 0) → Q 0 s3))))) ∧ (¬ x3 = 42 → (x3 = 47 → Ci d MX4_takes [(2, a0), (0, x3)] n s1 (fun x4 s2 => (x4 = 0 → Q 0 s2) ∧ (¬ x4 = 0 → Ci d MX4_atom [(2, a0), (0, a1)] n s2 (fun x5 s3 => (¬ x5 = 0 → (-2147483648 ≤ (20000 + x3) ∧ (20000 + x3) ≤ 2147483647) ∧ (isO 3 n (s3 a0 0) ∧ (Cv d MX3_add [(2, (s3 a0 0)), (0, (20000 + x3))] n s3 (fun s4 => (-2147483648 ≤ (a2 + 1) ∧ (a2 + 1) ≤ 2147483647) ∧ (LX4_term_12 d n Q a0 a1 (a2 + 1) s4))))) ∧ (¬ (¬ x5 = 0) → Q 0 s3))))) ∧ (¬ x3 = 47 → Q 1 s1))))))) : LX4_term_12 d n Q a0 a1 a2 σ := by
  unfold LX4_term_12
  refine K_iload_n 2 (kdA dt_MX4_term 8 rfl) rfl rfl ?_
  refine K_bipush (kdA dt_MX4_term 9 rfl) (by decide +kernel) ?_
  refine K_icmp_ge (tgt := 80) (kdA dt_MX4_term 10 rfl) rfl (fun c => ?_) (fun c => ?_)
  · have h := h.1 c
    refine K_iconst (kdA dt_MX4_term 43 rfl) (by decide) ?_
    exact K_zreturn (kdA dt_MX4_term 44 rfl) rfl (Or.inr rfl) ⟨rfl, _, rfl, h⟩
  · have h := h.2 c
    refine K_aload_n 0 (kdA dt_MX4_term 11 rfl) rfl rfl ?_
    obtain ⟨c1, h⟩ := h
    refine gf4_23 rfl (kdA dt_MX4_term 12 rfl) c1 ?_
    refine K_aload_n 0 (kdA dt_MX4_term 13 rfl) rfl rfl ?_
    refine gf4_27 rfl (kdA dt_MX4_term 14 rfl) c1 ?_
    obtain ⟨c2, h⟩ := h
    refine K_cVi (c := 8) (as := [(0, (σ a0 2))]) (st := []) (kdA dt_MX4_term 15 rfl) rfl cl_MX8_at lk4_46 rfl rfl (Nat.le_of_ble_eq_true rfl) c2 (Ci.mono h (fun x3 s1 h => ?_))
    refine K_istore_n (ls' := [(0, (2, a0)), (1, (0, a1)), (2, (0, a2)), (3, (0, x3))]) (kdA dt_MX4_term 16 rfl) rfl (by decide) rfl ?_
    refine K_iload_n 3 (kdA dt_MX4_term 17 rfl) rfl rfl ?_
    refine K_bipush (kdA dt_MX4_term 18 rfl) (by decide +kernel) ?_
    refine K_icmp_eq (tgt := 44) (kdA dt_MX4_term 19 rfl) rfl (fun c => ?_) (fun c => ?_)
    · have h := h.1 c
      refine K_aload_n 0 (kdA dt_MX4_term 25 rfl) rfl rfl ?_
      refine K_iload_n 3 (kdA dt_MX4_term 26 rfl) rfl rfl ?_
      refine K_cVi (c := 4) (as := [(0, x3)]) (st := []) (kdA dt_MX4_term 27 rfl) rfl cl_MX4_takes lk4_42 rfl rfl (Nat.le_of_ble_eq_true rfl) c1 (Ci.mono h (fun x4 s2 h => ?_))
      refine K_if_eq (tgt := 60) (kdA dt_MX4_term 28 rfl) rfl (fun c => ?_) (fun c => ?_)
      · have h := h.1 c
        refine K_iconst (kdA dt_MX4_term 33 rfl) (by decide) ?_
        exact K_zreturn (kdA dt_MX4_term 34 rfl) rfl (Or.inl rfl) ⟨rfl, _, rfl, h⟩
      · have h := h.2 c
        refine K_aload_n 0 (kdA dt_MX4_term 29 rfl) rfl rfl ?_
        refine K_iload_n 1 (kdA dt_MX4_term 30 rfl) rfl rfl ?_
        refine K_cVi (c := 4) (as := [(0, a1)]) (st := []) (kdA dt_MX4_term 31 rfl) rfl cl_MX4_atom lk4_75 rfl rfl (Nat.le_of_ble_eq_true rfl) c1 (Ci.mono h (fun x5 s3 h => ?_))
        refine K_if_ne (tgt := 62) (kdA dt_MX4_term 32 rfl) rfl (fun c => ?_) (fun c => ?_)
        · have h := h.1 c
          refine K_aload_n 0 (kdA dt_MX4_term 35 rfl) rfl rfl ?_
          refine gf4_12 rfl (kdA dt_MX4_term 36 rfl) c1 ?_
          refine K_sipush (kdA dt_MX4_term 37 rfl) (by decide +kernel) ?_
          refine K_iload_n 3 (kdA dt_MX4_term 38 rfl) rfl rfl ?_
          obtain ⟨c6, h⟩ := h
          refine K_iadd (kdA dt_MX4_term 39 rfl) c6 ?_
          obtain ⟨c7, h⟩ := h
          refine K_cVv (c := 3) (as := [(0, (20000 + x3))]) (st := []) (kdA dt_MX4_term 40 rfl) rfl cl_MX3_add lk4_56 rfl rfl (Nat.le_of_ble_eq_true rfl) c7 (Cv.mono h (fun s4 h => ?_))
          obtain ⟨c9, h⟩ := h
          refine K_iinc (ls' := [(0, (2, a0)), (1, (0, a1)), (2, (0, (a2 + 1))), (3, (0, x3))]) 2 (kdA dt_MX4_term 41 rfl) rfl c9 (by decide) rfl ?_
          refine K_goto (tgt := 12) (kdA dt_MX4_term 42 rfl) rfl ?_
          refine K_pick [0, 1, 2] (ls' := [(0, (2, a0)), (1, (0, a1)), (2, (0, (a2 + 1)))]) rfl ?_
          exact h
        · have h := h.2 c
          refine K_iconst (kdA dt_MX4_term 33 rfl) (by decide) ?_
          exact K_zreturn (kdA dt_MX4_term 34 rfl) rfl (Or.inl rfl) ⟨rfl, _, rfl, h⟩
    · have h := h.2 c
      refine K_iload_n 3 (kdA dt_MX4_term 20 rfl) rfl rfl ?_
      refine K_bipush (kdA dt_MX4_term 21 rfl) (by decide +kernel) ?_
      refine K_icmp_eq (tgt := 44) (kdA dt_MX4_term 22 rfl) rfl (fun c => ?_) (fun c => ?_)
      · have h := h.1 c
        refine K_aload_n 0 (kdA dt_MX4_term 25 rfl) rfl rfl ?_
        refine K_iload_n 3 (kdA dt_MX4_term 26 rfl) rfl rfl ?_
        refine K_cVi (c := 4) (as := [(0, x3)]) (st := []) (kdA dt_MX4_term 27 rfl) rfl cl_MX4_takes lk4_42 rfl rfl (Nat.le_of_ble_eq_true rfl) c1 (Ci.mono h (fun x4 s2 h => ?_))
        refine K_if_eq (tgt := 60) (kdA dt_MX4_term 28 rfl) rfl (fun c => ?_) (fun c => ?_)
        · have h := h.1 c
          refine K_iconst (kdA dt_MX4_term 33 rfl) (by decide) ?_
          exact K_zreturn (kdA dt_MX4_term 34 rfl) rfl (Or.inl rfl) ⟨rfl, _, rfl, h⟩
        · have h := h.2 c
          refine K_aload_n 0 (kdA dt_MX4_term 29 rfl) rfl rfl ?_
          refine K_iload_n 1 (kdA dt_MX4_term 30 rfl) rfl rfl ?_
          refine K_cVi (c := 4) (as := [(0, a1)]) (st := []) (kdA dt_MX4_term 31 rfl) rfl cl_MX4_atom lk4_75 rfl rfl (Nat.le_of_ble_eq_true rfl) c1 (Ci.mono h (fun x5 s3 h => ?_))
          refine K_if_ne (tgt := 62) (kdA dt_MX4_term 32 rfl) rfl (fun c => ?_) (fun c => ?_)
          · have h := h.1 c
            refine K_aload_n 0 (kdA dt_MX4_term 35 rfl) rfl rfl ?_
            refine gf4_12 rfl (kdA dt_MX4_term 36 rfl) c1 ?_
            refine K_sipush (kdA dt_MX4_term 37 rfl) (by decide +kernel) ?_
            refine K_iload_n 3 (kdA dt_MX4_term 38 rfl) rfl rfl ?_
            obtain ⟨c6, h⟩ := h
            refine K_iadd (kdA dt_MX4_term 39 rfl) c6 ?_
            obtain ⟨c7, h⟩ := h
            refine K_cVv (c := 3) (as := [(0, (20000 + x3))]) (st := []) (kdA dt_MX4_term 40 rfl) rfl cl_MX3_add lk4_56 rfl rfl (Nat.le_of_ble_eq_true rfl) c7 (Cv.mono h (fun s4 h => ?_))
            obtain ⟨c9, h⟩ := h
            refine K_iinc (ls' := [(0, (2, a0)), (1, (0, a1)), (2, (0, (a2 + 1))), (3, (0, x3))]) 2 (kdA dt_MX4_term 41 rfl) rfl c9 (by decide) rfl ?_
            refine K_goto (tgt := 12) (kdA dt_MX4_term 42 rfl) rfl ?_
            refine K_pick [0, 1, 2] (ls' := [(0, (2, a0)), (1, (0, a1)), (2, (0, (a2 + 1)))]) rfl ?_
            exact h
          · have h := h.2 c
            refine K_iconst (kdA dt_MX4_term 33 rfl) (by decide) ?_
            exact K_zreturn (kdA dt_MX4_term 34 rfl) rfl (Or.inl rfl) ⟨rfl, _, rfl, h⟩
      · have h := h.2 c
        refine K_iconst (kdA dt_MX4_term 23 rfl) (by decide) ?_
        exact K_zreturn (kdA dt_MX4_term 24 rfl) rfl (Or.inr rfl) ⟨rfl, _, rfl, h⟩
theorem EX4_term {d n : Nat} {Q : Int → kS → Prop} {a0 a1 : Int} {σ : kS} (h : (-2147483648 ≤ a1 ∧ a1 ≤ 2147483647) → kokw n σ → LX4_term_0 d n Q a0 a1 σ) : Ci (d + 1) MX4_term [(2, a0), (0, a1)] n σ Q := Tri_of (by decide +kernel) (Nat.le_of_ble_eq_true rfl) (fun hk hw => h (hk (0, a1) (List.mem_of_getElem? (i := 1) rfl)) hw)

def LX4_truth_0 (d n : Nat) (Q : Int → kS → Prop) (a0 : Int) (a1 : Int) (a2 : Int) (σ : kS) : Prop := K (d + 1) MX4_truth (kPi n Q) (0, 0) 0 [(0, (2, a0)), (1, (0, a1)), (2, (0, a2))] [] n σ
def LX4_truth_13 (d n : Nat) (Q : Int → kS → Prop) (a0 : Int) (a1 : Int) (a3 : Int) (σ : kS) : Prop := K (d + 1) MX4_truth (kPi n Q) (0, 0) 13 [(0, (2, a0)), (1, (0, a1)), (3, (0, a3))] [] n σ
theorem SX4_truth_0 {d n : Nat} {Q : Int → kS → Prop} {a0 a1 a2 : Int} {σ : kS} (h : isO 4 n a0 ∧ (Ci d MX4_unit [(2, a0), (0, a1), (0, a2)] n σ (fun x2 s1 => (¬ x2 = 0 → LX4_truth_13 d n Q a0 a1 0 s1) ∧ (¬ (¬ x2 = 0) → Q 0 s1)))) : LX4_truth_0 d n Q a0 a1 a2 σ := by
  unfold LX4_truth_0
  refine K_aload_n 0 (kdA dt_MX4_truth 0 rfl) rfl rfl ?_
  refine K_iload_n 1 (kdA dt_MX4_truth 1 rfl) rfl rfl ?_
  refine K_iload_n 2 (kdA dt_MX4_truth 2 rfl) rfl rfl ?_
  obtain ⟨c1, h⟩ := h
  refine K_cVi (c := 4) (as := [(0, a1), (0, a2)]) (st := []) (kdA dt_MX4_truth 3 rfl) rfl cl_MX4_unit lk4_69 rfl rfl (Nat.le_of_ble_eq_true rfl) c1 (Ci.mono h (fun x2 s1 h => ?_))
  refine K_if_ne (tgt := 11) (kdA dt_MX4_truth 4 rfl) rfl (fun c => ?_) (fun c => ?_)
  · have h := h.1 c
    refine K_iconst (kdA dt_MX4_truth 7 rfl) (by decide) ?_
    refine K_istore_n (ls' := [(0, (2, a0)), (1, (0, a1)), (2, (0, a2)), (3, (0, 0))]) (kdA dt_MX4_truth 8 rfl) rfl (by decide) rfl ?_
    refine K_pick [0, 1, 3] (ls' := [(0, (2, a0)), (1, (0, a1)), (3, (0, 0))]) rfl ?_
    exact h
  · have h := h.2 c
    refine K_iconst (kdA dt_MX4_truth 5 rfl) (by decide) ?_
    exact K_zreturn (kdA dt_MX4_truth 6 rfl) rfl (Or.inl rfl) ⟨rfl, _, rfl, h⟩
theorem SX4_truth_13 {d n : Nat} {Q : Int → kS → Prop} {a0 a1 a3 : Int} {σ : kS} (h : (120 ≤ a3 → Q 1 σ) ∧ (¬ 120 ≤ a3 → isO 4 n a0 ∧ (Ci d MX4_takes [(2, a0), (0, 38)] n σ (fun x2 s1 => (x2 = 0 → Q 1 s1) ∧ (¬ x2 = 0 → Ci d MX4_unit [(2, a0), (0, a1), (0, 0)] n s1 (fun x3 s2 => (¬ x3 = 0 → isO 3 n (s2 a0 0) ∧ (Cv d MX3_add [(2, (s2 a0 0)), (0, 20038)] n s2 (fun s3 => (-2147483648 ≤ (a3 + 1) ∧ (a3 + 1) ≤ 2147483647) ∧ (LX4_truth_13 d n Q a0 a1 (a3 + 1) s3)))) ∧ (¬ (¬ x3 = 0) → Q 0 s2))))))) : LX4_truth_13 d n Q a0 a1 a3 σ := by
  unfold LX4_truth_13
  refine K_iload_n 2 (kdA dt_MX4_truth 9 rfl) rfl rfl ?_
  refine K_bipush (kdA dt_MX4_truth 10 rfl) (by decide +kernel) ?_
  refine K_icmp_ge (tgt := 55) (kdA dt_MX4_truth 11 rfl) rfl (fun c => ?_) (fun c => ?_)
  · have h := h.1 c
    refine K_iconst (kdA dt_MX4_truth 29 rfl) (by decide) ?_
    exact K_zreturn (kdA dt_MX4_truth 30 rfl) rfl (Or.inr rfl) ⟨rfl, _, rfl, h⟩
  · have h := h.2 c
    refine K_aload_n 0 (kdA dt_MX4_truth 12 rfl) rfl rfl ?_
    refine K_bipush (kdA dt_MX4_truth 13 rfl) (by decide +kernel) ?_
    obtain ⟨c1, h⟩ := h
    refine K_cVi (c := 4) (as := [(0, 38)]) (st := []) (kdA dt_MX4_truth 14 rfl) rfl cl_MX4_takes lk4_42 rfl rfl (Nat.le_of_ble_eq_true rfl) c1 (Ci.mono h (fun x2 s1 h => ?_))
    refine K_if_eq (tgt := 55) (kdA dt_MX4_truth 15 rfl) rfl (fun c => ?_) (fun c => ?_)
    · have h := h.1 c
      refine K_iconst (kdA dt_MX4_truth 29 rfl) (by decide) ?_
      exact K_zreturn (kdA dt_MX4_truth 30 rfl) rfl (Or.inr rfl) ⟨rfl, _, rfl, h⟩
    · have h := h.2 c
      refine K_aload_n 0 (kdA dt_MX4_truth 16 rfl) rfl rfl ?_
      refine K_iload_n 1 (kdA dt_MX4_truth 17 rfl) rfl rfl ?_
      refine K_iconst (kdA dt_MX4_truth 18 rfl) (by decide) ?_
      refine K_cVi (c := 4) (as := [(0, a1), (0, 0)]) (st := []) (kdA dt_MX4_truth 19 rfl) rfl cl_MX4_unit lk4_69 rfl rfl (Nat.le_of_ble_eq_true rfl) c1 (Ci.mono h (fun x3 s2 h => ?_))
      refine K_if_ne (tgt := 39) (kdA dt_MX4_truth 20 rfl) rfl (fun c => ?_) (fun c => ?_)
      · have h := h.1 c
        refine K_aload_n 0 (kdA dt_MX4_truth 23 rfl) rfl rfl ?_
        refine gf4_12 rfl (kdA dt_MX4_truth 24 rfl) c1 ?_
        refine K_sipush (kdA dt_MX4_truth 25 rfl) (by decide +kernel) ?_
        obtain ⟨c4, h⟩ := h
        refine K_cVv (c := 3) (as := [(0, 20038)]) (st := []) (kdA dt_MX4_truth 26 rfl) rfl cl_MX3_add lk4_56 rfl rfl (Nat.le_of_ble_eq_true rfl) c4 (Cv.mono h (fun s3 h => ?_))
        obtain ⟨c6, h⟩ := h
        refine K_iinc (ls' := [(0, (2, a0)), (1, (0, a1)), (3, (0, (a3 + 1)))]) 2 (kdA dt_MX4_truth 27 rfl) rfl c6 (by decide) rfl ?_
        refine K_goto (tgt := 13) (kdA dt_MX4_truth 28 rfl) rfl ?_
        exact h
      · have h := h.2 c
        refine K_iconst (kdA dt_MX4_truth 21 rfl) (by decide) ?_
        exact K_zreturn (kdA dt_MX4_truth 22 rfl) rfl (Or.inl rfl) ⟨rfl, _, rfl, h⟩
theorem EX4_truth {d n : Nat} {Q : Int → kS → Prop} {a0 a1 a2 : Int} {σ : kS} (h : (-2147483648 ≤ a1 ∧ a1 ≤ 2147483647) → (-2147483648 ≤ a2 ∧ a2 ≤ 2147483647) → kokw n σ → LX4_truth_0 d n Q a0 a1 a2 σ) : Ci (d + 1) MX4_truth [(2, a0), (0, a1), (0, a2)] n σ Q := Tri_of (by decide +kernel) (Nat.le_of_ble_eq_true rfl) (fun hk hw => h (hk (0, a1) (List.mem_of_getElem? (i := 1) rfl)) (hk (0, a2) (List.mem_of_getElem? (i := 2) rfl)) hw)

def LX4_unit_0 (d n : Nat) (Q : Int → kS → Prop) (a0 : Int) (a1 : Int) (a2 : Int) (σ : kS) : Prop := K (d + 1) MX4_unit (kPi n Q) (0, 0) 0 [(0, (2, a0)), (1, (0, a1)), (2, (0, a2))] [] n σ
theorem SX4_unit_0 {d n : Nat} {Q : Int → kS → Prop} {a0 a1 a2 : Int} {σ : kS} (h : (¬ a2 = 0 → (¬ a2 = 0 → (¬ a2 = 0 → isO 4 n a0 ∧ (isO 8 n (σ a0 1) ∧ (Ci d MX8_at [(2, (σ a0 1)), (0, (σ a0 2))] n σ (fun x3 s1 => Ci d MX4_isComparison [(0, x3)] n s1 (fun x4 s2 => (x4 = 0 → Q 0 s2) ∧ (¬ x4 = 0 → Ci d MX4_takes [(2, a0), (0, x3)] n s2 (fun x5 s3 => (x5 = 0 → Q 0 s3) ∧ (¬ x5 = 0 → Ci d MX4_sum [(2, a0), (0, a1)] n s3 (fun x6 s4 => (¬ x6 = 0 → (-2147483648 ≤ (20000 + x3) ∧ (20000 + x3) ≤ 2147483647) ∧ (isO 3 n (s4 a0 0) ∧ (Cv d MX3_add [(2, (s4 a0 0)), (0, (20000 + x3))] n s4 (fun s5 => Q 1 s5)))) ∧ (¬ (¬ x6 = 0) → Q 0 s4)))))))))) ∧ (¬ (¬ a2 = 0) → isO 4 n a0 ∧ (Ci d MX4_sum [(2, a0), (0, a1)] n σ (fun x2 s1 => (¬ x2 = 0 → isO 8 n (s1 a0 1) ∧ (Ci d MX8_at [(2, (s1 a0 1)), (0, (s1 a0 2))] n s1 (fun x4 s2 => Ci d MX4_isComparison [(0, x4)] n s2 (fun x5 s3 => (x5 = 0 → Q 0 s3) ∧ (¬ x5 = 0 → Ci d MX4_takes [(2, a0), (0, x4)] n s3 (fun x6 s4 => (x6 = 0 → Q 0 s4) ∧ (¬ x6 = 0 → Ci d MX4_sum [(2, a0), (0, a1)] n s4 (fun x7 s5 => (¬ x7 = 0 → (-2147483648 ≤ (20000 + x4) ∧ (20000 + x4) ≤ 2147483647) ∧ (isO 3 n (s5 a0 0) ∧ (Cv d MX3_add [(2, (s5 a0 0)), (0, (20000 + x4))] n s5 (fun s6 => Q 1 s6)))) ∧ (¬ (¬ x7 = 0) → Q 0 s5))))))))) ∧ (¬ (¬ x2 = 0) → Q 0 s1))))) ∧ (¬ (¬ a2 = 0) → isO 4 n a0 ∧ (isO 8 n (σ a0 1) ∧ (Ci d MX8_at [(2, (σ a0 1)), (0, (σ a0 2))] n σ (fun x3 s1 => (¬ x3 = 40 → (¬ a2 = 0 → isO 8 n (s1 a0 1) ∧ (Ci d MX8_at [(2, (s1 a0 1)), (0, (s1 a0 2))] n s1 (fun x5 s2 => Ci d MX4_isComparison [(0, x5)] n s2 (fun x6 s3 => (x6 = 0 → Q 0 s3) ∧ (¬ x6 = 0 → Ci d MX4_takes [(2, a0), (0, x5)] n s3 (fun x7 s4 => (x7 = 0 → Q 0 s4) ∧ (¬ x7 = 0 → Ci d MX4_sum [(2, a0), (0, a1)] n s4 (fun x8 s5 => (¬ x8 = 0 → (-2147483648 ≤ (20000 + x5) ∧ (20000 + x5) ≤ 2147483647) ∧ (isO 3 n (s5 a0 0) ∧ (Cv d MX3_add [(2, (s5 a0 0)), (0, (20000 + x5))] n s5 (fun s6 => Q 1 s6)))) ∧ (¬ (¬ x8 = 0) → Q 0 s5))))))))) ∧ (¬ (¬ a2 = 0) → Ci d MX4_sum [(2, a0), (0, a1)] n s1 (fun x4 s2 => (¬ x4 = 0 → isO 8 n (s2 a0 1) ∧ (Ci d MX8_at [(2, (s2 a0 1)), (0, (s2 a0 2))] n s2 (fun x6 s3 => Ci d MX4_isComparison [(0, x6)] n s3 (fun x7 s4 => (x7 = 0 → Q 0 s4) ∧ (¬ x7 = 0 → Ci d MX4_takes [(2, a0), (0, x6)] n s4 (fun x8 s5 => (x8 = 0 → Q 0 s5) ∧ (¬ x8 = 0 → Ci d MX4_sum [(2, a0), (0, a1)] n s5 (fun x9 s6 => (¬ x9 = 0 → (-2147483648 ≤ (20000 + x6) ∧ (20000 + x6) ≤ 2147483647) ∧ (isO 3 n (s6 a0 0) ∧ (Cv d MX3_add [(2, (s6 a0 0)), (0, (20000 + x6))] n s6 (fun s7 => Q 1 s7)))) ∧ (¬ (¬ x9 = 0) → Q 0 s6))))))))) ∧ (¬ (¬ x4 = 0) → Q 0 s2)))) ∧ (¬ (¬ x3 = 40) → (6 ≤ a1 → Q 0 s1) ∧ (¬ 6 ≤ a1 → Ci d MX4_takes [(2, a0), (0, 40)] n s1 (fun x4 s2 => (x4 = 0 → Q 0 s2) ∧ (¬ x4 = 0 → (-2147483648 ≤ (a1 + 1) ∧ (a1 + 1) ≤ 2147483647) ∧ (Ci d MX4_condition [(2, a0), (0, (a1 + 1)), (0, 0)] n s2 (fun x6 s3 => (x6 = 0 → Q 0 s3) ∧ (¬ x6 = 0 → Ci d MX4_takes [(2, a0), (0, 41)] n s3 (fun x7 s4 => (x7 = 0 → Q 0 s4) ∧ (¬ x7 = 0 → Q 1 s4)))))))))))))) ∧ (¬ (¬ a2 = 0) → isO 4 n a0 ∧ (isO 8 n (σ a0 1) ∧ (Ci d MX8_at [(2, (σ a0 1)), (0, (σ a0 2))] n σ (fun x3 s1 => (¬ x3 = 33 → (¬ a2 = 0 → (¬ a2 = 0 → isO 8 n (s1 a0 1) ∧ (Ci d MX8_at [(2, (s1 a0 1)), (0, (s1 a0 2))] n s1 (fun x5 s2 => Ci d MX4_isComparison [(0, x5)] n s2 (fun x6 s3 => (x6 = 0 → Q 0 s3) ∧ (¬ x6 = 0 → Ci d MX4_takes [(2, a0), (0, x5)] n s3 (fun x7 s4 => (x7 = 0 → Q 0 s4) ∧ (¬ x7 = 0 → Ci d MX4_sum [(2, a0), (0, a1)] n s4 (fun x8 s5 => (¬ x8 = 0 → (-2147483648 ≤ (20000 + x5) ∧ (20000 + x5) ≤ 2147483647) ∧ (isO 3 n (s5 a0 0) ∧ (Cv d MX3_add [(2, (s5 a0 0)), (0, (20000 + x5))] n s5 (fun s6 => Q 1 s6)))) ∧ (¬ (¬ x8 = 0) → Q 0 s5))))))))) ∧ (¬ (¬ a2 = 0) → Ci d MX4_sum [(2, a0), (0, a1)] n s1 (fun x4 s2 => (¬ x4 = 0 → isO 8 n (s2 a0 1) ∧ (Ci d MX8_at [(2, (s2 a0 1)), (0, (s2 a0 2))] n s2 (fun x6 s3 => Ci d MX4_isComparison [(0, x6)] n s3 (fun x7 s4 => (x7 = 0 → Q 0 s4) ∧ (¬ x7 = 0 → Ci d MX4_takes [(2, a0), (0, x6)] n s4 (fun x8 s5 => (x8 = 0 → Q 0 s5) ∧ (¬ x8 = 0 → Ci d MX4_sum [(2, a0), (0, a1)] n s5 (fun x9 s6 => (¬ x9 = 0 → (-2147483648 ≤ (20000 + x6) ∧ (20000 + x6) ≤ 2147483647) ∧ (isO 3 n (s6 a0 0) ∧ (Cv d MX3_add [(2, (s6 a0 0)), (0, (20000 + x6))] n s6 (fun s7 => Q 1 s7)))) ∧ (¬ (¬ x9 = 0) → Q 0 s6))))))))) ∧ (¬ (¬ x4 = 0) → Q 0 s2)))) ∧ (¬ (¬ a2 = 0) → isO 8 n (s1 a0 1) ∧ (Ci d MX8_at [(2, (s1 a0 1)), (0, (s1 a0 2))] n s1 (fun x5 s2 => (¬ x5 = 40 → (¬ a2 = 0 → isO 8 n (s2 a0 1) ∧ (Ci d MX8_at [(2, (s2 a0 1)), (0, (s2 a0 2))] n s2 (fun x7 s3 => Ci d MX4_isComparison [(0, x7)] n s3 (fun x8 s4 => (x8 = 0 → Q 0 s4) ∧ (¬ x8 = 0 → Ci d MX4_takes [(2, a0), (0, x7)] n s4 (fun x9 s5 => (x9 = 0 → Q 0 s5) ∧ (¬ x9 = 0 → Ci d MX4_sum [(2, a0), (0, a1)] n s5 (fun x10 s6 => (¬ x10 = 0 → (-2147483648 ≤ (20000 + x7) ∧ (20000 + x7) ≤ 2147483647) ∧ (isO 3 n (s6 a0 0) ∧ (Cv d MX3_add [(2, (s6 a0 0)), (0, (20000 + x7))] n s6 (fun s7 => Q 1 s7)))) ∧ (¬ (¬ x10 = 0) → Q 0 s6))))))))) ∧ (¬ (¬ a2 = 0) → Ci d MX4_sum [(2, a0), (0, a1)] n s2 (fun x6 s3 => (¬ x6 = 0 → isO 8 n (s3 a0 1) ∧ (Ci d MX8_at [(2, (s3 a0 1)), (0, (s3 a0 2))] n s3 (fun x8 s4 => Ci d MX4_isComparison [(0, x8)] n s4 (fun x9 s5 => (x9 = 0 → Q 0 s5) ∧ (¬ x9 = 0 → Ci d MX4_takes [(2, a0), (0, x8)] n s5 (fun x10 s6 => (x10 = 0 → Q 0 s6) ∧ (¬ x10 = 0 → Ci d MX4_sum [(2, a0), (0, a1)] n s6 (fun x11 s7 => (¬ x11 = 0 → (-2147483648 ≤ (20000 + x8) ∧ (20000 + x8) ≤ 2147483647) ∧ (isO 3 n (s7 a0 0) ∧ (Cv d MX3_add [(2, (s7 a0 0)), (0, (20000 + x8))] n s7 (fun s8 => Q 1 s8)))) ∧ (¬ (¬ x11 = 0) → Q 0 s7))))))))) ∧ (¬ (¬ x6 = 0) → Q 0 s3)))) ∧ (¬ (¬ x5 = 40) → (6 ≤ a1 → Q 0 s2) ∧ (¬ 6 ≤ a1 → Ci d MX4_takes [(2, a0), (0, 40)] n s2 (fun x6 s3 => (x6 = 0 → Q 0 s3) ∧ (¬ x6 = 0 → (-2147483648 ≤ (a1 + 1) ∧ (a1 + 1) ≤ 2147483647) ∧ (Ci d MX4_condition [(2, a0), (0, (a1 + 1)), (0, 0)] n s3 (fun x8 s4 => (x8 = 0 → Q 0 s4) ∧ (¬ x8 = 0 → Ci d MX4_takes [(2, a0), (0, 41)] n s4 (fun x9 s5 => (x9 = 0 → Q 0 s5) ∧ (¬ x9 = 0 → Q 1 s5))))))))))))) ∧ (¬ (¬ x3 = 33) → (6 ≤ a1 → Q 0 s1) ∧ (¬ 6 ≤ a1 → Ci d MX4_takes [(2, a0), (0, 33)] n s1 (fun x4 s2 => (x4 = 0 → Q 0 s2) ∧ (¬ x4 = 0 → (-2147483648 ≤ (a1 + 1) ∧ (a1 + 1) ≤ 2147483647) ∧ (Ci d MX4_unit [(2, a0), (0, (a1 + 1)), (0, 0)] n s2 (fun x6 s3 => (¬ x6 = 0 → isO 3 n (s3 a0 0) ∧ (Cv d MX3_add [(2, (s3 a0 0)), (0, 20033)] n s3 (fun s4 => Q 1 s4))) ∧ (¬ (¬ x6 = 0) → Q 0 s3)))))))))))) : LX4_unit_0 d n Q a0 a1 a2 σ := by
  unfold LX4_unit_0
  refine K_iload_n 2 (kdA dt_MX4_unit 0 rfl) rfl rfl ?_
  refine K_if_ne (tgt := 60) (kdA dt_MX4_unit 1 rfl) rfl (fun c => ?_) (fun c => ?_)
  · have h := h.1 c
    refine K_iload_n 2 (kdA dt_MX4_unit 31 rfl) rfl rfl ?_
    refine K_if_ne (tgt := 121) (kdA dt_MX4_unit 32 rfl) rfl (fun c => ?_) (fun c => ?_)
    · have h := h.1 c
      refine K_iload_n 2 (kdA dt_MX4_unit 62 rfl) rfl rfl ?_
      refine K_if_ne (tgt := 135) (kdA dt_MX4_unit 63 rfl) rfl (fun c => ?_) (fun c => ?_)
      · have h := h.1 c
        refine K_aload_n 0 (kdA dt_MX4_unit 70 rfl) rfl rfl ?_
        obtain ⟨c1, h⟩ := h
        refine gf4_23 rfl (kdA dt_MX4_unit 71 rfl) c1 ?_
        refine K_aload_n 0 (kdA dt_MX4_unit 72 rfl) rfl rfl ?_
        refine gf4_27 rfl (kdA dt_MX4_unit 73 rfl) c1 ?_
        obtain ⟨c2, h⟩ := h
        refine K_cVi (c := 8) (as := [(0, (σ a0 2))]) (st := []) (kdA dt_MX4_unit 74 rfl) rfl cl_MX8_at lk4_46 rfl rfl (Nat.le_of_ble_eq_true rfl) c2 (Ci.mono h (fun x3 s1 h => ?_))
        refine K_istore_n (ls' := [(0, (2, a0)), (1, (0, a1)), (2, (0, a2)), (3, (0, x3))]) (kdA dt_MX4_unit 75 rfl) rfl (by decide) rfl ?_
        refine K_iload_n 3 (kdA dt_MX4_unit 76 rfl) rfl rfl ?_
        refine K_cSi (as := [(0, x3)]) (st := []) (kdA dt_MX4_unit 77 rfl) cl_MX4_isComparison lk4_52 rfl rfl (Nat.le_of_ble_eq_true rfl) (Ci.mono h (fun x4 s2 h => ?_))
        refine K_if_eq (tgt := 170) (kdA dt_MX4_unit 78 rfl) rfl (fun c => ?_) (fun c => ?_)
        · have h := h.1 c
          refine K_iconst (kdA dt_MX4_unit 87 rfl) (by decide) ?_
          exact K_zreturn (kdA dt_MX4_unit 88 rfl) rfl (Or.inl rfl) ⟨rfl, _, rfl, h⟩
        · have h := h.2 c
          refine K_aload_n 0 (kdA dt_MX4_unit 79 rfl) rfl rfl ?_
          refine K_iload_n 3 (kdA dt_MX4_unit 80 rfl) rfl rfl ?_
          refine K_cVi (c := 4) (as := [(0, x3)]) (st := []) (kdA dt_MX4_unit 81 rfl) rfl cl_MX4_takes lk4_42 rfl rfl (Nat.le_of_ble_eq_true rfl) c1 (Ci.mono h (fun x5 s3 h => ?_))
          refine K_if_eq (tgt := 170) (kdA dt_MX4_unit 82 rfl) rfl (fun c => ?_) (fun c => ?_)
          · have h := h.1 c
            refine K_iconst (kdA dt_MX4_unit 87 rfl) (by decide) ?_
            exact K_zreturn (kdA dt_MX4_unit 88 rfl) rfl (Or.inl rfl) ⟨rfl, _, rfl, h⟩
          · have h := h.2 c
            refine K_aload_n 0 (kdA dt_MX4_unit 83 rfl) rfl rfl ?_
            refine K_iload_n 1 (kdA dt_MX4_unit 84 rfl) rfl rfl ?_
            refine K_cVi (c := 4) (as := [(0, a1)]) (st := []) (kdA dt_MX4_unit 85 rfl) rfl cl_MX4_sum lk4_49 rfl rfl (Nat.le_of_ble_eq_true rfl) c1 (Ci.mono h (fun x6 s4 h => ?_))
            refine K_if_ne (tgt := 172) (kdA dt_MX4_unit 86 rfl) rfl (fun c => ?_) (fun c => ?_)
            · have h := h.1 c
              refine K_aload_n 0 (kdA dt_MX4_unit 89 rfl) rfl rfl ?_
              refine gf4_12 rfl (kdA dt_MX4_unit 90 rfl) c1 ?_
              refine K_sipush (kdA dt_MX4_unit 91 rfl) (by decide +kernel) ?_
              refine K_iload_n 3 (kdA dt_MX4_unit 92 rfl) rfl rfl ?_
              obtain ⟨c7, h⟩ := h
              refine K_iadd (kdA dt_MX4_unit 93 rfl) c7 ?_
              obtain ⟨c8, h⟩ := h
              refine K_cVv (c := 3) (as := [(0, (20000 + x3))]) (st := []) (kdA dt_MX4_unit 94 rfl) rfl cl_MX3_add lk4_56 rfl rfl (Nat.le_of_ble_eq_true rfl) c8 (Cv.mono h (fun s5 h => ?_))
              refine K_iconst (kdA dt_MX4_unit 95 rfl) (by decide) ?_
              exact K_zreturn (kdA dt_MX4_unit 96 rfl) rfl (Or.inr rfl) ⟨rfl, _, rfl, h⟩
            · have h := h.2 c
              refine K_iconst (kdA dt_MX4_unit 87 rfl) (by decide) ?_
              exact K_zreturn (kdA dt_MX4_unit 88 rfl) rfl (Or.inl rfl) ⟨rfl, _, rfl, h⟩
      · have h := h.2 c
        refine K_aload_n 0 (kdA dt_MX4_unit 64 rfl) rfl rfl ?_
        refine K_iload_n 1 (kdA dt_MX4_unit 65 rfl) rfl rfl ?_
        obtain ⟨c1, h⟩ := h
        refine K_cVi (c := 4) (as := [(0, a1)]) (st := []) (kdA dt_MX4_unit 66 rfl) rfl cl_MX4_sum lk4_49 rfl rfl (Nat.le_of_ble_eq_true rfl) c1 (Ci.mono h (fun x2 s1 h => ?_))
        refine K_if_ne (tgt := 135) (kdA dt_MX4_unit 67 rfl) rfl (fun c => ?_) (fun c => ?_)
        · have h := h.1 c
          refine K_aload_n 0 (kdA dt_MX4_unit 70 rfl) rfl rfl ?_
          refine gf4_23 rfl (kdA dt_MX4_unit 71 rfl) c1 ?_
          refine K_aload_n 0 (kdA dt_MX4_unit 72 rfl) rfl rfl ?_
          refine gf4_27 rfl (kdA dt_MX4_unit 73 rfl) c1 ?_
          obtain ⟨c3, h⟩ := h
          refine K_cVi (c := 8) (as := [(0, (s1 a0 2))]) (st := []) (kdA dt_MX4_unit 74 rfl) rfl cl_MX8_at lk4_46 rfl rfl (Nat.le_of_ble_eq_true rfl) c3 (Ci.mono h (fun x4 s2 h => ?_))
          refine K_istore_n (ls' := [(0, (2, a0)), (1, (0, a1)), (2, (0, a2)), (3, (0, x4))]) (kdA dt_MX4_unit 75 rfl) rfl (by decide) rfl ?_
          refine K_iload_n 3 (kdA dt_MX4_unit 76 rfl) rfl rfl ?_
          refine K_cSi (as := [(0, x4)]) (st := []) (kdA dt_MX4_unit 77 rfl) cl_MX4_isComparison lk4_52 rfl rfl (Nat.le_of_ble_eq_true rfl) (Ci.mono h (fun x5 s3 h => ?_))
          refine K_if_eq (tgt := 170) (kdA dt_MX4_unit 78 rfl) rfl (fun c => ?_) (fun c => ?_)
          · have h := h.1 c
            refine K_iconst (kdA dt_MX4_unit 87 rfl) (by decide) ?_
            exact K_zreturn (kdA dt_MX4_unit 88 rfl) rfl (Or.inl rfl) ⟨rfl, _, rfl, h⟩
          · have h := h.2 c
            refine K_aload_n 0 (kdA dt_MX4_unit 79 rfl) rfl rfl ?_
            refine K_iload_n 3 (kdA dt_MX4_unit 80 rfl) rfl rfl ?_
            refine K_cVi (c := 4) (as := [(0, x4)]) (st := []) (kdA dt_MX4_unit 81 rfl) rfl cl_MX4_takes lk4_42 rfl rfl (Nat.le_of_ble_eq_true rfl) c1 (Ci.mono h (fun x6 s4 h => ?_))
            refine K_if_eq (tgt := 170) (kdA dt_MX4_unit 82 rfl) rfl (fun c => ?_) (fun c => ?_)
            · have h := h.1 c
              refine K_iconst (kdA dt_MX4_unit 87 rfl) (by decide) ?_
              exact K_zreturn (kdA dt_MX4_unit 88 rfl) rfl (Or.inl rfl) ⟨rfl, _, rfl, h⟩
            · have h := h.2 c
              refine K_aload_n 0 (kdA dt_MX4_unit 83 rfl) rfl rfl ?_
              refine K_iload_n 1 (kdA dt_MX4_unit 84 rfl) rfl rfl ?_
              refine K_cVi (c := 4) (as := [(0, a1)]) (st := []) (kdA dt_MX4_unit 85 rfl) rfl cl_MX4_sum lk4_49 rfl rfl (Nat.le_of_ble_eq_true rfl) c1 (Ci.mono h (fun x7 s5 h => ?_))
              refine K_if_ne (tgt := 172) (kdA dt_MX4_unit 86 rfl) rfl (fun c => ?_) (fun c => ?_)
              · have h := h.1 c
                refine K_aload_n 0 (kdA dt_MX4_unit 89 rfl) rfl rfl ?_
                refine gf4_12 rfl (kdA dt_MX4_unit 90 rfl) c1 ?_
                refine K_sipush (kdA dt_MX4_unit 91 rfl) (by decide +kernel) ?_
                refine K_iload_n 3 (kdA dt_MX4_unit 92 rfl) rfl rfl ?_
                obtain ⟨c8, h⟩ := h
                refine K_iadd (kdA dt_MX4_unit 93 rfl) c8 ?_
                obtain ⟨c9, h⟩ := h
                refine K_cVv (c := 3) (as := [(0, (20000 + x4))]) (st := []) (kdA dt_MX4_unit 94 rfl) rfl cl_MX3_add lk4_56 rfl rfl (Nat.le_of_ble_eq_true rfl) c9 (Cv.mono h (fun s6 h => ?_))
                refine K_iconst (kdA dt_MX4_unit 95 rfl) (by decide) ?_
                exact K_zreturn (kdA dt_MX4_unit 96 rfl) rfl (Or.inr rfl) ⟨rfl, _, rfl, h⟩
              · have h := h.2 c
                refine K_iconst (kdA dt_MX4_unit 87 rfl) (by decide) ?_
                exact K_zreturn (kdA dt_MX4_unit 88 rfl) rfl (Or.inl rfl) ⟨rfl, _, rfl, h⟩
        · have h := h.2 c
          refine K_iconst (kdA dt_MX4_unit 68 rfl) (by decide) ?_
          exact K_zreturn (kdA dt_MX4_unit 69 rfl) rfl (Or.inl rfl) ⟨rfl, _, rfl, h⟩
    · have h := h.2 c
      refine K_aload_n 0 (kdA dt_MX4_unit 33 rfl) rfl rfl ?_
      obtain ⟨c1, h⟩ := h
      refine gf4_23 rfl (kdA dt_MX4_unit 34 rfl) c1 ?_
      refine K_aload_n 0 (kdA dt_MX4_unit 35 rfl) rfl rfl ?_
      refine gf4_27 rfl (kdA dt_MX4_unit 36 rfl) c1 ?_
      obtain ⟨c2, h⟩ := h
      refine K_cVi (c := 8) (as := [(0, (σ a0 2))]) (st := []) (kdA dt_MX4_unit 37 rfl) rfl cl_MX8_at lk4_46 rfl rfl (Nat.le_of_ble_eq_true rfl) c2 (Ci.mono h (fun x3 s1 h => ?_))
      refine K_bipush (kdA dt_MX4_unit 38 rfl) (by decide +kernel) ?_
      refine K_icmp_ne (tgt := 121) (kdA dt_MX4_unit 39 rfl) rfl (fun c => ?_) (fun c => ?_)
      · have h := h.1 c
        refine K_iload_n 2 (kdA dt_MX4_unit 62 rfl) rfl rfl ?_
        refine K_if_ne (tgt := 135) (kdA dt_MX4_unit 63 rfl) rfl (fun c => ?_) (fun c => ?_)
        · have h := h.1 c
          refine K_aload_n 0 (kdA dt_MX4_unit 70 rfl) rfl rfl ?_
          refine gf4_23 rfl (kdA dt_MX4_unit 71 rfl) c1 ?_
          refine K_aload_n 0 (kdA dt_MX4_unit 72 rfl) rfl rfl ?_
          refine gf4_27 rfl (kdA dt_MX4_unit 73 rfl) c1 ?_
          obtain ⟨c4, h⟩ := h
          refine K_cVi (c := 8) (as := [(0, (s1 a0 2))]) (st := []) (kdA dt_MX4_unit 74 rfl) rfl cl_MX8_at lk4_46 rfl rfl (Nat.le_of_ble_eq_true rfl) c4 (Ci.mono h (fun x5 s2 h => ?_))
          refine K_istore_n (ls' := [(0, (2, a0)), (1, (0, a1)), (2, (0, a2)), (3, (0, x5))]) (kdA dt_MX4_unit 75 rfl) rfl (by decide) rfl ?_
          refine K_iload_n 3 (kdA dt_MX4_unit 76 rfl) rfl rfl ?_
          refine K_cSi (as := [(0, x5)]) (st := []) (kdA dt_MX4_unit 77 rfl) cl_MX4_isComparison lk4_52 rfl rfl (Nat.le_of_ble_eq_true rfl) (Ci.mono h (fun x6 s3 h => ?_))
          refine K_if_eq (tgt := 170) (kdA dt_MX4_unit 78 rfl) rfl (fun c => ?_) (fun c => ?_)
          · have h := h.1 c
            refine K_iconst (kdA dt_MX4_unit 87 rfl) (by decide) ?_
            exact K_zreturn (kdA dt_MX4_unit 88 rfl) rfl (Or.inl rfl) ⟨rfl, _, rfl, h⟩
          · have h := h.2 c
            refine K_aload_n 0 (kdA dt_MX4_unit 79 rfl) rfl rfl ?_
            refine K_iload_n 3 (kdA dt_MX4_unit 80 rfl) rfl rfl ?_
            refine K_cVi (c := 4) (as := [(0, x5)]) (st := []) (kdA dt_MX4_unit 81 rfl) rfl cl_MX4_takes lk4_42 rfl rfl (Nat.le_of_ble_eq_true rfl) c1 (Ci.mono h (fun x7 s4 h => ?_))
            refine K_if_eq (tgt := 170) (kdA dt_MX4_unit 82 rfl) rfl (fun c => ?_) (fun c => ?_)
            · have h := h.1 c
              refine K_iconst (kdA dt_MX4_unit 87 rfl) (by decide) ?_
              exact K_zreturn (kdA dt_MX4_unit 88 rfl) rfl (Or.inl rfl) ⟨rfl, _, rfl, h⟩
            · have h := h.2 c
              refine K_aload_n 0 (kdA dt_MX4_unit 83 rfl) rfl rfl ?_
              refine K_iload_n 1 (kdA dt_MX4_unit 84 rfl) rfl rfl ?_
              refine K_cVi (c := 4) (as := [(0, a1)]) (st := []) (kdA dt_MX4_unit 85 rfl) rfl cl_MX4_sum lk4_49 rfl rfl (Nat.le_of_ble_eq_true rfl) c1 (Ci.mono h (fun x8 s5 h => ?_))
              refine K_if_ne (tgt := 172) (kdA dt_MX4_unit 86 rfl) rfl (fun c => ?_) (fun c => ?_)
              · have h := h.1 c
                refine K_aload_n 0 (kdA dt_MX4_unit 89 rfl) rfl rfl ?_
                refine gf4_12 rfl (kdA dt_MX4_unit 90 rfl) c1 ?_
                refine K_sipush (kdA dt_MX4_unit 91 rfl) (by decide +kernel) ?_
                refine K_iload_n 3 (kdA dt_MX4_unit 92 rfl) rfl rfl ?_
                obtain ⟨c9, h⟩ := h
                refine K_iadd (kdA dt_MX4_unit 93 rfl) c9 ?_
                obtain ⟨c10, h⟩ := h
                refine K_cVv (c := 3) (as := [(0, (20000 + x5))]) (st := []) (kdA dt_MX4_unit 94 rfl) rfl cl_MX3_add lk4_56 rfl rfl (Nat.le_of_ble_eq_true rfl) c10 (Cv.mono h (fun s6 h => ?_))
                refine K_iconst (kdA dt_MX4_unit 95 rfl) (by decide) ?_
                exact K_zreturn (kdA dt_MX4_unit 96 rfl) rfl (Or.inr rfl) ⟨rfl, _, rfl, h⟩
              · have h := h.2 c
                refine K_iconst (kdA dt_MX4_unit 87 rfl) (by decide) ?_
                exact K_zreturn (kdA dt_MX4_unit 88 rfl) rfl (Or.inl rfl) ⟨rfl, _, rfl, h⟩
        · have h := h.2 c
          refine K_aload_n 0 (kdA dt_MX4_unit 64 rfl) rfl rfl ?_
          refine K_iload_n 1 (kdA dt_MX4_unit 65 rfl) rfl rfl ?_
          refine K_cVi (c := 4) (as := [(0, a1)]) (st := []) (kdA dt_MX4_unit 66 rfl) rfl cl_MX4_sum lk4_49 rfl rfl (Nat.le_of_ble_eq_true rfl) c1 (Ci.mono h (fun x4 s2 h => ?_))
          refine K_if_ne (tgt := 135) (kdA dt_MX4_unit 67 rfl) rfl (fun c => ?_) (fun c => ?_)
          · have h := h.1 c
            refine K_aload_n 0 (kdA dt_MX4_unit 70 rfl) rfl rfl ?_
            refine gf4_23 rfl (kdA dt_MX4_unit 71 rfl) c1 ?_
            refine K_aload_n 0 (kdA dt_MX4_unit 72 rfl) rfl rfl ?_
            refine gf4_27 rfl (kdA dt_MX4_unit 73 rfl) c1 ?_
            obtain ⟨c5, h⟩ := h
            refine K_cVi (c := 8) (as := [(0, (s2 a0 2))]) (st := []) (kdA dt_MX4_unit 74 rfl) rfl cl_MX8_at lk4_46 rfl rfl (Nat.le_of_ble_eq_true rfl) c5 (Ci.mono h (fun x6 s3 h => ?_))
            refine K_istore_n (ls' := [(0, (2, a0)), (1, (0, a1)), (2, (0, a2)), (3, (0, x6))]) (kdA dt_MX4_unit 75 rfl) rfl (by decide) rfl ?_
            refine K_iload_n 3 (kdA dt_MX4_unit 76 rfl) rfl rfl ?_
            refine K_cSi (as := [(0, x6)]) (st := []) (kdA dt_MX4_unit 77 rfl) cl_MX4_isComparison lk4_52 rfl rfl (Nat.le_of_ble_eq_true rfl) (Ci.mono h (fun x7 s4 h => ?_))
            refine K_if_eq (tgt := 170) (kdA dt_MX4_unit 78 rfl) rfl (fun c => ?_) (fun c => ?_)
            · have h := h.1 c
              refine K_iconst (kdA dt_MX4_unit 87 rfl) (by decide) ?_
              exact K_zreturn (kdA dt_MX4_unit 88 rfl) rfl (Or.inl rfl) ⟨rfl, _, rfl, h⟩
            · have h := h.2 c
              refine K_aload_n 0 (kdA dt_MX4_unit 79 rfl) rfl rfl ?_
              refine K_iload_n 3 (kdA dt_MX4_unit 80 rfl) rfl rfl ?_
              refine K_cVi (c := 4) (as := [(0, x6)]) (st := []) (kdA dt_MX4_unit 81 rfl) rfl cl_MX4_takes lk4_42 rfl rfl (Nat.le_of_ble_eq_true rfl) c1 (Ci.mono h (fun x8 s5 h => ?_))
              refine K_if_eq (tgt := 170) (kdA dt_MX4_unit 82 rfl) rfl (fun c => ?_) (fun c => ?_)
              · have h := h.1 c
                refine K_iconst (kdA dt_MX4_unit 87 rfl) (by decide) ?_
                exact K_zreturn (kdA dt_MX4_unit 88 rfl) rfl (Or.inl rfl) ⟨rfl, _, rfl, h⟩
              · have h := h.2 c
                refine K_aload_n 0 (kdA dt_MX4_unit 83 rfl) rfl rfl ?_
                refine K_iload_n 1 (kdA dt_MX4_unit 84 rfl) rfl rfl ?_
                refine K_cVi (c := 4) (as := [(0, a1)]) (st := []) (kdA dt_MX4_unit 85 rfl) rfl cl_MX4_sum lk4_49 rfl rfl (Nat.le_of_ble_eq_true rfl) c1 (Ci.mono h (fun x9 s6 h => ?_))
                refine K_if_ne (tgt := 172) (kdA dt_MX4_unit 86 rfl) rfl (fun c => ?_) (fun c => ?_)
                · have h := h.1 c
                  refine K_aload_n 0 (kdA dt_MX4_unit 89 rfl) rfl rfl ?_
                  refine gf4_12 rfl (kdA dt_MX4_unit 90 rfl) c1 ?_
                  refine K_sipush (kdA dt_MX4_unit 91 rfl) (by decide +kernel) ?_
                  refine K_iload_n 3 (kdA dt_MX4_unit 92 rfl) rfl rfl ?_
                  obtain ⟨c10, h⟩ := h
                  refine K_iadd (kdA dt_MX4_unit 93 rfl) c10 ?_
                  obtain ⟨c11, h⟩ := h
                  refine K_cVv (c := 3) (as := [(0, (20000 + x6))]) (st := []) (kdA dt_MX4_unit 94 rfl) rfl cl_MX3_add lk4_56 rfl rfl (Nat.le_of_ble_eq_true rfl) c11 (Cv.mono h (fun s7 h => ?_))
                  refine K_iconst (kdA dt_MX4_unit 95 rfl) (by decide) ?_
                  exact K_zreturn (kdA dt_MX4_unit 96 rfl) rfl (Or.inr rfl) ⟨rfl, _, rfl, h⟩
                · have h := h.2 c
                  refine K_iconst (kdA dt_MX4_unit 87 rfl) (by decide) ?_
                  exact K_zreturn (kdA dt_MX4_unit 88 rfl) rfl (Or.inl rfl) ⟨rfl, _, rfl, h⟩
          · have h := h.2 c
            refine K_iconst (kdA dt_MX4_unit 68 rfl) (by decide) ?_
            exact K_zreturn (kdA dt_MX4_unit 69 rfl) rfl (Or.inl rfl) ⟨rfl, _, rfl, h⟩
      · have h := h.2 c
        refine K_iload_n 1 (kdA dt_MX4_unit 40 rfl) rfl rfl ?_
        refine K_bipush (kdA dt_MX4_unit 41 rfl) (by decide +kernel) ?_
        refine K_icmp_ge (tgt := 119) (kdA dt_MX4_unit 42 rfl) rfl (fun c => ?_) (fun c => ?_)
        · have h := h.1 c
          refine K_iconst (kdA dt_MX4_unit 60 rfl) (by decide) ?_
          exact K_zreturn (kdA dt_MX4_unit 61 rfl) rfl (Or.inl rfl) ⟨rfl, _, rfl, h⟩
        · have h := h.2 c
          refine K_aload_n 0 (kdA dt_MX4_unit 43 rfl) rfl rfl ?_
          refine K_bipush (kdA dt_MX4_unit 44 rfl) (by decide +kernel) ?_
          refine K_cVi (c := 4) (as := [(0, 40)]) (st := []) (kdA dt_MX4_unit 45 rfl) rfl cl_MX4_takes lk4_42 rfl rfl (Nat.le_of_ble_eq_true rfl) c1 (Ci.mono h (fun x4 s2 h => ?_))
          refine K_if_eq (tgt := 119) (kdA dt_MX4_unit 46 rfl) rfl (fun c => ?_) (fun c => ?_)
          · have h := h.1 c
            refine K_iconst (kdA dt_MX4_unit 60 rfl) (by decide) ?_
            exact K_zreturn (kdA dt_MX4_unit 61 rfl) rfl (Or.inl rfl) ⟨rfl, _, rfl, h⟩
          · have h := h.2 c
            refine K_aload_n 0 (kdA dt_MX4_unit 47 rfl) rfl rfl ?_
            refine K_iload_n 1 (kdA dt_MX4_unit 48 rfl) rfl rfl ?_
            refine K_iconst (kdA dt_MX4_unit 49 rfl) (by decide) ?_
            obtain ⟨c5, h⟩ := h
            refine K_iadd (kdA dt_MX4_unit 50 rfl) c5 ?_
            refine K_iconst (kdA dt_MX4_unit 51 rfl) (by decide) ?_
            refine K_cVi (c := 4) (as := [(0, (a1 + 1)), (0, 0)]) (st := []) (kdA dt_MX4_unit 52 rfl) rfl cl_MX4_condition lk4_59 rfl rfl (Nat.le_of_ble_eq_true rfl) c1 (Ci.mono h (fun x6 s3 h => ?_))
            refine K_if_eq (tgt := 119) (kdA dt_MX4_unit 53 rfl) rfl (fun c => ?_) (fun c => ?_)
            · have h := h.1 c
              refine K_iconst (kdA dt_MX4_unit 60 rfl) (by decide) ?_
              exact K_zreturn (kdA dt_MX4_unit 61 rfl) rfl (Or.inl rfl) ⟨rfl, _, rfl, h⟩
            · have h := h.2 c
              refine K_aload_n 0 (kdA dt_MX4_unit 54 rfl) rfl rfl ?_
              refine K_bipush (kdA dt_MX4_unit 55 rfl) (by decide +kernel) ?_
              refine K_cVi (c := 4) (as := [(0, 41)]) (st := []) (kdA dt_MX4_unit 56 rfl) rfl cl_MX4_takes lk4_42 rfl rfl (Nat.le_of_ble_eq_true rfl) c1 (Ci.mono h (fun x7 s4 h => ?_))
              refine K_if_eq (tgt := 119) (kdA dt_MX4_unit 57 rfl) rfl (fun c => ?_) (fun c => ?_)
              · have h := h.1 c
                refine K_iconst (kdA dt_MX4_unit 60 rfl) (by decide) ?_
                exact K_zreturn (kdA dt_MX4_unit 61 rfl) rfl (Or.inl rfl) ⟨rfl, _, rfl, h⟩
              · have h := h.2 c
                refine K_iconst (kdA dt_MX4_unit 58 rfl) (by decide) ?_
                refine K_goto (tgt := 120) (kdA dt_MX4_unit 59 rfl) rfl ?_
                exact K_zreturn (kdA dt_MX4_unit 61 rfl) rfl (Or.inr rfl) ⟨rfl, _, rfl, h⟩
  · have h := h.2 c
    refine K_aload_n 0 (kdA dt_MX4_unit 2 rfl) rfl rfl ?_
    obtain ⟨c1, h⟩ := h
    refine gf4_23 rfl (kdA dt_MX4_unit 3 rfl) c1 ?_
    refine K_aload_n 0 (kdA dt_MX4_unit 4 rfl) rfl rfl ?_
    refine gf4_27 rfl (kdA dt_MX4_unit 5 rfl) c1 ?_
    obtain ⟨c2, h⟩ := h
    refine K_cVi (c := 8) (as := [(0, (σ a0 2))]) (st := []) (kdA dt_MX4_unit 6 rfl) rfl cl_MX8_at lk4_46 rfl rfl (Nat.le_of_ble_eq_true rfl) c2 (Ci.mono h (fun x3 s1 h => ?_))
    refine K_bipush (kdA dt_MX4_unit 7 rfl) (by decide +kernel) ?_
    refine K_icmp_ne (tgt := 60) (kdA dt_MX4_unit 8 rfl) rfl (fun c => ?_) (fun c => ?_)
    · have h := h.1 c
      refine K_iload_n 2 (kdA dt_MX4_unit 31 rfl) rfl rfl ?_
      refine K_if_ne (tgt := 121) (kdA dt_MX4_unit 32 rfl) rfl (fun c => ?_) (fun c => ?_)
      · have h := h.1 c
        refine K_iload_n 2 (kdA dt_MX4_unit 62 rfl) rfl rfl ?_
        refine K_if_ne (tgt := 135) (kdA dt_MX4_unit 63 rfl) rfl (fun c => ?_) (fun c => ?_)
        · have h := h.1 c
          refine K_aload_n 0 (kdA dt_MX4_unit 70 rfl) rfl rfl ?_
          refine gf4_23 rfl (kdA dt_MX4_unit 71 rfl) c1 ?_
          refine K_aload_n 0 (kdA dt_MX4_unit 72 rfl) rfl rfl ?_
          refine gf4_27 rfl (kdA dt_MX4_unit 73 rfl) c1 ?_
          obtain ⟨c4, h⟩ := h
          refine K_cVi (c := 8) (as := [(0, (s1 a0 2))]) (st := []) (kdA dt_MX4_unit 74 rfl) rfl cl_MX8_at lk4_46 rfl rfl (Nat.le_of_ble_eq_true rfl) c4 (Ci.mono h (fun x5 s2 h => ?_))
          refine K_istore_n (ls' := [(0, (2, a0)), (1, (0, a1)), (2, (0, a2)), (3, (0, x5))]) (kdA dt_MX4_unit 75 rfl) rfl (by decide) rfl ?_
          refine K_iload_n 3 (kdA dt_MX4_unit 76 rfl) rfl rfl ?_
          refine K_cSi (as := [(0, x5)]) (st := []) (kdA dt_MX4_unit 77 rfl) cl_MX4_isComparison lk4_52 rfl rfl (Nat.le_of_ble_eq_true rfl) (Ci.mono h (fun x6 s3 h => ?_))
          refine K_if_eq (tgt := 170) (kdA dt_MX4_unit 78 rfl) rfl (fun c => ?_) (fun c => ?_)
          · have h := h.1 c
            refine K_iconst (kdA dt_MX4_unit 87 rfl) (by decide) ?_
            exact K_zreturn (kdA dt_MX4_unit 88 rfl) rfl (Or.inl rfl) ⟨rfl, _, rfl, h⟩
          · have h := h.2 c
            refine K_aload_n 0 (kdA dt_MX4_unit 79 rfl) rfl rfl ?_
            refine K_iload_n 3 (kdA dt_MX4_unit 80 rfl) rfl rfl ?_
            refine K_cVi (c := 4) (as := [(0, x5)]) (st := []) (kdA dt_MX4_unit 81 rfl) rfl cl_MX4_takes lk4_42 rfl rfl (Nat.le_of_ble_eq_true rfl) c1 (Ci.mono h (fun x7 s4 h => ?_))
            refine K_if_eq (tgt := 170) (kdA dt_MX4_unit 82 rfl) rfl (fun c => ?_) (fun c => ?_)
            · have h := h.1 c
              refine K_iconst (kdA dt_MX4_unit 87 rfl) (by decide) ?_
              exact K_zreturn (kdA dt_MX4_unit 88 rfl) rfl (Or.inl rfl) ⟨rfl, _, rfl, h⟩
            · have h := h.2 c
              refine K_aload_n 0 (kdA dt_MX4_unit 83 rfl) rfl rfl ?_
              refine K_iload_n 1 (kdA dt_MX4_unit 84 rfl) rfl rfl ?_
              refine K_cVi (c := 4) (as := [(0, a1)]) (st := []) (kdA dt_MX4_unit 85 rfl) rfl cl_MX4_sum lk4_49 rfl rfl (Nat.le_of_ble_eq_true rfl) c1 (Ci.mono h (fun x8 s5 h => ?_))
              refine K_if_ne (tgt := 172) (kdA dt_MX4_unit 86 rfl) rfl (fun c => ?_) (fun c => ?_)
              · have h := h.1 c
                refine K_aload_n 0 (kdA dt_MX4_unit 89 rfl) rfl rfl ?_
                refine gf4_12 rfl (kdA dt_MX4_unit 90 rfl) c1 ?_
                refine K_sipush (kdA dt_MX4_unit 91 rfl) (by decide +kernel) ?_
                refine K_iload_n 3 (kdA dt_MX4_unit 92 rfl) rfl rfl ?_
                obtain ⟨c9, h⟩ := h
                refine K_iadd (kdA dt_MX4_unit 93 rfl) c9 ?_
                obtain ⟨c10, h⟩ := h
                refine K_cVv (c := 3) (as := [(0, (20000 + x5))]) (st := []) (kdA dt_MX4_unit 94 rfl) rfl cl_MX3_add lk4_56 rfl rfl (Nat.le_of_ble_eq_true rfl) c10 (Cv.mono h (fun s6 h => ?_))
                refine K_iconst (kdA dt_MX4_unit 95 rfl) (by decide) ?_
                exact K_zreturn (kdA dt_MX4_unit 96 rfl) rfl (Or.inr rfl) ⟨rfl, _, rfl, h⟩
              · have h := h.2 c
                refine K_iconst (kdA dt_MX4_unit 87 rfl) (by decide) ?_
                exact K_zreturn (kdA dt_MX4_unit 88 rfl) rfl (Or.inl rfl) ⟨rfl, _, rfl, h⟩
        · have h := h.2 c
          refine K_aload_n 0 (kdA dt_MX4_unit 64 rfl) rfl rfl ?_
          refine K_iload_n 1 (kdA dt_MX4_unit 65 rfl) rfl rfl ?_
          refine K_cVi (c := 4) (as := [(0, a1)]) (st := []) (kdA dt_MX4_unit 66 rfl) rfl cl_MX4_sum lk4_49 rfl rfl (Nat.le_of_ble_eq_true rfl) c1 (Ci.mono h (fun x4 s2 h => ?_))
          refine K_if_ne (tgt := 135) (kdA dt_MX4_unit 67 rfl) rfl (fun c => ?_) (fun c => ?_)
          · have h := h.1 c
            refine K_aload_n 0 (kdA dt_MX4_unit 70 rfl) rfl rfl ?_
            refine gf4_23 rfl (kdA dt_MX4_unit 71 rfl) c1 ?_
            refine K_aload_n 0 (kdA dt_MX4_unit 72 rfl) rfl rfl ?_
            refine gf4_27 rfl (kdA dt_MX4_unit 73 rfl) c1 ?_
            obtain ⟨c5, h⟩ := h
            refine K_cVi (c := 8) (as := [(0, (s2 a0 2))]) (st := []) (kdA dt_MX4_unit 74 rfl) rfl cl_MX8_at lk4_46 rfl rfl (Nat.le_of_ble_eq_true rfl) c5 (Ci.mono h (fun x6 s3 h => ?_))
            refine K_istore_n (ls' := [(0, (2, a0)), (1, (0, a1)), (2, (0, a2)), (3, (0, x6))]) (kdA dt_MX4_unit 75 rfl) rfl (by decide) rfl ?_
            refine K_iload_n 3 (kdA dt_MX4_unit 76 rfl) rfl rfl ?_
            refine K_cSi (as := [(0, x6)]) (st := []) (kdA dt_MX4_unit 77 rfl) cl_MX4_isComparison lk4_52 rfl rfl (Nat.le_of_ble_eq_true rfl) (Ci.mono h (fun x7 s4 h => ?_))
            refine K_if_eq (tgt := 170) (kdA dt_MX4_unit 78 rfl) rfl (fun c => ?_) (fun c => ?_)
            · have h := h.1 c
              refine K_iconst (kdA dt_MX4_unit 87 rfl) (by decide) ?_
              exact K_zreturn (kdA dt_MX4_unit 88 rfl) rfl (Or.inl rfl) ⟨rfl, _, rfl, h⟩
            · have h := h.2 c
              refine K_aload_n 0 (kdA dt_MX4_unit 79 rfl) rfl rfl ?_
              refine K_iload_n 3 (kdA dt_MX4_unit 80 rfl) rfl rfl ?_
              refine K_cVi (c := 4) (as := [(0, x6)]) (st := []) (kdA dt_MX4_unit 81 rfl) rfl cl_MX4_takes lk4_42 rfl rfl (Nat.le_of_ble_eq_true rfl) c1 (Ci.mono h (fun x8 s5 h => ?_))
              refine K_if_eq (tgt := 170) (kdA dt_MX4_unit 82 rfl) rfl (fun c => ?_) (fun c => ?_)
              · have h := h.1 c
                refine K_iconst (kdA dt_MX4_unit 87 rfl) (by decide) ?_
                exact K_zreturn (kdA dt_MX4_unit 88 rfl) rfl (Or.inl rfl) ⟨rfl, _, rfl, h⟩
              · have h := h.2 c
                refine K_aload_n 0 (kdA dt_MX4_unit 83 rfl) rfl rfl ?_
                refine K_iload_n 1 (kdA dt_MX4_unit 84 rfl) rfl rfl ?_
                refine K_cVi (c := 4) (as := [(0, a1)]) (st := []) (kdA dt_MX4_unit 85 rfl) rfl cl_MX4_sum lk4_49 rfl rfl (Nat.le_of_ble_eq_true rfl) c1 (Ci.mono h (fun x9 s6 h => ?_))
                refine K_if_ne (tgt := 172) (kdA dt_MX4_unit 86 rfl) rfl (fun c => ?_) (fun c => ?_)
                · have h := h.1 c
                  refine K_aload_n 0 (kdA dt_MX4_unit 89 rfl) rfl rfl ?_
                  refine gf4_12 rfl (kdA dt_MX4_unit 90 rfl) c1 ?_
                  refine K_sipush (kdA dt_MX4_unit 91 rfl) (by decide +kernel) ?_
                  refine K_iload_n 3 (kdA dt_MX4_unit 92 rfl) rfl rfl ?_
                  obtain ⟨c10, h⟩ := h
                  refine K_iadd (kdA dt_MX4_unit 93 rfl) c10 ?_
                  obtain ⟨c11, h⟩ := h
                  refine K_cVv (c := 3) (as := [(0, (20000 + x6))]) (st := []) (kdA dt_MX4_unit 94 rfl) rfl cl_MX3_add lk4_56 rfl rfl (Nat.le_of_ble_eq_true rfl) c11 (Cv.mono h (fun s7 h => ?_))
                  refine K_iconst (kdA dt_MX4_unit 95 rfl) (by decide) ?_
                  exact K_zreturn (kdA dt_MX4_unit 96 rfl) rfl (Or.inr rfl) ⟨rfl, _, rfl, h⟩
                · have h := h.2 c
                  refine K_iconst (kdA dt_MX4_unit 87 rfl) (by decide) ?_
                  exact K_zreturn (kdA dt_MX4_unit 88 rfl) rfl (Or.inl rfl) ⟨rfl, _, rfl, h⟩
          · have h := h.2 c
            refine K_iconst (kdA dt_MX4_unit 68 rfl) (by decide) ?_
            exact K_zreturn (kdA dt_MX4_unit 69 rfl) rfl (Or.inl rfl) ⟨rfl, _, rfl, h⟩
      · have h := h.2 c
        refine K_aload_n 0 (kdA dt_MX4_unit 33 rfl) rfl rfl ?_
        refine gf4_23 rfl (kdA dt_MX4_unit 34 rfl) c1 ?_
        refine K_aload_n 0 (kdA dt_MX4_unit 35 rfl) rfl rfl ?_
        refine gf4_27 rfl (kdA dt_MX4_unit 36 rfl) c1 ?_
        obtain ⟨c4, h⟩ := h
        refine K_cVi (c := 8) (as := [(0, (s1 a0 2))]) (st := []) (kdA dt_MX4_unit 37 rfl) rfl cl_MX8_at lk4_46 rfl rfl (Nat.le_of_ble_eq_true rfl) c4 (Ci.mono h (fun x5 s2 h => ?_))
        refine K_bipush (kdA dt_MX4_unit 38 rfl) (by decide +kernel) ?_
        refine K_icmp_ne (tgt := 121) (kdA dt_MX4_unit 39 rfl) rfl (fun c => ?_) (fun c => ?_)
        · have h := h.1 c
          refine K_iload_n 2 (kdA dt_MX4_unit 62 rfl) rfl rfl ?_
          refine K_if_ne (tgt := 135) (kdA dt_MX4_unit 63 rfl) rfl (fun c => ?_) (fun c => ?_)
          · have h := h.1 c
            refine K_aload_n 0 (kdA dt_MX4_unit 70 rfl) rfl rfl ?_
            refine gf4_23 rfl (kdA dt_MX4_unit 71 rfl) c1 ?_
            refine K_aload_n 0 (kdA dt_MX4_unit 72 rfl) rfl rfl ?_
            refine gf4_27 rfl (kdA dt_MX4_unit 73 rfl) c1 ?_
            obtain ⟨c6, h⟩ := h
            refine K_cVi (c := 8) (as := [(0, (s2 a0 2))]) (st := []) (kdA dt_MX4_unit 74 rfl) rfl cl_MX8_at lk4_46 rfl rfl (Nat.le_of_ble_eq_true rfl) c6 (Ci.mono h (fun x7 s3 h => ?_))
            refine K_istore_n (ls' := [(0, (2, a0)), (1, (0, a1)), (2, (0, a2)), (3, (0, x7))]) (kdA dt_MX4_unit 75 rfl) rfl (by decide) rfl ?_
            refine K_iload_n 3 (kdA dt_MX4_unit 76 rfl) rfl rfl ?_
            refine K_cSi (as := [(0, x7)]) (st := []) (kdA dt_MX4_unit 77 rfl) cl_MX4_isComparison lk4_52 rfl rfl (Nat.le_of_ble_eq_true rfl) (Ci.mono h (fun x8 s4 h => ?_))
            refine K_if_eq (tgt := 170) (kdA dt_MX4_unit 78 rfl) rfl (fun c => ?_) (fun c => ?_)
            · have h := h.1 c
              refine K_iconst (kdA dt_MX4_unit 87 rfl) (by decide) ?_
              exact K_zreturn (kdA dt_MX4_unit 88 rfl) rfl (Or.inl rfl) ⟨rfl, _, rfl, h⟩
            · have h := h.2 c
              refine K_aload_n 0 (kdA dt_MX4_unit 79 rfl) rfl rfl ?_
              refine K_iload_n 3 (kdA dt_MX4_unit 80 rfl) rfl rfl ?_
              refine K_cVi (c := 4) (as := [(0, x7)]) (st := []) (kdA dt_MX4_unit 81 rfl) rfl cl_MX4_takes lk4_42 rfl rfl (Nat.le_of_ble_eq_true rfl) c1 (Ci.mono h (fun x9 s5 h => ?_))
              refine K_if_eq (tgt := 170) (kdA dt_MX4_unit 82 rfl) rfl (fun c => ?_) (fun c => ?_)
              · have h := h.1 c
                refine K_iconst (kdA dt_MX4_unit 87 rfl) (by decide) ?_
                exact K_zreturn (kdA dt_MX4_unit 88 rfl) rfl (Or.inl rfl) ⟨rfl, _, rfl, h⟩
              · have h := h.2 c
                refine K_aload_n 0 (kdA dt_MX4_unit 83 rfl) rfl rfl ?_
                refine K_iload_n 1 (kdA dt_MX4_unit 84 rfl) rfl rfl ?_
                refine K_cVi (c := 4) (as := [(0, a1)]) (st := []) (kdA dt_MX4_unit 85 rfl) rfl cl_MX4_sum lk4_49 rfl rfl (Nat.le_of_ble_eq_true rfl) c1 (Ci.mono h (fun x10 s6 h => ?_))
                refine K_if_ne (tgt := 172) (kdA dt_MX4_unit 86 rfl) rfl (fun c => ?_) (fun c => ?_)
                · have h := h.1 c
                  refine K_aload_n 0 (kdA dt_MX4_unit 89 rfl) rfl rfl ?_
                  refine gf4_12 rfl (kdA dt_MX4_unit 90 rfl) c1 ?_
                  refine K_sipush (kdA dt_MX4_unit 91 rfl) (by decide +kernel) ?_
                  refine K_iload_n 3 (kdA dt_MX4_unit 92 rfl) rfl rfl ?_
                  obtain ⟨c11, h⟩ := h
                  refine K_iadd (kdA dt_MX4_unit 93 rfl) c11 ?_
                  obtain ⟨c12, h⟩ := h
                  refine K_cVv (c := 3) (as := [(0, (20000 + x7))]) (st := []) (kdA dt_MX4_unit 94 rfl) rfl cl_MX3_add lk4_56 rfl rfl (Nat.le_of_ble_eq_true rfl) c12 (Cv.mono h (fun s7 h => ?_))
                  refine K_iconst (kdA dt_MX4_unit 95 rfl) (by decide) ?_
                  exact K_zreturn (kdA dt_MX4_unit 96 rfl) rfl (Or.inr rfl) ⟨rfl, _, rfl, h⟩
                · have h := h.2 c
                  refine K_iconst (kdA dt_MX4_unit 87 rfl) (by decide) ?_
                  exact K_zreturn (kdA dt_MX4_unit 88 rfl) rfl (Or.inl rfl) ⟨rfl, _, rfl, h⟩
          · have h := h.2 c
            refine K_aload_n 0 (kdA dt_MX4_unit 64 rfl) rfl rfl ?_
            refine K_iload_n 1 (kdA dt_MX4_unit 65 rfl) rfl rfl ?_
            refine K_cVi (c := 4) (as := [(0, a1)]) (st := []) (kdA dt_MX4_unit 66 rfl) rfl cl_MX4_sum lk4_49 rfl rfl (Nat.le_of_ble_eq_true rfl) c1 (Ci.mono h (fun x6 s3 h => ?_))
            refine K_if_ne (tgt := 135) (kdA dt_MX4_unit 67 rfl) rfl (fun c => ?_) (fun c => ?_)
            · have h := h.1 c
              refine K_aload_n 0 (kdA dt_MX4_unit 70 rfl) rfl rfl ?_
              refine gf4_23 rfl (kdA dt_MX4_unit 71 rfl) c1 ?_
              refine K_aload_n 0 (kdA dt_MX4_unit 72 rfl) rfl rfl ?_
              refine gf4_27 rfl (kdA dt_MX4_unit 73 rfl) c1 ?_
              obtain ⟨c7, h⟩ := h
              refine K_cVi (c := 8) (as := [(0, (s3 a0 2))]) (st := []) (kdA dt_MX4_unit 74 rfl) rfl cl_MX8_at lk4_46 rfl rfl (Nat.le_of_ble_eq_true rfl) c7 (Ci.mono h (fun x8 s4 h => ?_))
              refine K_istore_n (ls' := [(0, (2, a0)), (1, (0, a1)), (2, (0, a2)), (3, (0, x8))]) (kdA dt_MX4_unit 75 rfl) rfl (by decide) rfl ?_
              refine K_iload_n 3 (kdA dt_MX4_unit 76 rfl) rfl rfl ?_
              refine K_cSi (as := [(0, x8)]) (st := []) (kdA dt_MX4_unit 77 rfl) cl_MX4_isComparison lk4_52 rfl rfl (Nat.le_of_ble_eq_true rfl) (Ci.mono h (fun x9 s5 h => ?_))
              refine K_if_eq (tgt := 170) (kdA dt_MX4_unit 78 rfl) rfl (fun c => ?_) (fun c => ?_)
              · have h := h.1 c
                refine K_iconst (kdA dt_MX4_unit 87 rfl) (by decide) ?_
                exact K_zreturn (kdA dt_MX4_unit 88 rfl) rfl (Or.inl rfl) ⟨rfl, _, rfl, h⟩
              · have h := h.2 c
                refine K_aload_n 0 (kdA dt_MX4_unit 79 rfl) rfl rfl ?_
                refine K_iload_n 3 (kdA dt_MX4_unit 80 rfl) rfl rfl ?_
                refine K_cVi (c := 4) (as := [(0, x8)]) (st := []) (kdA dt_MX4_unit 81 rfl) rfl cl_MX4_takes lk4_42 rfl rfl (Nat.le_of_ble_eq_true rfl) c1 (Ci.mono h (fun x10 s6 h => ?_))
                refine K_if_eq (tgt := 170) (kdA dt_MX4_unit 82 rfl) rfl (fun c => ?_) (fun c => ?_)
                · have h := h.1 c
                  refine K_iconst (kdA dt_MX4_unit 87 rfl) (by decide) ?_
                  exact K_zreturn (kdA dt_MX4_unit 88 rfl) rfl (Or.inl rfl) ⟨rfl, _, rfl, h⟩
                · have h := h.2 c
                  refine K_aload_n 0 (kdA dt_MX4_unit 83 rfl) rfl rfl ?_
                  refine K_iload_n 1 (kdA dt_MX4_unit 84 rfl) rfl rfl ?_
                  refine K_cVi (c := 4) (as := [(0, a1)]) (st := []) (kdA dt_MX4_unit 85 rfl) rfl cl_MX4_sum lk4_49 rfl rfl (Nat.le_of_ble_eq_true rfl) c1 (Ci.mono h (fun x11 s7 h => ?_))
                  refine K_if_ne (tgt := 172) (kdA dt_MX4_unit 86 rfl) rfl (fun c => ?_) (fun c => ?_)
                  · have h := h.1 c
                    refine K_aload_n 0 (kdA dt_MX4_unit 89 rfl) rfl rfl ?_
                    refine gf4_12 rfl (kdA dt_MX4_unit 90 rfl) c1 ?_
                    refine K_sipush (kdA dt_MX4_unit 91 rfl) (by decide +kernel) ?_
                    refine K_iload_n 3 (kdA dt_MX4_unit 92 rfl) rfl rfl ?_
                    obtain ⟨c12, h⟩ := h
                    refine K_iadd (kdA dt_MX4_unit 93 rfl) c12 ?_
                    obtain ⟨c13, h⟩ := h
                    refine K_cVv (c := 3) (as := [(0, (20000 + x8))]) (st := []) (kdA dt_MX4_unit 94 rfl) rfl cl_MX3_add lk4_56 rfl rfl (Nat.le_of_ble_eq_true rfl) c13 (Cv.mono h (fun s8 h => ?_))
                    refine K_iconst (kdA dt_MX4_unit 95 rfl) (by decide) ?_
                    exact K_zreturn (kdA dt_MX4_unit 96 rfl) rfl (Or.inr rfl) ⟨rfl, _, rfl, h⟩
                  · have h := h.2 c
                    refine K_iconst (kdA dt_MX4_unit 87 rfl) (by decide) ?_
                    exact K_zreturn (kdA dt_MX4_unit 88 rfl) rfl (Or.inl rfl) ⟨rfl, _, rfl, h⟩
            · have h := h.2 c
              refine K_iconst (kdA dt_MX4_unit 68 rfl) (by decide) ?_
              exact K_zreturn (kdA dt_MX4_unit 69 rfl) rfl (Or.inl rfl) ⟨rfl, _, rfl, h⟩
        · have h := h.2 c
          refine K_iload_n 1 (kdA dt_MX4_unit 40 rfl) rfl rfl ?_
          refine K_bipush (kdA dt_MX4_unit 41 rfl) (by decide +kernel) ?_
          refine K_icmp_ge (tgt := 119) (kdA dt_MX4_unit 42 rfl) rfl (fun c => ?_) (fun c => ?_)
          · have h := h.1 c
            refine K_iconst (kdA dt_MX4_unit 60 rfl) (by decide) ?_
            exact K_zreturn (kdA dt_MX4_unit 61 rfl) rfl (Or.inl rfl) ⟨rfl, _, rfl, h⟩
          · have h := h.2 c
            refine K_aload_n 0 (kdA dt_MX4_unit 43 rfl) rfl rfl ?_
            refine K_bipush (kdA dt_MX4_unit 44 rfl) (by decide +kernel) ?_
            refine K_cVi (c := 4) (as := [(0, 40)]) (st := []) (kdA dt_MX4_unit 45 rfl) rfl cl_MX4_takes lk4_42 rfl rfl (Nat.le_of_ble_eq_true rfl) c1 (Ci.mono h (fun x6 s3 h => ?_))
            refine K_if_eq (tgt := 119) (kdA dt_MX4_unit 46 rfl) rfl (fun c => ?_) (fun c => ?_)
            · have h := h.1 c
              refine K_iconst (kdA dt_MX4_unit 60 rfl) (by decide) ?_
              exact K_zreturn (kdA dt_MX4_unit 61 rfl) rfl (Or.inl rfl) ⟨rfl, _, rfl, h⟩
            · have h := h.2 c
              refine K_aload_n 0 (kdA dt_MX4_unit 47 rfl) rfl rfl ?_
              refine K_iload_n 1 (kdA dt_MX4_unit 48 rfl) rfl rfl ?_
              refine K_iconst (kdA dt_MX4_unit 49 rfl) (by decide) ?_
              obtain ⟨c7, h⟩ := h
              refine K_iadd (kdA dt_MX4_unit 50 rfl) c7 ?_
              refine K_iconst (kdA dt_MX4_unit 51 rfl) (by decide) ?_
              refine K_cVi (c := 4) (as := [(0, (a1 + 1)), (0, 0)]) (st := []) (kdA dt_MX4_unit 52 rfl) rfl cl_MX4_condition lk4_59 rfl rfl (Nat.le_of_ble_eq_true rfl) c1 (Ci.mono h (fun x8 s4 h => ?_))
              refine K_if_eq (tgt := 119) (kdA dt_MX4_unit 53 rfl) rfl (fun c => ?_) (fun c => ?_)
              · have h := h.1 c
                refine K_iconst (kdA dt_MX4_unit 60 rfl) (by decide) ?_
                exact K_zreturn (kdA dt_MX4_unit 61 rfl) rfl (Or.inl rfl) ⟨rfl, _, rfl, h⟩
              · have h := h.2 c
                refine K_aload_n 0 (kdA dt_MX4_unit 54 rfl) rfl rfl ?_
                refine K_bipush (kdA dt_MX4_unit 55 rfl) (by decide +kernel) ?_
                refine K_cVi (c := 4) (as := [(0, 41)]) (st := []) (kdA dt_MX4_unit 56 rfl) rfl cl_MX4_takes lk4_42 rfl rfl (Nat.le_of_ble_eq_true rfl) c1 (Ci.mono h (fun x9 s5 h => ?_))
                refine K_if_eq (tgt := 119) (kdA dt_MX4_unit 57 rfl) rfl (fun c => ?_) (fun c => ?_)
                · have h := h.1 c
                  refine K_iconst (kdA dt_MX4_unit 60 rfl) (by decide) ?_
                  exact K_zreturn (kdA dt_MX4_unit 61 rfl) rfl (Or.inl rfl) ⟨rfl, _, rfl, h⟩
                · have h := h.2 c
                  refine K_iconst (kdA dt_MX4_unit 58 rfl) (by decide) ?_
                  refine K_goto (tgt := 120) (kdA dt_MX4_unit 59 rfl) rfl ?_
                  exact K_zreturn (kdA dt_MX4_unit 61 rfl) rfl (Or.inr rfl) ⟨rfl, _, rfl, h⟩
    · have h := h.2 c
      refine K_iload_n 1 (kdA dt_MX4_unit 9 rfl) rfl rfl ?_
      refine K_bipush (kdA dt_MX4_unit 10 rfl) (by decide +kernel) ?_
      refine K_icmp_ge (tgt := 46) (kdA dt_MX4_unit 11 rfl) rfl (fun c => ?_) (fun c => ?_)
      · have h := h.1 c
        refine K_iconst (kdA dt_MX4_unit 23 rfl) (by decide) ?_
        exact K_zreturn (kdA dt_MX4_unit 24 rfl) rfl (Or.inl rfl) ⟨rfl, _, rfl, h⟩
      · have h := h.2 c
        refine K_aload_n 0 (kdA dt_MX4_unit 12 rfl) rfl rfl ?_
        refine K_bipush (kdA dt_MX4_unit 13 rfl) (by decide +kernel) ?_
        refine K_cVi (c := 4) (as := [(0, 33)]) (st := []) (kdA dt_MX4_unit 14 rfl) rfl cl_MX4_takes lk4_42 rfl rfl (Nat.le_of_ble_eq_true rfl) c1 (Ci.mono h (fun x4 s2 h => ?_))
        refine K_if_eq (tgt := 46) (kdA dt_MX4_unit 15 rfl) rfl (fun c => ?_) (fun c => ?_)
        · have h := h.1 c
          refine K_iconst (kdA dt_MX4_unit 23 rfl) (by decide) ?_
          exact K_zreturn (kdA dt_MX4_unit 24 rfl) rfl (Or.inl rfl) ⟨rfl, _, rfl, h⟩
        · have h := h.2 c
          refine K_aload_n 0 (kdA dt_MX4_unit 16 rfl) rfl rfl ?_
          refine K_iload_n 1 (kdA dt_MX4_unit 17 rfl) rfl rfl ?_
          refine K_iconst (kdA dt_MX4_unit 18 rfl) (by decide) ?_
          obtain ⟨c5, h⟩ := h
          refine K_iadd (kdA dt_MX4_unit 19 rfl) c5 ?_
          refine K_iconst (kdA dt_MX4_unit 20 rfl) (by decide) ?_
          refine K_cVi (c := 4) (as := [(0, (a1 + 1)), (0, 0)]) (st := []) (kdA dt_MX4_unit 21 rfl) rfl cl_MX4_unit lk4_69 rfl rfl (Nat.le_of_ble_eq_true rfl) c1 (Ci.mono h (fun x6 s3 h => ?_))
          refine K_if_ne (tgt := 48) (kdA dt_MX4_unit 22 rfl) rfl (fun c => ?_) (fun c => ?_)
          · have h := h.1 c
            refine K_aload_n 0 (kdA dt_MX4_unit 25 rfl) rfl rfl ?_
            refine gf4_12 rfl (kdA dt_MX4_unit 26 rfl) c1 ?_
            refine K_sipush (kdA dt_MX4_unit 27 rfl) (by decide +kernel) ?_
            obtain ⟨c7, h⟩ := h
            refine K_cVv (c := 3) (as := [(0, 20033)]) (st := []) (kdA dt_MX4_unit 28 rfl) rfl cl_MX3_add lk4_56 rfl rfl (Nat.le_of_ble_eq_true rfl) c7 (Cv.mono h (fun s4 h => ?_))
            refine K_iconst (kdA dt_MX4_unit 29 rfl) (by decide) ?_
            exact K_zreturn (kdA dt_MX4_unit 30 rfl) rfl (Or.inr rfl) ⟨rfl, _, rfl, h⟩
          · have h := h.2 c
            refine K_iconst (kdA dt_MX4_unit 23 rfl) (by decide) ?_
            exact K_zreturn (kdA dt_MX4_unit 24 rfl) rfl (Or.inl rfl) ⟨rfl, _, rfl, h⟩
theorem EX4_unit {d n : Nat} {Q : Int → kS → Prop} {a0 a1 a2 : Int} {σ : kS} (h : (-2147483648 ≤ a1 ∧ a1 ≤ 2147483647) → (-2147483648 ≤ a2 ∧ a2 ≤ 2147483647) → kokw n σ → LX4_unit_0 d n Q a0 a1 a2 σ) : Ci (d + 1) MX4_unit [(2, a0), (0, a1), (0, a2)] n σ Q := Tri_of (by decide +kernel) (Nat.le_of_ble_eq_true rfl) (fun hk hw => h (hk (0, a1) (List.mem_of_getElem? (i := 1) rfl)) (hk (0, a2) (List.mem_of_getElem? (i := 2) rfl)) hw)

def LX6_begin_0 (d n : Nat) (Q : kS → Prop) (a0 : Int) (a1 : Int) (σ : kS) : Prop := K (d + 1) MX6_begin (kPv n Q) (0, 0) 0 [(0, (2, a0)), (1, (0, a1))] [] n σ
theorem SX6_begin_0 {d n : Nat} {Q : kS → Prop} {a0 a1 : Int} {σ : kS} (h : Ci d MJm_min [(0, a1), (0, 8)] n σ (fun x1 s1 => Ci d MJm_max [(0, 0), (0, x1)] n s1 (fun x2 s2 => isO 6 n a0 ∧ (∀ s3, s3 = kst s2 a0 1 x2 → Q s3)))) : LX6_begin_0 d n Q a0 a1 σ := by
  unfold LX6_begin_0
  refine K_aload_n 0 (kdA dt_MX6_begin 0 rfl) rfl rfl ?_
  refine K_iconst (kdA dt_MX6_begin 1 rfl) (by decide) ?_
  refine K_iload_n 1 (kdA dt_MX6_begin 2 rfl) rfl rfl ?_
  refine K_bipush (kdA dt_MX6_begin 3 rfl) (by decide +kernel) ?_
  refine K_cSi (as := [(0, a1), (0, 8)]) (st := [(0, 0), (2, a0)]) (kdA dt_MX6_begin 4 rfl) cl_MJm_min lk6_16 rfl rfl (Nat.le_of_ble_eq_true rfl) (Ci.mono h (fun x1 s1 h => ?_))
  refine K_cSi (as := [(0, 0), (0, x1)]) (st := [(2, a0)]) (kdA dt_MX6_begin 5 rfl) cl_MJm_max lk6_22 rfl rfl (Nat.le_of_ble_eq_true rfl) (Ci.mono h (fun x2 s2 h => ?_))
  obtain ⟨c3, h⟩ := h
  refine pf6_25 rfl (kdA dt_MX6_begin 6 rfl) c3 (fun s3 es3 => ?_)
  have h := h s3 es3
  exact K_return (kdA dt_MX6_begin 7 rfl) rfl ⟨rfl, rfl, h⟩
theorem EX6_begin {d n : Nat} {Q : kS → Prop} {a0 a1 : Int} {σ : kS} (h : (-2147483648 ≤ a1 ∧ a1 ≤ 2147483647) → kokw n σ → LX6_begin_0 d n Q a0 a1 σ) : Cv (d + 1) MX6_begin [(2, a0), (0, a1)] n σ Q := Tri_of (by decide +kernel) (Nat.le_of_ble_eq_true rfl) (fun hk hw => h (hk (0, a1) (List.mem_of_getElem? (i := 1) rfl)) hw)

def LX6_cost_0 (d n : Nat) (Q : Int → kS → Prop) (a0 : Int) (σ : kS) : Prop := K (d + 1) MX6_cost (kPi n Q) (0, 0) 0 [(0, (2, a0))] [] n σ
def LX6_cost_6 (d n : Nat) (Q : Int → kS → Prop) (a0 : Int) (a1 : Int) (a2 : Int) (a3 : Int) (σ : kS) : Prop := K (d + 1) MX6_cost (kPi n Q) (0, 0) 6 [(0, (2, a0)), (1, (0, a1)), (2, (0, a2)), (3, (0, a3))] [] n σ
def LX6_cost_24 (d n : Nat) (Q : Int → kS → Prop) (a0 : Int) (a1 : Int) (a2 : Int) (a3 : Int) (a4 : Int) (a5 : Int) (a6 : Int) (σ : kS) : Prop := K (d + 1) MX6_cost (kPi n Q) (0, 0) 24 [(0, (2, a0)), (1, (0, a1)), (2, (0, a2)), (3, (0, a3)), (4, (0, a4)), (5, (0, a5)), (6, (0, a6))] [] n σ
theorem SX6_cost_0 {d n : Nat} {Q : Int → kS → Prop} {a0 : Int} {σ : kS} (h : LX6_cost_6 d n Q a0 1 0 1 σ) : LX6_cost_0 d n Q a0 σ := by
  unfold LX6_cost_0
  refine K_iconst (kdA dt_MX6_cost 0 rfl) (by decide) ?_
  refine K_istore_n (ls' := [(0, (2, a0)), (1, (0, 1))]) (kdA dt_MX6_cost 1 rfl) rfl (by decide) rfl ?_
  refine K_iconst (kdA dt_MX6_cost 2 rfl) (by decide) ?_
  refine K_istore_n (ls' := [(0, (2, a0)), (1, (0, 1)), (2, (0, 0))]) (kdA dt_MX6_cost 3 rfl) rfl (by decide) rfl ?_
  refine K_iconst (kdA dt_MX6_cost 4 rfl) (by decide) ?_
  refine K_istore_n (ls' := [(0, (2, a0)), (1, (0, 1)), (2, (0, 0)), (3, (0, 1))]) (kdA dt_MX6_cost 5 rfl) rfl (by decide) rfl ?_
  exact h
theorem SX6_cost_6 {d n : Nat} {Q : Int → kS → Prop} {a0 a1 a2 a3 : Int} {σ : kS} (h : isO 6 n a0 ∧ (((σ a0 1) ≤ a3 → Q a2 σ) ∧ (¬ (σ a0 1) ≤ a3 → LX6_cost_24 d n Q a0 a1 a2 a3 (-1) 1073741824 0 σ))) : LX6_cost_6 d n Q a0 a1 a2 a3 σ := by
  unfold LX6_cost_6
  refine K_iload_n 3 (kdA dt_MX6_cost 6 rfl) rfl rfl ?_
  refine K_aload_n 0 (kdA dt_MX6_cost 7 rfl) rfl rfl ?_
  obtain ⟨c1, h⟩ := h
  refine gf6_25 rfl (kdA dt_MX6_cost 8 rfl) c1 ?_
  refine K_icmp_ge (tgt := 102) (kdA dt_MX6_cost 9 rfl) rfl (fun c => ?_) (fun c => ?_)
  · have h := h.1 c
    refine K_iload_n 2 (kdA dt_MX6_cost 58 rfl) rfl rfl ?_
    exact K_ireturn (kdA dt_MX6_cost 59 rfl) rfl ⟨rfl, _, rfl, h⟩
  · have h := h.2 c
    refine K_iconst (kdA dt_MX6_cost 10 rfl) (by decide) ?_
    refine K_istore (ls' := [(0, (2, a0)), (1, (0, a1)), (2, (0, a2)), (3, (0, a3)), (4, (0, (-1)))]) (kdA dt_MX6_cost 11 rfl) (by decide) rfl ?_
    refine K_ldc (x := 1073741824) (kdA dt_MX6_cost 12 rfl) (tb5 25 rfl rfl) (by decide +kernel) ?_
    refine K_istore (ls' := [(0, (2, a0)), (1, (0, a1)), (2, (0, a2)), (3, (0, a3)), (4, (0, (-1))), (5, (0, 1073741824))]) (kdA dt_MX6_cost 13 rfl) (by decide) rfl ?_
    refine K_iconst (kdA dt_MX6_cost 14 rfl) (by decide) ?_
    refine K_istore (ls' := [(0, (2, a0)), (1, (0, a1)), (2, (0, a2)), (3, (0, a3)), (4, (0, (-1))), (5, (0, 1073741824)), (6, (0, 0))]) (kdA dt_MX6_cost 15 rfl) (by decide) rfl ?_
    exact h
theorem SX6_cost_24 {d n : Nat} {Q : Int → kS → Prop} {a0 a1 a2 a3 a4 a5 a6 : Int} {σ : kS} (h : isO 6 n a0 ∧ (((σ a0 1) ≤ a6 → (a4 = (-1) → (-2147483648 ≤ (a3 + 1) ∧ (a3 + 1) ≤ 2147483647) ∧ (LX6_cost_6 d n Q a0 a1 a2 (a3 + 1) σ)) ∧ (¬ a4 = (-1) → (-2147483648 ≤ (a2 + a5) ∧ (a2 + a5) ≤ 2147483647) ∧ ((-2147483648 ≤ (a3 + 1) ∧ (a3 + 1) ≤ 2147483647) ∧ (LX6_cost_6 d n Q a0 (kor a1 (kishl 1 a4)) (a2 + a5) (a3 + 1) σ)))) ∧ (¬ (σ a0 1) ≤ a6 → (¬ (kand (kishr a1 a6) 1) = 1 → Ci d MX6_costTo [(2, a0), (0, a6), (0, a1)] n σ (fun x2 s1 => (a5 ≤ x2 → (-2147483648 ≤ (a6 + 1) ∧ (a6 + 1) ≤ 2147483647) ∧ (LX6_cost_24 d n Q a0 a1 a2 a3 a4 a5 (a6 + 1) s1)) ∧ (¬ a5 ≤ x2 → (-2147483648 ≤ (a6 + 1) ∧ (a6 + 1) ≤ 2147483647) ∧ (LX6_cost_24 d n Q a0 a1 a2 a3 a6 x2 (a6 + 1) s1)))) ∧ (¬ (¬ (kand (kishr a1 a6) 1) = 1) → (a5 ≤ 1073741824 → (-2147483648 ≤ (a6 + 1) ∧ (a6 + 1) ≤ 2147483647) ∧ (LX6_cost_24 d n Q a0 a1 a2 a3 a4 a5 (a6 + 1) σ)) ∧ (¬ a5 ≤ 1073741824 → (-2147483648 ≤ (a6 + 1) ∧ (a6 + 1) ≤ 2147483647) ∧ (LX6_cost_24 d n Q a0 a1 a2 a3 a6 1073741824 (a6 + 1) σ)))))) : LX6_cost_24 d n Q a0 a1 a2 a3 a4 a5 a6 σ := by
  unfold LX6_cost_24
  refine K_iload 6 (kdA dt_MX6_cost 16 rfl) rfl ?_
  refine K_aload_n 0 (kdA dt_MX6_cost 17 rfl) rfl rfl ?_
  obtain ⟨c1, h⟩ := h
  refine gf6_25 rfl (kdA dt_MX6_cost 18 rfl) c1 ?_
  refine K_icmp_ge (tgt := 78) (kdA dt_MX6_cost 19 rfl) rfl (fun c => ?_) (fun c => ?_)
  · have h := h.1 c
    refine K_iload 4 (kdA dt_MX6_cost 43 rfl) rfl ?_
    refine K_iconst (kdA dt_MX6_cost 44 rfl) (by decide) ?_
    refine K_icmp_eq (tgt := 96) (kdA dt_MX6_cost 45 rfl) rfl (fun c => ?_) (fun c => ?_)
    · have h := h.1 c
      obtain ⟨c2, h⟩ := h
      refine K_iinc (ls' := [(0, (2, a0)), (1, (0, a1)), (2, (0, a2)), (3, (0, (a3 + 1))), (4, (0, a4)), (5, (0, a5)), (6, (0, a6))]) 3 (kdA dt_MX6_cost 56 rfl) rfl c2 (by decide) rfl ?_
      refine K_goto (tgt := 6) (kdA dt_MX6_cost 57 rfl) rfl ?_
      refine K_pick [0, 1, 2, 3] (ls' := [(0, (2, a0)), (1, (0, a1)), (2, (0, a2)), (3, (0, (a3 + 1)))]) rfl ?_
      exact h
    · have h := h.2 c
      refine K_iload_n 1 (kdA dt_MX6_cost 46 rfl) rfl rfl ?_
      refine K_iconst (kdA dt_MX6_cost 47 rfl) (by decide) ?_
      refine K_iload 4 (kdA dt_MX6_cost 48 rfl) rfl ?_
      refine K_ishl (kdA dt_MX6_cost 49 rfl) ?_
      refine K_ior (kdA dt_MX6_cost 50 rfl) ?_
      refine K_istore_n (ls' := [(0, (2, a0)), (1, (0, (kor a1 (kishl 1 a4)))), (2, (0, a2)), (3, (0, a3)), (4, (0, a4)), (5, (0, a5)), (6, (0, a6))]) (kdA dt_MX6_cost 51 rfl) rfl (by decide) rfl ?_
      refine K_iload_n 2 (kdA dt_MX6_cost 52 rfl) rfl rfl ?_
      refine K_iload 5 (kdA dt_MX6_cost 53 rfl) rfl ?_
      obtain ⟨c2, h⟩ := h
      refine K_iadd (kdA dt_MX6_cost 54 rfl) c2 ?_
      refine K_istore_n (ls' := [(0, (2, a0)), (1, (0, (kor a1 (kishl 1 a4)))), (2, (0, (a2 + a5))), (3, (0, a3)), (4, (0, a4)), (5, (0, a5)), (6, (0, a6))]) (kdA dt_MX6_cost 55 rfl) rfl (by decide) rfl ?_
      obtain ⟨c3, h⟩ := h
      refine K_iinc (ls' := [(0, (2, a0)), (1, (0, (kor a1 (kishl 1 a4)))), (2, (0, (a2 + a5))), (3, (0, (a3 + 1))), (4, (0, a4)), (5, (0, a5)), (6, (0, a6))]) 3 (kdA dt_MX6_cost 56 rfl) rfl c3 (by decide) rfl ?_
      refine K_goto (tgt := 6) (kdA dt_MX6_cost 57 rfl) rfl ?_
      refine K_pick [0, 1, 2, 3] (ls' := [(0, (2, a0)), (1, (0, (kor a1 (kishl 1 a4)))), (2, (0, (a2 + a5))), (3, (0, (a3 + 1)))]) rfl ?_
      exact h
  · have h := h.2 c
    refine K_iload_n 1 (kdA dt_MX6_cost 20 rfl) rfl rfl ?_
    refine K_iload 6 (kdA dt_MX6_cost 21 rfl) rfl ?_
    refine K_ishr (kdA dt_MX6_cost 22 rfl) ?_
    refine K_iconst (kdA dt_MX6_cost 23 rfl) (by decide) ?_
    refine K_iand (kdA dt_MX6_cost 24 rfl) ?_
    refine K_iconst (kdA dt_MX6_cost 25 rfl) (by decide) ?_
    refine K_icmp_ne (tgt := 48) (kdA dt_MX6_cost 26 rfl) rfl (fun c => ?_) (fun c => ?_)
    · have h := h.1 c
      refine K_aload_n 0 (kdA dt_MX6_cost 29 rfl) rfl rfl ?_
      refine K_iload 6 (kdA dt_MX6_cost 30 rfl) rfl ?_
      refine K_iload_n 1 (kdA dt_MX6_cost 31 rfl) rfl rfl ?_
      refine K_cVi (c := 6) (as := [(0, a6), (0, a1)]) (st := []) (kdA dt_MX6_cost 32 rfl) rfl cl_MX6_costTo lk6_30 rfl rfl (Nat.le_of_ble_eq_true rfl) c1 (Ci.mono h (fun x2 s1 h => ?_))
      refine K_istore (ls' := [(0, (2, a0)), (1, (0, a1)), (2, (0, a2)), (3, (0, a3)), (4, (0, a4)), (5, (0, a5)), (6, (0, a6)), (7, (0, x2))]) (kdA dt_MX6_cost 33 rfl) (by decide) rfl ?_
      refine K_iload 7 (kdA dt_MX6_cost 34 rfl) rfl ?_
      refine K_iload 5 (kdA dt_MX6_cost 35 rfl) rfl ?_
      refine K_icmp_ge (tgt := 72) (kdA dt_MX6_cost 36 rfl) rfl (fun c => ?_) (fun c => ?_)
      · have h := h.1 c
        obtain ⟨c3, h⟩ := h
        refine K_iinc (ls' := [(0, (2, a0)), (1, (0, a1)), (2, (0, a2)), (3, (0, a3)), (4, (0, a4)), (5, (0, a5)), (6, (0, (a6 + 1))), (7, (0, x2))]) 6 (kdA dt_MX6_cost 41 rfl) rfl c3 (by decide) rfl ?_
        refine K_goto (tgt := 24) (kdA dt_MX6_cost 42 rfl) rfl ?_
        refine K_pick [0, 1, 2, 3, 4, 5, 6] (ls' := [(0, (2, a0)), (1, (0, a1)), (2, (0, a2)), (3, (0, a3)), (4, (0, a4)), (5, (0, a5)), (6, (0, (a6 + 1)))]) rfl ?_
        exact h
      · have h := h.2 c
        refine K_iload 6 (kdA dt_MX6_cost 37 rfl) rfl ?_
        refine K_istore (ls' := [(0, (2, a0)), (1, (0, a1)), (2, (0, a2)), (3, (0, a3)), (4, (0, a6)), (5, (0, a5)), (6, (0, a6)), (7, (0, x2))]) (kdA dt_MX6_cost 38 rfl) (by decide) rfl ?_
        refine K_iload 7 (kdA dt_MX6_cost 39 rfl) rfl ?_
        refine K_istore (ls' := [(0, (2, a0)), (1, (0, a1)), (2, (0, a2)), (3, (0, a3)), (4, (0, a6)), (5, (0, x2)), (6, (0, a6)), (7, (0, x2))]) (kdA dt_MX6_cost 40 rfl) (by decide) rfl ?_
        obtain ⟨c3, h⟩ := h
        refine K_iinc (ls' := [(0, (2, a0)), (1, (0, a1)), (2, (0, a2)), (3, (0, a3)), (4, (0, a6)), (5, (0, x2)), (6, (0, (a6 + 1))), (7, (0, x2))]) 6 (kdA dt_MX6_cost 41 rfl) rfl c3 (by decide) rfl ?_
        refine K_goto (tgt := 24) (kdA dt_MX6_cost 42 rfl) rfl ?_
        refine K_pick [0, 1, 2, 3, 4, 5, 6] (ls' := [(0, (2, a0)), (1, (0, a1)), (2, (0, a2)), (3, (0, a3)), (4, (0, a6)), (5, (0, x2)), (6, (0, (a6 + 1)))]) rfl ?_
        exact h
    · have h := h.2 c
      refine K_ldc (x := 1073741824) (kdA dt_MX6_cost 27 rfl) (tb5 25 rfl rfl) (by decide +kernel) ?_
      refine K_goto (tgt := 55) (kdA dt_MX6_cost 28 rfl) rfl ?_
      refine K_istore (ls' := [(0, (2, a0)), (1, (0, a1)), (2, (0, a2)), (3, (0, a3)), (4, (0, a4)), (5, (0, a5)), (6, (0, a6)), (7, (0, 1073741824))]) (kdA dt_MX6_cost 33 rfl) (by decide) rfl ?_
      refine K_iload 7 (kdA dt_MX6_cost 34 rfl) rfl ?_
      refine K_iload 5 (kdA dt_MX6_cost 35 rfl) rfl ?_
      refine K_icmp_ge (tgt := 72) (kdA dt_MX6_cost 36 rfl) rfl (fun c => ?_) (fun c => ?_)
      · have h := h.1 c
        obtain ⟨c2, h⟩ := h
        refine K_iinc (ls' := [(0, (2, a0)), (1, (0, a1)), (2, (0, a2)), (3, (0, a3)), (4, (0, a4)), (5, (0, a5)), (6, (0, (a6 + 1))), (7, (0, 1073741824))]) 6 (kdA dt_MX6_cost 41 rfl) rfl c2 (by decide) rfl ?_
        refine K_goto (tgt := 24) (kdA dt_MX6_cost 42 rfl) rfl ?_
        refine K_pick [0, 1, 2, 3, 4, 5, 6] (ls' := [(0, (2, a0)), (1, (0, a1)), (2, (0, a2)), (3, (0, a3)), (4, (0, a4)), (5, (0, a5)), (6, (0, (a6 + 1)))]) rfl ?_
        exact h
      · have h := h.2 c
        refine K_iload 6 (kdA dt_MX6_cost 37 rfl) rfl ?_
        refine K_istore (ls' := [(0, (2, a0)), (1, (0, a1)), (2, (0, a2)), (3, (0, a3)), (4, (0, a6)), (5, (0, a5)), (6, (0, a6)), (7, (0, 1073741824))]) (kdA dt_MX6_cost 38 rfl) (by decide) rfl ?_
        refine K_iload 7 (kdA dt_MX6_cost 39 rfl) rfl ?_
        refine K_istore (ls' := [(0, (2, a0)), (1, (0, a1)), (2, (0, a2)), (3, (0, a3)), (4, (0, a6)), (5, (0, 1073741824)), (6, (0, a6)), (7, (0, 1073741824))]) (kdA dt_MX6_cost 40 rfl) (by decide) rfl ?_
        obtain ⟨c2, h⟩ := h
        refine K_iinc (ls' := [(0, (2, a0)), (1, (0, a1)), (2, (0, a2)), (3, (0, a3)), (4, (0, a6)), (5, (0, 1073741824)), (6, (0, (a6 + 1))), (7, (0, 1073741824))]) 6 (kdA dt_MX6_cost 41 rfl) rfl c2 (by decide) rfl ?_
        refine K_goto (tgt := 24) (kdA dt_MX6_cost 42 rfl) rfl ?_
        refine K_pick [0, 1, 2, 3, 4, 5, 6] (ls' := [(0, (2, a0)), (1, (0, a1)), (2, (0, a2)), (3, (0, a3)), (4, (0, a6)), (5, (0, 1073741824)), (6, (0, (a6 + 1)))]) rfl ?_
        exact h
theorem EX6_cost {d n : Nat} {Q : Int → kS → Prop} {a0 : Int} {σ : kS} (h : kokw n σ → LX6_cost_0 d n Q a0 σ) : Ci (d + 1) MX6_cost [(2, a0)] n σ Q := Tri_of (by decide +kernel) (Nat.le_of_ble_eq_true rfl) (fun hk hw => h hw)

def LX6_costTo_0 (d n : Nat) (Q : Int → kS → Prop) (a0 : Int) (a1 : Int) (a2 : Int) (σ : kS) : Prop := K (d + 1) MX6_costTo (kPi n Q) (0, 0) 0 [(0, (2, a0)), (1, (0, a1)), (2, (0, a2))] [] n σ
def LX6_costTo_6 (d n : Nat) (Q : Int → kS → Prop) (a0 : Int) (a1 : Int) (a2 : Int) (a3 : Int) (a4 : Int) (σ : kS) : Prop := K (d + 1) MX6_costTo (kPi n Q) (0, 0) 6 [(0, (2, a0)), (1, (0, a1)), (2, (0, a2)), (3, (0, a3)), (4, (0, a4))] [] n σ
theorem SX6_costTo_0 {d n : Nat} {Q : Int → kS → Prop} {a0 a1 a2 : Int} {σ : kS} (h : LX6_costTo_6 d n Q a0 a1 a2 1073741824 0 σ) : LX6_costTo_0 d n Q a0 a1 a2 σ := by
  unfold LX6_costTo_0
  refine K_ldc (x := 1073741824) (kdA dt_MX6_costTo 0 rfl) (tb5 25 rfl rfl) (by decide +kernel) ?_
  refine K_istore_n (ls' := [(0, (2, a0)), (1, (0, a1)), (2, (0, a2)), (3, (0, 1073741824))]) (kdA dt_MX6_costTo 1 rfl) rfl (by decide) rfl ?_
  refine K_iconst (kdA dt_MX6_costTo 2 rfl) (by decide) ?_
  refine K_istore (ls' := [(0, (2, a0)), (1, (0, a1)), (2, (0, a2)), (3, (0, 1073741824)), (4, (0, 0))]) (kdA dt_MX6_costTo 3 rfl) (by decide) rfl ?_
  exact h
theorem SX6_costTo_6 {d n : Nat} {Q : Int → kS → Prop} {a0 a1 a2 a3 a4 : Int} {σ : kS} (h : isO 6 n a0 ∧ (((σ a0 1) ≤ a4 → Q a3 σ) ∧ (¬ (σ a0 1) ≤ a4 → (¬ (kand (kishr a2 a4) 1) = 1 → (-2147483648 ≤ (a4 + 1) ∧ (a4 + 1) ≤ 2147483647) ∧ (LX6_costTo_6 d n Q a0 a1 a2 a3 (a4 + 1) σ)) ∧ (¬ (¬ (kand (kishr a2 a4) 1) = 1) → isA 24 n (σ a0 0) ∧ (((0 : Int) ≤ a4 ∧ a4 < klen (σ a0 0)) ∧ (isA 20 n (σ (σ a0 0) a4) ∧ (((0 : Int) ≤ a1 ∧ a1 < klen (σ (σ a0 0) a4)) ∧ (Ci d MJm_min [(0, a3), (0, (σ (σ (σ a0 0) a4) a1))] n σ (fun x6 s1 => (-2147483648 ≤ (a4 + 1) ∧ (a4 + 1) ≤ 2147483647) ∧ (LX6_costTo_6 d n Q a0 a1 a2 x6 (a4 + 1) s1)))))))))) : LX6_costTo_6 d n Q a0 a1 a2 a3 a4 σ := by
  unfold LX6_costTo_6
  refine K_iload 4 (kdA dt_MX6_costTo 4 rfl) rfl ?_
  refine K_aload_n 0 (kdA dt_MX6_costTo 5 rfl) rfl rfl ?_
  obtain ⟨c1, h⟩ := h
  refine gf6_25 rfl (kdA dt_MX6_costTo 6 rfl) c1 ?_
  refine K_icmp_ge (tgt := 45) (kdA dt_MX6_costTo 7 rfl) rfl (fun c => ?_) (fun c => ?_)
  · have h := h.1 c
    refine K_iload_n 3 (kdA dt_MX6_costTo 26 rfl) rfl rfl ?_
    exact K_ireturn (kdA dt_MX6_costTo 27 rfl) rfl ⟨rfl, _, rfl, h⟩
  · have h := h.2 c
    refine K_iload_n 2 (kdA dt_MX6_costTo 8 rfl) rfl rfl ?_
    refine K_iload 4 (kdA dt_MX6_costTo 9 rfl) rfl ?_
    refine K_ishr (kdA dt_MX6_costTo 10 rfl) ?_
    refine K_iconst (kdA dt_MX6_costTo 11 rfl) (by decide) ?_
    refine K_iand (kdA dt_MX6_costTo 12 rfl) ?_
    refine K_iconst (kdA dt_MX6_costTo 13 rfl) (by decide) ?_
    refine K_icmp_ne (tgt := 39) (kdA dt_MX6_costTo 14 rfl) rfl (fun c => ?_) (fun c => ?_)
    · have h := h.1 c
      obtain ⟨c2, h⟩ := h
      refine K_iinc (ls' := [(0, (2, a0)), (1, (0, a1)), (2, (0, a2)), (3, (0, a3)), (4, (0, (a4 + 1)))]) 4 (kdA dt_MX6_costTo 24 rfl) rfl c2 (by decide) rfl ?_
      refine K_goto (tgt := 6) (kdA dt_MX6_costTo 25 rfl) rfl ?_
      exact h
    · have h := h.2 c
      refine K_iload_n 3 (kdA dt_MX6_costTo 15 rfl) rfl rfl ?_
      refine K_aload_n 0 (kdA dt_MX6_costTo 16 rfl) rfl rfl ?_
      refine gf6_11 rfl (kdA dt_MX6_costTo 17 rfl) c1 ?_
      refine K_iload 4 (kdA dt_MX6_costTo 18 rfl) rfl ?_
      obtain ⟨c2, h⟩ := h
      obtain ⟨c3, h⟩ := h
      refine K_aaload (kdA dt_MX6_costTo 19 rfl) (by decide) c2 c3.1 c3.2 ?_
      refine K_iload_n 1 (kdA dt_MX6_costTo 20 rfl) rfl rfl ?_
      obtain ⟨c4, h⟩ := h
      obtain ⟨c5, h⟩ := h
      refine K_iaload (kdA dt_MX6_costTo 21 rfl) c4 c5.1 c5.2 ?_
      refine K_cSi (as := [(0, a3), (0, (σ (σ (σ a0 0) a4) a1))]) (st := []) (kdA dt_MX6_costTo 22 rfl) cl_MJm_min lk6_16 rfl rfl (Nat.le_of_ble_eq_true rfl) (Ci.mono h (fun x6 s1 h => ?_))
      refine K_istore_n (ls' := [(0, (2, a0)), (1, (0, a1)), (2, (0, a2)), (3, (0, x6)), (4, (0, a4))]) (kdA dt_MX6_costTo 23 rfl) rfl (by decide) rfl ?_
      obtain ⟨c7, h⟩ := h
      refine K_iinc (ls' := [(0, (2, a0)), (1, (0, a1)), (2, (0, a2)), (3, (0, x6)), (4, (0, (a4 + 1)))]) 4 (kdA dt_MX6_costTo 24 rfl) rfl c7 (by decide) rfl ?_
      refine K_goto (tgt := 6) (kdA dt_MX6_costTo 25 rfl) rfl ?_
      exact h
theorem EX6_costTo {d n : Nat} {Q : Int → kS → Prop} {a0 a1 a2 : Int} {σ : kS} (h : (-2147483648 ≤ a1 ∧ a1 ≤ 2147483647) → (-2147483648 ≤ a2 ∧ a2 ≤ 2147483647) → kokw n σ → LX6_costTo_0 d n Q a0 a1 a2 σ) : Ci (d + 1) MX6_costTo [(2, a0), (0, a1), (0, a2)] n σ Q := Tri_of (by decide +kernel) (Nat.le_of_ble_eq_true rfl) (fun hk hw => h (hk (0, a1) (List.mem_of_getElem? (i := 1) rfl)) (hk (0, a2) (List.mem_of_getElem? (i := 2) rfl)) hw)

def LX6_needed_0 (d n : Nat) (Q : Int → kS → Prop) (a0 : Int) (a1 : Int) (σ : kS) : Prop := K (d + 1) MX6_needed (kPi n Q) (0, 0) 0 [(0, (2, a0)), (1, (0, a1))] [] n σ
def LX6_needed_7 (d n : Nat) (Q : Int → kS → Prop) (a0 : Int) (a1 : Int) (a2 : Int) (a3 : Int) (a4 : Int) (σ : kS) : Prop := K (d + 1) MX6_needed (kPi n Q) (0, 0) 7 [(0, (2, a0)), (1, (0, a1)), (2, (0, a2)), (3, (0, a3)), (4, (0, a4))] [] n σ
def LX6_needed_22 (d n : Nat) (Q : Int → kS → Prop) (a0 : Int) (a1 : Int) (a2 : Int) (a3 : Int) (a4 : Int) (a5 : Int) (σ : kS) : Prop := K (d + 1) MX6_needed (kPi n Q) (0, 0) 22 [(0, (2, a0)), (1, (0, a1)), (2, (0, a2)), (3, (0, a3)), (4, (0, a4)), (5, (0, a5))] [] n σ
theorem SX6_needed_0 {d n : Nat} {Q : Int → kS → Prop} {a0 a1 : Int} {σ : kS} (h : LX6_needed_7 d n Q a0 a1 0 0 0 σ) : LX6_needed_0 d n Q a0 a1 σ := by
  unfold LX6_needed_0
  refine K_iconst (kdA dt_MX6_needed 0 rfl) (by decide) ?_
  refine K_istore_n (ls' := [(0, (2, a0)), (1, (0, a1)), (2, (0, 0))]) (kdA dt_MX6_needed 1 rfl) rfl (by decide) rfl ?_
  refine K_iconst (kdA dt_MX6_needed 2 rfl) (by decide) ?_
  refine K_istore_n (ls' := [(0, (2, a0)), (1, (0, a1)), (2, (0, 0)), (3, (0, 0))]) (kdA dt_MX6_needed 3 rfl) rfl (by decide) rfl ?_
  refine K_iconst (kdA dt_MX6_needed 4 rfl) (by decide) ?_
  refine K_istore (ls' := [(0, (2, a0)), (1, (0, a1)), (2, (0, 0)), (3, (0, 0)), (4, (0, 0))]) (kdA dt_MX6_needed 5 rfl) (by decide) rfl ?_
  exact h
theorem SX6_needed_7 {d n : Nat} {Q : Int → kS → Prop} {a0 a1 a2 a3 a4 : Int} {σ : kS} (h : isO 6 n a0 ∧ (((σ a0 1) ≤ a4 → Q a2 σ) ∧ (¬ (σ a0 1) ≤ a4 → (-2147483648 ≤ (a4 + 1) ∧ (a4 + 1) ≤ 2147483647) ∧ (LX6_needed_22 d n Q a0 a1 a2 a3 a4 (a4 + 1) σ)))) : LX6_needed_7 d n Q a0 a1 a2 a3 a4 σ := by
  unfold LX6_needed_7
  refine K_iload 4 (kdA dt_MX6_needed 6 rfl) rfl ?_
  refine K_aload_n 0 (kdA dt_MX6_needed 7 rfl) rfl rfl ?_
  obtain ⟨c1, h⟩ := h
  refine gf6_25 rfl (kdA dt_MX6_needed 8 rfl) c1 ?_
  refine K_icmp_ge (tgt := 101) (kdA dt_MX6_needed 9 rfl) rfl (fun c => ?_) (fun c => ?_)
  · have h := h.1 c
    refine K_iload_n 2 (kdA dt_MX6_needed 57 rfl) rfl rfl ?_
    exact K_ireturn (kdA dt_MX6_needed 58 rfl) rfl ⟨rfl, _, rfl, h⟩
  · have h := h.2 c
    refine K_iload 4 (kdA dt_MX6_needed 10 rfl) rfl ?_
    refine K_iconst (kdA dt_MX6_needed 11 rfl) (by decide) ?_
    obtain ⟨c2, h⟩ := h
    refine K_iadd (kdA dt_MX6_needed 12 rfl) c2 ?_
    refine K_istore (ls' := [(0, (2, a0)), (1, (0, a1)), (2, (0, a2)), (3, (0, a3)), (4, (0, a4)), (5, (0, (a4 + 1)))]) (kdA dt_MX6_needed 13 rfl) (by decide) rfl ?_
    exact h
theorem SX6_needed_22 {d n : Nat} {Q : Int → kS → Prop} {a0 a1 a2 a3 a4 a5 : Int} {σ : kS} (h : isO 6 n a0 ∧ (((σ a0 1) ≤ a5 → (-2147483648 ≤ (a4 + 1) ∧ (a4 + 1) ≤ 2147483647) ∧ (LX6_needed_7 d n Q a0 a1 a2 a3 (a4 + 1) σ)) ∧ (¬ (σ a0 1) ≤ a5 → (a1 = 0 → isA 24 n (σ a0 0) ∧ (((0 : Int) ≤ a4 ∧ a4 < klen (σ a0 0)) ∧ (isA 20 n (σ (σ a0 0) a4) ∧ (((0 : Int) ≤ a5 ∧ a5 < klen (σ (σ a0 0) a4)) ∧ (Ci d MX6_reached [(2, a0), (0, a4), (0, a5), (0, (σ (σ (σ a0 0) a4) a5))] n σ (fun x6 s1 => (¬ (kand (kishr x6 a5) 1) = 0 → (-2147483648 ≤ (a3 + 1) ∧ (a3 + 1) ≤ 2147483647) ∧ ((-2147483648 ≤ (a5 + 1) ∧ (a5 + 1) ≤ 2147483647) ∧ (LX6_needed_22 d n Q a0 a1 a2 (a3 + 1) a4 (a5 + 1) s1))) ∧ (¬ (¬ (kand (kishr x6 a5) 1) = 0) → (-2147483648 ≤ (a3 + 1) ∧ (a3 + 1) ≤ 2147483647) ∧ ((-2147483648 ≤ (a5 + 1) ∧ (a5 + 1) ≤ 2147483647) ∧ (LX6_needed_22 d n Q a0 a1 (kor a2 (kishl 1 a3)) (a3 + 1) a4 (a5 + 1) s1))))))))) ∧ (¬ a1 = 0 → isA 24 n (σ a0 0) ∧ (((0 : Int) ≤ a4 ∧ a4 < klen (σ a0 0)) ∧ (isA 20 n (σ (σ a0 0) a4) ∧ (((0 : Int) ≤ a5 ∧ a5 < klen (σ (σ a0 0) a4)) ∧ ((-2147483648 ≤ ((σ (σ (σ a0 0) a4) a5) + 1) ∧ ((σ (σ (σ a0 0) a4) a5) + 1) ≤ 2147483647) ∧ (Ci d MX6_reached [(2, a0), (0, a4), (0, a5), (0, ((σ (σ (σ a0 0) a4) a5) + 1))] n σ (fun x7 s1 => (¬ (kand (kishr x7 a5) 1) = 0 → (-2147483648 ≤ (a3 + 1) ∧ (a3 + 1) ≤ 2147483647) ∧ ((-2147483648 ≤ (a5 + 1) ∧ (a5 + 1) ≤ 2147483647) ∧ (LX6_needed_22 d n Q a0 a1 a2 (a3 + 1) a4 (a5 + 1) s1))) ∧ (¬ (¬ (kand (kishr x7 a5) 1) = 0) → (-2147483648 ≤ (a3 + 1) ∧ (a3 + 1) ≤ 2147483647) ∧ ((-2147483648 ≤ (a5 + 1) ∧ (a5 + 1) ≤ 2147483647) ∧ (LX6_needed_22 d n Q a0 a1 (kor a2 (kishl 1 a3)) (a3 + 1) a4 (a5 + 1) s1))))))))))))) : LX6_needed_22 d n Q a0 a1 a2 a3 a4 a5 σ := by
  unfold LX6_needed_22
  refine K_iload 5 (kdA dt_MX6_needed 14 rfl) rfl ?_
  refine K_aload_n 0 (kdA dt_MX6_needed 15 rfl) rfl rfl ?_
  obtain ⟨c1, h⟩ := h
  refine gf6_25 rfl (kdA dt_MX6_needed 16 rfl) c1 ?_
  refine K_icmp_ge (tgt := 95) (kdA dt_MX6_needed 17 rfl) rfl (fun c => ?_) (fun c => ?_)
  · have h := h.1 c
    obtain ⟨c2, h⟩ := h
    refine K_iinc (ls' := [(0, (2, a0)), (1, (0, a1)), (2, (0, a2)), (3, (0, a3)), (4, (0, (a4 + 1))), (5, (0, a5))]) 4 (kdA dt_MX6_needed 55 rfl) rfl c2 (by decide) rfl ?_
    refine K_goto (tgt := 7) (kdA dt_MX6_needed 56 rfl) rfl ?_
    refine K_pick [0, 1, 2, 3, 4] (ls' := [(0, (2, a0)), (1, (0, a1)), (2, (0, a2)), (3, (0, a3)), (4, (0, (a4 + 1)))]) rfl ?_
    exact h
  · have h := h.2 c
    refine K_iload_n 1 (kdA dt_MX6_needed 18 rfl) rfl rfl ?_
    refine K_if_eq (tgt := 50) (kdA dt_MX6_needed 19 rfl) rfl (fun c => ?_) (fun c => ?_)
    · have h := h.1 c
      refine K_aload_n 0 (kdA dt_MX6_needed 29 rfl) rfl rfl ?_
      refine gf6_11 rfl (kdA dt_MX6_needed 30 rfl) c1 ?_
      refine K_iload 4 (kdA dt_MX6_needed 31 rfl) rfl ?_
      obtain ⟨c2, h⟩ := h
      obtain ⟨c3, h⟩ := h
      refine K_aaload (kdA dt_MX6_needed 32 rfl) (by decide) c2 c3.1 c3.2 ?_
      refine K_iload 5 (kdA dt_MX6_needed 33 rfl) rfl ?_
      obtain ⟨c4, h⟩ := h
      obtain ⟨c5, h⟩ := h
      refine K_iaload (kdA dt_MX6_needed 34 rfl) c4 c5.1 c5.2 ?_
      refine K_istore (ls' := [(0, (2, a0)), (1, (0, a1)), (2, (0, a2)), (3, (0, a3)), (4, (0, a4)), (5, (0, a5)), (6, (0, (σ (σ (σ a0 0) a4) a5)))]) (kdA dt_MX6_needed 35 rfl) (by decide) rfl ?_
      refine K_aload_n 0 (kdA dt_MX6_needed 36 rfl) rfl rfl ?_
      refine K_iload 4 (kdA dt_MX6_needed 37 rfl) rfl ?_
      refine K_iload 5 (kdA dt_MX6_needed 38 rfl) rfl ?_
      refine K_iload 6 (kdA dt_MX6_needed 39 rfl) rfl ?_
      refine K_cVi (c := 6) (as := [(0, a4), (0, a5), (0, (σ (σ (σ a0 0) a4) a5))]) (st := []) (kdA dt_MX6_needed 40 rfl) rfl cl_MX6_reached lk6_33 rfl rfl (Nat.le_of_ble_eq_true rfl) c1 (Ci.mono h (fun x6 s1 h => ?_))
      refine K_iload 5 (kdA dt_MX6_needed 41 rfl) rfl ?_
      refine K_ishr (kdA dt_MX6_needed 42 rfl) ?_
      refine K_iconst (kdA dt_MX6_needed 43 rfl) (by decide) ?_
      refine K_iand (kdA dt_MX6_needed 44 rfl) ?_
      refine K_if_ne (tgt := 86) (kdA dt_MX6_needed 45 rfl) rfl (fun c => ?_) (fun c => ?_)
      · have h := h.1 c
        obtain ⟨c7, h⟩ := h
        refine K_iinc (ls' := [(0, (2, a0)), (1, (0, a1)), (2, (0, a2)), (3, (0, (a3 + 1))), (4, (0, a4)), (5, (0, a5)), (6, (0, (σ (σ (σ a0 0) a4) a5)))]) 3 (kdA dt_MX6_needed 52 rfl) rfl c7 (by decide) rfl ?_
        obtain ⟨c8, h⟩ := h
        refine K_iinc (ls' := [(0, (2, a0)), (1, (0, a1)), (2, (0, a2)), (3, (0, (a3 + 1))), (4, (0, a4)), (5, (0, (a5 + 1))), (6, (0, (σ (σ (σ a0 0) a4) a5)))]) 5 (kdA dt_MX6_needed 53 rfl) rfl c8 (by decide) rfl ?_
        refine K_goto (tgt := 22) (kdA dt_MX6_needed 54 rfl) rfl ?_
        refine K_pick [0, 1, 2, 3, 4, 5] (ls' := [(0, (2, a0)), (1, (0, a1)), (2, (0, a2)), (3, (0, (a3 + 1))), (4, (0, a4)), (5, (0, (a5 + 1)))]) rfl ?_
        exact h
      · have h := h.2 c
        refine K_iload_n 2 (kdA dt_MX6_needed 46 rfl) rfl rfl ?_
        refine K_iconst (kdA dt_MX6_needed 47 rfl) (by decide) ?_
        refine K_iload_n 3 (kdA dt_MX6_needed 48 rfl) rfl rfl ?_
        refine K_ishl (kdA dt_MX6_needed 49 rfl) ?_
        refine K_ior (kdA dt_MX6_needed 50 rfl) ?_
        refine K_istore_n (ls' := [(0, (2, a0)), (1, (0, a1)), (2, (0, (kor a2 (kishl 1 a3)))), (3, (0, a3)), (4, (0, a4)), (5, (0, a5)), (6, (0, (σ (σ (σ a0 0) a4) a5)))]) (kdA dt_MX6_needed 51 rfl) rfl (by decide) rfl ?_
        obtain ⟨c7, h⟩ := h
        refine K_iinc (ls' := [(0, (2, a0)), (1, (0, a1)), (2, (0, (kor a2 (kishl 1 a3)))), (3, (0, (a3 + 1))), (4, (0, a4)), (5, (0, a5)), (6, (0, (σ (σ (σ a0 0) a4) a5)))]) 3 (kdA dt_MX6_needed 52 rfl) rfl c7 (by decide) rfl ?_
        obtain ⟨c8, h⟩ := h
        refine K_iinc (ls' := [(0, (2, a0)), (1, (0, a1)), (2, (0, (kor a2 (kishl 1 a3)))), (3, (0, (a3 + 1))), (4, (0, a4)), (5, (0, (a5 + 1))), (6, (0, (σ (σ (σ a0 0) a4) a5)))]) 5 (kdA dt_MX6_needed 53 rfl) rfl c8 (by decide) rfl ?_
        refine K_goto (tgt := 22) (kdA dt_MX6_needed 54 rfl) rfl ?_
        refine K_pick [0, 1, 2, 3, 4, 5] (ls' := [(0, (2, a0)), (1, (0, a1)), (2, (0, (kor a2 (kishl 1 a3)))), (3, (0, (a3 + 1))), (4, (0, a4)), (5, (0, (a5 + 1)))]) rfl ?_
        exact h
    · have h := h.2 c
      refine K_aload_n 0 (kdA dt_MX6_needed 20 rfl) rfl rfl ?_
      refine gf6_11 rfl (kdA dt_MX6_needed 21 rfl) c1 ?_
      refine K_iload 4 (kdA dt_MX6_needed 22 rfl) rfl ?_
      obtain ⟨c2, h⟩ := h
      obtain ⟨c3, h⟩ := h
      refine K_aaload (kdA dt_MX6_needed 23 rfl) (by decide) c2 c3.1 c3.2 ?_
      refine K_iload 5 (kdA dt_MX6_needed 24 rfl) rfl ?_
      obtain ⟨c4, h⟩ := h
      obtain ⟨c5, h⟩ := h
      refine K_iaload (kdA dt_MX6_needed 25 rfl) c4 c5.1 c5.2 ?_
      refine K_iconst (kdA dt_MX6_needed 26 rfl) (by decide) ?_
      obtain ⟨c6, h⟩ := h
      refine K_iadd (kdA dt_MX6_needed 27 rfl) c6 ?_
      refine K_goto (tgt := 60) (kdA dt_MX6_needed 28 rfl) rfl ?_
      refine K_istore (ls' := [(0, (2, a0)), (1, (0, a1)), (2, (0, a2)), (3, (0, a3)), (4, (0, a4)), (5, (0, a5)), (6, (0, ((σ (σ (σ a0 0) a4) a5) + 1)))]) (kdA dt_MX6_needed 35 rfl) (by decide) rfl ?_
      refine K_aload_n 0 (kdA dt_MX6_needed 36 rfl) rfl rfl ?_
      refine K_iload 4 (kdA dt_MX6_needed 37 rfl) rfl ?_
      refine K_iload 5 (kdA dt_MX6_needed 38 rfl) rfl ?_
      refine K_iload 6 (kdA dt_MX6_needed 39 rfl) rfl ?_
      refine K_cVi (c := 6) (as := [(0, a4), (0, a5), (0, ((σ (σ (σ a0 0) a4) a5) + 1))]) (st := []) (kdA dt_MX6_needed 40 rfl) rfl cl_MX6_reached lk6_33 rfl rfl (Nat.le_of_ble_eq_true rfl) c1 (Ci.mono h (fun x7 s1 h => ?_))
      refine K_iload 5 (kdA dt_MX6_needed 41 rfl) rfl ?_
      refine K_ishr (kdA dt_MX6_needed 42 rfl) ?_
      refine K_iconst (kdA dt_MX6_needed 43 rfl) (by decide) ?_
      refine K_iand (kdA dt_MX6_needed 44 rfl) ?_
      refine K_if_ne (tgt := 86) (kdA dt_MX6_needed 45 rfl) rfl (fun c => ?_) (fun c => ?_)
      · have h := h.1 c
        obtain ⟨c8, h⟩ := h
        refine K_iinc (ls' := [(0, (2, a0)), (1, (0, a1)), (2, (0, a2)), (3, (0, (a3 + 1))), (4, (0, a4)), (5, (0, a5)), (6, (0, ((σ (σ (σ a0 0) a4) a5) + 1)))]) 3 (kdA dt_MX6_needed 52 rfl) rfl c8 (by decide) rfl ?_
        obtain ⟨c9, h⟩ := h
        refine K_iinc (ls' := [(0, (2, a0)), (1, (0, a1)), (2, (0, a2)), (3, (0, (a3 + 1))), (4, (0, a4)), (5, (0, (a5 + 1))), (6, (0, ((σ (σ (σ a0 0) a4) a5) + 1)))]) 5 (kdA dt_MX6_needed 53 rfl) rfl c9 (by decide) rfl ?_
        refine K_goto (tgt := 22) (kdA dt_MX6_needed 54 rfl) rfl ?_
        refine K_pick [0, 1, 2, 3, 4, 5] (ls' := [(0, (2, a0)), (1, (0, a1)), (2, (0, a2)), (3, (0, (a3 + 1))), (4, (0, a4)), (5, (0, (a5 + 1)))]) rfl ?_
        exact h
      · have h := h.2 c
        refine K_iload_n 2 (kdA dt_MX6_needed 46 rfl) rfl rfl ?_
        refine K_iconst (kdA dt_MX6_needed 47 rfl) (by decide) ?_
        refine K_iload_n 3 (kdA dt_MX6_needed 48 rfl) rfl rfl ?_
        refine K_ishl (kdA dt_MX6_needed 49 rfl) ?_
        refine K_ior (kdA dt_MX6_needed 50 rfl) ?_
        refine K_istore_n (ls' := [(0, (2, a0)), (1, (0, a1)), (2, (0, (kor a2 (kishl 1 a3)))), (3, (0, a3)), (4, (0, a4)), (5, (0, a5)), (6, (0, ((σ (σ (σ a0 0) a4) a5) + 1)))]) (kdA dt_MX6_needed 51 rfl) rfl (by decide) rfl ?_
        obtain ⟨c8, h⟩ := h
        refine K_iinc (ls' := [(0, (2, a0)), (1, (0, a1)), (2, (0, (kor a2 (kishl 1 a3)))), (3, (0, (a3 + 1))), (4, (0, a4)), (5, (0, a5)), (6, (0, ((σ (σ (σ a0 0) a4) a5) + 1)))]) 3 (kdA dt_MX6_needed 52 rfl) rfl c8 (by decide) rfl ?_
        obtain ⟨c9, h⟩ := h
        refine K_iinc (ls' := [(0, (2, a0)), (1, (0, a1)), (2, (0, (kor a2 (kishl 1 a3)))), (3, (0, (a3 + 1))), (4, (0, a4)), (5, (0, (a5 + 1))), (6, (0, ((σ (σ (σ a0 0) a4) a5) + 1)))]) 5 (kdA dt_MX6_needed 53 rfl) rfl c9 (by decide) rfl ?_
        refine K_goto (tgt := 22) (kdA dt_MX6_needed 54 rfl) rfl ?_
        refine K_pick [0, 1, 2, 3, 4, 5] (ls' := [(0, (2, a0)), (1, (0, a1)), (2, (0, (kor a2 (kishl 1 a3)))), (3, (0, (a3 + 1))), (4, (0, a4)), (5, (0, (a5 + 1)))]) rfl ?_
        exact h
theorem EX6_needed {d n : Nat} {Q : Int → kS → Prop} {a0 a1 : Int} {σ : kS} (h : (-2147483648 ≤ a1 ∧ a1 ≤ 2147483647) → kokw n σ → LX6_needed_0 d n Q a0 a1 σ) : Ci (d + 1) MX6_needed [(2, a0), (0, a1)] n σ Q := Tri_of (by decide +kernel) (Nat.le_of_ble_eq_true rfl) (fun hk hw => h (hk (0, a1) (List.mem_of_getElem? (i := 1) rfl)) hw)

def LX6_put_0 (d n : Nat) (Q : kS → Prop) (a0 : Int) (a1 : Int) (a2 : Int) (a3 : Int) (σ : kS) : Prop := K (d + 1) MX6_put (kPv n Q) (0, 0) 0 [(0, (2, a0)), (1, (0, a1)), (2, (0, a2)), (3, (0, a3))] [] n σ
theorem SX6_put_0 {d n : Nat} {Q : kS → Prop} {a0 a1 a2 a3 : Int} {σ : kS} (h : (a1 < 0 → Q σ) ∧ (¬ a1 < 0 → isO 6 n a0 ∧ (((σ a0 1) ≤ a1 → Q σ) ∧ (¬ (σ a0 1) ≤ a1 → (a2 < 0 → Q σ) ∧ (¬ a2 < 0 → ((σ a0 1) ≤ a2 → Q σ) ∧ (¬ (σ a0 1) ≤ a2 → isA 24 n (σ a0 0) ∧ (((0 : Int) ≤ a1 ∧ a1 < klen (σ a0 0)) ∧ (isA 20 n (σ (σ a0 0) a1) ∧ (((0 : Int) ≤ a2 ∧ a2 < klen (σ (σ a0 0) a1)) ∧ (∀ s1, s1 = kst σ (σ (σ a0 0) a1) a2 a3 → isA 24 n (s1 a0 0) ∧ (((0 : Int) ≤ a2 ∧ a2 < klen (s1 a0 0)) ∧ (isA 20 n (s1 (s1 a0 0) a2) ∧ (((0 : Int) ≤ a1 ∧ a1 < klen (s1 (s1 a0 0) a2)) ∧ (∀ s2, s2 = kst s1 (s1 (s1 a0 0) a2) a1 a3 → Q s2)))))))))))))) : LX6_put_0 d n Q a0 a1 a2 a3 σ := by
  unfold LX6_put_0
  refine K_iload_n 1 (kdA dt_MX6_put 0 rfl) rfl rfl ?_
  refine K_if_lt (tgt := 42) (kdA dt_MX6_put 1 rfl) rfl (fun c => ?_) (fun c => ?_)
  · have h := h.1 c
    exact K_return (kdA dt_MX6_put 26 rfl) rfl ⟨rfl, rfl, h⟩
  · have h := h.2 c
    refine K_iload_n 1 (kdA dt_MX6_put 2 rfl) rfl rfl ?_
    refine K_aload_n 0 (kdA dt_MX6_put 3 rfl) rfl rfl ?_
    obtain ⟨c1, h⟩ := h
    refine gf6_25 rfl (kdA dt_MX6_put 4 rfl) c1 ?_
    refine K_icmp_ge (tgt := 42) (kdA dt_MX6_put 5 rfl) rfl (fun c => ?_) (fun c => ?_)
    · have h := h.1 c
      exact K_return (kdA dt_MX6_put 26 rfl) rfl ⟨rfl, rfl, h⟩
    · have h := h.2 c
      refine K_iload_n 2 (kdA dt_MX6_put 6 rfl) rfl rfl ?_
      refine K_if_lt (tgt := 42) (kdA dt_MX6_put 7 rfl) rfl (fun c => ?_) (fun c => ?_)
      · have h := h.1 c
        exact K_return (kdA dt_MX6_put 26 rfl) rfl ⟨rfl, rfl, h⟩
      · have h := h.2 c
        refine K_iload_n 2 (kdA dt_MX6_put 8 rfl) rfl rfl ?_
        refine K_aload_n 0 (kdA dt_MX6_put 9 rfl) rfl rfl ?_
        refine gf6_25 rfl (kdA dt_MX6_put 10 rfl) c1 ?_
        refine K_icmp_ge (tgt := 42) (kdA dt_MX6_put 11 rfl) rfl (fun c => ?_) (fun c => ?_)
        · have h := h.1 c
          exact K_return (kdA dt_MX6_put 26 rfl) rfl ⟨rfl, rfl, h⟩
        · have h := h.2 c
          refine K_aload_n 0 (kdA dt_MX6_put 12 rfl) rfl rfl ?_
          refine gf6_11 rfl (kdA dt_MX6_put 13 rfl) c1 ?_
          refine K_iload_n 1 (kdA dt_MX6_put 14 rfl) rfl rfl ?_
          obtain ⟨c2, h⟩ := h
          obtain ⟨c3, h⟩ := h
          refine K_aaload (kdA dt_MX6_put 15 rfl) (by decide) c2 c3.1 c3.2 ?_
          refine K_iload_n 2 (kdA dt_MX6_put 16 rfl) rfl rfl ?_
          refine K_iload_n 3 (kdA dt_MX6_put 17 rfl) rfl rfl ?_
          obtain ⟨c4, h⟩ := h
          obtain ⟨c5, h⟩ := h
          refine K_iastore' (kdA dt_MX6_put 18 rfl) c4 c5.1 c5.2 (fun s1 es1 => ?_)
          have h := h s1 es1
          refine K_aload_n 0 (kdA dt_MX6_put 19 rfl) rfl rfl ?_
          refine gf6_11 rfl (kdA dt_MX6_put 20 rfl) c1 ?_
          refine K_iload_n 2 (kdA dt_MX6_put 21 rfl) rfl rfl ?_
          obtain ⟨c6, h⟩ := h
          obtain ⟨c7, h⟩ := h
          refine K_aaload (kdA dt_MX6_put 22 rfl) (by decide) c6 c7.1 c7.2 ?_
          refine K_iload_n 1 (kdA dt_MX6_put 23 rfl) rfl rfl ?_
          refine K_iload_n 3 (kdA dt_MX6_put 24 rfl) rfl rfl ?_
          obtain ⟨c8, h⟩ := h
          obtain ⟨c9, h⟩ := h
          refine K_iastore' (kdA dt_MX6_put 25 rfl) c8 c9.1 c9.2 (fun s2 es2 => ?_)
          have h := h s2 es2
          exact K_return (kdA dt_MX6_put 26 rfl) rfl ⟨rfl, rfl, h⟩
theorem EX6_put {d n : Nat} {Q : kS → Prop} {a0 a1 a2 a3 : Int} {σ : kS} (h : (-2147483648 ≤ a1 ∧ a1 ≤ 2147483647) → (-2147483648 ≤ a2 ∧ a2 ≤ 2147483647) → (-2147483648 ≤ a3 ∧ a3 ≤ 2147483647) → kokw n σ → LX6_put_0 d n Q a0 a1 a2 a3 σ) : Cv (d + 1) MX6_put [(2, a0), (0, a1), (0, a2), (0, a3)] n σ Q := Tri_of (by decide +kernel) (Nat.le_of_ble_eq_true rfl) (fun hk hw => h (hk (0, a1) (List.mem_of_getElem? (i := 1) rfl)) (hk (0, a2) (List.mem_of_getElem? (i := 2) rfl)) (hk (0, a3) (List.mem_of_getElem? (i := 3) rfl)) hw)

def LX6_reached_0 (d n : Nat) (Q : Int → kS → Prop) (a0 : Int) (a1 : Int) (a2 : Int) (a3 : Int) (σ : kS) : Prop := K (d + 1) MX6_reached (kPi n Q) (0, 0) 0 [(0, (2, a0)), (1, (0, a1)), (2, (0, a2)), (3, (0, a3))] [] n σ
def LX6_reached_8 (d n : Nat) (Q : Int → kS → Prop) (a0 : Int) (a1 : Int) (a2 : Int) (a3 : Int) (a4 : Int) (a5 : Int) (σ : kS) : Prop := K (d + 1) MX6_reached (kPi n Q) (0, 0) 8 [(0, (2, a0)), (1, (0, a1)), (2, (0, a2)), (3, (0, a3)), (4, (0, a4)), (5, (0, a5))] [] n σ
def LX6_reached_20 (d n : Nat) (Q : Int → kS → Prop) (a0 : Int) (a1 : Int) (a2 : Int) (a3 : Int) (a4 : Int) (a5 : Int) (a6 : Int) (σ : kS) : Prop := K (d + 1) MX6_reached (kPi n Q) (0, 0) 20 [(0, (2, a0)), (1, (0, a1)), (2, (0, a2)), (3, (0, a3)), (4, (0, a4)), (5, (0, a5)), (6, (0, a6))] [] n σ
def LX6_reached_32 (d n : Nat) (Q : Int → kS → Prop) (a0 : Int) (a1 : Int) (a2 : Int) (a3 : Int) (a4 : Int) (a5 : Int) (a6 : Int) (a7 : Int) (σ : kS) : Prop := K (d + 1) MX6_reached (kPi n Q) (0, 0) 32 [(0, (2, a0)), (1, (0, a1)), (2, (0, a2)), (3, (0, a3)), (4, (0, a4)), (5, (0, a5)), (6, (0, a6)), (7, (0, a7))] [] n σ
theorem SX6_reached_0 {d n : Nat} {Q : Int → kS → Prop} {a0 a1 a2 a3 : Int} {σ : kS} (h : LX6_reached_8 d n Q a0 a1 a2 a3 (kishl 1 a1) 1 σ) : LX6_reached_0 d n Q a0 a1 a2 a3 σ := by
  unfold LX6_reached_0
  refine K_iconst (kdA dt_MX6_reached 0 rfl) (by decide) ?_
  refine K_iload_n 1 (kdA dt_MX6_reached 1 rfl) rfl rfl ?_
  refine K_ishl (kdA dt_MX6_reached 2 rfl) ?_
  refine K_istore (ls' := [(0, (2, a0)), (1, (0, a1)), (2, (0, a2)), (3, (0, a3)), (4, (0, (kishl 1 a1)))]) (kdA dt_MX6_reached 3 rfl) (by decide) rfl ?_
  refine K_iconst (kdA dt_MX6_reached 4 rfl) (by decide) ?_
  refine K_istore (ls' := [(0, (2, a0)), (1, (0, a1)), (2, (0, a2)), (3, (0, a3)), (4, (0, (kishl 1 a1))), (5, (0, 1))]) (kdA dt_MX6_reached 5 rfl) (by decide) rfl ?_
  exact h
theorem SX6_reached_8 {d n : Nat} {Q : Int → kS → Prop} {a0 a1 a2 a3 a4 a5 : Int} {σ : kS} (h : isO 6 n a0 ∧ (((σ a0 1) ≤ a5 → Q a4 σ) ∧ (¬ (σ a0 1) ≤ a5 → LX6_reached_20 d n Q a0 a1 a2 a3 a4 a5 0 σ))) : LX6_reached_8 d n Q a0 a1 a2 a3 a4 a5 σ := by
  unfold LX6_reached_8
  refine K_iload 5 (kdA dt_MX6_reached 6 rfl) rfl ?_
  refine K_aload_n 0 (kdA dt_MX6_reached 7 rfl) rfl rfl ?_
  obtain ⟨c1, h⟩ := h
  refine gf6_25 rfl (kdA dt_MX6_reached 8 rfl) c1 ?_
  refine K_icmp_ge (tgt := 129) (kdA dt_MX6_reached 9 rfl) rfl (fun c => ?_) (fun c => ?_)
  · have h := h.1 c
    refine K_iload 4 (kdA dt_MX6_reached 67 rfl) rfl ?_
    exact K_ireturn (kdA dt_MX6_reached 68 rfl) rfl ⟨rfl, _, rfl, h⟩
  · have h := h.2 c
    refine K_iconst (kdA dt_MX6_reached 10 rfl) (by decide) ?_
    refine K_istore (ls' := [(0, (2, a0)), (1, (0, a1)), (2, (0, a2)), (3, (0, a3)), (4, (0, a4)), (5, (0, a5)), (6, (0, 0))]) (kdA dt_MX6_reached 11 rfl) (by decide) rfl ?_
    exact h
theorem SX6_reached_20 {d n : Nat} {Q : Int → kS → Prop} {a0 a1 a2 a3 a4 a5 a6 : Int} {σ : kS} (h : isO 6 n a0 ∧ (((σ a0 1) ≤ a6 → (-2147483648 ≤ (a5 + 1) ∧ (a5 + 1) ≤ 2147483647) ∧ (LX6_reached_8 d n Q a0 a1 a2 a3 a4 (a5 + 1) σ)) ∧ (¬ (σ a0 1) ≤ a6 → LX6_reached_32 d n Q a0 a1 a2 a3 a4 a5 a6 0 σ))) : LX6_reached_20 d n Q a0 a1 a2 a3 a4 a5 a6 σ := by
  unfold LX6_reached_20
  refine K_iload 6 (kdA dt_MX6_reached 12 rfl) rfl ?_
  refine K_aload_n 0 (kdA dt_MX6_reached 13 rfl) rfl rfl ?_
  obtain ⟨c1, h⟩ := h
  refine gf6_25 rfl (kdA dt_MX6_reached 14 rfl) c1 ?_
  refine K_icmp_ge (tgt := 123) (kdA dt_MX6_reached 15 rfl) rfl (fun c => ?_) (fun c => ?_)
  · have h := h.1 c
    obtain ⟨c2, h⟩ := h
    refine K_iinc (ls' := [(0, (2, a0)), (1, (0, a1)), (2, (0, a2)), (3, (0, a3)), (4, (0, a4)), (5, (0, (a5 + 1))), (6, (0, a6))]) 5 (kdA dt_MX6_reached 65 rfl) rfl c2 (by decide) rfl ?_
    refine K_goto (tgt := 8) (kdA dt_MX6_reached 66 rfl) rfl ?_
    refine K_pick [0, 1, 2, 3, 4, 5] (ls' := [(0, (2, a0)), (1, (0, a1)), (2, (0, a2)), (3, (0, a3)), (4, (0, a4)), (5, (0, (a5 + 1)))]) rfl ?_
    exact h
  · have h := h.2 c
    refine K_iconst (kdA dt_MX6_reached 16 rfl) (by decide) ?_
    refine K_istore (ls' := [(0, (2, a0)), (1, (0, a1)), (2, (0, a2)), (3, (0, a3)), (4, (0, a4)), (5, (0, a5)), (6, (0, a6)), (7, (0, 0))]) (kdA dt_MX6_reached 17 rfl) (by decide) rfl ?_
    exact h
theorem SX6_reached_32 {d n : Nat} {Q : Int → kS → Prop} {a0 a1 a2 a3 a4 a5 a6 a7 : Int} {σ : kS} (h : isO 6 n a0 ∧ (((σ a0 1) ≤ a7 → (-2147483648 ≤ (a6 + 1) ∧ (a6 + 1) ≤ 2147483647) ∧ (LX6_reached_20 d n Q a0 a1 a2 a3 a4 a5 (a6 + 1) σ)) ∧ (¬ (σ a0 1) ≤ a7 → (¬ a6 = a1 → (¬ a6 = a2 → (¬ (kand (kishr a4 a6) 1) = 1 → (-2147483648 ≤ (a7 + 1) ∧ (a7 + 1) ≤ 2147483647) ∧ (LX6_reached_32 d n Q a0 a1 a2 a3 a4 a5 a6 (a7 + 1) σ)) ∧ (¬ (¬ (kand (kishr a4 a6) 1) = 1) → isA 24 n (σ a0 0) ∧ (((0 : Int) ≤ a6 ∧ a6 < klen (σ a0 0)) ∧ (isA 20 n (σ (σ a0 0) a6) ∧ (((0 : Int) ≤ a7 ∧ a7 < klen (σ (σ a0 0) a6)) ∧ ((a3 ≤ (σ (σ (σ a0 0) a6) a7) → (-2147483648 ≤ (a7 + 1) ∧ (a7 + 1) ≤ 2147483647) ∧ (LX6_reached_32 d n Q a0 a1 a2 a3 a4 a5 a6 (a7 + 1) σ)) ∧ (¬ a3 ≤ (σ (σ (σ a0 0) a6) a7) → (-2147483648 ≤ (a7 + 1) ∧ (a7 + 1) ≤ 2147483647) ∧ (LX6_reached_32 d n Q a0 a1 a2 a3 (kor a4 (kishl 1 a7)) a5 a6 (a7 + 1) σ)))))))) ∧ (¬ (¬ a6 = a2) → (¬ a7 = a1 → (¬ (kand (kishr a4 a6) 1) = 1 → (-2147483648 ≤ (a7 + 1) ∧ (a7 + 1) ≤ 2147483647) ∧ (LX6_reached_32 d n Q a0 a1 a2 a3 a4 a5 a6 (a7 + 1) σ)) ∧ (¬ (¬ (kand (kishr a4 a6) 1) = 1) → isA 24 n (σ a0 0) ∧ (((0 : Int) ≤ a6 ∧ a6 < klen (σ a0 0)) ∧ (isA 20 n (σ (σ a0 0) a6) ∧ (((0 : Int) ≤ a7 ∧ a7 < klen (σ (σ a0 0) a6)) ∧ ((a3 ≤ (σ (σ (σ a0 0) a6) a7) → (-2147483648 ≤ (a7 + 1) ∧ (a7 + 1) ≤ 2147483647) ∧ (LX6_reached_32 d n Q a0 a1 a2 a3 a4 a5 a6 (a7 + 1) σ)) ∧ (¬ a3 ≤ (σ (σ (σ a0 0) a6) a7) → (-2147483648 ≤ (a7 + 1) ∧ (a7 + 1) ≤ 2147483647) ∧ (LX6_reached_32 d n Q a0 a1 a2 a3 (kor a4 (kishl 1 a7)) a5 a6 (a7 + 1) σ)))))))) ∧ (¬ (¬ a7 = a1) → (¬ (kand (kishr a4 a6) 1) = 1 → (-2147483648 ≤ (a7 + 1) ∧ (a7 + 1) ≤ 2147483647) ∧ (LX6_reached_32 d n Q a0 a1 a2 a3 a4 a5 a6 (a7 + 1) σ)) ∧ (¬ (¬ (kand (kishr a4 a6) 1) = 1) → (-2147483648 ≤ (a7 + 1) ∧ (a7 + 1) ≤ 2147483647) ∧ (LX6_reached_32 d n Q a0 a1 a2 a3 a4 a5 a6 (a7 + 1) σ))))) ∧ (¬ (¬ a6 = a1) → (a7 = a2 → (¬ (kand (kishr a4 a6) 1) = 1 → (-2147483648 ≤ (a7 + 1) ∧ (a7 + 1) ≤ 2147483647) ∧ (LX6_reached_32 d n Q a0 a1 a2 a3 a4 a5 a6 (a7 + 1) σ)) ∧ (¬ (¬ (kand (kishr a4 a6) 1) = 1) → (-2147483648 ≤ (a7 + 1) ∧ (a7 + 1) ≤ 2147483647) ∧ (LX6_reached_32 d n Q a0 a1 a2 a3 a4 a5 a6 (a7 + 1) σ))) ∧ (¬ a7 = a2 → (¬ a6 = a2 → (¬ (kand (kishr a4 a6) 1) = 1 → (-2147483648 ≤ (a7 + 1) ∧ (a7 + 1) ≤ 2147483647) ∧ (LX6_reached_32 d n Q a0 a1 a2 a3 a4 a5 a6 (a7 + 1) σ)) ∧ (¬ (¬ (kand (kishr a4 a6) 1) = 1) → isA 24 n (σ a0 0) ∧ (((0 : Int) ≤ a6 ∧ a6 < klen (σ a0 0)) ∧ (isA 20 n (σ (σ a0 0) a6) ∧ (((0 : Int) ≤ a7 ∧ a7 < klen (σ (σ a0 0) a6)) ∧ ((a3 ≤ (σ (σ (σ a0 0) a6) a7) → (-2147483648 ≤ (a7 + 1) ∧ (a7 + 1) ≤ 2147483647) ∧ (LX6_reached_32 d n Q a0 a1 a2 a3 a4 a5 a6 (a7 + 1) σ)) ∧ (¬ a3 ≤ (σ (σ (σ a0 0) a6) a7) → (-2147483648 ≤ (a7 + 1) ∧ (a7 + 1) ≤ 2147483647) ∧ (LX6_reached_32 d n Q a0 a1 a2 a3 (kor a4 (kishl 1 a7)) a5 a6 (a7 + 1) σ)))))))) ∧ (¬ (¬ a6 = a2) → (¬ a7 = a1 → (¬ (kand (kishr a4 a6) 1) = 1 → (-2147483648 ≤ (a7 + 1) ∧ (a7 + 1) ≤ 2147483647) ∧ (LX6_reached_32 d n Q a0 a1 a2 a3 a4 a5 a6 (a7 + 1) σ)) ∧ (¬ (¬ (kand (kishr a4 a6) 1) = 1) → isA 24 n (σ a0 0) ∧ (((0 : Int) ≤ a6 ∧ a6 < klen (σ a0 0)) ∧ (isA 20 n (σ (σ a0 0) a6) ∧ (((0 : Int) ≤ a7 ∧ a7 < klen (σ (σ a0 0) a6)) ∧ ((a3 ≤ (σ (σ (σ a0 0) a6) a7) → (-2147483648 ≤ (a7 + 1) ∧ (a7 + 1) ≤ 2147483647) ∧ (LX6_reached_32 d n Q a0 a1 a2 a3 a4 a5 a6 (a7 + 1) σ)) ∧ (¬ a3 ≤ (σ (σ (σ a0 0) a6) a7) → (-2147483648 ≤ (a7 + 1) ∧ (a7 + 1) ≤ 2147483647) ∧ (LX6_reached_32 d n Q a0 a1 a2 a3 (kor a4 (kishl 1 a7)) a5 a6 (a7 + 1) σ)))))))) ∧ (¬ (¬ a7 = a1) → (¬ (kand (kishr a4 a6) 1) = 1 → (-2147483648 ≤ (a7 + 1) ∧ (a7 + 1) ≤ 2147483647) ∧ (LX6_reached_32 d n Q a0 a1 a2 a3 a4 a5 a6 (a7 + 1) σ)) ∧ (¬ (¬ (kand (kishr a4 a6) 1) = 1) → (-2147483648 ≤ (a7 + 1) ∧ (a7 + 1) ≤ 2147483647) ∧ (LX6_reached_32 d n Q a0 a1 a2 a3 a4 a5 a6 (a7 + 1) σ))))))))) : LX6_reached_32 d n Q a0 a1 a2 a3 a4 a5 a6 a7 σ := by
  unfold LX6_reached_32
  refine K_iload 7 (kdA dt_MX6_reached 18 rfl) rfl ?_
  refine K_aload_n 0 (kdA dt_MX6_reached 19 rfl) rfl rfl ?_
  obtain ⟨c1, h⟩ := h
  refine gf6_25 rfl (kdA dt_MX6_reached 20 rfl) c1 ?_
  refine K_icmp_ge (tgt := 117) (kdA dt_MX6_reached 21 rfl) rfl (fun c => ?_) (fun c => ?_)
  · have h := h.1 c
    obtain ⟨c2, h⟩ := h
    refine K_iinc (ls' := [(0, (2, a0)), (1, (0, a1)), (2, (0, a2)), (3, (0, a3)), (4, (0, a4)), (5, (0, a5)), (6, (0, (a6 + 1))), (7, (0, a7))]) 6 (kdA dt_MX6_reached 63 rfl) rfl c2 (by decide) rfl ?_
    refine K_goto (tgt := 20) (kdA dt_MX6_reached 64 rfl) rfl ?_
    refine K_pick [0, 1, 2, 3, 4, 5, 6] (ls' := [(0, (2, a0)), (1, (0, a1)), (2, (0, a2)), (3, (0, a3)), (4, (0, a4)), (5, (0, a5)), (6, (0, (a6 + 1)))]) rfl ?_
    exact h
  · have h := h.2 c
    refine K_iload 6 (kdA dt_MX6_reached 22 rfl) rfl ?_
    refine K_iload_n 1 (kdA dt_MX6_reached 23 rfl) rfl rfl ?_
    refine K_icmp_ne (tgt := 53) (kdA dt_MX6_reached 24 rfl) rfl (fun c => ?_) (fun c => ?_)
    · have h := h.1 c
      refine K_iload 6 (kdA dt_MX6_reached 28 rfl) rfl ?_
      refine K_iload_n 2 (kdA dt_MX6_reached 29 rfl) rfl rfl ?_
      refine K_icmp_ne (tgt := 69) (kdA dt_MX6_reached 30 rfl) rfl (fun c => ?_) (fun c => ?_)
      · have h := h.1 c
        refine K_iconst (kdA dt_MX6_reached 36 rfl) (by decide) ?_
        refine K_istore (ls' := [(0, (2, a0)), (1, (0, a1)), (2, (0, a2)), (3, (0, a3)), (4, (0, a4)), (5, (0, a5)), (6, (0, a6)), (7, (0, a7)), (8, (0, 0))]) (kdA dt_MX6_reached 37 rfl) (by decide) rfl ?_
        refine K_iload 4 (kdA dt_MX6_reached 38 rfl) rfl ?_
        refine K_iload 6 (kdA dt_MX6_reached 39 rfl) rfl ?_
        refine K_ishr (kdA dt_MX6_reached 40 rfl) ?_
        refine K_iconst (kdA dt_MX6_reached 41 rfl) (by decide) ?_
        refine K_iand (kdA dt_MX6_reached 42 rfl) ?_
        refine K_iconst (kdA dt_MX6_reached 43 rfl) (by decide) ?_
        refine K_icmp_ne (tgt := 111) (kdA dt_MX6_reached 44 rfl) rfl (fun c => ?_) (fun c => ?_)
        · have h := h.1 c
          obtain ⟨c2, h⟩ := h
          refine K_iinc (ls' := [(0, (2, a0)), (1, (0, a1)), (2, (0, a2)), (3, (0, a3)), (4, (0, a4)), (5, (0, a5)), (6, (0, a6)), (7, (0, (a7 + 1))), (8, (0, 0))]) 7 (kdA dt_MX6_reached 61 rfl) rfl c2 (by decide) rfl ?_
          refine K_goto (tgt := 32) (kdA dt_MX6_reached 62 rfl) rfl ?_
          refine K_pick [0, 1, 2, 3, 4, 5, 6, 7] (ls' := [(0, (2, a0)), (1, (0, a1)), (2, (0, a2)), (3, (0, a3)), (4, (0, a4)), (5, (0, a5)), (6, (0, a6)), (7, (0, (a7 + 1)))]) rfl ?_
          exact h
        · have h := h.2 c
          refine K_iload 8 (kdA dt_MX6_reached 45 rfl) rfl ?_
          refine K_if_ne (tgt := 111) (kdA dt_MX6_reached 46 rfl) rfl (fun c => absurd c (by decide)) (fun _ => ?_)
          refine K_aload_n 0 (kdA dt_MX6_reached 47 rfl) rfl rfl ?_
          refine gf6_11 rfl (kdA dt_MX6_reached 48 rfl) c1 ?_
          refine K_iload 6 (kdA dt_MX6_reached 49 rfl) rfl ?_
          obtain ⟨c2, h⟩ := h
          obtain ⟨c3, h⟩ := h
          refine K_aaload (kdA dt_MX6_reached 50 rfl) (by decide) c2 c3.1 c3.2 ?_
          refine K_iload 7 (kdA dt_MX6_reached 51 rfl) rfl ?_
          obtain ⟨c4, h⟩ := h
          obtain ⟨c5, h⟩ := h
          refine K_iaload (kdA dt_MX6_reached 52 rfl) c4 c5.1 c5.2 ?_
          refine K_iload_n 3 (kdA dt_MX6_reached 53 rfl) rfl rfl ?_
          refine K_icmp_ge (tgt := 111) (kdA dt_MX6_reached 54 rfl) rfl (fun c => ?_) (fun c => ?_)
          · have h := h.1 c
            obtain ⟨c6, h⟩ := h
            refine K_iinc (ls' := [(0, (2, a0)), (1, (0, a1)), (2, (0, a2)), (3, (0, a3)), (4, (0, a4)), (5, (0, a5)), (6, (0, a6)), (7, (0, (a7 + 1))), (8, (0, 0))]) 7 (kdA dt_MX6_reached 61 rfl) rfl c6 (by decide) rfl ?_
            refine K_goto (tgt := 32) (kdA dt_MX6_reached 62 rfl) rfl ?_
            refine K_pick [0, 1, 2, 3, 4, 5, 6, 7] (ls' := [(0, (2, a0)), (1, (0, a1)), (2, (0, a2)), (3, (0, a3)), (4, (0, a4)), (5, (0, a5)), (6, (0, a6)), (7, (0, (a7 + 1)))]) rfl ?_
            exact h
          · have h := h.2 c
            refine K_iload 4 (kdA dt_MX6_reached 55 rfl) rfl ?_
            refine K_iconst (kdA dt_MX6_reached 56 rfl) (by decide) ?_
            refine K_iload 7 (kdA dt_MX6_reached 57 rfl) rfl ?_
            refine K_ishl (kdA dt_MX6_reached 58 rfl) ?_
            refine K_ior (kdA dt_MX6_reached 59 rfl) ?_
            refine K_istore (ls' := [(0, (2, a0)), (1, (0, a1)), (2, (0, a2)), (3, (0, a3)), (4, (0, (kor a4 (kishl 1 a7)))), (5, (0, a5)), (6, (0, a6)), (7, (0, a7)), (8, (0, 0))]) (kdA dt_MX6_reached 60 rfl) (by decide) rfl ?_
            obtain ⟨c6, h⟩ := h
            refine K_iinc (ls' := [(0, (2, a0)), (1, (0, a1)), (2, (0, a2)), (3, (0, a3)), (4, (0, (kor a4 (kishl 1 a7)))), (5, (0, a5)), (6, (0, a6)), (7, (0, (a7 + 1))), (8, (0, 0))]) 7 (kdA dt_MX6_reached 61 rfl) rfl c6 (by decide) rfl ?_
            refine K_goto (tgt := 32) (kdA dt_MX6_reached 62 rfl) rfl ?_
            refine K_pick [0, 1, 2, 3, 4, 5, 6, 7] (ls' := [(0, (2, a0)), (1, (0, a1)), (2, (0, a2)), (3, (0, a3)), (4, (0, (kor a4 (kishl 1 a7)))), (5, (0, a5)), (6, (0, a6)), (7, (0, (a7 + 1)))]) rfl ?_
            exact h
      · have h := h.2 c
        refine K_iload 7 (kdA dt_MX6_reached 31 rfl) rfl ?_
        refine K_iload_n 1 (kdA dt_MX6_reached 32 rfl) rfl rfl ?_
        refine K_icmp_ne (tgt := 69) (kdA dt_MX6_reached 33 rfl) rfl (fun c => ?_) (fun c => ?_)
        · have h := h.1 c
          refine K_iconst (kdA dt_MX6_reached 36 rfl) (by decide) ?_
          refine K_istore (ls' := [(0, (2, a0)), (1, (0, a1)), (2, (0, a2)), (3, (0, a3)), (4, (0, a4)), (5, (0, a5)), (6, (0, a6)), (7, (0, a7)), (8, (0, 0))]) (kdA dt_MX6_reached 37 rfl) (by decide) rfl ?_
          refine K_iload 4 (kdA dt_MX6_reached 38 rfl) rfl ?_
          refine K_iload 6 (kdA dt_MX6_reached 39 rfl) rfl ?_
          refine K_ishr (kdA dt_MX6_reached 40 rfl) ?_
          refine K_iconst (kdA dt_MX6_reached 41 rfl) (by decide) ?_
          refine K_iand (kdA dt_MX6_reached 42 rfl) ?_
          refine K_iconst (kdA dt_MX6_reached 43 rfl) (by decide) ?_
          refine K_icmp_ne (tgt := 111) (kdA dt_MX6_reached 44 rfl) rfl (fun c => ?_) (fun c => ?_)
          · have h := h.1 c
            obtain ⟨c2, h⟩ := h
            refine K_iinc (ls' := [(0, (2, a0)), (1, (0, a1)), (2, (0, a2)), (3, (0, a3)), (4, (0, a4)), (5, (0, a5)), (6, (0, a6)), (7, (0, (a7 + 1))), (8, (0, 0))]) 7 (kdA dt_MX6_reached 61 rfl) rfl c2 (by decide) rfl ?_
            refine K_goto (tgt := 32) (kdA dt_MX6_reached 62 rfl) rfl ?_
            refine K_pick [0, 1, 2, 3, 4, 5, 6, 7] (ls' := [(0, (2, a0)), (1, (0, a1)), (2, (0, a2)), (3, (0, a3)), (4, (0, a4)), (5, (0, a5)), (6, (0, a6)), (7, (0, (a7 + 1)))]) rfl ?_
            exact h
          · have h := h.2 c
            refine K_iload 8 (kdA dt_MX6_reached 45 rfl) rfl ?_
            refine K_if_ne (tgt := 111) (kdA dt_MX6_reached 46 rfl) rfl (fun c => absurd c (by decide)) (fun _ => ?_)
            refine K_aload_n 0 (kdA dt_MX6_reached 47 rfl) rfl rfl ?_
            refine gf6_11 rfl (kdA dt_MX6_reached 48 rfl) c1 ?_
            refine K_iload 6 (kdA dt_MX6_reached 49 rfl) rfl ?_
            obtain ⟨c2, h⟩ := h
            obtain ⟨c3, h⟩ := h
            refine K_aaload (kdA dt_MX6_reached 50 rfl) (by decide) c2 c3.1 c3.2 ?_
            refine K_iload 7 (kdA dt_MX6_reached 51 rfl) rfl ?_
            obtain ⟨c4, h⟩ := h
            obtain ⟨c5, h⟩ := h
            refine K_iaload (kdA dt_MX6_reached 52 rfl) c4 c5.1 c5.2 ?_
            refine K_iload_n 3 (kdA dt_MX6_reached 53 rfl) rfl rfl ?_
            refine K_icmp_ge (tgt := 111) (kdA dt_MX6_reached 54 rfl) rfl (fun c => ?_) (fun c => ?_)
            · have h := h.1 c
              obtain ⟨c6, h⟩ := h
              refine K_iinc (ls' := [(0, (2, a0)), (1, (0, a1)), (2, (0, a2)), (3, (0, a3)), (4, (0, a4)), (5, (0, a5)), (6, (0, a6)), (7, (0, (a7 + 1))), (8, (0, 0))]) 7 (kdA dt_MX6_reached 61 rfl) rfl c6 (by decide) rfl ?_
              refine K_goto (tgt := 32) (kdA dt_MX6_reached 62 rfl) rfl ?_
              refine K_pick [0, 1, 2, 3, 4, 5, 6, 7] (ls' := [(0, (2, a0)), (1, (0, a1)), (2, (0, a2)), (3, (0, a3)), (4, (0, a4)), (5, (0, a5)), (6, (0, a6)), (7, (0, (a7 + 1)))]) rfl ?_
              exact h
            · have h := h.2 c
              refine K_iload 4 (kdA dt_MX6_reached 55 rfl) rfl ?_
              refine K_iconst (kdA dt_MX6_reached 56 rfl) (by decide) ?_
              refine K_iload 7 (kdA dt_MX6_reached 57 rfl) rfl ?_
              refine K_ishl (kdA dt_MX6_reached 58 rfl) ?_
              refine K_ior (kdA dt_MX6_reached 59 rfl) ?_
              refine K_istore (ls' := [(0, (2, a0)), (1, (0, a1)), (2, (0, a2)), (3, (0, a3)), (4, (0, (kor a4 (kishl 1 a7)))), (5, (0, a5)), (6, (0, a6)), (7, (0, a7)), (8, (0, 0))]) (kdA dt_MX6_reached 60 rfl) (by decide) rfl ?_
              obtain ⟨c6, h⟩ := h
              refine K_iinc (ls' := [(0, (2, a0)), (1, (0, a1)), (2, (0, a2)), (3, (0, a3)), (4, (0, (kor a4 (kishl 1 a7)))), (5, (0, a5)), (6, (0, a6)), (7, (0, (a7 + 1))), (8, (0, 0))]) 7 (kdA dt_MX6_reached 61 rfl) rfl c6 (by decide) rfl ?_
              refine K_goto (tgt := 32) (kdA dt_MX6_reached 62 rfl) rfl ?_
              refine K_pick [0, 1, 2, 3, 4, 5, 6, 7] (ls' := [(0, (2, a0)), (1, (0, a1)), (2, (0, a2)), (3, (0, a3)), (4, (0, (kor a4 (kishl 1 a7)))), (5, (0, a5)), (6, (0, a6)), (7, (0, (a7 + 1)))]) rfl ?_
              exact h
        · have h := h.2 c
          refine K_iconst (kdA dt_MX6_reached 34 rfl) (by decide) ?_
          refine K_goto (tgt := 70) (kdA dt_MX6_reached 35 rfl) rfl ?_
          refine K_istore (ls' := [(0, (2, a0)), (1, (0, a1)), (2, (0, a2)), (3, (0, a3)), (4, (0, a4)), (5, (0, a5)), (6, (0, a6)), (7, (0, a7)), (8, (0, 1))]) (kdA dt_MX6_reached 37 rfl) (by decide) rfl ?_
          refine K_iload 4 (kdA dt_MX6_reached 38 rfl) rfl ?_
          refine K_iload 6 (kdA dt_MX6_reached 39 rfl) rfl ?_
          refine K_ishr (kdA dt_MX6_reached 40 rfl) ?_
          refine K_iconst (kdA dt_MX6_reached 41 rfl) (by decide) ?_
          refine K_iand (kdA dt_MX6_reached 42 rfl) ?_
          refine K_iconst (kdA dt_MX6_reached 43 rfl) (by decide) ?_
          refine K_icmp_ne (tgt := 111) (kdA dt_MX6_reached 44 rfl) rfl (fun c => ?_) (fun c => ?_)
          · have h := h.1 c
            obtain ⟨c2, h⟩ := h
            refine K_iinc (ls' := [(0, (2, a0)), (1, (0, a1)), (2, (0, a2)), (3, (0, a3)), (4, (0, a4)), (5, (0, a5)), (6, (0, a6)), (7, (0, (a7 + 1))), (8, (0, 1))]) 7 (kdA dt_MX6_reached 61 rfl) rfl c2 (by decide) rfl ?_
            refine K_goto (tgt := 32) (kdA dt_MX6_reached 62 rfl) rfl ?_
            refine K_pick [0, 1, 2, 3, 4, 5, 6, 7] (ls' := [(0, (2, a0)), (1, (0, a1)), (2, (0, a2)), (3, (0, a3)), (4, (0, a4)), (5, (0, a5)), (6, (0, a6)), (7, (0, (a7 + 1)))]) rfl ?_
            exact h
          · have h := h.2 c
            refine K_iload 8 (kdA dt_MX6_reached 45 rfl) rfl ?_
            refine K_if_ne (tgt := 111) (kdA dt_MX6_reached 46 rfl) rfl (fun _ => ?_) (fun c => absurd (by decide) c)
            obtain ⟨c2, h⟩ := h
            refine K_iinc (ls' := [(0, (2, a0)), (1, (0, a1)), (2, (0, a2)), (3, (0, a3)), (4, (0, a4)), (5, (0, a5)), (6, (0, a6)), (7, (0, (a7 + 1))), (8, (0, 1))]) 7 (kdA dt_MX6_reached 61 rfl) rfl c2 (by decide) rfl ?_
            refine K_goto (tgt := 32) (kdA dt_MX6_reached 62 rfl) rfl ?_
            refine K_pick [0, 1, 2, 3, 4, 5, 6, 7] (ls' := [(0, (2, a0)), (1, (0, a1)), (2, (0, a2)), (3, (0, a3)), (4, (0, a4)), (5, (0, a5)), (6, (0, a6)), (7, (0, (a7 + 1)))]) rfl ?_
            exact h
    · have h := h.2 c
      refine K_iload 7 (kdA dt_MX6_reached 25 rfl) rfl ?_
      refine K_iload_n 2 (kdA dt_MX6_reached 26 rfl) rfl rfl ?_
      refine K_icmp_eq (tgt := 65) (kdA dt_MX6_reached 27 rfl) rfl (fun c => ?_) (fun c => ?_)
      · have h := h.1 c
        refine K_iconst (kdA dt_MX6_reached 34 rfl) (by decide) ?_
        refine K_goto (tgt := 70) (kdA dt_MX6_reached 35 rfl) rfl ?_
        refine K_istore (ls' := [(0, (2, a0)), (1, (0, a1)), (2, (0, a2)), (3, (0, a3)), (4, (0, a4)), (5, (0, a5)), (6, (0, a6)), (7, (0, a7)), (8, (0, 1))]) (kdA dt_MX6_reached 37 rfl) (by decide) rfl ?_
        refine K_iload 4 (kdA dt_MX6_reached 38 rfl) rfl ?_
        refine K_iload 6 (kdA dt_MX6_reached 39 rfl) rfl ?_
        refine K_ishr (kdA dt_MX6_reached 40 rfl) ?_
        refine K_iconst (kdA dt_MX6_reached 41 rfl) (by decide) ?_
        refine K_iand (kdA dt_MX6_reached 42 rfl) ?_
        refine K_iconst (kdA dt_MX6_reached 43 rfl) (by decide) ?_
        refine K_icmp_ne (tgt := 111) (kdA dt_MX6_reached 44 rfl) rfl (fun c => ?_) (fun c => ?_)
        · have h := h.1 c
          obtain ⟨c2, h⟩ := h
          refine K_iinc (ls' := [(0, (2, a0)), (1, (0, a1)), (2, (0, a2)), (3, (0, a3)), (4, (0, a4)), (5, (0, a5)), (6, (0, a6)), (7, (0, (a7 + 1))), (8, (0, 1))]) 7 (kdA dt_MX6_reached 61 rfl) rfl c2 (by decide) rfl ?_
          refine K_goto (tgt := 32) (kdA dt_MX6_reached 62 rfl) rfl ?_
          refine K_pick [0, 1, 2, 3, 4, 5, 6, 7] (ls' := [(0, (2, a0)), (1, (0, a1)), (2, (0, a2)), (3, (0, a3)), (4, (0, a4)), (5, (0, a5)), (6, (0, a6)), (7, (0, (a7 + 1)))]) rfl ?_
          exact h
        · have h := h.2 c
          refine K_iload 8 (kdA dt_MX6_reached 45 rfl) rfl ?_
          refine K_if_ne (tgt := 111) (kdA dt_MX6_reached 46 rfl) rfl (fun _ => ?_) (fun c => absurd (by decide) c)
          obtain ⟨c2, h⟩ := h
          refine K_iinc (ls' := [(0, (2, a0)), (1, (0, a1)), (2, (0, a2)), (3, (0, a3)), (4, (0, a4)), (5, (0, a5)), (6, (0, a6)), (7, (0, (a7 + 1))), (8, (0, 1))]) 7 (kdA dt_MX6_reached 61 rfl) rfl c2 (by decide) rfl ?_
          refine K_goto (tgt := 32) (kdA dt_MX6_reached 62 rfl) rfl ?_
          refine K_pick [0, 1, 2, 3, 4, 5, 6, 7] (ls' := [(0, (2, a0)), (1, (0, a1)), (2, (0, a2)), (3, (0, a3)), (4, (0, a4)), (5, (0, a5)), (6, (0, a6)), (7, (0, (a7 + 1)))]) rfl ?_
          exact h
      · have h := h.2 c
        refine K_iload 6 (kdA dt_MX6_reached 28 rfl) rfl ?_
        refine K_iload_n 2 (kdA dt_MX6_reached 29 rfl) rfl rfl ?_
        refine K_icmp_ne (tgt := 69) (kdA dt_MX6_reached 30 rfl) rfl (fun c => ?_) (fun c => ?_)
        · have h := h.1 c
          refine K_iconst (kdA dt_MX6_reached 36 rfl) (by decide) ?_
          refine K_istore (ls' := [(0, (2, a0)), (1, (0, a1)), (2, (0, a2)), (3, (0, a3)), (4, (0, a4)), (5, (0, a5)), (6, (0, a6)), (7, (0, a7)), (8, (0, 0))]) (kdA dt_MX6_reached 37 rfl) (by decide) rfl ?_
          refine K_iload 4 (kdA dt_MX6_reached 38 rfl) rfl ?_
          refine K_iload 6 (kdA dt_MX6_reached 39 rfl) rfl ?_
          refine K_ishr (kdA dt_MX6_reached 40 rfl) ?_
          refine K_iconst (kdA dt_MX6_reached 41 rfl) (by decide) ?_
          refine K_iand (kdA dt_MX6_reached 42 rfl) ?_
          refine K_iconst (kdA dt_MX6_reached 43 rfl) (by decide) ?_
          refine K_icmp_ne (tgt := 111) (kdA dt_MX6_reached 44 rfl) rfl (fun c => ?_) (fun c => ?_)
          · have h := h.1 c
            obtain ⟨c2, h⟩ := h
            refine K_iinc (ls' := [(0, (2, a0)), (1, (0, a1)), (2, (0, a2)), (3, (0, a3)), (4, (0, a4)), (5, (0, a5)), (6, (0, a6)), (7, (0, (a7 + 1))), (8, (0, 0))]) 7 (kdA dt_MX6_reached 61 rfl) rfl c2 (by decide) rfl ?_
            refine K_goto (tgt := 32) (kdA dt_MX6_reached 62 rfl) rfl ?_
            refine K_pick [0, 1, 2, 3, 4, 5, 6, 7] (ls' := [(0, (2, a0)), (1, (0, a1)), (2, (0, a2)), (3, (0, a3)), (4, (0, a4)), (5, (0, a5)), (6, (0, a6)), (7, (0, (a7 + 1)))]) rfl ?_
            exact h
          · have h := h.2 c
            refine K_iload 8 (kdA dt_MX6_reached 45 rfl) rfl ?_
            refine K_if_ne (tgt := 111) (kdA dt_MX6_reached 46 rfl) rfl (fun c => absurd c (by decide)) (fun _ => ?_)
            refine K_aload_n 0 (kdA dt_MX6_reached 47 rfl) rfl rfl ?_
            refine gf6_11 rfl (kdA dt_MX6_reached 48 rfl) c1 ?_
            refine K_iload 6 (kdA dt_MX6_reached 49 rfl) rfl ?_
            obtain ⟨c2, h⟩ := h
            obtain ⟨c3, h⟩ := h
            refine K_aaload (kdA dt_MX6_reached 50 rfl) (by decide) c2 c3.1 c3.2 ?_
            refine K_iload 7 (kdA dt_MX6_reached 51 rfl) rfl ?_
            obtain ⟨c4, h⟩ := h
            obtain ⟨c5, h⟩ := h
            refine K_iaload (kdA dt_MX6_reached 52 rfl) c4 c5.1 c5.2 ?_
            refine K_iload_n 3 (kdA dt_MX6_reached 53 rfl) rfl rfl ?_
            refine K_icmp_ge (tgt := 111) (kdA dt_MX6_reached 54 rfl) rfl (fun c => ?_) (fun c => ?_)
            · have h := h.1 c
              obtain ⟨c6, h⟩ := h
              refine K_iinc (ls' := [(0, (2, a0)), (1, (0, a1)), (2, (0, a2)), (3, (0, a3)), (4, (0, a4)), (5, (0, a5)), (6, (0, a6)), (7, (0, (a7 + 1))), (8, (0, 0))]) 7 (kdA dt_MX6_reached 61 rfl) rfl c6 (by decide) rfl ?_
              refine K_goto (tgt := 32) (kdA dt_MX6_reached 62 rfl) rfl ?_
              refine K_pick [0, 1, 2, 3, 4, 5, 6, 7] (ls' := [(0, (2, a0)), (1, (0, a1)), (2, (0, a2)), (3, (0, a3)), (4, (0, a4)), (5, (0, a5)), (6, (0, a6)), (7, (0, (a7 + 1)))]) rfl ?_
              exact h
            · have h := h.2 c
              refine K_iload 4 (kdA dt_MX6_reached 55 rfl) rfl ?_
              refine K_iconst (kdA dt_MX6_reached 56 rfl) (by decide) ?_
              refine K_iload 7 (kdA dt_MX6_reached 57 rfl) rfl ?_
              refine K_ishl (kdA dt_MX6_reached 58 rfl) ?_
              refine K_ior (kdA dt_MX6_reached 59 rfl) ?_
              refine K_istore (ls' := [(0, (2, a0)), (1, (0, a1)), (2, (0, a2)), (3, (0, a3)), (4, (0, (kor a4 (kishl 1 a7)))), (5, (0, a5)), (6, (0, a6)), (7, (0, a7)), (8, (0, 0))]) (kdA dt_MX6_reached 60 rfl) (by decide) rfl ?_
              obtain ⟨c6, h⟩ := h
              refine K_iinc (ls' := [(0, (2, a0)), (1, (0, a1)), (2, (0, a2)), (3, (0, a3)), (4, (0, (kor a4 (kishl 1 a7)))), (5, (0, a5)), (6, (0, a6)), (7, (0, (a7 + 1))), (8, (0, 0))]) 7 (kdA dt_MX6_reached 61 rfl) rfl c6 (by decide) rfl ?_
              refine K_goto (tgt := 32) (kdA dt_MX6_reached 62 rfl) rfl ?_
              refine K_pick [0, 1, 2, 3, 4, 5, 6, 7] (ls' := [(0, (2, a0)), (1, (0, a1)), (2, (0, a2)), (3, (0, a3)), (4, (0, (kor a4 (kishl 1 a7)))), (5, (0, a5)), (6, (0, a6)), (7, (0, (a7 + 1)))]) rfl ?_
              exact h
        · have h := h.2 c
          refine K_iload 7 (kdA dt_MX6_reached 31 rfl) rfl ?_
          refine K_iload_n 1 (kdA dt_MX6_reached 32 rfl) rfl rfl ?_
          refine K_icmp_ne (tgt := 69) (kdA dt_MX6_reached 33 rfl) rfl (fun c => ?_) (fun c => ?_)
          · have h := h.1 c
            refine K_iconst (kdA dt_MX6_reached 36 rfl) (by decide) ?_
            refine K_istore (ls' := [(0, (2, a0)), (1, (0, a1)), (2, (0, a2)), (3, (0, a3)), (4, (0, a4)), (5, (0, a5)), (6, (0, a6)), (7, (0, a7)), (8, (0, 0))]) (kdA dt_MX6_reached 37 rfl) (by decide) rfl ?_
            refine K_iload 4 (kdA dt_MX6_reached 38 rfl) rfl ?_
            refine K_iload 6 (kdA dt_MX6_reached 39 rfl) rfl ?_
            refine K_ishr (kdA dt_MX6_reached 40 rfl) ?_
            refine K_iconst (kdA dt_MX6_reached 41 rfl) (by decide) ?_
            refine K_iand (kdA dt_MX6_reached 42 rfl) ?_
            refine K_iconst (kdA dt_MX6_reached 43 rfl) (by decide) ?_
            refine K_icmp_ne (tgt := 111) (kdA dt_MX6_reached 44 rfl) rfl (fun c => ?_) (fun c => ?_)
            · have h := h.1 c
              obtain ⟨c2, h⟩ := h
              refine K_iinc (ls' := [(0, (2, a0)), (1, (0, a1)), (2, (0, a2)), (3, (0, a3)), (4, (0, a4)), (5, (0, a5)), (6, (0, a6)), (7, (0, (a7 + 1))), (8, (0, 0))]) 7 (kdA dt_MX6_reached 61 rfl) rfl c2 (by decide) rfl ?_
              refine K_goto (tgt := 32) (kdA dt_MX6_reached 62 rfl) rfl ?_
              refine K_pick [0, 1, 2, 3, 4, 5, 6, 7] (ls' := [(0, (2, a0)), (1, (0, a1)), (2, (0, a2)), (3, (0, a3)), (4, (0, a4)), (5, (0, a5)), (6, (0, a6)), (7, (0, (a7 + 1)))]) rfl ?_
              exact h
            · have h := h.2 c
              refine K_iload 8 (kdA dt_MX6_reached 45 rfl) rfl ?_
              refine K_if_ne (tgt := 111) (kdA dt_MX6_reached 46 rfl) rfl (fun c => absurd c (by decide)) (fun _ => ?_)
              refine K_aload_n 0 (kdA dt_MX6_reached 47 rfl) rfl rfl ?_
              refine gf6_11 rfl (kdA dt_MX6_reached 48 rfl) c1 ?_
              refine K_iload 6 (kdA dt_MX6_reached 49 rfl) rfl ?_
              obtain ⟨c2, h⟩ := h
              obtain ⟨c3, h⟩ := h
              refine K_aaload (kdA dt_MX6_reached 50 rfl) (by decide) c2 c3.1 c3.2 ?_
              refine K_iload 7 (kdA dt_MX6_reached 51 rfl) rfl ?_
              obtain ⟨c4, h⟩ := h
              obtain ⟨c5, h⟩ := h
              refine K_iaload (kdA dt_MX6_reached 52 rfl) c4 c5.1 c5.2 ?_
              refine K_iload_n 3 (kdA dt_MX6_reached 53 rfl) rfl rfl ?_
              refine K_icmp_ge (tgt := 111) (kdA dt_MX6_reached 54 rfl) rfl (fun c => ?_) (fun c => ?_)
              · have h := h.1 c
                obtain ⟨c6, h⟩ := h
                refine K_iinc (ls' := [(0, (2, a0)), (1, (0, a1)), (2, (0, a2)), (3, (0, a3)), (4, (0, a4)), (5, (0, a5)), (6, (0, a6)), (7, (0, (a7 + 1))), (8, (0, 0))]) 7 (kdA dt_MX6_reached 61 rfl) rfl c6 (by decide) rfl ?_
                refine K_goto (tgt := 32) (kdA dt_MX6_reached 62 rfl) rfl ?_
                refine K_pick [0, 1, 2, 3, 4, 5, 6, 7] (ls' := [(0, (2, a0)), (1, (0, a1)), (2, (0, a2)), (3, (0, a3)), (4, (0, a4)), (5, (0, a5)), (6, (0, a6)), (7, (0, (a7 + 1)))]) rfl ?_
                exact h
              · have h := h.2 c
                refine K_iload 4 (kdA dt_MX6_reached 55 rfl) rfl ?_
                refine K_iconst (kdA dt_MX6_reached 56 rfl) (by decide) ?_
                refine K_iload 7 (kdA dt_MX6_reached 57 rfl) rfl ?_
                refine K_ishl (kdA dt_MX6_reached 58 rfl) ?_
                refine K_ior (kdA dt_MX6_reached 59 rfl) ?_
                refine K_istore (ls' := [(0, (2, a0)), (1, (0, a1)), (2, (0, a2)), (3, (0, a3)), (4, (0, (kor a4 (kishl 1 a7)))), (5, (0, a5)), (6, (0, a6)), (7, (0, a7)), (8, (0, 0))]) (kdA dt_MX6_reached 60 rfl) (by decide) rfl ?_
                obtain ⟨c6, h⟩ := h
                refine K_iinc (ls' := [(0, (2, a0)), (1, (0, a1)), (2, (0, a2)), (3, (0, a3)), (4, (0, (kor a4 (kishl 1 a7)))), (5, (0, a5)), (6, (0, a6)), (7, (0, (a7 + 1))), (8, (0, 0))]) 7 (kdA dt_MX6_reached 61 rfl) rfl c6 (by decide) rfl ?_
                refine K_goto (tgt := 32) (kdA dt_MX6_reached 62 rfl) rfl ?_
                refine K_pick [0, 1, 2, 3, 4, 5, 6, 7] (ls' := [(0, (2, a0)), (1, (0, a1)), (2, (0, a2)), (3, (0, a3)), (4, (0, (kor a4 (kishl 1 a7)))), (5, (0, a5)), (6, (0, a6)), (7, (0, (a7 + 1)))]) rfl ?_
                exact h
          · have h := h.2 c
            refine K_iconst (kdA dt_MX6_reached 34 rfl) (by decide) ?_
            refine K_goto (tgt := 70) (kdA dt_MX6_reached 35 rfl) rfl ?_
            refine K_istore (ls' := [(0, (2, a0)), (1, (0, a1)), (2, (0, a2)), (3, (0, a3)), (4, (0, a4)), (5, (0, a5)), (6, (0, a6)), (7, (0, a7)), (8, (0, 1))]) (kdA dt_MX6_reached 37 rfl) (by decide) rfl ?_
            refine K_iload 4 (kdA dt_MX6_reached 38 rfl) rfl ?_
            refine K_iload 6 (kdA dt_MX6_reached 39 rfl) rfl ?_
            refine K_ishr (kdA dt_MX6_reached 40 rfl) ?_
            refine K_iconst (kdA dt_MX6_reached 41 rfl) (by decide) ?_
            refine K_iand (kdA dt_MX6_reached 42 rfl) ?_
            refine K_iconst (kdA dt_MX6_reached 43 rfl) (by decide) ?_
            refine K_icmp_ne (tgt := 111) (kdA dt_MX6_reached 44 rfl) rfl (fun c => ?_) (fun c => ?_)
            · have h := h.1 c
              obtain ⟨c2, h⟩ := h
              refine K_iinc (ls' := [(0, (2, a0)), (1, (0, a1)), (2, (0, a2)), (3, (0, a3)), (4, (0, a4)), (5, (0, a5)), (6, (0, a6)), (7, (0, (a7 + 1))), (8, (0, 1))]) 7 (kdA dt_MX6_reached 61 rfl) rfl c2 (by decide) rfl ?_
              refine K_goto (tgt := 32) (kdA dt_MX6_reached 62 rfl) rfl ?_
              refine K_pick [0, 1, 2, 3, 4, 5, 6, 7] (ls' := [(0, (2, a0)), (1, (0, a1)), (2, (0, a2)), (3, (0, a3)), (4, (0, a4)), (5, (0, a5)), (6, (0, a6)), (7, (0, (a7 + 1)))]) rfl ?_
              exact h
            · have h := h.2 c
              refine K_iload 8 (kdA dt_MX6_reached 45 rfl) rfl ?_
              refine K_if_ne (tgt := 111) (kdA dt_MX6_reached 46 rfl) rfl (fun _ => ?_) (fun c => absurd (by decide) c)
              obtain ⟨c2, h⟩ := h
              refine K_iinc (ls' := [(0, (2, a0)), (1, (0, a1)), (2, (0, a2)), (3, (0, a3)), (4, (0, a4)), (5, (0, a5)), (6, (0, a6)), (7, (0, (a7 + 1))), (8, (0, 1))]) 7 (kdA dt_MX6_reached 61 rfl) rfl c2 (by decide) rfl ?_
              refine K_goto (tgt := 32) (kdA dt_MX6_reached 62 rfl) rfl ?_
              refine K_pick [0, 1, 2, 3, 4, 5, 6, 7] (ls' := [(0, (2, a0)), (1, (0, a1)), (2, (0, a2)), (3, (0, a3)), (4, (0, a4)), (5, (0, a5)), (6, (0, a6)), (7, (0, (a7 + 1)))]) rfl ?_
              exact h
theorem EX6_reached {d n : Nat} {Q : Int → kS → Prop} {a0 a1 a2 a3 : Int} {σ : kS} (h : (-2147483648 ≤ a1 ∧ a1 ≤ 2147483647) → (-2147483648 ≤ a2 ∧ a2 ≤ 2147483647) → (-2147483648 ≤ a3 ∧ a3 ≤ 2147483647) → kokw n σ → LX6_reached_0 d n Q a0 a1 a2 a3 σ) : Ci (d + 1) MX6_reached [(2, a0), (0, a1), (0, a2), (0, a3)] n σ Q := Tri_of (by decide +kernel) (Nat.le_of_ble_eq_true rfl) (fun hk hw => h (hk (0, a1) (List.mem_of_getElem? (i := 1) rfl)) (hk (0, a2) (List.mem_of_getElem? (i := 2) rfl)) (hk (0, a3) (List.mem_of_getElem? (i := 3) rfl)) hw)

def LX7_addWorld_0 (d n : Nat) (Q : kS → Prop) (a0 : Int) (a1 : Int) (a2 : Int) (σ : kS) : Prop := K (d + 1) MX7_addWorld (kPv n Q) (0, 0) 0 [(0, (2, a0)), (1, (0, a1)), (2, (2, a2))] [] n σ
def LX7_addWorld_5 (d n : Nat) (Q : kS → Prop) (a0 : Int) (a1 : Int) (a2 : Int) (a3 : Int) (a4 : Int) (σ : kS) : Prop := K (d + 1) MX7_addWorld (kPv n Q) (0, 0) 5 [(0, (2, a0)), (1, (0, a1)), (2, (2, a2)), (3, (0, a3)), (4, (0, a4))] [] n σ
theorem SX7_addWorld_0 {d n : Nat} {Q : kS → Prop} {a0 a1 a2 : Int} {σ : kS} (h : LX7_addWorld_5 d n Q a0 a1 a2 0 0 σ) : LX7_addWorld_0 d n Q a0 a1 a2 σ := by
  unfold LX7_addWorld_0
  refine K_iconst (kdA dt_MX7_addWorld 0 rfl) (by decide) ?_
  refine K_istore_n (ls' := [(0, (2, a0)), (1, (0, a1)), (2, (2, a2)), (3, (0, 0))]) (kdA dt_MX7_addWorld 1 rfl) rfl (by decide) rfl ?_
  refine K_iconst (kdA dt_MX7_addWorld 2 rfl) (by decide) ?_
  refine K_istore (ls' := [(0, (2, a0)), (1, (0, a1)), (2, (2, a2)), (3, (0, 0)), (4, (0, 0))]) (kdA dt_MX7_addWorld 3 rfl) (by decide) rfl ?_
  exact h
theorem SX7_addWorld_5 {d n : Nat} {Q : kS → Prop} {a0 a1 a2 a3 a4 : Int} {σ : kS} (h : isO 7 n a0 ∧ (isO 8 n (σ a0 0) ∧ (((σ (σ a0 0) 1) ≤ a4 → isO 8 n (σ a0 1) ∧ (Ci d MX8_add [(2, (σ a0 1)), (0, a3)] n σ (fun x4 s1 => isO 8 n (s1 a0 2) ∧ (Ci d MX8_add [(2, (s1 a0 2)), (0, a1)] n s1 (fun x6 s2 => Q s2))))) ∧ (¬ (σ (σ a0 0) 1) ≤ a4 → Ci d MX8_at [(2, (σ a0 0)), (0, a4)] n σ (fun x3 s1 => isO 8 n a2 ∧ (Ci d MX8_has [(2, a2), (0, x3)] n s1 (fun x5 s2 => (x5 = 0 → (-2147483648 ≤ (a4 + 1) ∧ (a4 + 1) ≤ 2147483647) ∧ (LX7_addWorld_5 d n Q a0 a1 a2 a3 (a4 + 1) s2)) ∧ (¬ x5 = 0 → (-2147483648 ≤ (a4 + 1) ∧ (a4 + 1) ≤ 2147483647) ∧ (LX7_addWorld_5 d n Q a0 a1 a2 (kor a3 (kishl 1 a4)) (a4 + 1) s2))))))))) : LX7_addWorld_5 d n Q a0 a1 a2 a3 a4 σ := by
  unfold LX7_addWorld_5
  refine K_iload 4 (kdA dt_MX7_addWorld 4 rfl) rfl ?_
  refine K_aload_n 0 (kdA dt_MX7_addWorld 5 rfl) rfl rfl ?_
  obtain ⟨c1, h⟩ := h
  refine gf7_14 rfl (kdA dt_MX7_addWorld 6 rfl) c1 ?_
  obtain ⟨c2, h⟩ := h
  refine gf7_30 rfl (kdA dt_MX7_addWorld 7 rfl) c2 ?_
  refine K_icmp_ge (tgt := 46) (kdA dt_MX7_addWorld 8 rfl) rfl (fun c => ?_) (fun c => ?_)
  · have h := h.1 c
    refine K_aload_n 0 (kdA dt_MX7_addWorld 24 rfl) rfl rfl ?_
    refine gf7_20 rfl (kdA dt_MX7_addWorld 25 rfl) c1 ?_
    refine K_iload_n 3 (kdA dt_MX7_addWorld 26 rfl) rfl rfl ?_
    obtain ⟨c3, h⟩ := h
    refine K_cVi (c := 8) (as := [(0, a3)]) (st := []) (kdA dt_MX7_addWorld 27 rfl) rfl cl_MX8_add lk7_41 rfl rfl (Nat.le_of_ble_eq_true rfl) c3 (Ci.mono h (fun x4 s1 h => ?_))
    refine K_pop (kdA dt_MX7_addWorld 28 rfl) rfl ?_
    refine K_aload_n 0 (kdA dt_MX7_addWorld 29 rfl) rfl rfl ?_
    refine gf7_23 rfl (kdA dt_MX7_addWorld 30 rfl) c1 ?_
    refine K_iload_n 1 (kdA dt_MX7_addWorld 31 rfl) rfl rfl ?_
    obtain ⟨c5, h⟩ := h
    refine K_cVi (c := 8) (as := [(0, a1)]) (st := []) (kdA dt_MX7_addWorld 32 rfl) rfl cl_MX8_add lk7_41 rfl rfl (Nat.le_of_ble_eq_true rfl) c5 (Ci.mono h (fun x6 s2 h => ?_))
    refine K_pop (kdA dt_MX7_addWorld 33 rfl) rfl ?_
    exact K_return (kdA dt_MX7_addWorld 34 rfl) rfl ⟨rfl, rfl, h⟩
  · have h := h.2 c
    refine K_aload_n 2 (kdA dt_MX7_addWorld 9 rfl) rfl rfl ?_
    refine K_aload_n 0 (kdA dt_MX7_addWorld 10 rfl) rfl rfl ?_
    refine gf7_14 rfl (kdA dt_MX7_addWorld 11 rfl) c1 ?_
    refine K_iload 4 (kdA dt_MX7_addWorld 12 rfl) rfl ?_
    refine K_cVi (c := 8) (as := [(0, a4)]) (st := [(2, a2)]) (kdA dt_MX7_addWorld 13 rfl) rfl cl_MX8_at lk7_34 rfl rfl (Nat.le_of_ble_eq_true rfl) c2 (Ci.mono h (fun x3 s1 h => ?_))
    obtain ⟨c4, h⟩ := h
    refine K_cVi (c := 8) (as := [(0, x3)]) (st := []) (kdA dt_MX7_addWorld 14 rfl) rfl cl_MX8_has lk7_38 rfl rfl (Nat.le_of_ble_eq_true rfl) c4 (Ci.mono h (fun x5 s2 h => ?_))
    refine K_if_eq (tgt := 40) (kdA dt_MX7_addWorld 15 rfl) rfl (fun c => ?_) (fun c => ?_)
    · have h := h.1 c
      obtain ⟨c6, h⟩ := h
      refine K_iinc (ls' := [(0, (2, a0)), (1, (0, a1)), (2, (2, a2)), (3, (0, a3)), (4, (0, (a4 + 1)))]) 4 (kdA dt_MX7_addWorld 22 rfl) rfl c6 (by decide) rfl ?_
      refine K_goto (tgt := 5) (kdA dt_MX7_addWorld 23 rfl) rfl ?_
      exact h
    · have h := h.2 c
      refine K_iload_n 3 (kdA dt_MX7_addWorld 16 rfl) rfl rfl ?_
      refine K_iconst (kdA dt_MX7_addWorld 17 rfl) (by decide) ?_
      refine K_iload 4 (kdA dt_MX7_addWorld 18 rfl) rfl ?_
      refine K_ishl (kdA dt_MX7_addWorld 19 rfl) ?_
      refine K_ior (kdA dt_MX7_addWorld 20 rfl) ?_
      refine K_istore_n (ls' := [(0, (2, a0)), (1, (0, a1)), (2, (2, a2)), (3, (0, (kor a3 (kishl 1 a4)))), (4, (0, a4))]) (kdA dt_MX7_addWorld 21 rfl) rfl (by decide) rfl ?_
      obtain ⟨c6, h⟩ := h
      refine K_iinc (ls' := [(0, (2, a0)), (1, (0, a1)), (2, (2, a2)), (3, (0, (kor a3 (kishl 1 a4)))), (4, (0, (a4 + 1)))]) 4 (kdA dt_MX7_addWorld 22 rfl) rfl c6 (by decide) rfl ?_
      refine K_goto (tgt := 5) (kdA dt_MX7_addWorld 23 rfl) rfl ?_
      exact h
theorem EX7_addWorld {d n : Nat} {Q : kS → Prop} {a0 a1 a2 : Int} {σ : kS} (h : (-2147483648 ≤ a1 ∧ a1 ≤ 2147483647) → kokw n σ → LX7_addWorld_0 d n Q a0 a1 a2 σ) : Cv (d + 1) MX7_addWorld [(2, a0), (0, a1), (2, a2)] n σ Q := Tri_of (by decide +kernel) (Nat.le_of_ble_eq_true rfl) (fun hk hw => h (hk (0, a1) (List.mem_of_getElem? (i := 1) rfl)) hw)

def LX7_bestSet_0 (d n : Nat) (Q : Int → kS → Prop) (a0 : Int) (a1 : Int) (σ : kS) : Prop := K (d + 1) MX7_bestSet (kPi n Q) (0, 0) 0 [(0, (2, a0)), (1, (0, a1))] [] n σ
def LX7_bestSet_11 (d n : Nat) (Q : Int → kS → Prop) (a0 : Int) (a1 : Int) (a2 : Int) (a3 : Int) (a4 : Int) (σ : kS) : Prop := K (d + 1) MX7_bestSet (kPi n Q) (0, 0) 11 [(0, (2, a0)), (1, (0, a1)), (2, (0, a2)), (3, (0, a3)), (4, (0, a4))] [] n σ
theorem SX7_bestSet_0 {d n : Nat} {Q : Int → kS → Prop} {a0 a1 : Int} {σ : kS} (h : isO 7 n a0 ∧ (Ci d MX7_parted [(2, a0), (0, 0)] n σ (fun x2 s1 => LX7_bestSet_11 d n Q a0 a1 0 x2 1 s1))) : LX7_bestSet_0 d n Q a0 a1 σ := by
  unfold LX7_bestSet_0
  refine K_iconst (kdA dt_MX7_bestSet 0 rfl) (by decide) ?_
  refine K_istore_n (ls' := [(0, (2, a0)), (1, (0, a1)), (2, (0, 0))]) (kdA dt_MX7_bestSet 1 rfl) rfl (by decide) rfl ?_
  refine K_aload_n 0 (kdA dt_MX7_bestSet 2 rfl) rfl rfl ?_
  refine K_iconst (kdA dt_MX7_bestSet 3 rfl) (by decide) ?_
  obtain ⟨c1, h⟩ := h
  refine K_cVi (c := 7) (as := [(0, 0)]) (st := []) (kdA dt_MX7_bestSet 4 rfl) rfl cl_MX7_parted lk7_44 rfl rfl (Nat.le_of_ble_eq_true rfl) c1 (Ci.mono h (fun x2 s1 h => ?_))
  refine K_istore_n (ls' := [(0, (2, a0)), (1, (0, a1)), (2, (0, 0)), (3, (0, x2))]) (kdA dt_MX7_bestSet 5 rfl) rfl (by decide) rfl ?_
  refine K_iconst (kdA dt_MX7_bestSet 6 rfl) (by decide) ?_
  refine K_istore (ls' := [(0, (2, a0)), (1, (0, a1)), (2, (0, 0)), (3, (0, x2)), (4, (0, 1))]) (kdA dt_MX7_bestSet 7 rfl) (by decide) rfl ?_
  exact h
theorem SX7_bestSet_11 {d n : Nat} {Q : Int → kS → Prop} {a0 a1 a2 a3 a4 : Int} {σ : kS} (h : isO 7 n a0 ∧ (isO 8 n (σ a0 0) ∧ (((kishl 1 (σ (σ a0 0) 1)) ≤ a4 → Q a2 σ) ∧ (¬ (kishl 1 (σ (σ a0 0) 1)) ≤ a4 → Ci d MJm_bitCount [(0, a4)] n σ (fun x3 s1 => (x3 ≤ a1 → Ci d MX7_parted [(2, a0), (0, a4)] n s1 (fun x4 s2 => (x4 < a3 → (-2147483648 ≤ (a4 + 1) ∧ (a4 + 1) ≤ 2147483647) ∧ (LX7_bestSet_11 d n Q a0 a1 a4 x4 (a4 + 1) s2)) ∧ (¬ x4 < a3 → (¬ x4 = a3 → (-2147483648 ≤ (a4 + 1) ∧ (a4 + 1) ≤ 2147483647) ∧ (LX7_bestSet_11 d n Q a0 a1 a2 a3 (a4 + 1) s2)) ∧ (¬ (¬ x4 = a3) → Ci d MX7_goesAhead [(0, a4), (0, a2)] n s2 (fun x5 s3 => (x5 = 0 → (-2147483648 ≤ (a4 + 1) ∧ (a4 + 1) ≤ 2147483647) ∧ (LX7_bestSet_11 d n Q a0 a1 a2 a3 (a4 + 1) s3)) ∧ (¬ x5 = 0 → (-2147483648 ≤ (a4 + 1) ∧ (a4 + 1) ≤ 2147483647) ∧ (LX7_bestSet_11 d n Q a0 a1 a4 x4 (a4 + 1) s3))))))) ∧ (¬ x3 ≤ a1 → (-2147483648 ≤ (a4 + 1) ∧ (a4 + 1) ≤ 2147483647) ∧ (LX7_bestSet_11 d n Q a0 a1 a2 a3 (a4 + 1) s1))))))) : LX7_bestSet_11 d n Q a0 a1 a2 a3 a4 σ := by
  unfold LX7_bestSet_11
  refine K_iload 4 (kdA dt_MX7_bestSet 8 rfl) rfl ?_
  refine K_iconst (kdA dt_MX7_bestSet 9 rfl) (by decide) ?_
  refine K_aload_n 0 (kdA dt_MX7_bestSet 10 rfl) rfl rfl ?_
  obtain ⟨c1, h⟩ := h
  refine gf7_14 rfl (kdA dt_MX7_bestSet 11 rfl) c1 ?_
  obtain ⟨c2, h⟩ := h
  refine gf7_30 rfl (kdA dt_MX7_bestSet 12 rfl) c2 ?_
  refine K_ishl (kdA dt_MX7_bestSet 13 rfl) ?_
  refine K_icmp_ge (tgt := 78) (kdA dt_MX7_bestSet 14 rfl) rfl (fun c => ?_) (fun c => ?_)
  · have h := h.1 c
    refine K_iload_n 2 (kdA dt_MX7_bestSet 40 rfl) rfl rfl ?_
    exact K_ireturn (kdA dt_MX7_bestSet 41 rfl) rfl ⟨rfl, _, rfl, h⟩
  · have h := h.2 c
    refine K_iload 4 (kdA dt_MX7_bestSet 15 rfl) rfl ?_
    refine K_cSi (as := [(0, a4)]) (st := []) (kdA dt_MX7_bestSet 16 rfl) cl_MJm_bitCount lk7_47 rfl rfl (Nat.le_of_ble_eq_true rfl) (Ci.mono h (fun x3 s1 h => ?_))
    refine K_iload_n 1 (kdA dt_MX7_bestSet 17 rfl) rfl rfl ?_
    refine K_icmp_le (tgt := 37) (kdA dt_MX7_bestSet 18 rfl) rfl (fun c => ?_) (fun c => ?_)
    · have h := h.1 c
      refine K_aload_n 0 (kdA dt_MX7_bestSet 20 rfl) rfl rfl ?_
      refine K_iload 4 (kdA dt_MX7_bestSet 21 rfl) rfl ?_
      refine K_cVi (c := 7) (as := [(0, a4)]) (st := []) (kdA dt_MX7_bestSet 22 rfl) rfl cl_MX7_parted lk7_44 rfl rfl (Nat.le_of_ble_eq_true rfl) c1 (Ci.mono h (fun x4 s2 h => ?_))
      refine K_istore (ls' := [(0, (2, a0)), (1, (0, a1)), (2, (0, a2)), (3, (0, a3)), (4, (0, a4)), (5, (0, x4))]) (kdA dt_MX7_bestSet 23 rfl) (by decide) rfl ?_
      refine K_iload 5 (kdA dt_MX7_bestSet 24 rfl) rfl ?_
      refine K_iload_n 3 (kdA dt_MX7_bestSet 25 rfl) rfl rfl ?_
      refine K_icmp_lt (tgt := 66) (kdA dt_MX7_bestSet 26 rfl) rfl (fun c => ?_) (fun c => ?_)
      · have h := h.1 c
        refine K_iload 4 (kdA dt_MX7_bestSet 34 rfl) rfl ?_
        refine K_istore_n (ls' := [(0, (2, a0)), (1, (0, a1)), (2, (0, a4)), (3, (0, a3)), (4, (0, a4)), (5, (0, x4))]) (kdA dt_MX7_bestSet 35 rfl) rfl (by decide) rfl ?_
        refine K_iload 5 (kdA dt_MX7_bestSet 36 rfl) rfl ?_
        refine K_istore_n (ls' := [(0, (2, a0)), (1, (0, a1)), (2, (0, a4)), (3, (0, x4)), (4, (0, a4)), (5, (0, x4))]) (kdA dt_MX7_bestSet 37 rfl) rfl (by decide) rfl ?_
        obtain ⟨c5, h⟩ := h
        refine K_iinc (ls' := [(0, (2, a0)), (1, (0, a1)), (2, (0, a4)), (3, (0, x4)), (4, (0, (a4 + 1))), (5, (0, x4))]) 4 (kdA dt_MX7_bestSet 38 rfl) rfl c5 (by decide) rfl ?_
        refine K_goto (tgt := 11) (kdA dt_MX7_bestSet 39 rfl) rfl ?_
        refine K_pick [0, 1, 2, 3, 4] (ls' := [(0, (2, a0)), (1, (0, a1)), (2, (0, a4)), (3, (0, x4)), (4, (0, (a4 + 1)))]) rfl ?_
        exact h
      · have h := h.2 c
        refine K_iload 5 (kdA dt_MX7_bestSet 27 rfl) rfl ?_
        refine K_iload_n 3 (kdA dt_MX7_bestSet 28 rfl) rfl rfl ?_
        refine K_icmp_ne (tgt := 72) (kdA dt_MX7_bestSet 29 rfl) rfl (fun c => ?_) (fun c => ?_)
        · have h := h.1 c
          obtain ⟨c5, h⟩ := h
          refine K_iinc (ls' := [(0, (2, a0)), (1, (0, a1)), (2, (0, a2)), (3, (0, a3)), (4, (0, (a4 + 1))), (5, (0, x4))]) 4 (kdA dt_MX7_bestSet 38 rfl) rfl c5 (by decide) rfl ?_
          refine K_goto (tgt := 11) (kdA dt_MX7_bestSet 39 rfl) rfl ?_
          refine K_pick [0, 1, 2, 3, 4] (ls' := [(0, (2, a0)), (1, (0, a1)), (2, (0, a2)), (3, (0, a3)), (4, (0, (a4 + 1)))]) rfl ?_
          exact h
        · have h := h.2 c
          refine K_iload 4 (kdA dt_MX7_bestSet 30 rfl) rfl ?_
          refine K_iload_n 2 (kdA dt_MX7_bestSet 31 rfl) rfl rfl ?_
          refine K_cSi (as := [(0, a4), (0, a2)]) (st := []) (kdA dt_MX7_bestSet 32 rfl) cl_MX7_goesAhead lk7_52 rfl rfl (Nat.le_of_ble_eq_true rfl) (Ci.mono h (fun x5 s3 h => ?_))
          refine K_if_eq (tgt := 72) (kdA dt_MX7_bestSet 33 rfl) rfl (fun c => ?_) (fun c => ?_)
          · have h := h.1 c
            obtain ⟨c6, h⟩ := h
            refine K_iinc (ls' := [(0, (2, a0)), (1, (0, a1)), (2, (0, a2)), (3, (0, a3)), (4, (0, (a4 + 1))), (5, (0, x4))]) 4 (kdA dt_MX7_bestSet 38 rfl) rfl c6 (by decide) rfl ?_
            refine K_goto (tgt := 11) (kdA dt_MX7_bestSet 39 rfl) rfl ?_
            refine K_pick [0, 1, 2, 3, 4] (ls' := [(0, (2, a0)), (1, (0, a1)), (2, (0, a2)), (3, (0, a3)), (4, (0, (a4 + 1)))]) rfl ?_
            exact h
          · have h := h.2 c
            refine K_iload 4 (kdA dt_MX7_bestSet 34 rfl) rfl ?_
            refine K_istore_n (ls' := [(0, (2, a0)), (1, (0, a1)), (2, (0, a4)), (3, (0, a3)), (4, (0, a4)), (5, (0, x4))]) (kdA dt_MX7_bestSet 35 rfl) rfl (by decide) rfl ?_
            refine K_iload 5 (kdA dt_MX7_bestSet 36 rfl) rfl ?_
            refine K_istore_n (ls' := [(0, (2, a0)), (1, (0, a1)), (2, (0, a4)), (3, (0, x4)), (4, (0, a4)), (5, (0, x4))]) (kdA dt_MX7_bestSet 37 rfl) rfl (by decide) rfl ?_
            obtain ⟨c6, h⟩ := h
            refine K_iinc (ls' := [(0, (2, a0)), (1, (0, a1)), (2, (0, a4)), (3, (0, x4)), (4, (0, (a4 + 1))), (5, (0, x4))]) 4 (kdA dt_MX7_bestSet 38 rfl) rfl c6 (by decide) rfl ?_
            refine K_goto (tgt := 11) (kdA dt_MX7_bestSet 39 rfl) rfl ?_
            refine K_pick [0, 1, 2, 3, 4] (ls' := [(0, (2, a0)), (1, (0, a1)), (2, (0, a4)), (3, (0, x4)), (4, (0, (a4 + 1)))]) rfl ?_
            exact h
    · have h := h.2 c
      refine K_goto (tgt := 72) (kdA dt_MX7_bestSet 19 rfl) rfl ?_
      obtain ⟨c4, h⟩ := h
      refine K_iinc (ls' := [(0, (2, a0)), (1, (0, a1)), (2, (0, a2)), (3, (0, a3)), (4, (0, (a4 + 1)))]) 4 (kdA dt_MX7_bestSet 38 rfl) rfl c4 (by decide) rfl ?_
      refine K_goto (tgt := 11) (kdA dt_MX7_bestSet 39 rfl) rfl ?_
      exact h
theorem EX7_bestSet {d n : Nat} {Q : Int → kS → Prop} {a0 a1 : Int} {σ : kS} (h : (-2147483648 ≤ a1 ∧ a1 ≤ 2147483647) → kokw n σ → LX7_bestSet_0 d n Q a0 a1 σ) : Ci (d + 1) MX7_bestSet [(2, a0), (0, a1)] n σ Q := Tri_of (by decide +kernel) (Nat.le_of_ble_eq_true rfl) (fun hk hw => h (hk (0, a1) (List.mem_of_getElem? (i := 1) rfl)) hw)

def LX7_evidenceAlike_0 (d n : Nat) (Q : Int → kS → Prop) (a0 : Int) (a1 : Int) (a2 : Int) (σ : kS) : Prop := K (d + 1) MX7_evidenceAlike (kPi n Q) (0, 0) 0 [(0, (2, a0)), (1, (0, a1)), (2, (0, a2))] [] n σ
def LX7_evidenceAlike_5 (d n : Nat) (Q : Int → kS → Prop) (a0 : Int) (a1 : Int) (a2 : Int) (a3 : Int) (a4 : Int) (σ : kS) : Prop := K (d + 1) MX7_evidenceAlike (kPi n Q) (0, 0) 5 [(0, (2, a0)), (1, (0, a1)), (2, (0, a2)), (3, (0, a3)), (4, (0, a4))] [] n σ
theorem SX7_evidenceAlike_0 {d n : Nat} {Q : Int → kS → Prop} {a0 a1 a2 : Int} {σ : kS} (h : LX7_evidenceAlike_5 d n Q a0 a1 a2 0 0 σ) : LX7_evidenceAlike_0 d n Q a0 a1 a2 σ := by
  unfold LX7_evidenceAlike_0
  refine K_iconst (kdA dt_MX7_evidenceAlike 0 rfl) (by decide) ?_
  refine K_istore_n (ls' := [(0, (2, a0)), (1, (0, a1)), (2, (0, a2)), (3, (0, 0))]) (kdA dt_MX7_evidenceAlike 1 rfl) rfl (by decide) rfl ?_
  refine K_iconst (kdA dt_MX7_evidenceAlike 2 rfl) (by decide) ?_
  refine K_istore (ls' := [(0, (2, a0)), (1, (0, a1)), (2, (0, a2)), (3, (0, 0)), (4, (0, 0))]) (kdA dt_MX7_evidenceAlike 3 rfl) (by decide) rfl ?_
  exact h
theorem SX7_evidenceAlike_5 {d n : Nat} {Q : Int → kS → Prop} {a0 a1 a2 a3 a4 : Int} {σ : kS} (h : isO 7 n a0 ∧ (isO 8 n (σ a0 1) ∧ (((σ (σ a0 1) 1) ≤ a4 → Q a3 σ) ∧ (¬ (σ (σ a0 1) 1) ≤ a4 → Ci d MX7_showAlike [(2, a0), (0, a4), (0, a1), (0, a2)] n σ (fun x3 s1 => (x3 = 0 → (-2147483648 ≤ (a4 + 1) ∧ (a4 + 1) ≤ 2147483647) ∧ (LX7_evidenceAlike_5 d n Q a0 a1 a2 a3 (a4 + 1) s1)) ∧ (¬ x3 = 0 → isO 8 n (s1 a0 2) ∧ (Ci d MX8_at [(2, (s1 a0 2)), (0, a4)] n s1 (fun x5 s2 => (-2147483648 ≤ (a3 + x5) ∧ (a3 + x5) ≤ 2147483647) ∧ ((-2147483648 ≤ (a4 + 1) ∧ (a4 + 1) ≤ 2147483647) ∧ (LX7_evidenceAlike_5 d n Q a0 a1 a2 (a3 + x5) (a4 + 1) s2)))))))))) : LX7_evidenceAlike_5 d n Q a0 a1 a2 a3 a4 σ := by
  unfold LX7_evidenceAlike_5
  refine K_iload 4 (kdA dt_MX7_evidenceAlike 4 rfl) rfl ?_
  refine K_aload_n 0 (kdA dt_MX7_evidenceAlike 5 rfl) rfl rfl ?_
  obtain ⟨c1, h⟩ := h
  refine gf7_20 rfl (kdA dt_MX7_evidenceAlike 6 rfl) c1 ?_
  obtain ⟨c2, h⟩ := h
  refine gf7_30 rfl (kdA dt_MX7_evidenceAlike 7 rfl) c2 ?_
  refine K_icmp_ge (tgt := 46) (kdA dt_MX7_evidenceAlike 8 rfl) rfl (fun c => ?_) (fun c => ?_)
  · have h := h.1 c
    refine K_iload_n 3 (kdA dt_MX7_evidenceAlike 24 rfl) rfl rfl ?_
    exact K_ireturn (kdA dt_MX7_evidenceAlike 25 rfl) rfl ⟨rfl, _, rfl, h⟩
  · have h := h.2 c
    refine K_aload_n 0 (kdA dt_MX7_evidenceAlike 9 rfl) rfl rfl ?_
    refine K_iload 4 (kdA dt_MX7_evidenceAlike 10 rfl) rfl ?_
    refine K_iload_n 1 (kdA dt_MX7_evidenceAlike 11 rfl) rfl rfl ?_
    refine K_iload_n 2 (kdA dt_MX7_evidenceAlike 12 rfl) rfl rfl ?_
    refine K_cVi (c := 7) (as := [(0, a4), (0, a1), (0, a2)]) (st := []) (kdA dt_MX7_evidenceAlike 13 rfl) rfl cl_MX7_showAlike lk7_63 rfl rfl (Nat.le_of_ble_eq_true rfl) c1 (Ci.mono h (fun x3 s1 h => ?_))
    refine K_if_eq (tgt := 40) (kdA dt_MX7_evidenceAlike 14 rfl) rfl (fun c => ?_) (fun c => ?_)
    · have h := h.1 c
      obtain ⟨c4, h⟩ := h
      refine K_iinc (ls' := [(0, (2, a0)), (1, (0, a1)), (2, (0, a2)), (3, (0, a3)), (4, (0, (a4 + 1)))]) 4 (kdA dt_MX7_evidenceAlike 22 rfl) rfl c4 (by decide) rfl ?_
      refine K_goto (tgt := 5) (kdA dt_MX7_evidenceAlike 23 rfl) rfl ?_
      exact h
    · have h := h.2 c
      refine K_iload_n 3 (kdA dt_MX7_evidenceAlike 15 rfl) rfl rfl ?_
      refine K_aload_n 0 (kdA dt_MX7_evidenceAlike 16 rfl) rfl rfl ?_
      refine gf7_23 rfl (kdA dt_MX7_evidenceAlike 17 rfl) c1 ?_
      refine K_iload 4 (kdA dt_MX7_evidenceAlike 18 rfl) rfl ?_
      obtain ⟨c4, h⟩ := h
      refine K_cVi (c := 8) (as := [(0, a4)]) (st := [(0, a3)]) (kdA dt_MX7_evidenceAlike 19 rfl) rfl cl_MX8_at lk7_34 rfl rfl (Nat.le_of_ble_eq_true rfl) c4 (Ci.mono h (fun x5 s2 h => ?_))
      obtain ⟨c6, h⟩ := h
      refine K_iadd (kdA dt_MX7_evidenceAlike 20 rfl) c6 ?_
      refine K_istore_n (ls' := [(0, (2, a0)), (1, (0, a1)), (2, (0, a2)), (3, (0, (a3 + x5))), (4, (0, a4))]) (kdA dt_MX7_evidenceAlike 21 rfl) rfl (by decide) rfl ?_
      obtain ⟨c7, h⟩ := h
      refine K_iinc (ls' := [(0, (2, a0)), (1, (0, a1)), (2, (0, a2)), (3, (0, (a3 + x5))), (4, (0, (a4 + 1)))]) 4 (kdA dt_MX7_evidenceAlike 22 rfl) rfl c7 (by decide) rfl ?_
      refine K_goto (tgt := 5) (kdA dt_MX7_evidenceAlike 23 rfl) rfl ?_
      exact h
theorem EX7_evidenceAlike {d n : Nat} {Q : Int → kS → Prop} {a0 a1 a2 : Int} {σ : kS} (h : (-2147483648 ≤ a1 ∧ a1 ≤ 2147483647) → (-2147483648 ≤ a2 ∧ a2 ≤ 2147483647) → kokw n σ → LX7_evidenceAlike_0 d n Q a0 a1 a2 σ) : Ci (d + 1) MX7_evidenceAlike [(2, a0), (0, a1), (0, a2)] n σ Q := Tri_of (by decide +kernel) (Nat.le_of_ble_eq_true rfl) (fun hk hw => h (hk (0, a1) (List.mem_of_getElem? (i := 1) rfl)) (hk (0, a2) (List.mem_of_getElem? (i := 2) rfl)) hw)

def LX7_forgetWorlds_0 (d n : Nat) (Q : kS → Prop) (a0 : Int) (σ : kS) : Prop := K (d + 1) MX7_forgetWorlds (kPv n Q) (0, 0) 0 [(0, (2, a0))] [] n σ
theorem SX7_forgetWorlds_0 {d n : Nat} {Q : kS → Prop} {a0 : Int} {σ : kS} (h : isO 7 n a0 ∧ (isO 8 n (σ a0 1) ∧ (Ci d MX8_cut [(2, (σ a0 1)), (0, 0)] n σ (fun x3 s1 => isO 8 n (s1 a0 2) ∧ (Ci d MX8_cut [(2, (s1 a0 2)), (0, 0)] n s1 (fun x5 s2 => Q s2)))))) : LX7_forgetWorlds_0 d n Q a0 σ := by
  unfold LX7_forgetWorlds_0
  refine K_aload_n 0 (kdA dt_MX7_forgetWorlds 0 rfl) rfl rfl ?_
  obtain ⟨c1, h⟩ := h
  refine gf7_20 rfl (kdA dt_MX7_forgetWorlds 1 rfl) c1 ?_
  refine K_iconst (kdA dt_MX7_forgetWorlds 2 rfl) (by decide) ?_
  obtain ⟨c2, h⟩ := h
  refine K_cVi (c := 8) (as := [(0, 0)]) (st := []) (kdA dt_MX7_forgetWorlds 3 rfl) rfl cl_MX8_cut lk7_26 rfl rfl (Nat.le_of_ble_eq_true rfl) c2 (Ci.mono h (fun x3 s1 h => ?_))
  refine K_pop (kdA dt_MX7_forgetWorlds 4 rfl) rfl ?_
  refine K_aload_n 0 (kdA dt_MX7_forgetWorlds 5 rfl) rfl rfl ?_
  refine gf7_23 rfl (kdA dt_MX7_forgetWorlds 6 rfl) c1 ?_
  refine K_iconst (kdA dt_MX7_forgetWorlds 7 rfl) (by decide) ?_
  obtain ⟨c4, h⟩ := h
  refine K_cVi (c := 8) (as := [(0, 0)]) (st := []) (kdA dt_MX7_forgetWorlds 8 rfl) rfl cl_MX8_cut lk7_26 rfl rfl (Nat.le_of_ble_eq_true rfl) c4 (Ci.mono h (fun x5 s2 h => ?_))
  refine K_pop (kdA dt_MX7_forgetWorlds 9 rfl) rfl ?_
  exact K_return (kdA dt_MX7_forgetWorlds 10 rfl) rfl ⟨rfl, rfl, h⟩
theorem EX7_forgetWorlds {d n : Nat} {Q : kS → Prop} {a0 : Int} {σ : kS} (h : kokw n σ → LX7_forgetWorlds_0 d n Q a0 σ) : Cv (d + 1) MX7_forgetWorlds [(2, a0)] n σ Q := Tri_of (by decide +kernel) (Nat.le_of_ble_eq_true rfl) (fun hk hw => h hw)

def LX7_goesAhead_0 (d n : Nat) (Q : Int → kS → Prop) (a0 : Int) (a1 : Int) (σ : kS) : Prop := K (d + 1) MX7_goesAhead (kPi n Q) (0, 0) 0 [(0, (0, a0)), (1, (0, a1))] [] n σ
theorem SX7_goesAhead_0 {d n : Nat} {Q : Int → kS → Prop} {a0 a1 : Int} {σ : kS} (h : Ci d MJm_bitCount [(0, a0)] n σ (fun x1 s1 => Ci d MJm_bitCount [(0, a1)] n s1 (fun x2 s2 => (-2147483648 ≤ (x1 - x2) ∧ (x1 - x2) ≤ 2147483647) ∧ (((x1 - x2) < 0 → Q 1 s2) ∧ (¬ (x1 - x2) < 0 → (¬ (x1 - x2) = 0 → Q 0 s2) ∧ (¬ (¬ (x1 - x2) = 0) → (-2147483648 ≤ (-(kxor a0 a1)) ∧ (-(kxor a0 a1)) ≤ 2147483647) ∧ (((kand (kand a0 (kxor a0 a1)) (-(kxor a0 a1))) = 0 → Q 0 s2) ∧ (¬ (kand (kand a0 (kxor a0 a1)) (-(kxor a0 a1))) = 0 → Q 1 s2)))))))) : LX7_goesAhead_0 d n Q a0 a1 σ := by
  unfold LX7_goesAhead_0
  refine K_iload_n 0 (kdA dt_MX7_goesAhead 0 rfl) rfl rfl ?_
  refine K_cSi (as := [(0, a0)]) (st := []) (kdA dt_MX7_goesAhead 1 rfl) cl_MJm_bitCount lk7_47 rfl rfl (Nat.le_of_ble_eq_true rfl) (Ci.mono h (fun x1 s1 h => ?_))
  refine K_iload_n 1 (kdA dt_MX7_goesAhead 2 rfl) rfl rfl ?_
  refine K_cSi (as := [(0, a1)]) (st := [(0, x1)]) (kdA dt_MX7_goesAhead 3 rfl) cl_MJm_bitCount lk7_47 rfl rfl (Nat.le_of_ble_eq_true rfl) (Ci.mono h (fun x2 s2 h => ?_))
  obtain ⟨c3, h⟩ := h
  refine K_isub (kdA dt_MX7_goesAhead 4 rfl) c3 ?_
  refine K_istore_n (ls' := [(0, (0, a0)), (1, (0, a1)), (2, (0, (x1 - x2)))]) (kdA dt_MX7_goesAhead 5 rfl) rfl (by decide) rfl ?_
  refine K_iload_n 0 (kdA dt_MX7_goesAhead 6 rfl) rfl rfl ?_
  refine K_iload_n 1 (kdA dt_MX7_goesAhead 7 rfl) rfl rfl ?_
  refine K_ixor (kdA dt_MX7_goesAhead 8 rfl) ?_
  refine K_istore_n (ls' := [(0, (0, a0)), (1, (0, a1)), (2, (0, (x1 - x2))), (3, (0, (kxor a0 a1)))]) (kdA dt_MX7_goesAhead 9 rfl) rfl (by decide) rfl ?_
  refine K_iload_n 2 (kdA dt_MX7_goesAhead 10 rfl) rfl rfl ?_
  refine K_if_lt (tgt := 31) (kdA dt_MX7_goesAhead 11 rfl) rfl (fun c => ?_) (fun c => ?_)
  · have h := h.1 c
    refine K_iconst (kdA dt_MX7_goesAhead 21 rfl) (by decide) ?_
    refine K_goto (tgt := 36) (kdA dt_MX7_goesAhead 22 rfl) rfl ?_
    exact K_zreturn (kdA dt_MX7_goesAhead 24 rfl) rfl (Or.inr rfl) ⟨rfl, _, rfl, h⟩
  · have h := h.2 c
    refine K_iload_n 2 (kdA dt_MX7_goesAhead 12 rfl) rfl rfl ?_
    refine K_if_ne (tgt := 35) (kdA dt_MX7_goesAhead 13 rfl) rfl (fun c => ?_) (fun c => ?_)
    · have h := h.1 c
      refine K_iconst (kdA dt_MX7_goesAhead 23 rfl) (by decide) ?_
      exact K_zreturn (kdA dt_MX7_goesAhead 24 rfl) rfl (Or.inl rfl) ⟨rfl, _, rfl, h⟩
    · have h := h.2 c
      refine K_iload_n 0 (kdA dt_MX7_goesAhead 14 rfl) rfl rfl ?_
      refine K_iload_n 3 (kdA dt_MX7_goesAhead 15 rfl) rfl rfl ?_
      refine K_iand (kdA dt_MX7_goesAhead 16 rfl) ?_
      refine K_iload_n 3 (kdA dt_MX7_goesAhead 17 rfl) rfl rfl ?_
      obtain ⟨c4, h⟩ := h
      refine K_ineg (kdA dt_MX7_goesAhead 18 rfl) c4 ?_
      refine K_iand (kdA dt_MX7_goesAhead 19 rfl) ?_
      refine K_if_eq (tgt := 35) (kdA dt_MX7_goesAhead 20 rfl) rfl (fun c => ?_) (fun c => ?_)
      · have h := h.1 c
        refine K_iconst (kdA dt_MX7_goesAhead 23 rfl) (by decide) ?_
        exact K_zreturn (kdA dt_MX7_goesAhead 24 rfl) rfl (Or.inl rfl) ⟨rfl, _, rfl, h⟩
      · have h := h.2 c
        refine K_iconst (kdA dt_MX7_goesAhead 21 rfl) (by decide) ?_
        refine K_goto (tgt := 36) (kdA dt_MX7_goesAhead 22 rfl) rfl ?_
        exact K_zreturn (kdA dt_MX7_goesAhead 24 rfl) rfl (Or.inr rfl) ⟨rfl, _, rfl, h⟩
theorem EX7_goesAhead {d n : Nat} {Q : Int → kS → Prop} {a0 a1 : Int} {σ : kS} (h : (-2147483648 ≤ a0 ∧ a0 ≤ 2147483647) → (-2147483648 ≤ a1 ∧ a1 ≤ 2147483647) → kokw n σ → LX7_goesAhead_0 d n Q a0 a1 σ) : Ci (d + 1) MX7_goesAhead [(0, a0), (0, a1)] n σ Q := Tri_of (by decide +kernel) (Nat.le_of_ble_eq_true rfl) (fun hk hw => h (hk (0, a0) (List.mem_of_getElem? (i := 0) rfl)) (hk (0, a1) (List.mem_of_getElem? (i := 1) rfl)) hw)

def LX7_isFirstToShow_0 (d n : Nat) (Q : Int → kS → Prop) (a0 : Int) (a1 : Int) (a2 : Int) (σ : kS) : Prop := K (d + 1) MX7_isFirstToShow (kPi n Q) (0, 0) 0 [(0, (2, a0)), (1, (0, a1)), (2, (0, a2))] [] n σ
def LX7_isFirstToShow_2 (d n : Nat) (Q : Int → kS → Prop) (a0 : Int) (a1 : Int) (a2 : Int) (a3 : Int) (σ : kS) : Prop := K (d + 1) MX7_isFirstToShow (kPi n Q) (0, 0) 2 [(0, (2, a0)), (1, (0, a1)), (2, (0, a2)), (3, (0, a3))] [] n σ
theorem SX7_isFirstToShow_0 {d n : Nat} {Q : Int → kS → Prop} {a0 a1 a2 : Int} {σ : kS} (h : LX7_isFirstToShow_2 d n Q a0 a1 a2 0 σ) : LX7_isFirstToShow_0 d n Q a0 a1 a2 σ := by
  unfold LX7_isFirstToShow_0
  refine K_iconst (kdA dt_MX7_isFirstToShow 0 rfl) (by decide) ?_
  refine K_istore_n (ls' := [(0, (2, a0)), (1, (0, a1)), (2, (0, a2)), (3, (0, 0))]) (kdA dt_MX7_isFirstToShow 1 rfl) rfl (by decide) rfl ?_
  exact h
theorem SX7_isFirstToShow_2 {d n : Nat} {Q : Int → kS → Prop} {a0 a1 a2 a3 : Int} {σ : kS} (h : (a1 ≤ a3 → Q 1 σ) ∧ (¬ a1 ≤ a3 → isO 7 n a0 ∧ (Ci d MX7_showAlike [(2, a0), (0, a3), (0, a1), (0, a2)] n σ (fun x2 s1 => (x2 = 0 → (-2147483648 ≤ (a3 + 1) ∧ (a3 + 1) ≤ 2147483647) ∧ (LX7_isFirstToShow_2 d n Q a0 a1 a2 (a3 + 1) s1)) ∧ (¬ x2 = 0 → Q 0 s1))))) : LX7_isFirstToShow_2 d n Q a0 a1 a2 a3 σ := by
  unfold LX7_isFirstToShow_2
  refine K_iload_n 3 (kdA dt_MX7_isFirstToShow 2 rfl) rfl rfl ?_
  refine K_iload_n 1 (kdA dt_MX7_isFirstToShow 3 rfl) rfl rfl ?_
  refine K_icmp_ge (tgt := 25) (kdA dt_MX7_isFirstToShow 4 rfl) rfl (fun c => ?_) (fun c => ?_)
  · have h := h.1 c
    refine K_iconst (kdA dt_MX7_isFirstToShow 15 rfl) (by decide) ?_
    exact K_zreturn (kdA dt_MX7_isFirstToShow 16 rfl) rfl (Or.inr rfl) ⟨rfl, _, rfl, h⟩
  · have h := h.2 c
    refine K_aload_n 0 (kdA dt_MX7_isFirstToShow 5 rfl) rfl rfl ?_
    refine K_iload_n 3 (kdA dt_MX7_isFirstToShow 6 rfl) rfl rfl ?_
    refine K_iload_n 1 (kdA dt_MX7_isFirstToShow 7 rfl) rfl rfl ?_
    refine K_iload_n 2 (kdA dt_MX7_isFirstToShow 8 rfl) rfl rfl ?_
    obtain ⟨c1, h⟩ := h
    refine K_cVi (c := 7) (as := [(0, a3), (0, a1), (0, a2)]) (st := []) (kdA dt_MX7_isFirstToShow 9 rfl) rfl cl_MX7_showAlike lk7_63 rfl rfl (Nat.le_of_ble_eq_true rfl) c1 (Ci.mono h (fun x2 s1 h => ?_))
    refine K_if_eq (tgt := 19) (kdA dt_MX7_isFirstToShow 10 rfl) rfl (fun c => ?_) (fun c => ?_)
    · have h := h.1 c
      obtain ⟨c3, h⟩ := h
      refine K_iinc (ls' := [(0, (2, a0)), (1, (0, a1)), (2, (0, a2)), (3, (0, (a3 + 1)))]) 3 (kdA dt_MX7_isFirstToShow 13 rfl) rfl c3 (by decide) rfl ?_
      refine K_goto (tgt := 2) (kdA dt_MX7_isFirstToShow 14 rfl) rfl ?_
      exact h
    · have h := h.2 c
      refine K_iconst (kdA dt_MX7_isFirstToShow 11 rfl) (by decide) ?_
      exact K_zreturn (kdA dt_MX7_isFirstToShow 12 rfl) rfl (Or.inl rfl) ⟨rfl, _, rfl, h⟩
theorem EX7_isFirstToShow {d n : Nat} {Q : Int → kS → Prop} {a0 a1 a2 : Int} {σ : kS} (h : (-2147483648 ≤ a1 ∧ a1 ≤ 2147483647) → (-2147483648 ≤ a2 ∧ a2 ≤ 2147483647) → kokw n σ → LX7_isFirstToShow_0 d n Q a0 a1 a2 σ) : Ci (d + 1) MX7_isFirstToShow [(2, a0), (0, a1), (0, a2)] n σ Q := Tri_of (by decide +kernel) (Nat.le_of_ble_eq_true rfl) (fun hk hw => h (hk (0, a1) (List.mem_of_getElem? (i := 1) rfl)) (hk (0, a2) (List.mem_of_getElem? (i := 2) rfl)) hw)

def LX7_parted_0 (d n : Nat) (Q : Int → kS → Prop) (a0 : Int) (a1 : Int) (σ : kS) : Prop := K (d + 1) MX7_parted (kPi n Q) (0, 0) 0 [(0, (2, a0)), (1, (0, a1))] [] n σ
def LX7_parted_4 (d n : Nat) (Q : Int → kS → Prop) (a0 : Int) (a1 : Int) (a2 : Int) (a3 : Int) (σ : kS) : Prop := K (d + 1) MX7_parted (kPi n Q) (0, 0) 4 [(0, (2, a0)), (1, (0, a1)), (2, (0, a2)), (3, (0, a3))] [] n σ
theorem SX7_parted_0 {d n : Nat} {Q : Int → kS → Prop} {a0 a1 : Int} {σ : kS} (h : LX7_parted_4 d n Q a0 a1 0 0 σ) : LX7_parted_0 d n Q a0 a1 σ := by
  unfold LX7_parted_0
  refine K_iconst (kdA dt_MX7_parted 0 rfl) (by decide) ?_
  refine K_istore_n (ls' := [(0, (2, a0)), (1, (0, a1)), (2, (0, 0))]) (kdA dt_MX7_parted 1 rfl) rfl (by decide) rfl ?_
  refine K_iconst (kdA dt_MX7_parted 2 rfl) (by decide) ?_
  refine K_istore_n (ls' := [(0, (2, a0)), (1, (0, a1)), (2, (0, 0)), (3, (0, 0))]) (kdA dt_MX7_parted 3 rfl) rfl (by decide) rfl ?_
  exact h
theorem SX7_parted_4 {d n : Nat} {Q : Int → kS → Prop} {a0 a1 a2 a3 : Int} {σ : kS} (h : isO 7 n a0 ∧ (isO 8 n (σ a0 1) ∧ (((σ (σ a0 1) 1) ≤ a3 → Q a2 σ) ∧ (¬ (σ (σ a0 1) 1) ≤ a3 → Ci d MX7_isFirstToShow [(2, a0), (0, a3), (0, a1)] n σ (fun x3 s1 => (x3 = 0 → (-2147483648 ≤ (a3 + 1) ∧ (a3 + 1) ≤ 2147483647) ∧ (LX7_parted_4 d n Q a0 a1 a2 (a3 + 1) s1)) ∧ (¬ x3 = 0 → Ci d MX7_evidenceAlike [(2, a0), (0, a3), (0, a1)] n s1 (fun x4 s2 => (-2147483648 ≤ (x4 * x4) ∧ (x4 * x4) ≤ 2147483647) ∧ ((-2147483648 ≤ (a2 + (x4 * x4)) ∧ (a2 + (x4 * x4)) ≤ 2147483647) ∧ ((-2147483648 ≤ (a3 + 1) ∧ (a3 + 1) ≤ 2147483647) ∧ (LX7_parted_4 d n Q a0 a1 (a2 + (x4 * x4)) (a3 + 1) s2)))))))))) : LX7_parted_4 d n Q a0 a1 a2 a3 σ := by
  unfold LX7_parted_4
  refine K_iload_n 3 (kdA dt_MX7_parted 4 rfl) rfl rfl ?_
  refine K_aload_n 0 (kdA dt_MX7_parted 5 rfl) rfl rfl ?_
  obtain ⟨c1, h⟩ := h
  refine gf7_20 rfl (kdA dt_MX7_parted 6 rfl) c1 ?_
  obtain ⟨c2, h⟩ := h
  refine gf7_30 rfl (kdA dt_MX7_parted 7 rfl) c2 ?_
  refine K_icmp_ge (tgt := 46) (kdA dt_MX7_parted 8 rfl) rfl (fun c => ?_) (fun c => ?_)
  · have h := h.1 c
    refine K_iload_n 2 (kdA dt_MX7_parted 27 rfl) rfl rfl ?_
    exact K_ireturn (kdA dt_MX7_parted 28 rfl) rfl ⟨rfl, _, rfl, h⟩
  · have h := h.2 c
    refine K_aload_n 0 (kdA dt_MX7_parted 9 rfl) rfl rfl ?_
    refine K_iload_n 3 (kdA dt_MX7_parted 10 rfl) rfl rfl ?_
    refine K_iload_n 1 (kdA dt_MX7_parted 11 rfl) rfl rfl ?_
    refine K_cVi (c := 7) (as := [(0, a3), (0, a1)]) (st := []) (kdA dt_MX7_parted 12 rfl) rfl cl_MX7_isFirstToShow lk7_56 rfl rfl (Nat.le_of_ble_eq_true rfl) c1 (Ci.mono h (fun x3 s1 h => ?_))
    refine K_if_eq (tgt := 40) (kdA dt_MX7_parted 13 rfl) rfl (fun c => ?_) (fun c => ?_)
    · have h := h.1 c
      obtain ⟨c4, h⟩ := h
      refine K_iinc (ls' := [(0, (2, a0)), (1, (0, a1)), (2, (0, a2)), (3, (0, (a3 + 1)))]) 3 (kdA dt_MX7_parted 25 rfl) rfl c4 (by decide) rfl ?_
      refine K_goto (tgt := 4) (kdA dt_MX7_parted 26 rfl) rfl ?_
      exact h
    · have h := h.2 c
      refine K_aload_n 0 (kdA dt_MX7_parted 14 rfl) rfl rfl ?_
      refine K_iload_n 3 (kdA dt_MX7_parted 15 rfl) rfl rfl ?_
      refine K_iload_n 1 (kdA dt_MX7_parted 16 rfl) rfl rfl ?_
      refine K_cVi (c := 7) (as := [(0, a3), (0, a1)]) (st := []) (kdA dt_MX7_parted 17 rfl) rfl cl_MX7_evidenceAlike lk7_59 rfl rfl (Nat.le_of_ble_eq_true rfl) c1 (Ci.mono h (fun x4 s2 h => ?_))
      refine K_istore (ls' := [(0, (2, a0)), (1, (0, a1)), (2, (0, a2)), (3, (0, a3)), (4, (0, x4))]) (kdA dt_MX7_parted 18 rfl) (by decide) rfl ?_
      refine K_iload_n 2 (kdA dt_MX7_parted 19 rfl) rfl rfl ?_
      refine K_iload 4 (kdA dt_MX7_parted 20 rfl) rfl ?_
      refine K_iload 4 (kdA dt_MX7_parted 21 rfl) rfl ?_
      obtain ⟨c5, h⟩ := h
      refine K_imul (kdA dt_MX7_parted 22 rfl) c5 ?_
      obtain ⟨c6, h⟩ := h
      refine K_iadd (kdA dt_MX7_parted 23 rfl) c6 ?_
      refine K_istore_n (ls' := [(0, (2, a0)), (1, (0, a1)), (2, (0, (a2 + (x4 * x4)))), (3, (0, a3)), (4, (0, x4))]) (kdA dt_MX7_parted 24 rfl) rfl (by decide) rfl ?_
      obtain ⟨c7, h⟩ := h
      refine K_iinc (ls' := [(0, (2, a0)), (1, (0, a1)), (2, (0, (a2 + (x4 * x4)))), (3, (0, (a3 + 1))), (4, (0, x4))]) 3 (kdA dt_MX7_parted 25 rfl) rfl c7 (by decide) rfl ?_
      refine K_goto (tgt := 4) (kdA dt_MX7_parted 26 rfl) rfl ?_
      refine K_pick [0, 1, 2, 3] (ls' := [(0, (2, a0)), (1, (0, a1)), (2, (0, (a2 + (x4 * x4)))), (3, (0, (a3 + 1)))]) rfl ?_
      exact h
theorem EX7_parted {d n : Nat} {Q : Int → kS → Prop} {a0 a1 : Int} {σ : kS} (h : (-2147483648 ≤ a1 ∧ a1 ≤ 2147483647) → kokw n σ → LX7_parted_0 d n Q a0 a1 σ) : Ci (d + 1) MX7_parted [(2, a0), (0, a1)] n σ Q := Tri_of (by decide +kernel) (Nat.le_of_ble_eq_true rfl) (fun hk hw => h (hk (0, a1) (List.mem_of_getElem? (i := 1) rfl)) hw)

def LX7_showAlike_0 (d n : Nat) (Q : Int → kS → Prop) (a0 : Int) (a1 : Int) (a2 : Int) (a3 : Int) (σ : kS) : Prop := K (d + 1) MX7_showAlike (kPi n Q) (0, 0) 0 [(0, (2, a0)), (1, (0, a1)), (2, (0, a2)), (3, (0, a3))] [] n σ
theorem SX7_showAlike_0 {d n : Nat} {Q : Int → kS → Prop} {a0 a1 a2 a3 : Int} {σ : kS} (h : isO 7 n a0 ∧ (isO 8 n (σ a0 1) ∧ (Ci d MX8_at [(2, (σ a0 1)), (0, a1)] n σ (fun x3 s1 => isO 8 n (s1 a0 1) ∧ (Ci d MX8_at [(2, (s1 a0 1)), (0, a2)] n s1 (fun x5 s2 => (¬ (kand x3 a3) = (kand x5 a3) → Q 0 s2) ∧ (¬ (¬ (kand x3 a3) = (kand x5 a3)) → Q 1 s2))))))) : LX7_showAlike_0 d n Q a0 a1 a2 a3 σ := by
  unfold LX7_showAlike_0
  refine K_aload_n 0 (kdA dt_MX7_showAlike 0 rfl) rfl rfl ?_
  obtain ⟨c1, h⟩ := h
  refine gf7_20 rfl (kdA dt_MX7_showAlike 1 rfl) c1 ?_
  refine K_iload_n 1 (kdA dt_MX7_showAlike 2 rfl) rfl rfl ?_
  obtain ⟨c2, h⟩ := h
  refine K_cVi (c := 8) (as := [(0, a1)]) (st := []) (kdA dt_MX7_showAlike 3 rfl) rfl cl_MX8_at lk7_34 rfl rfl (Nat.le_of_ble_eq_true rfl) c2 (Ci.mono h (fun x3 s1 h => ?_))
  refine K_iload_n 3 (kdA dt_MX7_showAlike 4 rfl) rfl rfl ?_
  refine K_iand (kdA dt_MX7_showAlike 5 rfl) ?_
  refine K_aload_n 0 (kdA dt_MX7_showAlike 6 rfl) rfl rfl ?_
  refine gf7_20 rfl (kdA dt_MX7_showAlike 7 rfl) c1 ?_
  refine K_iload_n 2 (kdA dt_MX7_showAlike 8 rfl) rfl rfl ?_
  obtain ⟨c4, h⟩ := h
  refine K_cVi (c := 8) (as := [(0, a2)]) (st := [(0, (kand x3 a3))]) (kdA dt_MX7_showAlike 9 rfl) rfl cl_MX8_at lk7_34 rfl rfl (Nat.le_of_ble_eq_true rfl) c4 (Ci.mono h (fun x5 s2 h => ?_))
  refine K_iload_n 3 (kdA dt_MX7_showAlike 10 rfl) rfl rfl ?_
  refine K_iand (kdA dt_MX7_showAlike 11 rfl) ?_
  refine K_icmp_ne (tgt := 27) (kdA dt_MX7_showAlike 12 rfl) rfl (fun c => ?_) (fun c => ?_)
  · have h := h.1 c
    refine K_iconst (kdA dt_MX7_showAlike 15 rfl) (by decide) ?_
    exact K_zreturn (kdA dt_MX7_showAlike 16 rfl) rfl (Or.inl rfl) ⟨rfl, _, rfl, h⟩
  · have h := h.2 c
    refine K_iconst (kdA dt_MX7_showAlike 13 rfl) (by decide) ?_
    refine K_goto (tgt := 28) (kdA dt_MX7_showAlike 14 rfl) rfl ?_
    exact K_zreturn (kdA dt_MX7_showAlike 16 rfl) rfl (Or.inr rfl) ⟨rfl, _, rfl, h⟩
theorem EX7_showAlike {d n : Nat} {Q : Int → kS → Prop} {a0 a1 a2 a3 : Int} {σ : kS} (h : (-2147483648 ≤ a1 ∧ a1 ≤ 2147483647) → (-2147483648 ≤ a2 ∧ a2 ≤ 2147483647) → (-2147483648 ≤ a3 ∧ a3 ≤ 2147483647) → kokw n σ → LX7_showAlike_0 d n Q a0 a1 a2 a3 σ) : Ci (d + 1) MX7_showAlike [(2, a0), (0, a1), (0, a2), (0, a3)] n σ Q := Tri_of (by decide +kernel) (Nat.le_of_ble_eq_true rfl) (fun hk hw => h (hk (0, a1) (List.mem_of_getElem? (i := 1) rfl)) (hk (0, a2) (List.mem_of_getElem? (i := 2) rfl)) (hk (0, a3) (List.mem_of_getElem? (i := 3) rfl)) hw)

def LX9_cellBetween_0 (d n : Nat) (Q : Int → kS → Prop) (a0 : Int) (a1 : Int) (a2 : Int) (a3 : Int) (σ : kS) : Prop := K (d + 1) MX9_cellBetween (kPi n Q) (0, 0) 0 [(0, (0, a0)), (1, (0, a1)), (2, (0, a2)), (3, (0, a3))] [] n σ
theorem SX9_cellBetween_0 {d n : Nat} {Q : Int → kS → Prop} {a0 a1 a2 a3 : Int} {σ : kS} (h : (1 ≤ a3 → ((0 : Int) ≤ a0) ∧ ((-2147483648 ≤ (2 * a2) ∧ (2 * a2) ≤ 2147483647) ∧ (((0 : Int) ≤ a1) ∧ ((-2147483648 ≤ ((a1 % 12) - (a0 % 12)) ∧ ((a1 % 12) - (a0 % 12)) ≤ 2147483647) ∧ ((-2147483648 ≤ ((2 * a2) * ((a1 % 12) - (a0 % 12))) ∧ ((2 * a2) * ((a1 % 12) - (a0 % 12))) ≤ 2147483647) ∧ ((-2147483648 ≤ (((2 * a2) * ((a1 % 12) - (a0 % 12))) + a3) ∧ (((2 * a2) * ((a1 % 12) - (a0 % 12))) + a3) ≤ 2147483647) ∧ ((-2147483648 ≤ (2 * a3) ∧ (2 * a3) ≤ 2147483647) ∧ (Ci d MJm_floorDiv [(0, (((2 * a2) * ((a1 % 12) - (a0 % 12))) + a3)), (0, (2 * a3))] n σ (fun x8 s1 => (-2147483648 ≤ ((a0 % 12) + x8) ∧ ((a0 % 12) + x8) ≤ 2147483647) ∧ ((-2147483648 ≤ ((a1 / 12) - (a0 / 12)) ∧ ((a1 / 12) - (a0 / 12)) ≤ 2147483647) ∧ ((-2147483648 ≤ ((2 * a2) * ((a1 / 12) - (a0 / 12))) ∧ ((2 * a2) * ((a1 / 12) - (a0 / 12))) ≤ 2147483647) ∧ ((-2147483648 ≤ (((2 * a2) * ((a1 / 12) - (a0 / 12))) + a3) ∧ (((2 * a2) * ((a1 / 12) - (a0 / 12))) + a3) ≤ 2147483647) ∧ (Ci d MJm_floorDiv [(0, (((2 * a2) * ((a1 / 12) - (a0 / 12))) + a3)), (0, (2 * a3))] n s1 (fun x13 s2 => (-2147483648 ≤ ((a0 / 12) + x13) ∧ ((a0 / 12) + x13) ≤ 2147483647) ∧ ((-2147483648 ≤ (((a0 / 12) + x13) * 12) ∧ (((a0 / 12) + x13) * 12) ≤ 2147483647) ∧ ((-2147483648 ≤ ((((a0 / 12) + x13) * 12) + ((a0 % 12) + x8)) ∧ ((((a0 / 12) + x13) * 12) + ((a0 % 12) + x8)) ≤ 2147483647) ∧ (Q ((((a0 / 12) + x13) * 12) + ((a0 % 12) + x8)) s2))))))))))))))))) ∧ (¬ 1 ≤ a3 → Q a0 σ)) : LX9_cellBetween_0 d n Q a0 a1 a2 a3 σ := by
  unfold LX9_cellBetween_0
  refine K_iload_n 3 (kdA dt_MX9_cellBetween 0 rfl) rfl rfl ?_
  refine K_iconst (kdA dt_MX9_cellBetween 1 rfl) (by decide) ?_
  refine K_icmp_ge (tgt := 7) (kdA dt_MX9_cellBetween 2 rfl) rfl (fun c => ?_) (fun c => ?_)
  · have h := h.1 c
    refine K_iload_n 0 (kdA dt_MX9_cellBetween 5 rfl) rfl rfl ?_
    refine K_bipush (kdA dt_MX9_cellBetween 6 rfl) (by decide +kernel) ?_
    obtain ⟨c1, h⟩ := h
    refine K_irem (kdA dt_MX9_cellBetween 7 rfl) c1 (by decide) ?_
    refine K_iconst (kdA dt_MX9_cellBetween 8 rfl) (by decide) ?_
    refine K_iload_n 2 (kdA dt_MX9_cellBetween 9 rfl) rfl rfl ?_
    obtain ⟨c2, h⟩ := h
    refine K_imul (kdA dt_MX9_cellBetween 10 rfl) c2 ?_
    refine K_iload_n 1 (kdA dt_MX9_cellBetween 11 rfl) rfl rfl ?_
    refine K_bipush (kdA dt_MX9_cellBetween 12 rfl) (by decide +kernel) ?_
    obtain ⟨c3, h⟩ := h
    refine K_irem (kdA dt_MX9_cellBetween 13 rfl) c3 (by decide) ?_
    refine K_iload_n 0 (kdA dt_MX9_cellBetween 14 rfl) rfl rfl ?_
    refine K_bipush (kdA dt_MX9_cellBetween 15 rfl) (by decide +kernel) ?_
    refine K_irem (kdA dt_MX9_cellBetween 16 rfl) c1 (by decide) ?_
    obtain ⟨c4, h⟩ := h
    refine K_isub (kdA dt_MX9_cellBetween 17 rfl) c4 ?_
    obtain ⟨c5, h⟩ := h
    refine K_imul (kdA dt_MX9_cellBetween 18 rfl) c5 ?_
    refine K_iload_n 3 (kdA dt_MX9_cellBetween 19 rfl) rfl rfl ?_
    obtain ⟨c6, h⟩ := h
    refine K_iadd (kdA dt_MX9_cellBetween 20 rfl) c6 ?_
    refine K_iconst (kdA dt_MX9_cellBetween 21 rfl) (by decide) ?_
    refine K_iload_n 3 (kdA dt_MX9_cellBetween 22 rfl) rfl rfl ?_
    obtain ⟨c7, h⟩ := h
    refine K_imul (kdA dt_MX9_cellBetween 23 rfl) c7 ?_
    refine K_cSi (as := [(0, (((2 * a2) * ((a1 % 12) - (a0 % 12))) + a3)), (0, (2 * a3))]) (st := [(0, (a0 % 12))]) (kdA dt_MX9_cellBetween 24 rfl) cl_MJm_floorDiv lk9_43 rfl rfl (Nat.le_of_ble_eq_true rfl) (Ci.mono h (fun x8 s1 h => ?_))
    obtain ⟨c9, h⟩ := h
    refine K_iadd (kdA dt_MX9_cellBetween 25 rfl) c9 ?_
    refine K_istore (ls' := [(0, (0, a0)), (1, (0, a1)), (2, (0, a2)), (3, (0, a3)), (4, (0, ((a0 % 12) + x8)))]) (kdA dt_MX9_cellBetween 26 rfl) (by decide) rfl ?_
    refine K_iload_n 0 (kdA dt_MX9_cellBetween 27 rfl) rfl rfl ?_
    refine K_bipush (kdA dt_MX9_cellBetween 28 rfl) (by decide +kernel) ?_
    refine K_idiv (kdA dt_MX9_cellBetween 29 rfl) c1 (by decide) ?_
    refine K_iconst (kdA dt_MX9_cellBetween 30 rfl) (by decide) ?_
    refine K_iload_n 2 (kdA dt_MX9_cellBetween 31 rfl) rfl rfl ?_
    refine K_imul (kdA dt_MX9_cellBetween 32 rfl) c2 ?_
    refine K_iload_n 1 (kdA dt_MX9_cellBetween 33 rfl) rfl rfl ?_
    refine K_bipush (kdA dt_MX9_cellBetween 34 rfl) (by decide +kernel) ?_
    refine K_idiv (kdA dt_MX9_cellBetween 35 rfl) c3 (by decide) ?_
    refine K_iload_n 0 (kdA dt_MX9_cellBetween 36 rfl) rfl rfl ?_
    refine K_bipush (kdA dt_MX9_cellBetween 37 rfl) (by decide +kernel) ?_
    refine K_idiv (kdA dt_MX9_cellBetween 38 rfl) c1 (by decide) ?_
    obtain ⟨c10, h⟩ := h
    refine K_isub (kdA dt_MX9_cellBetween 39 rfl) c10 ?_
    obtain ⟨c11, h⟩ := h
    refine K_imul (kdA dt_MX9_cellBetween 40 rfl) c11 ?_
    refine K_iload_n 3 (kdA dt_MX9_cellBetween 41 rfl) rfl rfl ?_
    obtain ⟨c12, h⟩ := h
    refine K_iadd (kdA dt_MX9_cellBetween 42 rfl) c12 ?_
    refine K_iconst (kdA dt_MX9_cellBetween 43 rfl) (by decide) ?_
    refine K_iload_n 3 (kdA dt_MX9_cellBetween 44 rfl) rfl rfl ?_
    refine K_imul (kdA dt_MX9_cellBetween 45 rfl) c7 ?_
    refine K_cSi (as := [(0, (((2 * a2) * ((a1 / 12) - (a0 / 12))) + a3)), (0, (2 * a3))]) (st := [(0, (a0 / 12))]) (kdA dt_MX9_cellBetween 46 rfl) cl_MJm_floorDiv lk9_43 rfl rfl (Nat.le_of_ble_eq_true rfl) (Ci.mono h (fun x13 s2 h => ?_))
    obtain ⟨c14, h⟩ := h
    refine K_iadd (kdA dt_MX9_cellBetween 47 rfl) c14 ?_
    refine K_istore (ls' := [(0, (0, a0)), (1, (0, a1)), (2, (0, a2)), (3, (0, a3)), (4, (0, ((a0 % 12) + x8))), (5, (0, ((a0 / 12) + x13)))]) (kdA dt_MX9_cellBetween 48 rfl) (by decide) rfl ?_
    refine K_iload 5 (kdA dt_MX9_cellBetween 49 rfl) rfl ?_
    refine K_bipush (kdA dt_MX9_cellBetween 50 rfl) (by decide +kernel) ?_
    obtain ⟨c15, h⟩ := h
    refine K_imul (kdA dt_MX9_cellBetween 51 rfl) c15 ?_
    refine K_iload 4 (kdA dt_MX9_cellBetween 52 rfl) rfl ?_
    obtain ⟨c16, h⟩ := h
    refine K_iadd (kdA dt_MX9_cellBetween 53 rfl) c16 ?_
    exact K_ireturn (kdA dt_MX9_cellBetween 54 rfl) rfl ⟨rfl, _, rfl, h⟩
  · have h := h.2 c
    refine K_iload_n 0 (kdA dt_MX9_cellBetween 3 rfl) rfl rfl ?_
    exact K_ireturn (kdA dt_MX9_cellBetween 4 rfl) rfl ⟨rfl, _, rfl, h⟩
theorem EX9_cellBetween {d n : Nat} {Q : Int → kS → Prop} {a0 a1 a2 a3 : Int} {σ : kS} (h : (-2147483648 ≤ a0 ∧ a0 ≤ 2147483647) → (-2147483648 ≤ a1 ∧ a1 ≤ 2147483647) → (-2147483648 ≤ a2 ∧ a2 ≤ 2147483647) → (-2147483648 ≤ a3 ∧ a3 ≤ 2147483647) → kokw n σ → LX9_cellBetween_0 d n Q a0 a1 a2 a3 σ) : Ci (d + 1) MX9_cellBetween [(0, a0), (0, a1), (0, a2), (0, a3)] n σ Q := Tri_of (by decide +kernel) (Nat.le_of_ble_eq_true rfl) (fun hk hw => h (hk (0, a0) (List.mem_of_getElem? (i := 0) rfl)) (hk (0, a1) (List.mem_of_getElem? (i := 1) rfl)) (hk (0, a2) (List.mem_of_getElem? (i := 2) rfl)) (hk (0, a3) (List.mem_of_getElem? (i := 3) rfl)) hw)

def LX9_countHops_0 (d n : Nat) (Q : Int → kS → Prop) (a0 : Int) (a1 : Int) (a2 : Int) (a3 : Int) (a4 : Int) (σ : kS) : Prop := K (d + 1) MX9_countHops (kPi n Q) (0, 0) 0 [(0, (2, a0)), (1, (2, a1)), (2, (0, a2)), (3, (0, a3)), (4, (0, a4))] [] n σ
def LX9_countHops_28 (d n : Nat) (Q : Int → kS → Prop) (a0 : Int) (a1 : Int) (a2 : Int) (a4 : Int) (a5 : Int) (a6 : Int) (σ : kS) : Prop := K (d + 1) MX9_countHops (kPi n Q) (0, 0) 28 [(0, (2, a0)), (1, (2, a1)), (2, (0, a2)), (4, (0, a4)), (5, (0, a5)), (6, (0, a6))] [] n σ
def LX9_countHops_57 (d n : Nat) (Q : Int → kS → Prop) (a0 : Int) (a1 : Int) (a2 : Int) (a4 : Int) (a5 : Int) (a6 : Int) (a7 : Int) (a8 : Int) (σ : kS) : Prop := K (d + 1) MX9_countHops (kPi n Q) (0, 0) 57 [(0, (2, a0)), (1, (2, a1)), (2, (0, a2)), (4, (0, a4)), (5, (0, a5)), (6, (0, a6)), (7, (0, a7)), (8, (0, a8))] [] n σ
theorem SX9_countHops_0 {d n : Nat} {Q : Int → kS → Prop} {a0 a1 a2 a3 a4 : Int} {σ : kS} (h : isO 9 n a0 ∧ (Cv d MJm_fill [(2, (σ a0 0)), (0, (-1))] n σ (fun s1 => isA 20 n (s1 a0 0) ∧ (((0 : Int) ≤ a3 ∧ a3 < klen (s1 a0 0)) ∧ (∀ s2, s2 = kst s1 (s1 a0 0) a3 0 → isA 20 n (s2 a0 1) ∧ (((0 : Int) ≤ 0 ∧ 0 < klen (s2 a0 1)) ∧ (∀ s3, s3 = kst s2 (s2 a0 1) 0 a3 → LX9_countHops_28 d n Q a0 a1 a2 a4 1 0 s3))))))) : LX9_countHops_0 d n Q a0 a1 a2 a3 a4 σ := by
  unfold LX9_countHops_0
  refine K_aload_n 0 (kdA dt_MX9_countHops 0 rfl) rfl rfl ?_
  obtain ⟨c1, h⟩ := h
  refine gf9_9 rfl (kdA dt_MX9_countHops 1 rfl) c1 ?_
  refine K_iconst (kdA dt_MX9_countHops 2 rfl) (by decide) ?_
  refine K_cSv (as := [(2, (σ a0 0)), (0, (-1))]) (st := []) (kdA dt_MX9_countHops 3 rfl) cl_MJm_fill lk9_55 rfl rfl (Nat.le_of_ble_eq_true rfl) (Cv.mono h (fun s1 h => ?_))
  refine K_aload_n 0 (kdA dt_MX9_countHops 4 rfl) rfl rfl ?_
  refine gf9_9 rfl (kdA dt_MX9_countHops 5 rfl) c1 ?_
  refine K_iload_n 3 (kdA dt_MX9_countHops 6 rfl) rfl rfl ?_
  refine K_iconst (kdA dt_MX9_countHops 7 rfl) (by decide) ?_
  obtain ⟨c3, h⟩ := h
  obtain ⟨c4, h⟩ := h
  refine K_iastore' (kdA dt_MX9_countHops 8 rfl) c3 c4.1 c4.2 (fun s2 es2 => ?_)
  have h := h s2 es2
  refine K_aload_n 0 (kdA dt_MX9_countHops 9 rfl) rfl rfl ?_
  refine gf9_15 rfl (kdA dt_MX9_countHops 10 rfl) c1 ?_
  refine K_iconst (kdA dt_MX9_countHops 11 rfl) (by decide) ?_
  refine K_iload_n 3 (kdA dt_MX9_countHops 12 rfl) rfl rfl ?_
  obtain ⟨c5, h⟩ := h
  obtain ⟨c6, h⟩ := h
  refine K_iastore' (kdA dt_MX9_countHops 13 rfl) c5 c6.1 c6.2 (fun s3 es3 => ?_)
  have h := h s3 es3
  refine K_iconst (kdA dt_MX9_countHops 14 rfl) (by decide) ?_
  refine K_istore (ls' := [(0, (2, a0)), (1, (2, a1)), (2, (0, a2)), (3, (0, a3)), (4, (0, a4)), (5, (0, 1))]) (kdA dt_MX9_countHops 15 rfl) (by decide) rfl ?_
  refine K_iconst (kdA dt_MX9_countHops 16 rfl) (by decide) ?_
  refine K_istore (ls' := [(0, (2, a0)), (1, (2, a1)), (2, (0, a2)), (3, (0, a3)), (4, (0, a4)), (5, (0, 1)), (6, (0, 0))]) (kdA dt_MX9_countHops 17 rfl) (by decide) rfl ?_
  refine K_pick [0, 1, 2, 4, 5, 6] (ls' := [(0, (2, a0)), (1, (2, a1)), (2, (0, a2)), (4, (0, a4)), (5, (0, 1)), (6, (0, 0))]) rfl ?_
  exact h
theorem SX9_countHops_28 {d n : Nat} {Q : Int → kS → Prop} {a0 a1 a2 a4 a5 a6 : Int} {σ : kS} (h : (a5 ≤ a6 → isO 9 n a0 ∧ (isA 20 n (σ a0 0) ∧ (((0 : Int) ≤ a2 ∧ a2 < klen (σ a0 0)) ∧ (((σ (σ a0 0) a2) = (-1) → Q 0 σ) ∧ (¬ (σ (σ a0 0) a2) = (-1) → Q 1 σ))))) ∧ (¬ a5 ≤ a6 → isO 9 n a0 ∧ (isA 20 n (σ a0 0) ∧ (((0 : Int) ≤ a2 ∧ a2 < klen (σ a0 0)) ∧ ((¬ (σ (σ a0 0) a2) = (-1) → ((σ (σ a0 0) a2) = (-1) → Q 0 σ) ∧ (¬ (σ (σ a0 0) a2) = (-1) → Q 1 σ)) ∧ (¬ (¬ (σ (σ a0 0) a2) = (-1)) → isA 20 n (σ a0 1) ∧ (((0 : Int) ≤ a6 ∧ a6 < klen (σ a0 1)) ∧ (LX9_countHops_57 d n Q a0 a1 a2 a4 a5 a6 (σ (σ a0 1) a6) 0 σ)))))))) : LX9_countHops_28 d n Q a0 a1 a2 a4 a5 a6 σ := by
  unfold LX9_countHops_28
  refine K_iload 5 (kdA dt_MX9_countHops 18 rfl) rfl ?_
  refine K_iload 4 (kdA dt_MX9_countHops 19 rfl) rfl ?_
  refine K_icmp_ge (tgt := 136) (kdA dt_MX9_countHops 20 rfl) rfl (fun c => ?_) (fun c => ?_)
  · have h := h.1 c
    refine K_aload_n 0 (kdA dt_MX9_countHops 73 rfl) rfl rfl ?_
    obtain ⟨c1, h⟩ := h
    refine gf9_9 rfl (kdA dt_MX9_countHops 74 rfl) c1 ?_
    refine K_iload_n 2 (kdA dt_MX9_countHops 75 rfl) rfl rfl ?_
    obtain ⟨c2, h⟩ := h
    obtain ⟨c3, h⟩ := h
    refine K_iaload (kdA dt_MX9_countHops 76 rfl) c2 c3.1 c3.2 ?_
    refine K_iconst (kdA dt_MX9_countHops 77 rfl) (by decide) ?_
    refine K_icmp_eq (tgt := 150) (kdA dt_MX9_countHops 78 rfl) rfl (fun c => ?_) (fun c => ?_)
    · have h := h.1 c
      refine K_iconst (kdA dt_MX9_countHops 81 rfl) (by decide) ?_
      exact K_zreturn (kdA dt_MX9_countHops 82 rfl) rfl (Or.inl rfl) ⟨rfl, _, rfl, h⟩
    · have h := h.2 c
      refine K_iconst (kdA dt_MX9_countHops 79 rfl) (by decide) ?_
      refine K_goto (tgt := 151) (kdA dt_MX9_countHops 80 rfl) rfl ?_
      exact K_zreturn (kdA dt_MX9_countHops 82 rfl) rfl (Or.inr rfl) ⟨rfl, _, rfl, h⟩
  · have h := h.2 c
    refine K_aload_n 0 (kdA dt_MX9_countHops 21 rfl) rfl rfl ?_
    obtain ⟨c1, h⟩ := h
    refine gf9_9 rfl (kdA dt_MX9_countHops 22 rfl) c1 ?_
    refine K_iload_n 2 (kdA dt_MX9_countHops 23 rfl) rfl rfl ?_
    obtain ⟨c2, h⟩ := h
    obtain ⟨c3, h⟩ := h
    refine K_iaload (kdA dt_MX9_countHops 24 rfl) c2 c3.1 c3.2 ?_
    refine K_iconst (kdA dt_MX9_countHops 25 rfl) (by decide) ?_
    refine K_icmp_ne (tgt := 136) (kdA dt_MX9_countHops 26 rfl) rfl (fun c => ?_) (fun c => ?_)
    · have h := h.1 c
      refine K_aload_n 0 (kdA dt_MX9_countHops 73 rfl) rfl rfl ?_
      refine gf9_9 rfl (kdA dt_MX9_countHops 74 rfl) c1 ?_
      refine K_iload_n 2 (kdA dt_MX9_countHops 75 rfl) rfl rfl ?_
      refine K_iaload (kdA dt_MX9_countHops 76 rfl) c2 c3.1 c3.2 ?_
      refine K_iconst (kdA dt_MX9_countHops 77 rfl) (by decide) ?_
      refine K_icmp_eq (tgt := 150) (kdA dt_MX9_countHops 78 rfl) rfl (fun c => ?_) (fun c => ?_)
      · have h := h.1 c
        refine K_iconst (kdA dt_MX9_countHops 81 rfl) (by decide) ?_
        exact K_zreturn (kdA dt_MX9_countHops 82 rfl) rfl (Or.inl rfl) ⟨rfl, _, rfl, h⟩
      · have h := h.2 c
        refine K_iconst (kdA dt_MX9_countHops 79 rfl) (by decide) ?_
        refine K_goto (tgt := 151) (kdA dt_MX9_countHops 80 rfl) rfl ?_
        exact K_zreturn (kdA dt_MX9_countHops 82 rfl) rfl (Or.inr rfl) ⟨rfl, _, rfl, h⟩
    · have h := h.2 c
      refine K_aload_n 0 (kdA dt_MX9_countHops 27 rfl) rfl rfl ?_
      refine gf9_15 rfl (kdA dt_MX9_countHops 28 rfl) c1 ?_
      refine K_iload 5 (kdA dt_MX9_countHops 29 rfl) rfl ?_
      obtain ⟨c4, h⟩ := h
      obtain ⟨c5, h⟩ := h
      refine K_iaload (kdA dt_MX9_countHops 30 rfl) c4 c5.1 c5.2 ?_
      refine K_istore (ls' := [(0, (2, a0)), (1, (2, a1)), (2, (0, a2)), (4, (0, a4)), (5, (0, a5)), (6, (0, a6)), (7, (0, (σ (σ a0 1) a6)))]) (kdA dt_MX9_countHops 31 rfl) (by decide) rfl ?_
      refine K_iconst (kdA dt_MX9_countHops 32 rfl) (by decide) ?_
      refine K_istore (ls' := [(0, (2, a0)), (1, (2, a1)), (2, (0, a2)), (4, (0, a4)), (5, (0, a5)), (6, (0, a6)), (7, (0, (σ (σ a0 1) a6))), (8, (0, 0))]) (kdA dt_MX9_countHops 33 rfl) (by decide) rfl ?_
      exact h
theorem SX9_countHops_57 {d n : Nat} {Q : Int → kS → Prop} {a0 a1 a2 a4 a5 a6 a7 a8 : Int} {σ : kS} (h : (120 ≤ a8 → (-2147483648 ≤ (a6 + 1) ∧ (a6 + 1) ≤ 2147483647) ∧ (LX9_countHops_28 d n Q a0 a1 a2 a4 a5 (a6 + 1) σ)) ∧ (¬ 120 ≤ a8 → isO 9 n a0 ∧ (isA 20 n (σ a0 0) ∧ (((0 : Int) ≤ a8 ∧ a8 < klen (σ a0 0)) ∧ ((¬ (σ (σ a0 0) a8) = (-1) → (-2147483648 ≤ (a8 + 1) ∧ (a8 + 1) ≤ 2147483647) ∧ (LX9_countHops_57 d n Q a0 a1 a2 a4 a5 a6 a7 (a8 + 1) σ)) ∧ (¬ (¬ (σ (σ a0 0) a8) = (-1)) → (120 ≤ a5 → (-2147483648 ≤ (a8 + 1) ∧ (a8 + 1) ≤ 2147483647) ∧ (LX9_countHops_57 d n Q a0 a1 a2 a4 a5 a6 a7 (a8 + 1) σ)) ∧ (¬ 120 ≤ a5 → Ci d MX9_isHop [(2, a0), (2, a1), (0, a8), (0, a7), (0, a4)] n σ (fun x4 s1 => (x4 = 0 → (-2147483648 ≤ (a8 + 1) ∧ (a8 + 1) ≤ 2147483647) ∧ (LX9_countHops_57 d n Q a0 a1 a2 a4 a5 a6 a7 (a8 + 1) s1)) ∧ (¬ x4 = 0 → isA 20 n (s1 a0 0) ∧ (((0 : Int) ≤ a7 ∧ a7 < klen (s1 a0 0)) ∧ ((-2147483648 ≤ ((s1 (s1 a0 0) a7) + 1) ∧ ((s1 (s1 a0 0) a7) + 1) ≤ 2147483647) ∧ (((0 : Int) ≤ a8 ∧ a8 < klen (s1 a0 0)) ∧ (∀ s2, s2 = kst s1 (s1 a0 0) a8 ((s1 (s1 a0 0) a7) + 1) → isA 20 n (s2 a0 1) ∧ (((0 : Int) ≤ a5 ∧ a5 < klen (s2 a0 1)) ∧ (∀ s3, s3 = kst s2 (s2 a0 1) a5 a8 → (-2147483648 ≤ (a5 + 1) ∧ (a5 + 1) ≤ 2147483647) ∧ ((-2147483648 ≤ (a8 + 1) ∧ (a8 + 1) ≤ 2147483647) ∧ (LX9_countHops_57 d n Q a0 a1 a2 a4 (a5 + 1) a6 a7 (a8 + 1) s3))))))))))))))))) : LX9_countHops_57 d n Q a0 a1 a2 a4 a5 a6 a7 a8 σ := by
  unfold LX9_countHops_57
  refine K_iload 7 (kdA dt_MX9_countHops 34 rfl) rfl ?_
  refine K_bipush (kdA dt_MX9_countHops 35 rfl) (by decide +kernel) ?_
  refine K_icmp_ge (tgt := 130) (kdA dt_MX9_countHops 36 rfl) rfl (fun c => ?_) (fun c => ?_)
  · have h := h.1 c
    obtain ⟨c1, h⟩ := h
    refine K_iinc (ls' := [(0, (2, a0)), (1, (2, a1)), (2, (0, a2)), (4, (0, a4)), (5, (0, a5)), (6, (0, (a6 + 1))), (7, (0, a7)), (8, (0, a8))]) 5 (kdA dt_MX9_countHops 71 rfl) rfl c1 (by decide) rfl ?_
    refine K_goto (tgt := 28) (kdA dt_MX9_countHops 72 rfl) rfl ?_
    refine K_pick [0, 1, 2, 3, 4, 5] (ls' := [(0, (2, a0)), (1, (2, a1)), (2, (0, a2)), (4, (0, a4)), (5, (0, a5)), (6, (0, (a6 + 1)))]) rfl ?_
    exact h
  · have h := h.2 c
    refine K_aload_n 0 (kdA dt_MX9_countHops 37 rfl) rfl rfl ?_
    obtain ⟨c1, h⟩ := h
    refine gf9_9 rfl (kdA dt_MX9_countHops 38 rfl) c1 ?_
    refine K_iload 7 (kdA dt_MX9_countHops 39 rfl) rfl ?_
    obtain ⟨c2, h⟩ := h
    obtain ⟨c3, h⟩ := h
    refine K_iaload (kdA dt_MX9_countHops 40 rfl) c2 c3.1 c3.2 ?_
    refine K_iconst (kdA dt_MX9_countHops 41 rfl) (by decide) ?_
    refine K_icmp_ne (tgt := 124) (kdA dt_MX9_countHops 42 rfl) rfl (fun c => ?_) (fun c => ?_)
    · have h := h.1 c
      obtain ⟨c4, h⟩ := h
      refine K_iinc (ls' := [(0, (2, a0)), (1, (2, a1)), (2, (0, a2)), (4, (0, a4)), (5, (0, a5)), (6, (0, a6)), (7, (0, a7)), (8, (0, (a8 + 1)))]) 7 (kdA dt_MX9_countHops 69 rfl) rfl c4 (by decide) rfl ?_
      refine K_goto (tgt := 57) (kdA dt_MX9_countHops 70 rfl) rfl ?_
      exact h
    · have h := h.2 c
      refine K_iload 4 (kdA dt_MX9_countHops 43 rfl) rfl ?_
      refine K_bipush (kdA dt_MX9_countHops 44 rfl) (by decide +kernel) ?_
      refine K_icmp_ge (tgt := 124) (kdA dt_MX9_countHops 45 rfl) rfl (fun c => ?_) (fun c => ?_)
      · have h := h.1 c
        obtain ⟨c4, h⟩ := h
        refine K_iinc (ls' := [(0, (2, a0)), (1, (2, a1)), (2, (0, a2)), (4, (0, a4)), (5, (0, a5)), (6, (0, a6)), (7, (0, a7)), (8, (0, (a8 + 1)))]) 7 (kdA dt_MX9_countHops 69 rfl) rfl c4 (by decide) rfl ?_
        refine K_goto (tgt := 57) (kdA dt_MX9_countHops 70 rfl) rfl ?_
        exact h
      · have h := h.2 c
        refine K_aload_n 0 (kdA dt_MX9_countHops 46 rfl) rfl rfl ?_
        refine K_aload_n 1 (kdA dt_MX9_countHops 47 rfl) rfl rfl ?_
        refine K_iload 7 (kdA dt_MX9_countHops 48 rfl) rfl ?_
        refine K_iload 6 (kdA dt_MX9_countHops 49 rfl) rfl ?_
        refine K_iload 3 (kdA dt_MX9_countHops 50 rfl) rfl ?_
        refine K_cVi (c := 9) (as := [(2, a1), (0, a8), (0, a7), (0, a4)]) (st := []) (kdA dt_MX9_countHops 51 rfl) rfl cl_MX9_isHop lk9_61 rfl rfl (Nat.le_of_ble_eq_true rfl) c1 (Ci.mono h (fun x4 s1 h => ?_))
        refine K_if_eq (tgt := 124) (kdA dt_MX9_countHops 52 rfl) rfl (fun c => ?_) (fun c => ?_)
        · have h := h.1 c
          obtain ⟨c5, h⟩ := h
          refine K_iinc (ls' := [(0, (2, a0)), (1, (2, a1)), (2, (0, a2)), (4, (0, a4)), (5, (0, a5)), (6, (0, a6)), (7, (0, a7)), (8, (0, (a8 + 1)))]) 7 (kdA dt_MX9_countHops 69 rfl) rfl c5 (by decide) rfl ?_
          refine K_goto (tgt := 57) (kdA dt_MX9_countHops 70 rfl) rfl ?_
          exact h
        · have h := h.2 c
          refine K_aload_n 0 (kdA dt_MX9_countHops 53 rfl) rfl rfl ?_
          refine gf9_9 rfl (kdA dt_MX9_countHops 54 rfl) c1 ?_
          refine K_iload 7 (kdA dt_MX9_countHops 55 rfl) rfl ?_
          refine K_aload_n 0 (kdA dt_MX9_countHops 56 rfl) rfl rfl ?_
          refine gf9_9 rfl (kdA dt_MX9_countHops 57 rfl) c1 ?_
          refine K_iload 6 (kdA dt_MX9_countHops 58 rfl) rfl ?_
          obtain ⟨c5, h⟩ := h
          obtain ⟨c6, h⟩ := h
          refine K_iaload (kdA dt_MX9_countHops 59 rfl) c5 c6.1 c6.2 ?_
          refine K_iconst (kdA dt_MX9_countHops 60 rfl) (by decide) ?_
          obtain ⟨c7, h⟩ := h
          refine K_iadd (kdA dt_MX9_countHops 61 rfl) c7 ?_
          obtain ⟨c8, h⟩ := h
          refine K_iastore' (kdA dt_MX9_countHops 62 rfl) c5 c8.1 c8.2 (fun s2 es2 => ?_)
          have h := h s2 es2
          refine K_aload_n 0 (kdA dt_MX9_countHops 63 rfl) rfl rfl ?_
          refine gf9_15 rfl (kdA dt_MX9_countHops 64 rfl) c1 ?_
          refine K_iload 4 (kdA dt_MX9_countHops 65 rfl) rfl ?_
          refine K_iload 7 (kdA dt_MX9_countHops 66 rfl) rfl ?_
          obtain ⟨c9, h⟩ := h
          obtain ⟨c10, h⟩ := h
          refine K_iastore' (kdA dt_MX9_countHops 67 rfl) c9 c10.1 c10.2 (fun s3 es3 => ?_)
          have h := h s3 es3
          obtain ⟨c11, h⟩ := h
          refine K_iinc (ls' := [(0, (2, a0)), (1, (2, a1)), (2, (0, a2)), (4, (0, a4)), (5, (0, (a5 + 1))), (6, (0, a6)), (7, (0, a7)), (8, (0, a8))]) 4 (kdA dt_MX9_countHops 68 rfl) rfl c11 (by decide) rfl ?_
          obtain ⟨c12, h⟩ := h
          refine K_iinc (ls' := [(0, (2, a0)), (1, (2, a1)), (2, (0, a2)), (4, (0, a4)), (5, (0, (a5 + 1))), (6, (0, a6)), (7, (0, a7)), (8, (0, (a8 + 1)))]) 7 (kdA dt_MX9_countHops 69 rfl) rfl c12 (by decide) rfl ?_
          refine K_goto (tgt := 57) (kdA dt_MX9_countHops 70 rfl) rfl ?_
          exact h
theorem EX9_countHops {d n : Nat} {Q : Int → kS → Prop} {a0 a1 a2 a3 a4 : Int} {σ : kS} (h : (-2147483648 ≤ a2 ∧ a2 ≤ 2147483647) → (-2147483648 ≤ a3 ∧ a3 ≤ 2147483647) → (-2147483648 ≤ a4 ∧ a4 ≤ 2147483647) → kokw n σ → LX9_countHops_0 d n Q a0 a1 a2 a3 a4 σ) : Ci (d + 1) MX9_countHops [(2, a0), (2, a1), (0, a2), (0, a3), (0, a4)] n σ Q := Tri_of (by decide +kernel) (Nat.le_of_ble_eq_true rfl) (fun hk hw => h (hk (0, a2) (List.mem_of_getElem? (i := 2) rfl)) (hk (0, a3) (List.mem_of_getElem? (i := 3) rfl)) (hk (0, a4) (List.mem_of_getElem? (i := 4) rfl)) hw)

def LX9_hopStraight_0 (d n : Nat) (Q : kS → Prop) (a0 : Int) (a1 : Int) (a2 : Int) (σ : kS) : Prop := K (d + 1) MX9_hopStraight (kPv n Q) (0, 0) 0 [(0, (2, a0)), (1, (0, a1)), (2, (0, a2))] [] n σ
theorem SX9_hopStraight_0 {d n : Nat} {Q : kS → Prop} {a0 a1 a2 : Int} {σ : kS} (h : isO 9 n a0 ∧ (isO 8 n (σ a0 2) ∧ (Ci d MX8_cut [(2, (σ a0 2)), (0, 0)] n σ (fun x3 s1 => isO 8 n (s1 a0 2) ∧ (Ci d MX8_add [(2, (s1 a0 2)), (0, a1)] n s1 (fun x5 s2 => (a1 = a2 → Q s2) ∧ (¬ a1 = a2 → isO 8 n (s2 a0 2) ∧ (Ci d MX8_add [(2, (s2 a0 2)), (0, a2)] n s2 (fun x7 s3 => Q s3))))))))) : LX9_hopStraight_0 d n Q a0 a1 a2 σ := by
  unfold LX9_hopStraight_0
  refine K_aload_n 0 (kdA dt_MX9_hopStraight 0 rfl) rfl rfl ?_
  obtain ⟨c1, h⟩ := h
  refine gf9_23 rfl (kdA dt_MX9_hopStraight 1 rfl) c1 ?_
  refine K_iconst (kdA dt_MX9_hopStraight 2 rfl) (by decide) ?_
  obtain ⟨c2, h⟩ := h
  refine K_cVi (c := 8) (as := [(0, 0)]) (st := []) (kdA dt_MX9_hopStraight 3 rfl) rfl cl_MX8_cut lk9_48 rfl rfl (Nat.le_of_ble_eq_true rfl) c2 (Ci.mono h (fun x3 s1 h => ?_))
  refine K_pop (kdA dt_MX9_hopStraight 4 rfl) rfl ?_
  refine K_aload_n 0 (kdA dt_MX9_hopStraight 5 rfl) rfl rfl ?_
  refine gf9_23 rfl (kdA dt_MX9_hopStraight 6 rfl) c1 ?_
  refine K_iload_n 1 (kdA dt_MX9_hopStraight 7 rfl) rfl rfl ?_
  obtain ⟨c4, h⟩ := h
  refine K_cVi (c := 8) (as := [(0, a1)]) (st := []) (kdA dt_MX9_hopStraight 8 rfl) rfl cl_MX8_add lk9_52 rfl rfl (Nat.le_of_ble_eq_true rfl) c4 (Ci.mono h (fun x5 s2 h => ?_))
  refine K_pop (kdA dt_MX9_hopStraight 9 rfl) rfl ?_
  refine K_iload_n 1 (kdA dt_MX9_hopStraight 10 rfl) rfl rfl ?_
  refine K_iload_n 2 (kdA dt_MX9_hopStraight 11 rfl) rfl rfl ?_
  refine K_icmp_eq (tgt := 32) (kdA dt_MX9_hopStraight 12 rfl) rfl (fun c => ?_) (fun c => ?_)
  · have h := h.1 c
    exact K_return (kdA dt_MX9_hopStraight 18 rfl) rfl ⟨rfl, rfl, h⟩
  · have h := h.2 c
    refine K_aload_n 0 (kdA dt_MX9_hopStraight 13 rfl) rfl rfl ?_
    refine gf9_23 rfl (kdA dt_MX9_hopStraight 14 rfl) c1 ?_
    refine K_iload_n 2 (kdA dt_MX9_hopStraight 15 rfl) rfl rfl ?_
    obtain ⟨c6, h⟩ := h
    refine K_cVi (c := 8) (as := [(0, a2)]) (st := []) (kdA dt_MX9_hopStraight 16 rfl) rfl cl_MX8_add lk9_52 rfl rfl (Nat.le_of_ble_eq_true rfl) c6 (Ci.mono h (fun x7 s3 h => ?_))
    refine K_pop (kdA dt_MX9_hopStraight 17 rfl) rfl ?_
    exact K_return (kdA dt_MX9_hopStraight 18 rfl) rfl ⟨rfl, rfl, h⟩
theorem EX9_hopStraight {d n : Nat} {Q : kS → Prop} {a0 a1 a2 : Int} {σ : kS} (h : (-2147483648 ≤ a1 ∧ a1 ≤ 2147483647) → (-2147483648 ≤ a2 ∧ a2 ≤ 2147483647) → kokw n σ → LX9_hopStraight_0 d n Q a0 a1 a2 σ) : Cv (d + 1) MX9_hopStraight [(2, a0), (0, a1), (0, a2)] n σ Q := Tri_of (by decide +kernel) (Nat.le_of_ble_eq_true rfl) (fun hk hw => h (hk (0, a1) (List.mem_of_getElem? (i := 1) rfl)) (hk (0, a2) (List.mem_of_getElem? (i := 2) rfl)) hw)

def LX9_isHop_0 (d n : Nat) (Q : Int → kS → Prop) (a0 : Int) (a1 : Int) (a2 : Int) (a3 : Int) (a4 : Int) (σ : kS) : Prop := K (d + 1) MX9_isHop (kPi n Q) (0, 0) 0 [(0, (2, a0)), (1, (2, a1)), (2, (0, a2)), (3, (0, a3)), (4, (0, a4))] [] n σ
theorem SX9_isHop_0 {d n : Nat} {Q : Int → kS → Prop} {a0 a1 a2 a3 a4 : Int} {σ : kS} (h : Ci d MX11_apart [(0, a2), (0, a3)] n σ (fun x1 s1 => (a4 < x1 → Q 0 s1) ∧ (¬ a4 < x1 → isO 9 n a0 ∧ (Ci d MX9_isSeen [(2, a0), (2, a1), (0, a2), (0, a3)] n s1 (fun x3 s2 => (x3 = 0 → Q 0 s2) ∧ (¬ x3 = 0 → Q 1 s2)))))) : LX9_isHop_0 d n Q a0 a1 a2 a3 a4 σ := by
  unfold LX9_isHop_0
  refine K_iload_n 2 (kdA dt_MX9_isHop 0 rfl) rfl rfl ?_
  refine K_iload_n 3 (kdA dt_MX9_isHop 1 rfl) rfl rfl ?_
  refine K_cSi (as := [(0, a2), (0, a3)]) (st := []) (kdA dt_MX9_isHop 2 rfl) cl_MX11_apart lk9_30 rfl rfl (Nat.le_of_ble_eq_true rfl) (Ci.mono h (fun x1 s1 h => ?_))
  refine K_iload 4 (kdA dt_MX9_isHop 3 rfl) rfl ?_
  refine K_icmp_gt (tgt := 24) (kdA dt_MX9_isHop 4 rfl) rfl (fun c => ?_) (fun c => ?_)
  · have h := h.1 c
    refine K_iconst (kdA dt_MX9_isHop 13 rfl) (by decide) ?_
    exact K_zreturn (kdA dt_MX9_isHop 14 rfl) rfl (Or.inl rfl) ⟨rfl, _, rfl, h⟩
  · have h := h.2 c
    refine K_aload_n 0 (kdA dt_MX9_isHop 5 rfl) rfl rfl ?_
    refine K_aload_n 1 (kdA dt_MX9_isHop 6 rfl) rfl rfl ?_
    refine K_iload_n 2 (kdA dt_MX9_isHop 7 rfl) rfl rfl ?_
    refine K_iload_n 3 (kdA dt_MX9_isHop 8 rfl) rfl rfl ?_
    obtain ⟨c2, h⟩ := h
    refine K_cVi (c := 9) (as := [(2, a1), (0, a2), (0, a3)]) (st := []) (kdA dt_MX9_isHop 9 rfl) rfl cl_MX9_isSeen lk9_69 rfl rfl (Nat.le_of_ble_eq_true rfl) c2 (Ci.mono h (fun x3 s2 h => ?_))
    refine K_if_eq (tgt := 24) (kdA dt_MX9_isHop 10 rfl) rfl (fun c => ?_) (fun c => ?_)
    · have h := h.1 c
      refine K_iconst (kdA dt_MX9_isHop 13 rfl) (by decide) ?_
      exact K_zreturn (kdA dt_MX9_isHop 14 rfl) rfl (Or.inl rfl) ⟨rfl, _, rfl, h⟩
    · have h := h.2 c
      refine K_iconst (kdA dt_MX9_isHop 11 rfl) (by decide) ?_
      refine K_goto (tgt := 25) (kdA dt_MX9_isHop 12 rfl) rfl ?_
      exact K_zreturn (kdA dt_MX9_isHop 14 rfl) rfl (Or.inr rfl) ⟨rfl, _, rfl, h⟩
theorem EX9_isHop {d n : Nat} {Q : Int → kS → Prop} {a0 a1 a2 a3 a4 : Int} {σ : kS} (h : (-2147483648 ≤ a2 ∧ a2 ≤ 2147483647) → (-2147483648 ≤ a3 ∧ a3 ≤ 2147483647) → (-2147483648 ≤ a4 ∧ a4 ≤ 2147483647) → kokw n σ → LX9_isHop_0 d n Q a0 a1 a2 a3 a4 σ) : Ci (d + 1) MX9_isHop [(2, a0), (2, a1), (0, a2), (0, a3), (0, a4)] n σ Q := Tri_of (by decide +kernel) (Nat.le_of_ble_eq_true rfl) (fun hk hw => h (hk (0, a2) (List.mem_of_getElem? (i := 2) rfl)) (hk (0, a3) (List.mem_of_getElem? (i := 3) rfl)) (hk (0, a4) (List.mem_of_getElem? (i := 4) rfl)) hw)

def LX9_isSeen_0 (d n : Nat) (Q : Int → kS → Prop) (a0 : Int) (a1 : Int) (a2 : Int) (a3 : Int) (σ : kS) : Prop := K (d + 1) MX9_isSeen (kPi n Q) (0, 0) 0 [(0, (2, a0)), (1, (2, a1)), (2, (0, a2)), (3, (0, a3))] [] n σ
def LX9_isSeen_26 (d n : Nat) (Q : Int → kS → Prop) (a1 : Int) (a2 : Int) (a3 : Int) (a4 : Int) (a5 : Int) (a6 : Int) (a7 : Int) (σ : kS) : Prop := K (d + 1) MX9_isSeen (kPi n Q) (0, 0) 26 [(1, (2, a1)), (2, (0, a2)), (3, (0, a3)), (4, (0, a4)), (5, (0, a5)), (6, (0, a6)), (7, (0, a7))] [] n σ
theorem SX9_isSeen_0 {d n : Nat} {Q : Int → kS → Prop} {a0 a1 a2 a3 : Int} {σ : kS} (h : Ci d MX11_apart [(0, a2), (0, a3)] n σ (fun x1 s1 => isO 5 n a1 ∧ (Ci d MX5_told [(2, a1), (0, a2), (0, 0)] n s1 (fun x3 s2 => Ci d MX5_told [(2, a1), (0, a3), (0, 0)] n s2 (fun x4 s3 => LX9_isSeen_26 d n Q a1 a2 a3 x1 x3 x4 1 s3))))) : LX9_isSeen_0 d n Q a0 a1 a2 a3 σ := by
  unfold LX9_isSeen_0
  refine K_iload_n 2 (kdA dt_MX9_isSeen 0 rfl) rfl rfl ?_
  refine K_iload_n 3 (kdA dt_MX9_isSeen 1 rfl) rfl rfl ?_
  refine K_cSi (as := [(0, a2), (0, a3)]) (st := []) (kdA dt_MX9_isSeen 2 rfl) cl_MX11_apart lk9_30 rfl rfl (Nat.le_of_ble_eq_true rfl) (Ci.mono h (fun x1 s1 h => ?_))
  refine K_istore (ls' := [(0, (2, a0)), (1, (2, a1)), (2, (0, a2)), (3, (0, a3)), (4, (0, x1))]) (kdA dt_MX9_isSeen 3 rfl) (by decide) rfl ?_
  refine K_aload_n 1 (kdA dt_MX9_isSeen 4 rfl) rfl rfl ?_
  refine K_iload_n 2 (kdA dt_MX9_isSeen 5 rfl) rfl rfl ?_
  refine K_iconst (kdA dt_MX9_isSeen 6 rfl) (by decide) ?_
  obtain ⟨c2, h⟩ := h
  refine K_cVi (c := 5) (as := [(0, a2), (0, 0)]) (st := []) (kdA dt_MX9_isSeen 7 rfl) rfl cl_MX5_told lk9_34 rfl rfl (Nat.le_of_ble_eq_true rfl) c2 (Ci.mono h (fun x3 s2 h => ?_))
  refine K_istore (ls' := [(0, (2, a0)), (1, (2, a1)), (2, (0, a2)), (3, (0, a3)), (4, (0, x1)), (5, (0, x3))]) (kdA dt_MX9_isSeen 8 rfl) (by decide) rfl ?_
  refine K_aload_n 1 (kdA dt_MX9_isSeen 9 rfl) rfl rfl ?_
  refine K_iload_n 3 (kdA dt_MX9_isSeen 10 rfl) rfl rfl ?_
  refine K_iconst (kdA dt_MX9_isSeen 11 rfl) (by decide) ?_
  refine K_cVi (c := 5) (as := [(0, a3), (0, 0)]) (st := []) (kdA dt_MX9_isSeen 12 rfl) rfl cl_MX5_told lk9_34 rfl rfl (Nat.le_of_ble_eq_true rfl) c2 (Ci.mono h (fun x4 s3 h => ?_))
  refine K_istore (ls' := [(0, (2, a0)), (1, (2, a1)), (2, (0, a2)), (3, (0, a3)), (4, (0, x1)), (5, (0, x3)), (6, (0, x4))]) (kdA dt_MX9_isSeen 13 rfl) (by decide) rfl ?_
  refine K_iconst (kdA dt_MX9_isSeen 14 rfl) (by decide) ?_
  refine K_istore (ls' := [(0, (2, a0)), (1, (2, a1)), (2, (0, a2)), (3, (0, a3)), (4, (0, x1)), (5, (0, x3)), (6, (0, x4)), (7, (0, 1))]) (kdA dt_MX9_isSeen 15 rfl) (by decide) rfl ?_
  refine K_pick [1, 2, 3, 4, 5, 6, 7] (ls' := [(1, (2, a1)), (2, (0, a2)), (3, (0, a3)), (4, (0, x1)), (5, (0, x3)), (6, (0, x4)), (7, (0, 1))]) rfl ?_
  exact h
theorem SX9_isSeen_26 {d n : Nat} {Q : Int → kS → Prop} {a1 a2 a3 a4 a5 a6 a7 : Int} {σ : kS} (h : (a4 ≤ a7 → Q 1 σ) ∧ (¬ a4 ≤ a7 → Ci d MX9_cellBetween [(0, a2), (0, a3), (0, a7), (0, a4)] n σ (fun x1 s1 => isO 5 n a1 ∧ (Ci d MX5_told [(2, a1), (0, x1), (0, 0)] n s1 (fun x3 s2 => (-2147483648 ≤ (x3 * a4) ∧ (x3 * a4) ≤ 2147483647) ∧ ((-2147483648 ≤ (a4 - a7) ∧ (a4 - a7) ≤ 2147483647) ∧ ((-2147483648 ≤ (a5 * (a4 - a7)) ∧ (a5 * (a4 - a7)) ≤ 2147483647) ∧ ((-2147483648 ≤ (a6 * a7) ∧ (a6 * a7) ≤ 2147483647) ∧ ((-2147483648 ≤ ((a5 * (a4 - a7)) + (a6 * a7)) ∧ ((a5 * (a4 - a7)) + (a6 * a7)) ≤ 2147483647) ∧ (((x3 * a4) ≤ ((a5 * (a4 - a7)) + (a6 * a7)) → (-2147483648 ≤ (a7 + 1) ∧ (a7 + 1) ≤ 2147483647) ∧ (LX9_isSeen_26 d n Q a1 a2 a3 a4 a5 a6 (a7 + 1) s2)) ∧ (¬ (x3 * a4) ≤ ((a5 * (a4 - a7)) + (a6 * a7)) → Q 0 s2))))))))))) : LX9_isSeen_26 d n Q a1 a2 a3 a4 a5 a6 a7 σ := by
  unfold LX9_isSeen_26
  refine K_iload 6 (kdA dt_MX9_isSeen 16 rfl) rfl ?_
  refine K_iload 3 (kdA dt_MX9_isSeen 17 rfl) rfl ?_
  refine K_icmp_ge (tgt := 79) (kdA dt_MX9_isSeen 18 rfl) rfl (fun c => ?_) (fun c => ?_)
  · have h := h.1 c
    refine K_iconst (kdA dt_MX9_isSeen 45 rfl) (by decide) ?_
    exact K_zreturn (kdA dt_MX9_isSeen 46 rfl) rfl (Or.inr rfl) ⟨rfl, _, rfl, h⟩
  · have h := h.2 c
    refine K_iload_n 1 (kdA dt_MX9_isSeen 19 rfl) rfl rfl ?_
    refine K_iload_n 2 (kdA dt_MX9_isSeen 20 rfl) rfl rfl ?_
    refine K_iload 6 (kdA dt_MX9_isSeen 21 rfl) rfl ?_
    refine K_iload 3 (kdA dt_MX9_isSeen 22 rfl) rfl ?_
    refine K_cSi (as := [(0, a2), (0, a3), (0, a7), (0, a4)]) (st := []) (kdA dt_MX9_isSeen 23 rfl) cl_MX9_cellBetween lk9_39 rfl rfl (Nat.le_of_ble_eq_true rfl) (Ci.mono h (fun x1 s1 h => ?_))
    refine K_istore (ls' := [(1, (2, a1)), (2, (0, a2)), (3, (0, a3)), (4, (0, a4)), (5, (0, a5)), (6, (0, a6)), (7, (0, a7)), (8, (0, x1))]) (kdA dt_MX9_isSeen 24 rfl) (by decide) rfl ?_
    refine K_aload_n 0 (kdA dt_MX9_isSeen 25 rfl) rfl rfl ?_
    refine K_iload 7 (kdA dt_MX9_isSeen 26 rfl) rfl ?_
    refine K_iconst (kdA dt_MX9_isSeen 27 rfl) (by decide) ?_
    obtain ⟨c2, h⟩ := h
    refine K_cVi (c := 5) (as := [(0, x1), (0, 0)]) (st := []) (kdA dt_MX9_isSeen 28 rfl) rfl cl_MX5_told lk9_34 rfl rfl (Nat.le_of_ble_eq_true rfl) c2 (Ci.mono h (fun x3 s2 h => ?_))
    refine K_iload 3 (kdA dt_MX9_isSeen 29 rfl) rfl ?_
    obtain ⟨c4, h⟩ := h
    refine K_imul (kdA dt_MX9_isSeen 30 rfl) c4 ?_
    refine K_iload 4 (kdA dt_MX9_isSeen 31 rfl) rfl ?_
    refine K_iload 3 (kdA dt_MX9_isSeen 32 rfl) rfl ?_
    refine K_iload 6 (kdA dt_MX9_isSeen 33 rfl) rfl ?_
    obtain ⟨c5, h⟩ := h
    refine K_isub (kdA dt_MX9_isSeen 34 rfl) c5 ?_
    obtain ⟨c6, h⟩ := h
    refine K_imul (kdA dt_MX9_isSeen 35 rfl) c6 ?_
    refine K_iload 5 (kdA dt_MX9_isSeen 36 rfl) rfl ?_
    refine K_iload 6 (kdA dt_MX9_isSeen 37 rfl) rfl ?_
    obtain ⟨c7, h⟩ := h
    refine K_imul (kdA dt_MX9_isSeen 38 rfl) c7 ?_
    obtain ⟨c8, h⟩ := h
    refine K_iadd (kdA dt_MX9_isSeen 39 rfl) c8 ?_
    refine K_icmp_le (tgt := 73) (kdA dt_MX9_isSeen 40 rfl) rfl (fun c => ?_) (fun c => ?_)
    · have h := h.1 c
      obtain ⟨c9, h⟩ := h
      refine K_iinc (ls' := [(1, (2, a1)), (2, (0, a2)), (3, (0, a3)), (4, (0, a4)), (5, (0, a5)), (6, (0, a6)), (7, (0, (a7 + 1))), (8, (0, x1))]) 6 (kdA dt_MX9_isSeen 43 rfl) rfl c9 (by decide) rfl ?_
      refine K_goto (tgt := 26) (kdA dt_MX9_isSeen 44 rfl) rfl ?_
      refine K_pick [0, 1, 2, 3, 4, 5, 6] (ls' := [(1, (2, a1)), (2, (0, a2)), (3, (0, a3)), (4, (0, a4)), (5, (0, a5)), (6, (0, a6)), (7, (0, (a7 + 1)))]) rfl ?_
      exact h
    · have h := h.2 c
      refine K_iconst (kdA dt_MX9_isSeen 41 rfl) (by decide) ?_
      exact K_zreturn (kdA dt_MX9_isSeen 42 rfl) rfl (Or.inl rfl) ⟨rfl, _, rfl, h⟩
theorem EX9_isSeen {d n : Nat} {Q : Int → kS → Prop} {a0 a1 a2 a3 : Int} {σ : kS} (h : (-2147483648 ≤ a2 ∧ a2 ≤ 2147483647) → (-2147483648 ≤ a3 ∧ a3 ≤ 2147483647) → kokw n σ → LX9_isSeen_0 d n Q a0 a1 a2 a3 σ) : Ci (d + 1) MX9_isSeen [(2, a0), (2, a1), (0, a2), (0, a3)] n σ Q := Tri_of (by decide +kernel) (Nat.le_of_ble_eq_true rfl) (fun hk hw => h (hk (0, a2) (List.mem_of_getElem? (i := 2) rfl)) (hk (0, a3) (List.mem_of_getElem? (i := 3) rfl)) hw)

def LX9_layHops_0 (d n : Nat) (Q : Int → kS → Prop) (a0 : Int) (a1 : Int) (a2 : Int) (a3 : Int) (a4 : Int) (σ : kS) : Prop := K (d + 1) MX9_layHops (kPi n Q) (0, 0) 0 [(0, (2, a0)), (1, (2, a1)), (2, (0, a2)), (3, (0, a3)), (4, (0, a4))] [] n σ
def LX9_layHops_25 (d n : Nat) (Q : Int → kS → Prop) (a0 : Int) (a1 : Int) (a3 : Int) (a4 : Int) (a5 : Int) (a6 : Int) (σ : kS) : Prop := K (d + 1) MX9_layHops (kPi n Q) (0, 0) 25 [(0, (2, a0)), (1, (2, a1)), (3, (0, a3)), (4, (0, a4)), (5, (0, a5)), (6, (0, a6))] [] n σ
theorem SX9_layHops_0 {d n : Nat} {Q : Int → kS → Prop} {a0 a1 a2 a3 a4 : Int} {σ : kS} (h : isO 9 n a0 ∧ (isO 8 n (σ a0 2) ∧ (Ci d MX8_cut [(2, (σ a0 2)), (0, 0)] n σ (fun x3 s1 => isO 8 n (s1 a0 2) ∧ (Ci d MX8_add [(2, (s1 a0 2)), (0, a2)] n s1 (fun x5 s2 => LX9_layHops_25 d n Q a0 a1 a3 a4 a2 0 s2)))))) : LX9_layHops_0 d n Q a0 a1 a2 a3 a4 σ := by
  unfold LX9_layHops_0
  refine K_aload_n 0 (kdA dt_MX9_layHops 0 rfl) rfl rfl ?_
  obtain ⟨c1, h⟩ := h
  refine gf9_23 rfl (kdA dt_MX9_layHops 1 rfl) c1 ?_
  refine K_iconst (kdA dt_MX9_layHops 2 rfl) (by decide) ?_
  obtain ⟨c2, h⟩ := h
  refine K_cVi (c := 8) (as := [(0, 0)]) (st := []) (kdA dt_MX9_layHops 3 rfl) rfl cl_MX8_cut lk9_48 rfl rfl (Nat.le_of_ble_eq_true rfl) c2 (Ci.mono h (fun x3 s1 h => ?_))
  refine K_pop (kdA dt_MX9_layHops 4 rfl) rfl ?_
  refine K_iload_n 2 (kdA dt_MX9_layHops 5 rfl) rfl rfl ?_
  refine K_istore (ls' := [(0, (2, a0)), (1, (2, a1)), (2, (0, a2)), (3, (0, a3)), (4, (0, a4)), (5, (0, a2))]) (kdA dt_MX9_layHops 6 rfl) (by decide) rfl ?_
  refine K_aload_n 0 (kdA dt_MX9_layHops 7 rfl) rfl rfl ?_
  refine gf9_23 rfl (kdA dt_MX9_layHops 8 rfl) c1 ?_
  refine K_iload 5 (kdA dt_MX9_layHops 9 rfl) rfl ?_
  obtain ⟨c4, h⟩ := h
  refine K_cVi (c := 8) (as := [(0, a2)]) (st := []) (kdA dt_MX9_layHops 10 rfl) rfl cl_MX8_add lk9_52 rfl rfl (Nat.le_of_ble_eq_true rfl) c4 (Ci.mono h (fun x5 s2 h => ?_))
  refine K_pop (kdA dt_MX9_layHops 11 rfl) rfl ?_
  refine K_iconst (kdA dt_MX9_layHops 12 rfl) (by decide) ?_
  refine K_istore (ls' := [(0, (2, a0)), (1, (2, a1)), (2, (0, a2)), (3, (0, a3)), (4, (0, a4)), (5, (0, a2)), (6, (0, 0))]) (kdA dt_MX9_layHops 13 rfl) (by decide) rfl ?_
  refine K_pick [0, 1, 3, 4, 5, 6] (ls' := [(0, (2, a0)), (1, (2, a1)), (3, (0, a3)), (4, (0, a4)), (5, (0, a2)), (6, (0, 0))]) rfl ?_
  exact h
theorem SX9_layHops_25 {d n : Nat} {Q : Int → kS → Prop} {a0 a1 a3 a4 a5 a6 : Int} {σ : kS} (h : (120 ≤ a6 → (¬ a5 = a3 → Q 0 σ) ∧ (¬ (¬ a5 = a3) → Q 1 σ)) ∧ (¬ 120 ≤ a6 → (a5 = a3 → (¬ a5 = a3 → Q 0 σ) ∧ (¬ (¬ a5 = a3) → Q 1 σ)) ∧ (¬ a5 = a3 → (a5 = (-1) → (¬ a5 = a3 → Q 0 σ) ∧ (¬ (¬ a5 = a3) → Q 1 σ)) ∧ (¬ a5 = (-1) → isO 9 n a0 ∧ (Ci d MX9_nextHop [(2, a0), (2, a1), (0, a5), (0, a4)] n σ (fun x2 s1 => isO 8 n (s1 a0 2) ∧ (Ci d MX8_add [(2, (s1 a0 2)), (0, x2)] n s1 (fun x4 s2 => (-2147483648 ≤ (a6 + 1) ∧ (a6 + 1) ≤ 2147483647) ∧ (LX9_layHops_25 d n Q a0 a1 a3 a4 x2 (a6 + 1) s2))))))))) : LX9_layHops_25 d n Q a0 a1 a3 a4 a5 a6 σ := by
  unfold LX9_layHops_25
  refine K_iload 5 (kdA dt_MX9_layHops 14 rfl) rfl ?_
  refine K_bipush (kdA dt_MX9_layHops 15 rfl) (by decide +kernel) ?_
  refine K_icmp_ge (tgt := 71) (kdA dt_MX9_layHops 16 rfl) rfl (fun c => ?_) (fun c => ?_)
  · have h := h.1 c
    refine K_iload 4 (kdA dt_MX9_layHops 36 rfl) rfl ?_
    refine K_iload_n 2 (kdA dt_MX9_layHops 37 rfl) rfl rfl ?_
    refine K_icmp_ne (tgt := 81) (kdA dt_MX9_layHops 38 rfl) rfl (fun c => ?_) (fun c => ?_)
    · have h := h.1 c
      refine K_iconst (kdA dt_MX9_layHops 41 rfl) (by decide) ?_
      exact K_zreturn (kdA dt_MX9_layHops 42 rfl) rfl (Or.inl rfl) ⟨rfl, _, rfl, h⟩
    · have h := h.2 c
      refine K_iconst (kdA dt_MX9_layHops 39 rfl) (by decide) ?_
      refine K_goto (tgt := 82) (kdA dt_MX9_layHops 40 rfl) rfl ?_
      exact K_zreturn (kdA dt_MX9_layHops 42 rfl) rfl (Or.inr rfl) ⟨rfl, _, rfl, h⟩
  · have h := h.2 c
    refine K_iload 4 (kdA dt_MX9_layHops 17 rfl) rfl ?_
    refine K_iload_n 2 (kdA dt_MX9_layHops 18 rfl) rfl rfl ?_
    refine K_icmp_eq (tgt := 71) (kdA dt_MX9_layHops 19 rfl) rfl (fun c => ?_) (fun c => ?_)
    · have h := h.1 c
      refine K_iload 4 (kdA dt_MX9_layHops 36 rfl) rfl ?_
      refine K_iload_n 2 (kdA dt_MX9_layHops 37 rfl) rfl rfl ?_
      refine K_icmp_ne (tgt := 81) (kdA dt_MX9_layHops 38 rfl) rfl (fun c => ?_) (fun c => ?_)
      · have h := h.1 c
        refine K_iconst (kdA dt_MX9_layHops 41 rfl) (by decide) ?_
        exact K_zreturn (kdA dt_MX9_layHops 42 rfl) rfl (Or.inl rfl) ⟨rfl, _, rfl, h⟩
      · have h := h.2 c
        refine K_iconst (kdA dt_MX9_layHops 39 rfl) (by decide) ?_
        refine K_goto (tgt := 82) (kdA dt_MX9_layHops 40 rfl) rfl ?_
        exact K_zreturn (kdA dt_MX9_layHops 42 rfl) rfl (Or.inr rfl) ⟨rfl, _, rfl, h⟩
    · have h := h.2 c
      refine K_iload 4 (kdA dt_MX9_layHops 20 rfl) rfl ?_
      refine K_iconst (kdA dt_MX9_layHops 21 rfl) (by decide) ?_
      refine K_icmp_eq (tgt := 71) (kdA dt_MX9_layHops 22 rfl) rfl (fun c => ?_) (fun c => ?_)
      · have h := h.1 c
        refine K_iload 4 (kdA dt_MX9_layHops 36 rfl) rfl ?_
        refine K_iload_n 2 (kdA dt_MX9_layHops 37 rfl) rfl rfl ?_
        refine K_icmp_ne (tgt := 81) (kdA dt_MX9_layHops 38 rfl) rfl (fun c => ?_) (fun c => ?_)
        · have h := h.1 c
          refine K_iconst (kdA dt_MX9_layHops 41 rfl) (by decide) ?_
          exact K_zreturn (kdA dt_MX9_layHops 42 rfl) rfl (Or.inl rfl) ⟨rfl, _, rfl, h⟩
        · have h := h.2 c
          refine K_iconst (kdA dt_MX9_layHops 39 rfl) (by decide) ?_
          refine K_goto (tgt := 82) (kdA dt_MX9_layHops 40 rfl) rfl ?_
          exact K_zreturn (kdA dt_MX9_layHops 42 rfl) rfl (Or.inr rfl) ⟨rfl, _, rfl, h⟩
      · have h := h.2 c
        refine K_aload_n 0 (kdA dt_MX9_layHops 23 rfl) rfl rfl ?_
        refine K_aload_n 1 (kdA dt_MX9_layHops 24 rfl) rfl rfl ?_
        refine K_iload 4 (kdA dt_MX9_layHops 25 rfl) rfl ?_
        refine K_iload 3 (kdA dt_MX9_layHops 26 rfl) rfl ?_
        obtain ⟨c1, h⟩ := h
        refine K_cVi (c := 9) (as := [(2, a1), (0, a5), (0, a4)]) (st := []) (kdA dt_MX9_layHops 27 rfl) rfl cl_MX9_nextHop lk9_65 rfl rfl (Nat.le_of_ble_eq_true rfl) c1 (Ci.mono h (fun x2 s1 h => ?_))
        refine K_istore (ls' := [(0, (2, a0)), (1, (2, a1)), (3, (0, a3)), (4, (0, a4)), (5, (0, x2)), (6, (0, a6))]) (kdA dt_MX9_layHops 28 rfl) (by decide) rfl ?_
        refine K_aload_n 0 (kdA dt_MX9_layHops 29 rfl) rfl rfl ?_
        refine gf9_23 rfl (kdA dt_MX9_layHops 30 rfl) c1 ?_
        refine K_iload 4 (kdA dt_MX9_layHops 31 rfl) rfl ?_
        obtain ⟨c3, h⟩ := h
        refine K_cVi (c := 8) (as := [(0, x2)]) (st := []) (kdA dt_MX9_layHops 32 rfl) rfl cl_MX8_add lk9_52 rfl rfl (Nat.le_of_ble_eq_true rfl) c3 (Ci.mono h (fun x4 s2 h => ?_))
        refine K_pop (kdA dt_MX9_layHops 33 rfl) rfl ?_
        obtain ⟨c5, h⟩ := h
        refine K_iinc (ls' := [(0, (2, a0)), (1, (2, a1)), (3, (0, a3)), (4, (0, a4)), (5, (0, x2)), (6, (0, (a6 + 1)))]) 5 (kdA dt_MX9_layHops 34 rfl) rfl c5 (by decide) rfl ?_
        refine K_goto (tgt := 25) (kdA dt_MX9_layHops 35 rfl) rfl ?_
        exact h
theorem EX9_layHops {d n : Nat} {Q : Int → kS → Prop} {a0 a1 a2 a3 a4 : Int} {σ : kS} (h : (-2147483648 ≤ a2 ∧ a2 ≤ 2147483647) → (-2147483648 ≤ a3 ∧ a3 ≤ 2147483647) → (-2147483648 ≤ a4 ∧ a4 ≤ 2147483647) → kokw n σ → LX9_layHops_0 d n Q a0 a1 a2 a3 a4 σ) : Ci (d + 1) MX9_layHops [(2, a0), (2, a1), (0, a2), (0, a3), (0, a4)] n σ Q := Tri_of (by decide +kernel) (Nat.le_of_ble_eq_true rfl) (fun hk hw => h (hk (0, a2) (List.mem_of_getElem? (i := 2) rfl)) (hk (0, a3) (List.mem_of_getElem? (i := 3) rfl)) (hk (0, a4) (List.mem_of_getElem? (i := 4) rfl)) hw)

def LX9_nextHop_0 (d n : Nat) (Q : Int → kS → Prop) (a0 : Int) (a1 : Int) (a2 : Int) (a3 : Int) (σ : kS) : Prop := K (d + 1) MX9_nextHop (kPi n Q) (0, 0) 0 [(0, (2, a0)), (1, (2, a1)), (2, (0, a2)), (3, (0, a3))] [] n σ
def LX9_nextHop_3 (d n : Nat) (Q : Int → kS → Prop) (a0 : Int) (a1 : Int) (a2 : Int) (a3 : Int) (a4 : Int) (σ : kS) : Prop := K (d + 1) MX9_nextHop (kPi n Q) (0, 0) 3 [(0, (2, a0)), (1, (2, a1)), (2, (0, a2)), (3, (0, a3)), (4, (0, a4))] [] n σ
theorem SX9_nextHop_0 {d n : Nat} {Q : Int → kS → Prop} {a0 a1 a2 a3 : Int} {σ : kS} (h : LX9_nextHop_3 d n Q a0 a1 a2 a3 0 σ) : LX9_nextHop_0 d n Q a0 a1 a2 a3 σ := by
  unfold LX9_nextHop_0
  refine K_iconst (kdA dt_MX9_nextHop 0 rfl) (by decide) ?_
  refine K_istore (ls' := [(0, (2, a0)), (1, (2, a1)), (2, (0, a2)), (3, (0, a3)), (4, (0, 0))]) (kdA dt_MX9_nextHop 1 rfl) (by decide) rfl ?_
  exact h
theorem SX9_nextHop_3 {d n : Nat} {Q : Int → kS → Prop} {a0 a1 a2 a3 a4 : Int} {σ : kS} (h : (120 ≤ a4 → Q (-1) σ) ∧ (¬ 120 ≤ a4 → isO 9 n a0 ∧ (isA 20 n (σ a0 0) ∧ (((0 : Int) ≤ a4 ∧ a4 < klen (σ a0 0)) ∧ (((σ (σ a0 0) a4) = (-1) → (-2147483648 ≤ (a4 + 1) ∧ (a4 + 1) ≤ 2147483647) ∧ (LX9_nextHop_3 d n Q a0 a1 a2 a3 (a4 + 1) σ)) ∧ (¬ (σ (σ a0 0) a4) = (-1) → ((0 : Int) ≤ a2 ∧ a2 < klen (σ a0 0)) ∧ ((-2147483648 ≤ ((σ (σ a0 0) a2) - 1) ∧ ((σ (σ a0 0) a2) - 1) ≤ 2147483647) ∧ ((¬ (σ (σ a0 0) a4) = ((σ (σ a0 0) a2) - 1) → (-2147483648 ≤ (a4 + 1) ∧ (a4 + 1) ≤ 2147483647) ∧ (LX9_nextHop_3 d n Q a0 a1 a2 a3 (a4 + 1) σ)) ∧ (¬ (¬ (σ (σ a0 0) a4) = ((σ (σ a0 0) a2) - 1)) → Ci d MX9_isHop [(2, a0), (2, a1), (0, a2), (0, a4), (0, a3)] n σ (fun x6 s1 => (x6 = 0 → (-2147483648 ≤ (a4 + 1) ∧ (a4 + 1) ≤ 2147483647) ∧ (LX9_nextHop_3 d n Q a0 a1 a2 a3 (a4 + 1) s1)) ∧ (¬ x6 = 0 → Q a4 s1))))))))))) : LX9_nextHop_3 d n Q a0 a1 a2 a3 a4 σ := by
  unfold LX9_nextHop_3
  refine K_iload 4 (kdA dt_MX9_nextHop 2 rfl) rfl ?_
  refine K_bipush (kdA dt_MX9_nextHop 3 rfl) (by decide +kernel) ?_
  refine K_icmp_ge (tgt := 60) (kdA dt_MX9_nextHop 4 rfl) rfl (fun c => ?_) (fun c => ?_)
  · have h := h.1 c
    refine K_iconst (kdA dt_MX9_nextHop 33 rfl) (by decide) ?_
    exact K_ireturn (kdA dt_MX9_nextHop 34 rfl) rfl ⟨rfl, _, rfl, h⟩
  · have h := h.2 c
    refine K_aload_n 0 (kdA dt_MX9_nextHop 5 rfl) rfl rfl ?_
    obtain ⟨c1, h⟩ := h
    refine gf9_9 rfl (kdA dt_MX9_nextHop 6 rfl) c1 ?_
    refine K_iload 4 (kdA dt_MX9_nextHop 7 rfl) rfl ?_
    obtain ⟨c2, h⟩ := h
    obtain ⟨c3, h⟩ := h
    refine K_iaload (kdA dt_MX9_nextHop 8 rfl) c2 c3.1 c3.2 ?_
    refine K_iconst (kdA dt_MX9_nextHop 9 rfl) (by decide) ?_
    refine K_icmp_eq (tgt := 54) (kdA dt_MX9_nextHop 10 rfl) rfl (fun c => ?_) (fun c => ?_)
    · have h := h.1 c
      obtain ⟨c4, h⟩ := h
      refine K_iinc (ls' := [(0, (2, a0)), (1, (2, a1)), (2, (0, a2)), (3, (0, a3)), (4, (0, (a4 + 1)))]) 4 (kdA dt_MX9_nextHop 31 rfl) rfl c4 (by decide) rfl ?_
      refine K_goto (tgt := 3) (kdA dt_MX9_nextHop 32 rfl) rfl ?_
      exact h
    · have h := h.2 c
      refine K_aload_n 0 (kdA dt_MX9_nextHop 11 rfl) rfl rfl ?_
      refine gf9_9 rfl (kdA dt_MX9_nextHop 12 rfl) c1 ?_
      refine K_iload 4 (kdA dt_MX9_nextHop 13 rfl) rfl ?_
      refine K_iaload (kdA dt_MX9_nextHop 14 rfl) c2 c3.1 c3.2 ?_
      refine K_aload_n 0 (kdA dt_MX9_nextHop 15 rfl) rfl rfl ?_
      refine gf9_9 rfl (kdA dt_MX9_nextHop 16 rfl) c1 ?_
      refine K_iload_n 2 (kdA dt_MX9_nextHop 17 rfl) rfl rfl ?_
      obtain ⟨c4, h⟩ := h
      refine K_iaload (kdA dt_MX9_nextHop 18 rfl) c2 c4.1 c4.2 ?_
      refine K_iconst (kdA dt_MX9_nextHop 19 rfl) (by decide) ?_
      obtain ⟨c5, h⟩ := h
      refine K_isub (kdA dt_MX9_nextHop 20 rfl) c5 ?_
      refine K_icmp_ne (tgt := 54) (kdA dt_MX9_nextHop 21 rfl) rfl (fun c => ?_) (fun c => ?_)
      · have h := h.1 c
        obtain ⟨c6, h⟩ := h
        refine K_iinc (ls' := [(0, (2, a0)), (1, (2, a1)), (2, (0, a2)), (3, (0, a3)), (4, (0, (a4 + 1)))]) 4 (kdA dt_MX9_nextHop 31 rfl) rfl c6 (by decide) rfl ?_
        refine K_goto (tgt := 3) (kdA dt_MX9_nextHop 32 rfl) rfl ?_
        exact h
      · have h := h.2 c
        refine K_aload_n 0 (kdA dt_MX9_nextHop 22 rfl) rfl rfl ?_
        refine K_aload_n 1 (kdA dt_MX9_nextHop 23 rfl) rfl rfl ?_
        refine K_iload_n 2 (kdA dt_MX9_nextHop 24 rfl) rfl rfl ?_
        refine K_iload 4 (kdA dt_MX9_nextHop 25 rfl) rfl ?_
        refine K_iload_n 3 (kdA dt_MX9_nextHop 26 rfl) rfl rfl ?_
        refine K_cVi (c := 9) (as := [(2, a1), (0, a2), (0, a4), (0, a3)]) (st := []) (kdA dt_MX9_nextHop 27 rfl) rfl cl_MX9_isHop lk9_61 rfl rfl (Nat.le_of_ble_eq_true rfl) c1 (Ci.mono h (fun x6 s1 h => ?_))
        refine K_if_eq (tgt := 54) (kdA dt_MX9_nextHop 28 rfl) rfl (fun c => ?_) (fun c => ?_)
        · have h := h.1 c
          obtain ⟨c7, h⟩ := h
          refine K_iinc (ls' := [(0, (2, a0)), (1, (2, a1)), (2, (0, a2)), (3, (0, a3)), (4, (0, (a4 + 1)))]) 4 (kdA dt_MX9_nextHop 31 rfl) rfl c7 (by decide) rfl ?_
          refine K_goto (tgt := 3) (kdA dt_MX9_nextHop 32 rfl) rfl ?_
          exact h
        · have h := h.2 c
          refine K_iload 4 (kdA dt_MX9_nextHop 29 rfl) rfl ?_
          exact K_ireturn (kdA dt_MX9_nextHop 30 rfl) rfl ⟨rfl, _, rfl, h⟩
theorem EX9_nextHop {d n : Nat} {Q : Int → kS → Prop} {a0 a1 a2 a3 : Int} {σ : kS} (h : (-2147483648 ≤ a2 ∧ a2 ≤ 2147483647) → (-2147483648 ≤ a3 ∧ a3 ≤ 2147483647) → kokw n σ → LX9_nextHop_0 d n Q a0 a1 a2 a3 σ) : Ci (d + 1) MX9_nextHop [(2, a0), (2, a1), (0, a2), (0, a3)] n σ Q := Tri_of (by decide +kernel) (Nat.le_of_ble_eq_true rfl) (fun hk hw => h (hk (0, a2) (List.mem_of_getElem? (i := 2) rfl)) (hk (0, a3) (List.mem_of_getElem? (i := 3) rfl)) hw)

def LX9_trace_0 (d n : Nat) (Q : kS → Prop) (a0 : Int) (σ : kS) : Prop := K (d + 1) MX9_trace (kPv n Q) (0, 0) 0 [(0, (2, a0))] [] n σ
def LX9_trace_27 (d n : Nat) (Q : kS → Prop) (a0 : Int) (a1 : Int) (σ : kS) : Prop := K (d + 1) MX9_trace (kPv n Q) (0, 0) 27 [(0, (2, a0)), (1, (0, a1))] [] n σ
def LX9_trace_62 (d n : Nat) (Q : kS → Prop) (a0 : Int) (a1 : Int) (a2 : Int) (a3 : Int) (σ : kS) : Prop := K (d + 1) MX9_trace (kPv n Q) (0, 0) 62 [(0, (2, a0)), (1, (0, a1)), (2, (0, a2)), (3, (0, a3))] [] n σ
theorem SX9_trace_0 {d n : Nat} {Q : kS → Prop} {a0 : Int} {σ : kS} (h : isO 9 n a0 ∧ (isO 8 n (σ a0 3) ∧ (Ci d MX8_cut [(2, (σ a0 3)), (0, 0)] n σ (fun x3 s1 => isO 8 n (s1 a0 2) ∧ (Ci d MX8_at [(2, (s1 a0 2)), (0, 0)] n s1 (fun x5 s2 => isO 8 n (s1 a0 3) ∧ (Ci d MX8_add [(2, (s1 a0 3)), (0, x5)] n s2 (fun x7 s3 => LX9_trace_27 d n Q a0 1 s3)))))))) : LX9_trace_0 d n Q a0 σ := by
  unfold LX9_trace_0
  refine K_aload_n 0 (kdA dt_MX9_trace 0 rfl) rfl rfl ?_
  obtain ⟨c1, h⟩ := h
  refine gf9_27 rfl (kdA dt_MX9_trace 1 rfl) c1 ?_
  refine K_iconst (kdA dt_MX9_trace 2 rfl) (by decide) ?_
  obtain ⟨c2, h⟩ := h
  refine K_cVi (c := 8) (as := [(0, 0)]) (st := []) (kdA dt_MX9_trace 3 rfl) rfl cl_MX8_cut lk9_48 rfl rfl (Nat.le_of_ble_eq_true rfl) c2 (Ci.mono h (fun x3 s1 h => ?_))
  refine K_pop (kdA dt_MX9_trace 4 rfl) rfl ?_
  refine K_aload_n 0 (kdA dt_MX9_trace 5 rfl) rfl rfl ?_
  refine gf9_27 rfl (kdA dt_MX9_trace 6 rfl) c1 ?_
  refine K_aload_n 0 (kdA dt_MX9_trace 7 rfl) rfl rfl ?_
  refine gf9_23 rfl (kdA dt_MX9_trace 8 rfl) c1 ?_
  refine K_iconst (kdA dt_MX9_trace 9 rfl) (by decide) ?_
  obtain ⟨c4, h⟩ := h
  refine K_cVi (c := 8) (as := [(0, 0)]) (st := [(2, (s1 a0 3))]) (kdA dt_MX9_trace 10 rfl) rfl cl_MX8_at lk9_73 rfl rfl (Nat.le_of_ble_eq_true rfl) c4 (Ci.mono h (fun x5 s2 h => ?_))
  obtain ⟨c6, h⟩ := h
  refine K_cVi (c := 8) (as := [(0, x5)]) (st := []) (kdA dt_MX9_trace 11 rfl) rfl cl_MX8_add lk9_52 rfl rfl (Nat.le_of_ble_eq_true rfl) c6 (Ci.mono h (fun x7 s3 h => ?_))
  refine K_pop (kdA dt_MX9_trace 12 rfl) rfl ?_
  refine K_iconst (kdA dt_MX9_trace 13 rfl) (by decide) ?_
  refine K_istore_n (ls' := [(0, (2, a0)), (1, (0, 1))]) (kdA dt_MX9_trace 14 rfl) rfl (by decide) rfl ?_
  exact h
theorem SX9_trace_27 {d n : Nat} {Q : kS → Prop} {a0 a1 : Int} {σ : kS} (h : isO 9 n a0 ∧ (isO 8 n (σ a0 2) ∧ (((σ (σ a0 2) 1) ≤ a1 → Q σ) ∧ (¬ (σ (σ a0 2) 1) ≤ a1 → (-2147483648 ≤ (a1 - 1) ∧ (a1 - 1) ≤ 2147483647) ∧ (Ci d MX8_at [(2, (σ a0 2)), (0, (a1 - 1))] n σ (fun x4 s1 => isO 8 n (s1 a0 2) ∧ (Ci d MX8_at [(2, (s1 a0 2)), (0, a1)] n s1 (fun x6 s2 => Ci d MX11_apart [(0, x4), (0, x6)] n s2 (fun x7 s3 => LX9_trace_62 d n Q a0 a1 x7 1 s3))))))))) : LX9_trace_27 d n Q a0 a1 σ := by
  unfold LX9_trace_27
  refine K_iload_n 1 (kdA dt_MX9_trace 15 rfl) rfl rfl ?_
  refine K_aload_n 0 (kdA dt_MX9_trace 16 rfl) rfl rfl ?_
  obtain ⟨c1, h⟩ := h
  refine gf9_23 rfl (kdA dt_MX9_trace 17 rfl) c1 ?_
  obtain ⟨c2, h⟩ := h
  refine gf9_77 rfl (kdA dt_MX9_trace 18 rfl) c2 ?_
  refine K_icmp_ge (tgt := 110) (kdA dt_MX9_trace 19 rfl) rfl (fun c => ?_) (fun c => ?_)
  · have h := h.1 c
    exact K_return (kdA dt_MX9_trace 58 rfl) rfl ⟨rfl, rfl, h⟩
  · have h := h.2 c
    refine K_aload_n 0 (kdA dt_MX9_trace 20 rfl) rfl rfl ?_
    refine gf9_23 rfl (kdA dt_MX9_trace 21 rfl) c1 ?_
    refine K_iload_n 1 (kdA dt_MX9_trace 22 rfl) rfl rfl ?_
    refine K_iconst (kdA dt_MX9_trace 23 rfl) (by decide) ?_
    obtain ⟨c3, h⟩ := h
    refine K_isub (kdA dt_MX9_trace 24 rfl) c3 ?_
    refine K_cVi (c := 8) (as := [(0, (a1 - 1))]) (st := []) (kdA dt_MX9_trace 25 rfl) rfl cl_MX8_at lk9_73 rfl rfl (Nat.le_of_ble_eq_true rfl) c2 (Ci.mono h (fun x4 s1 h => ?_))
    refine K_aload_n 0 (kdA dt_MX9_trace 26 rfl) rfl rfl ?_
    refine gf9_23 rfl (kdA dt_MX9_trace 27 rfl) c1 ?_
    refine K_iload_n 1 (kdA dt_MX9_trace 28 rfl) rfl rfl ?_
    obtain ⟨c5, h⟩ := h
    refine K_cVi (c := 8) (as := [(0, a1)]) (st := [(0, x4)]) (kdA dt_MX9_trace 29 rfl) rfl cl_MX8_at lk9_73 rfl rfl (Nat.le_of_ble_eq_true rfl) c5 (Ci.mono h (fun x6 s2 h => ?_))
    refine K_cSi (as := [(0, x4), (0, x6)]) (st := []) (kdA dt_MX9_trace 30 rfl) cl_MX11_apart lk9_30 rfl rfl (Nat.le_of_ble_eq_true rfl) (Ci.mono h (fun x7 s3 h => ?_))
    refine K_istore_n (ls' := [(0, (2, a0)), (1, (0, a1)), (2, (0, x7))]) (kdA dt_MX9_trace 31 rfl) rfl (by decide) rfl ?_
    refine K_iconst (kdA dt_MX9_trace 32 rfl) (by decide) ?_
    refine K_istore_n (ls' := [(0, (2, a0)), (1, (0, a1)), (2, (0, x7)), (3, (0, 1))]) (kdA dt_MX9_trace 33 rfl) rfl (by decide) rfl ?_
    exact h
theorem SX9_trace_62 {d n : Nat} {Q : kS → Prop} {a0 a1 a2 a3 : Int} {σ : kS} (h : (a2 < a3 → (-2147483648 ≤ (a1 + 1) ∧ (a1 + 1) ≤ 2147483647) ∧ (LX9_trace_27 d n Q a0 (a1 + 1) σ)) ∧ (¬ a2 < a3 → isO 9 n a0 ∧ ((-2147483648 ≤ (a1 - 1) ∧ (a1 - 1) ≤ 2147483647) ∧ (isO 8 n (σ a0 2) ∧ (Ci d MX8_at [(2, (σ a0 2)), (0, (a1 - 1))] n σ (fun x4 s1 => isO 8 n (s1 a0 2) ∧ (Ci d MX8_at [(2, (s1 a0 2)), (0, a1)] n s1 (fun x6 s2 => Ci d MX9_cellBetween [(0, x4), (0, x6), (0, a3), (0, a2)] n s2 (fun x7 s3 => isO 8 n (σ a0 3) ∧ (Ci d MX8_add [(2, (σ a0 3)), (0, x7)] n s3 (fun x9 s4 => (-2147483648 ≤ (a3 + 1) ∧ (a3 + 1) ≤ 2147483647) ∧ (LX9_trace_62 d n Q a0 a1 a2 (a3 + 1) s4)))))))))))) : LX9_trace_62 d n Q a0 a1 a2 a3 σ := by
  unfold LX9_trace_62
  refine K_iload_n 3 (kdA dt_MX9_trace 34 rfl) rfl rfl ?_
  refine K_iload_n 2 (kdA dt_MX9_trace 35 rfl) rfl rfl ?_
  refine K_icmp_gt (tgt := 104) (kdA dt_MX9_trace 36 rfl) rfl (fun c => ?_) (fun c => ?_)
  · have h := h.1 c
    obtain ⟨c1, h⟩ := h
    refine K_iinc (ls' := [(0, (2, a0)), (1, (0, (a1 + 1))), (2, (0, a2)), (3, (0, a3))]) 1 (kdA dt_MX9_trace 56 rfl) rfl c1 (by decide) rfl ?_
    refine K_goto (tgt := 27) (kdA dt_MX9_trace 57 rfl) rfl ?_
    refine K_pick [0, 1] (ls' := [(0, (2, a0)), (1, (0, (a1 + 1)))]) rfl ?_
    exact h
  · have h := h.2 c
    refine K_aload_n 0 (kdA dt_MX9_trace 37 rfl) rfl rfl ?_
    obtain ⟨c1, h⟩ := h
    refine gf9_27 rfl (kdA dt_MX9_trace 38 rfl) c1 ?_
    refine K_aload_n 0 (kdA dt_MX9_trace 39 rfl) rfl rfl ?_
    refine gf9_23 rfl (kdA dt_MX9_trace 40 rfl) c1 ?_
    refine K_iload_n 1 (kdA dt_MX9_trace 41 rfl) rfl rfl ?_
    refine K_iconst (kdA dt_MX9_trace 42 rfl) (by decide) ?_
    obtain ⟨c2, h⟩ := h
    refine K_isub (kdA dt_MX9_trace 43 rfl) c2 ?_
    obtain ⟨c3, h⟩ := h
    refine K_cVi (c := 8) (as := [(0, (a1 - 1))]) (st := [(2, (σ a0 3))]) (kdA dt_MX9_trace 44 rfl) rfl cl_MX8_at lk9_73 rfl rfl (Nat.le_of_ble_eq_true rfl) c3 (Ci.mono h (fun x4 s1 h => ?_))
    refine K_aload_n 0 (kdA dt_MX9_trace 45 rfl) rfl rfl ?_
    refine gf9_23 rfl (kdA dt_MX9_trace 46 rfl) c1 ?_
    refine K_iload_n 1 (kdA dt_MX9_trace 47 rfl) rfl rfl ?_
    obtain ⟨c5, h⟩ := h
    refine K_cVi (c := 8) (as := [(0, a1)]) (st := [(0, x4), (2, (σ a0 3))]) (kdA dt_MX9_trace 48 rfl) rfl cl_MX8_at lk9_73 rfl rfl (Nat.le_of_ble_eq_true rfl) c5 (Ci.mono h (fun x6 s2 h => ?_))
    refine K_iload_n 3 (kdA dt_MX9_trace 49 rfl) rfl rfl ?_
    refine K_iload_n 2 (kdA dt_MX9_trace 50 rfl) rfl rfl ?_
    refine K_cSi (as := [(0, x4), (0, x6), (0, a3), (0, a2)]) (st := [(2, (σ a0 3))]) (kdA dt_MX9_trace 51 rfl) cl_MX9_cellBetween lk9_39 rfl rfl (Nat.le_of_ble_eq_true rfl) (Ci.mono h (fun x7 s3 h => ?_))
    obtain ⟨c8, h⟩ := h
    refine K_cVi (c := 8) (as := [(0, x7)]) (st := []) (kdA dt_MX9_trace 52 rfl) rfl cl_MX8_add lk9_52 rfl rfl (Nat.le_of_ble_eq_true rfl) c8 (Ci.mono h (fun x9 s4 h => ?_))
    refine K_pop (kdA dt_MX9_trace 53 rfl) rfl ?_
    obtain ⟨c10, h⟩ := h
    refine K_iinc (ls' := [(0, (2, a0)), (1, (0, a1)), (2, (0, a2)), (3, (0, (a3 + 1)))]) 3 (kdA dt_MX9_trace 54 rfl) rfl c10 (by decide) rfl ?_
    refine K_goto (tgt := 62) (kdA dt_MX9_trace 55 rfl) rfl ?_
    exact h
theorem EX9_trace {d n : Nat} {Q : kS → Prop} {a0 : Int} {σ : kS} (h : kokw n σ → LX9_trace_0 d n Q a0 σ) : Cv (d + 1) MX9_trace [(2, a0)] n σ Q := Tri_of (by decide +kernel) (Nat.le_of_ble_eq_true rfl) (fun hk hw => h hw)
