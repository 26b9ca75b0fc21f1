/-! segments, by program -/
def LX10_ease_0 (d n : Nat) (Q : kS → Prop) (a0 : Int) (a1 : Int) (a2 : Int) (σ : kS) : Prop := K (d + 1) MX10_ease (kPv n Q) (0, 0) 0 [(0, (2, a0)), (1, (0, a1)), (2, (0, a2))] [] n σ
def LX10_ease_2 (d n : Nat) (Q : kS → Prop) (a0 : Int) (a1 : Int) (a2 : Int) (a3 : Int) (σ : kS) : Prop := K (d + 1) MX10_ease (kPv n Q) (0, 0) 2 [(0, (2, a0)), (1, (0, a1)), (2, (0, a2)), (3, (0, a3))] [] n σ
theorem SX10_ease_0 {d n : Nat} {Q : kS → Prop} {a0 a1 a2 : Int} {σ : kS} (h : LX10_ease_2 d n Q a0 a1 a2 0 σ) : LX10_ease_0 d n Q a0 a1 a2 σ := by
  unfold LX10_ease_0
  refine K_iconst (kdA dt_MX10_ease 0 rfl) (by decide) ?_
  refine K_istore_n (ls' := [(0, (2, a0)), (1, (0, a1)), (2, (0, a2)), (3, (0, 0))]) (kdA dt_MX10_ease 1 rfl) rfl (by decide) rfl ?_
  exact h
theorem SX10_ease_2 {d n : Nat} {Q : kS → Prop} {a0 a1 a2 a3 : Int} {σ : kS} (h : (8 ≤ a3 → Q σ) ∧ (¬ 8 ≤ a3 → Ci d MX11_stepFrom [(0, a1), (0, (kxor a3 4))] n σ (fun x1 s1 => (x1 = (-1) → (-2147483648 ≤ (a3 + 1) ∧ (a3 + 1) ≤ 2147483647) ∧ (LX10_ease_2 d n Q a0 a1 a2 (a3 + 1) s1)) ∧ (¬ x1 = (-1) → (-2147483648 ≤ (x1 * 8) ∧ (x1 * 8) ≤ 2147483647) ∧ ((-2147483648 ≤ ((x1 * 8) + a3) ∧ ((x1 * 8) + a3) ≤ 2147483647) ∧ (isO 10 n a0 ∧ (isA 20 n (s1 a0 1) ∧ (((0 : Int) ≤ ((x1 * 8) + a3) ∧ ((x1 * 8) + a3) < klen (s1 a0 1)) ∧ ((-2147483648 ≤ ((s1 (s1 a0 1) ((x1 * 8) + a3)) - a2) ∧ ((s1 (s1 a0 1) ((x1 * 8) + a3)) - a2) ≤ 2147483647) ∧ (Ci d MJm_max [(0, 1), (0, ((s1 (s1 a0 1) ((x1 * 8) + a3)) - a2))] n s1 (fun x8 s2 => ∀ s3, s3 = kst s2 (s1 a0 1) ((x1 * 8) + a3) x8 → (-2147483648 ≤ (a3 + 1) ∧ (a3 + 1) ≤ 2147483647) ∧ (LX10_ease_2 d n Q a0 a1 a2 (a3 + 1) s3)))))))))))) : LX10_ease_2 d n Q a0 a1 a2 a3 σ := by
  unfold LX10_ease_2
  refine K_iload_n 3 (kdA dt_MX10_ease 2 rfl) rfl rfl ?_
  refine K_bipush (kdA dt_MX10_ease 3 rfl) (by decide +kernel) ?_
  refine K_icmp_ge (tgt := 58) (kdA dt_MX10_ease 4 rfl) rfl (fun c => ?_) (fun c => ?_)
  · have h := h.1 c
    exact K_return (kdA dt_MX10_ease 34 rfl) rfl ⟨rfl, rfl, h⟩
  · have h := h.2 c
    refine K_iload_n 1 (kdA dt_MX10_ease 5 rfl) rfl rfl ?_
    refine K_iload_n 3 (kdA dt_MX10_ease 6 rfl) rfl rfl ?_
    refine K_iconst (kdA dt_MX10_ease 7 rfl) (by decide) ?_
    refine K_ixor (kdA dt_MX10_ease 8 rfl) ?_
    refine K_cSi (as := [(0, a1), (0, (kxor a3 4))]) (st := []) (kdA dt_MX10_ease 9 rfl) cl_MX11_stepFrom lk10_51 rfl rfl (Nat.le_of_ble_eq_true rfl) (Ci.mono h (fun x1 s1 h => ?_))
    refine K_istore (ls' := [(0, (2, a0)), (1, (0, a1)), (2, (0, a2)), (3, (0, a3)), (4, (0, x1))]) (kdA dt_MX10_ease 10 rfl) (by decide) rfl ?_
    refine K_iload 4 (kdA dt_MX10_ease 11 rfl) rfl ?_
    refine K_iconst (kdA dt_MX10_ease 12 rfl) (by decide) ?_
    refine K_icmp_eq (tgt := 52) (kdA dt_MX10_ease 13 rfl) rfl (fun c => ?_) (fun c => ?_)
    · have h := h.1 c
      obtain ⟨c2, h⟩ := h
      refine K_iinc (ls' := [(0, (2, a0)), (1, (0, a1)), (2, (0, a2)), (3, (0, (a3 + 1))), (4, (0, x1))]) 3 (kdA dt_MX10_ease 32 rfl) rfl c2 (by decide) rfl ?_
      refine K_goto (tgt := 2) (kdA dt_MX10_ease 33 rfl) rfl ?_
      refine K_pick [0, 1, 2, 3] (ls' := [(0, (2, a0)), (1, (0, a1)), (2, (0, a2)), (3, (0, (a3 + 1)))]) rfl ?_
      exact h
    · have h := h.2 c
      refine K_iload 4 (kdA dt_MX10_ease 14 rfl) rfl ?_
      refine K_bipush (kdA dt_MX10_ease 15 rfl) (by decide +kernel) ?_
      obtain ⟨c2, h⟩ := h
      refine K_imul (kdA dt_MX10_ease 16 rfl) c2 ?_
      refine K_iload_n 3 (kdA dt_MX10_ease 17 rfl) rfl rfl ?_
      obtain ⟨c3, h⟩ := h
      refine K_iadd (kdA dt_MX10_ease 18 rfl) c3 ?_
      refine K_istore (ls' := [(0, (2, a0)), (1, (0, a1)), (2, (0, a2)), (3, (0, a3)), (4, (0, x1)), (5, (0, ((x1 * 8) + a3)))]) (kdA dt_MX10_ease 19 rfl) (by decide) rfl ?_
      refine K_aload_n 0 (kdA dt_MX10_ease 20 rfl) rfl rfl ?_
      obtain ⟨c4, h⟩ := h
      refine gf10_15 rfl (kdA dt_MX10_ease 21 rfl) c4 ?_
      refine K_iload 5 (kdA dt_MX10_ease 22 rfl) rfl ?_
      refine K_iconst (kdA dt_MX10_ease 23 rfl) (by decide) ?_
      refine K_aload_n 0 (kdA dt_MX10_ease 24 rfl) rfl rfl ?_
      refine gf10_15 rfl (kdA dt_MX10_ease 25 rfl) c4 ?_
      refine K_iload 5 (kdA dt_MX10_ease 26 rfl) rfl ?_
      obtain ⟨c5, h⟩ := h
      obtain ⟨c6, h⟩ := h
      refine K_iaload (kdA dt_MX10_ease 27 rfl) c5 c6.1 c6.2 ?_
      refine K_iload_n 2 (kdA dt_MX10_ease 28 rfl) rfl rfl ?_
      obtain ⟨c7, h⟩ := h
      refine K_isub (kdA dt_MX10_ease 29 rfl) c7 ?_
      refine K_cSi (as := [(0, 1), (0, ((s1 (s1 a0 1) ((x1 * 8) + a3)) - a2))]) (st := [(0, ((x1 * 8) + a3)), (2, (s1 a0 1))]) (kdA dt_MX10_ease 30 rfl) cl_MJm_max lk10_82 rfl rfl (Nat.le_of_ble_eq_true rfl) (Ci.mono h (fun x8 s2 h => ?_))
      refine K_iastore' (kdA dt_MX10_ease 31 rfl) c5 c6.1 c6.2 (fun s3 es3 => ?_)
      have h := h s3 es3
      obtain ⟨c9, h⟩ := h
      refine K_iinc (ls' := [(0, (2, a0)), (1, (0, a1)), (2, (0, a2)), (3, (0, (a3 + 1))), (4, (0, x1)), (5, (0, ((x1 * 8) + a3)))]) 3 (kdA dt_MX10_ease 32 rfl) rfl c9 (by decide) rfl ?_
      refine K_goto (tgt := 2) (kdA dt_MX10_ease 33 rfl) rfl ?_
      refine K_pick [0, 1, 2, 3] (ls' := [(0, (2, a0)), (1, (0, a1)), (2, (0, a2)), (3, (0, (a3 + 1)))]) rfl ?_
      exact h
theorem EX10_ease {d n : Nat} {Q : kS → Prop} {a0 a1 a2 : Int} {σ : kS} (h : (-2147483648 ≤ a1 ∧ a1 ≤ 2147483647) → (-2147483648 ≤ a2 ∧ a2 ≤ 2147483647) → kokw n σ → LX10_ease_0 d n Q a0 a1 a2 σ) : Cv (d + 1) MX10_ease [(2, a0), (0, a1), (0, a2)] n σ Q := Tri_of (by decide +kernel) (Nat.le_of_ble_eq_true rfl) (fun hk hw => h (hk (0, a1) (List.mem_of_getElem? (i := 1) rfl)) (hk (0, a2) (List.mem_of_getElem? (i := 2) rfl)) hw)

def LX10_fit_0 (d n : Nat) (Q : kS → Prop) (a0 : Int) (a1 : Int) (a2 : Int) (a3 : Int) (a4 : Int) (σ : kS) : Prop := K (d + 1) MX10_fit (kPv n Q) (0, 0) 0 [(0, (2, a0)), (1, (2, a1)), (2, (0, a2)), (3, (0, a3)), (4, (2, a4))] [] n σ
def LX10_fit_50 (d n : Nat) (Q : kS → Prop) (a0 : Int) (a4 : Int) (a5 : Int) (σ : kS) : Prop := K (d + 1) MX10_fit (kPv n Q) (0, 0) 50 [(0, (2, a0)), (4, (2, a4)), (5, (0, a5))] [] n σ
def LX10_fit_118 (d n : Nat) (Q : kS → Prop) (a0 : Int) (a5 : Int) (σ : kS) : Prop := K (d + 1) MX10_fit (kPv n Q) (0, 0) 118 [(0, (2, a0)), (5, (0, a5))] [] n σ
theorem SX10_fit_0 {d n : Nat} {Q : kS → Prop} {a0 a1 a2 a3 a4 : Int} {σ : kS} (h : isO 10 n a0 ∧ ((-1 ≤ (σ a0 10) ∧ -1 ≤ a1) ∧ ((¬ (σ a0 10) = a1 → ∀ s1, s1 = kst σ a0 10 a1 → ∀ s2, s2 = kst s1 a0 11 a2 → ((0 : Int) ≤ a3 ∧ a3 ≤ 1) ∧ (∀ s3, s3 = kst s2 a0 12 a3 → Cv d MJm_fill [(2, (s3 a0 9)), (0, 0)] n s3 (fun s4 => LX10_fit_50 d n Q a0 a4 0 s4))) ∧ (¬ (¬ (σ a0 10) = a1) → (¬ (σ a0 11) = a2 → ∀ s1, s1 = kst σ a0 10 a1 → ∀ s2, s2 = kst s1 a0 11 a2 → ((0 : Int) ≤ a3 ∧ a3 ≤ 1) ∧ (∀ s3, s3 = kst s2 a0 12 a3 → Cv d MJm_fill [(2, (s3 a0 9)), (0, 0)] n s3 (fun s4 => LX10_fit_50 d n Q a0 a4 0 s4))) ∧ (¬ (¬ (σ a0 11) = a2) → ((σ a0 12) = a3 → LX10_fit_50 d n Q a0 a4 0 σ) ∧ (¬ (σ a0 12) = a3 → ∀ s1, s1 = kst σ a0 10 a1 → ∀ s2, s2 = kst s1 a0 11 a2 → ((0 : Int) ≤ a3 ∧ a3 ≤ 1) ∧ (∀ s3, s3 = kst s2 a0 12 a3 → Cv d MJm_fill [(2, (s3 a0 9)), (0, 0)] n s3 (fun s4 => LX10_fit_50 d n Q a0 a4 0 s4)))))))) : LX10_fit_0 d n Q a0 a1 a2 a3 a4 σ := by
  unfold LX10_fit_0
  refine K_aload_n 0 (kdA dt_MX10_fit 0 rfl) rfl rfl ?_
  obtain ⟨c1, h⟩ := h
  refine gf10_55 rfl (kdA dt_MX10_fit 1 rfl) c1 ?_
  refine K_aload_n 1 (kdA dt_MX10_fit 2 rfl) rfl rfl ?_
  obtain ⟨c2, h⟩ := h
  refine K_acmp_ne (tgt := 24) (kdA dt_MX10_fit 3 rfl) rfl c2.1 c2.2 (fun c => ?_) (fun c => ?_)
  · have h := h.1 c
    refine K_aload_n 0 (kdA dt_MX10_fit 12 rfl) rfl rfl ?_
    refine K_aload_n 1 (kdA dt_MX10_fit 13 rfl) rfl rfl ?_
    refine pf10_55 rfl (kdA dt_MX10_fit 14 rfl) c1 (fun s1 es1 => ?_)
    have h := h s1 es1
    refine K_aload_n 0 (kdA dt_MX10_fit 15 rfl) rfl rfl ?_
    refine K_iload_n 2 (kdA dt_MX10_fit 16 rfl) rfl rfl ?_
    refine pf10_59 rfl (kdA dt_MX10_fit 17 rfl) c1 (fun s2 es2 => ?_)
    have h := h s2 es2
    refine K_aload_n 0 (kdA dt_MX10_fit 18 rfl) rfl rfl ?_
    refine K_iload_n 3 (kdA dt_MX10_fit 19 rfl) rfl rfl ?_
    obtain ⟨c3, h⟩ := h
    refine pf10_63 rfl (kdA dt_MX10_fit 20 rfl) c1 c3 (fun s3 es3 => ?_)
    have h := h s3 es3
    refine K_aload_n 0 (kdA dt_MX10_fit 21 rfl) rfl rfl ?_
    refine gf10_36 rfl (kdA dt_MX10_fit 22 rfl) c1 ?_
    refine K_iconst (kdA dt_MX10_fit 23 rfl) (by decide) ?_
    refine K_cSv (as := [(2, (s3 a0 9)), (0, 0)]) (st := []) (kdA dt_MX10_fit 24 rfl) cl_MJm_fill lk10_67 rfl rfl (Nat.le_of_ble_eq_true rfl) (Cv.mono h (fun s4 h => ?_))
    refine K_iconst (kdA dt_MX10_fit 25 rfl) (by decide) ?_
    refine K_istore (ls' := [(0, (2, a0)), (1, (2, a1)), (2, (0, a2)), (3, (0, a3)), (4, (2, a4)), (5, (0, 0))]) (kdA dt_MX10_fit 26 rfl) (by decide) rfl ?_
    refine K_pick [0, 4, 5] (ls' := [(0, (2, a0)), (4, (2, a4)), (5, (0, 0))]) rfl ?_
    exact h
  · have h := h.2 c
    refine K_aload_n 0 (kdA dt_MX10_fit 4 rfl) rfl rfl ?_
    refine gf10_59 rfl (kdA dt_MX10_fit 5 rfl) c1 ?_
    refine K_iload_n 2 (kdA dt_MX10_fit 6 rfl) rfl rfl ?_
    refine K_icmp_ne (tgt := 24) (kdA dt_MX10_fit 7 rfl) rfl (fun c => ?_) (fun c => ?_)
    · have h := h.1 c
      refine K_aload_n 0 (kdA dt_MX10_fit 12 rfl) rfl rfl ?_
      refine K_aload_n 1 (kdA dt_MX10_fit 13 rfl) rfl rfl ?_
      refine pf10_55 rfl (kdA dt_MX10_fit 14 rfl) c1 (fun s1 es1 => ?_)
      have h := h s1 es1
      refine K_aload_n 0 (kdA dt_MX10_fit 15 rfl) rfl rfl ?_
      refine K_iload_n 2 (kdA dt_MX10_fit 16 rfl) rfl rfl ?_
      refine pf10_59 rfl (kdA dt_MX10_fit 17 rfl) c1 (fun s2 es2 => ?_)
      have h := h s2 es2
      refine K_aload_n 0 (kdA dt_MX10_fit 18 rfl) rfl rfl ?_
      refine K_iload_n 3 (kdA dt_MX10_fit 19 rfl) rfl rfl ?_
      obtain ⟨c3, h⟩ := h
      refine pf10_63 rfl (kdA dt_MX10_fit 20 rfl) c1 c3 (fun s3 es3 => ?_)
      have h := h s3 es3
      refine K_aload_n 0 (kdA dt_MX10_fit 21 rfl) rfl rfl ?_
      refine gf10_36 rfl (kdA dt_MX10_fit 22 rfl) c1 ?_
      refine K_iconst (kdA dt_MX10_fit 23 rfl) (by decide) ?_
      refine K_cSv (as := [(2, (s3 a0 9)), (0, 0)]) (st := []) (kdA dt_MX10_fit 24 rfl) cl_MJm_fill lk10_67 rfl rfl (Nat.le_of_ble_eq_true rfl) (Cv.mono h (fun s4 h => ?_))
      refine K_iconst (kdA dt_MX10_fit 25 rfl) (by decide) ?_
      refine K_istore (ls' := [(0, (2, a0)), (1, (2, a1)), (2, (0, a2)), (3, (0, a3)), (4, (2, a4)), (5, (0, 0))]) (kdA dt_MX10_fit 26 rfl) (by decide) rfl ?_
      refine K_pick [0, 4, 5] (ls' := [(0, (2, a0)), (4, (2, a4)), (5, (0, 0))]) rfl ?_
      exact h
    · have h := h.2 c
      refine K_aload_n 0 (kdA dt_MX10_fit 8 rfl) rfl rfl ?_
      refine gf10_63 rfl (kdA dt_MX10_fit 9 rfl) c1 ?_
      refine K_iload_n 3 (kdA dt_MX10_fit 10 rfl) rfl rfl ?_
      refine K_icmp_eq (tgt := 47) (kdA dt_MX10_fit 11 rfl) rfl (fun c => ?_) (fun c => ?_)
      · have h := h.1 c
        refine K_iconst (kdA dt_MX10_fit 25 rfl) (by decide) ?_
        refine K_istore (ls' := [(0, (2, a0)), (1, (2, a1)), (2, (0, a2)), (3, (0, a3)), (4, (2, a4)), (5, (0, 0))]) (kdA dt_MX10_fit 26 rfl) (by decide) rfl ?_
        refine K_pick [0, 4, 5] (ls' := [(0, (2, a0)), (4, (2, a4)), (5, (0, 0))]) rfl ?_
        exact h
      · have h := h.2 c
        refine K_aload_n 0 (kdA dt_MX10_fit 12 rfl) rfl rfl ?_
        refine K_aload_n 1 (kdA dt_MX10_fit 13 rfl) rfl rfl ?_
        refine pf10_55 rfl (kdA dt_MX10_fit 14 rfl) c1 (fun s1 es1 => ?_)
        have h := h s1 es1
        refine K_aload_n 0 (kdA dt_MX10_fit 15 rfl) rfl rfl ?_
        refine K_iload_n 2 (kdA dt_MX10_fit 16 rfl) rfl rfl ?_
        refine pf10_59 rfl (kdA dt_MX10_fit 17 rfl) c1 (fun s2 es2 => ?_)
        have h := h s2 es2
        refine K_aload_n 0 (kdA dt_MX10_fit 18 rfl) rfl rfl ?_
        refine K_iload_n 3 (kdA dt_MX10_fit 19 rfl) rfl rfl ?_
        obtain ⟨c3, h⟩ := h
        refine pf10_63 rfl (kdA dt_MX10_fit 20 rfl) c1 c3 (fun s3 es3 => ?_)
        have h := h s3 es3
        refine K_aload_n 0 (kdA dt_MX10_fit 21 rfl) rfl rfl ?_
        refine gf10_36 rfl (kdA dt_MX10_fit 22 rfl) c1 ?_
        refine K_iconst (kdA dt_MX10_fit 23 rfl) (by decide) ?_
        refine K_cSv (as := [(2, (s3 a0 9)), (0, 0)]) (st := []) (kdA dt_MX10_fit 24 rfl) cl_MJm_fill lk10_67 rfl rfl (Nat.le_of_ble_eq_true rfl) (Cv.mono h (fun s4 h => ?_))
        refine K_iconst (kdA dt_MX10_fit 25 rfl) (by decide) ?_
        refine K_istore (ls' := [(0, (2, a0)), (1, (2, a1)), (2, (0, a2)), (3, (0, a3)), (4, (2, a4)), (5, (0, 0))]) (kdA dt_MX10_fit 26 rfl) (by decide) rfl ?_
        refine K_pick [0, 4, 5] (ls' := [(0, (2, a0)), (4, (2, a4)), (5, (0, 0))]) rfl ?_
        exact h
theorem SX10_fit_50 {d n : Nat} {Q : kS → Prop} {a0 a4 a5 : Int} {σ : kS} (h : (120 ≤ a5 → LX10_fit_118 d n Q a0 0 σ) ∧ (¬ 120 ≤ a5 → isO 10 n a0 ∧ (isO 5 n a4 ∧ (Ci d MX5_told [(2, a4), (0, a5), (0, 0)] n σ (fun x3 s1 => isA 20 n (σ a0 6) ∧ (((0 : Int) ≤ a5 ∧ a5 < klen (σ a0 6)) ∧ (∀ s2, s2 = kst s1 (σ a0 6) a5 x3 → Ci d MX5_told [(2, a4), (0, a5), (0, 1)] n s2 (fun x6 s3 => Ci d MX5_told [(2, a4), (0, a5), (0, 2)] n s3 (fun x7 s4 => (-2147483648 ≤ (2 * x7) ∧ (2 * x7) ≤ 2147483647) ∧ ((-2147483648 ≤ (x6 + (2 * x7)) ∧ (x6 + (2 * x7)) ≤ 2147483647) ∧ (Ci d MX5_told [(2, a4), (0, a5), (0, 3)] n s4 (fun x10 s5 => (-2147483648 ≤ (4 * x10) ∧ (4 * x10) ≤ 2147483647) ∧ ((-2147483648 ≤ ((x6 + (2 * x7)) + (4 * x10)) ∧ ((x6 + (2 * x7)) + (4 * x10)) ≤ 2147483647) ∧ (isA 20 n (s2 a0 7) ∧ (((0 : Int) ≤ a5 ∧ a5 < klen (s2 a0 7)) ∧ (∀ s6, s6 = kst s5 (s2 a0 7) a5 ((x6 + (2 * x7)) + (4 * x10)) → (-2147483648 ≤ (a5 + 1) ∧ (a5 + 1) ≤ 2147483647) ∧ (LX10_fit_50 d n Q a0 a4 (a5 + 1) s6))))))))))))))))) : LX10_fit_50 d n Q a0 a4 a5 σ := by
  unfold LX10_fit_50
  refine K_iload 2 (kdA dt_MX10_fit 27 rfl) rfl ?_
  refine K_bipush (kdA dt_MX10_fit 28 rfl) (by decide +kernel) ?_
  refine K_icmp_ge (tgt := 115) (kdA dt_MX10_fit 29 rfl) rfl (fun c => ?_) (fun c => ?_)
  · have h := h.1 c
    refine K_iconst (kdA dt_MX10_fit 62 rfl) (by decide) ?_
    refine K_istore (ls' := [(0, (2, a0)), (4, (2, a4)), (5, (0, 0))]) (kdA dt_MX10_fit 63 rfl) (by decide) rfl ?_
    refine K_pick [0, 2] (ls' := [(0, (2, a0)), (5, (0, 0))]) rfl ?_
    exact h
  · have h := h.2 c
    refine K_aload_n 0 (kdA dt_MX10_fit 30 rfl) rfl rfl ?_
    obtain ⟨c1, h⟩ := h
    refine gf10_27 rfl (kdA dt_MX10_fit 31 rfl) c1 ?_
    refine K_iload 2 (kdA dt_MX10_fit 32 rfl) rfl ?_
    refine K_aload 1 (kdA dt_MX10_fit 33 rfl) rfl ?_
    refine K_iload 2 (kdA dt_MX10_fit 34 rfl) rfl ?_
    refine K_iconst (kdA dt_MX10_fit 35 rfl) (by decide) ?_
    obtain ⟨c2, h⟩ := h
    refine K_cVi (c := 5) (as := [(0, a5), (0, 0)]) (st := [(0, a5), (2, (σ a0 6))]) (kdA dt_MX10_fit 36 rfl) rfl cl_MX5_told lk10_73 rfl rfl (Nat.le_of_ble_eq_true rfl) c2 (Ci.mono h (fun x3 s1 h => ?_))
    obtain ⟨c4, h⟩ := h
    obtain ⟨c5, h⟩ := h
    refine K_iastore' (kdA dt_MX10_fit 37 rfl) c4 c5.1 c5.2 (fun s2 es2 => ?_)
    have h := h s2 es2
    refine K_aload_n 0 (kdA dt_MX10_fit 38 rfl) rfl rfl ?_
    refine gf10_30 rfl (kdA dt_MX10_fit 39 rfl) c1 ?_
    refine K_iload 2 (kdA dt_MX10_fit 40 rfl) rfl ?_
    refine K_aload 1 (kdA dt_MX10_fit 41 rfl) rfl ?_
    refine K_iload 2 (kdA dt_MX10_fit 42 rfl) rfl ?_
    refine K_iconst (kdA dt_MX10_fit 43 rfl) (by decide) ?_
    refine K_cVi (c := 5) (as := [(0, a5), (0, 1)]) (st := [(0, a5), (2, (s2 a0 7))]) (kdA dt_MX10_fit 44 rfl) rfl cl_MX5_told lk10_73 rfl rfl (Nat.le_of_ble_eq_true rfl) c2 (Ci.mono h (fun x6 s3 h => ?_))
    refine K_iconst (kdA dt_MX10_fit 45 rfl) (by decide) ?_
    refine K_aload 1 (kdA dt_MX10_fit 46 rfl) rfl ?_
    refine K_iload 2 (kdA dt_MX10_fit 47 rfl) rfl ?_
    refine K_iconst (kdA dt_MX10_fit 48 rfl) (by decide) ?_
    refine K_cVi (c := 5) (as := [(0, a5), (0, 2)]) (st := [(0, 2), (0, x6), (0, a5), (2, (s2 a0 7))]) (kdA dt_MX10_fit 49 rfl) rfl cl_MX5_told lk10_73 rfl rfl (Nat.le_of_ble_eq_true rfl) c2 (Ci.mono h (fun x7 s4 h => ?_))
    obtain ⟨c8, h⟩ := h
    refine K_imul (kdA dt_MX10_fit 50 rfl) c8 ?_
    obtain ⟨c9, h⟩ := h
    refine K_iadd (kdA dt_MX10_fit 51 rfl) c9 ?_
    refine K_iconst (kdA dt_MX10_fit 52 rfl) (by decide) ?_
    refine K_aload 1 (kdA dt_MX10_fit 53 rfl) rfl ?_
    refine K_iload 2 (kdA dt_MX10_fit 54 rfl) rfl ?_
    refine K_iconst (kdA dt_MX10_fit 55 rfl) (by decide) ?_
    refine K_cVi (c := 5) (as := [(0, a5), (0, 3)]) (st := [(0, 4), (0, (x6 + (2 * x7))), (0, a5), (2, (s2 a0 7))]) (kdA dt_MX10_fit 56 rfl) rfl cl_MX5_told lk10_73 rfl rfl (Nat.le_of_ble_eq_true rfl) c2 (Ci.mono h (fun x10 s5 h => ?_))
    obtain ⟨c11, h⟩ := h
    refine K_imul (kdA dt_MX10_fit 57 rfl) c11 ?_
    obtain ⟨c12, h⟩ := h
    refine K_iadd (kdA dt_MX10_fit 58 rfl) c12 ?_
    obtain ⟨c13, h⟩ := h
    obtain ⟨c14, h⟩ := h
    refine K_iastore' (kdA dt_MX10_fit 59 rfl) c13 c14.1 c14.2 (fun s6 es6 => ?_)
    have h := h s6 es6
    obtain ⟨c15, h⟩ := h
    refine K_iinc (ls' := [(0, (2, a0)), (4, (2, a4)), (5, (0, (a5 + 1)))]) 2 (kdA dt_MX10_fit 60 rfl) rfl c15 (by decide) rfl ?_
    refine K_goto (tgt := 50) (kdA dt_MX10_fit 61 rfl) rfl ?_
    exact h
theorem SX10_fit_118 {d n : Nat} {Q : kS → Prop} {a0 a5 : Int} {σ : kS} (h : isO 10 n a0 ∧ (isA 20 n (σ a0 1) ∧ (((klen (σ a0 1)) ≤ a5 → Q σ) ∧ (¬ (klen (σ a0 1)) ≤ a5 → isA 20 n (σ a0 0) ∧ (((0 : Int) ≤ a5 ∧ a5 < klen (σ a0 0)) ∧ (((σ (σ a0 0) a5) = (-1) → (-2147483648 ≤ (a5 + 1) ∧ (a5 + 1) ≤ 2147483647) ∧ (LX10_fit_118 d n Q a0 (a5 + 1) σ)) ∧ (¬ (σ (σ a0 0) a5) = (-1) → isA 20 n (σ a0 6) ∧ (((0 : Int) ≤ (σ (σ a0 0) a5) ∧ (σ (σ a0 0) a5) < klen (σ a0 6)) ∧ (((0 : Int) ≤ a5) ∧ (((0 : Int) ≤ (a5 / 8) ∧ (a5 / 8) < klen (σ a0 6)) ∧ ((-2147483648 ≤ ((σ (σ a0 6) (σ (σ a0 0) a5)) - (σ (σ a0 6) (a5 / 8))) ∧ ((σ (σ a0 6) (σ (σ a0 0) a5)) - (σ (σ a0 6) (a5 / 8))) ≤ 2147483647) ∧ ((-2147483648 ≤ (((σ (σ a0 6) (σ (σ a0 0) a5)) - (σ (σ a0 6) (a5 / 8))) + 99) ∧ (((σ (σ a0 6) (σ (σ a0 0) a5)) - (σ (σ a0 6) (a5 / 8))) + 99) ≤ 2147483647) ∧ ((-2147483648 ≤ ((((σ (σ a0 6) (σ (σ a0 0) a5)) - (σ (σ a0 6) (a5 / 8))) + 99) * 8) ∧ ((((σ (σ a0 6) (σ (σ a0 0) a5)) - (σ (σ a0 6) (a5 / 8))) + 99) * 8) ≤ 2147483647) ∧ (isA 20 n (σ a0 7) ∧ (((0 : Int) ≤ (σ (σ a0 0) a5) ∧ (σ (σ a0 0) a5) < klen (σ a0 7)) ∧ ((-2147483648 ≤ (((((σ (σ a0 6) (σ (σ a0 0) a5)) - (σ (σ a0 6) (a5 / 8))) + 99) * 8) + (σ (σ a0 7) (σ (σ a0 0) a5))) ∧ (((((σ (σ a0 6) (σ (σ a0 0) a5)) - (σ (σ a0 6) (a5 / 8))) + 99) * 8) + (σ (σ a0 7) (σ (σ a0 0) a5))) ≤ 2147483647) ∧ ((-2147483648 ≤ ((((((σ (σ a0 6) (σ (σ a0 0) a5)) - (σ (σ a0 6) (a5 / 8))) + 99) * 8) + (σ (σ a0 7) (σ (σ a0 0) a5))) * 2) ∧ ((((((σ (σ a0 6) (σ (σ a0 0) a5)) - (σ (σ a0 6) (a5 / 8))) + 99) * 8) + (σ (σ a0 7) (σ (σ a0 0) a5))) * 2) ≤ 2147483647) ∧ ((-2147483648 ≤ (((((((σ (σ a0 6) (σ (σ a0 0) a5)) - (σ (σ a0 6) (a5 / 8))) + 99) * 8) + (σ (σ a0 7) (σ (σ a0 0) a5))) * 2) + (kand a5 1)) ∧ (((((((σ (σ a0 6) (σ (σ a0 0) a5)) - (σ (σ a0 6) (a5 / 8))) + 99) * 8) + (σ (σ a0 7) (σ (σ a0 0) a5))) * 2) + (kand a5 1)) ≤ 2147483647) ∧ (Ci d MX10_painOf [(2, a0), (0, (((((((σ (σ a0 6) (σ (σ a0 0) a5)) - (σ (σ a0 6) (a5 / 8))) + 99) * 8) + (σ (σ a0 7) (σ (σ a0 0) a5))) * 2) + (kand a5 1)))] n σ (fun x17 s1 => ((0 : Int) ≤ a5 ∧ a5 < klen (σ a0 1)) ∧ (∀ s2, s2 = kst s1 (σ a0 1) a5 x17 → (-2147483648 ≤ (a5 + 1) ∧ (a5 + 1) ≤ 2147483647) ∧ (LX10_fit_118 d n Q a0 (a5 + 1) s2)))))))))))))))))))))) : LX10_fit_118 d n Q a0 a5 σ := by
  unfold LX10_fit_118
  refine K_iload 1 (kdA dt_MX10_fit 64 rfl) rfl ?_
  refine K_aload_n 0 (kdA dt_MX10_fit 65 rfl) rfl rfl ?_
  obtain ⟨c1, h⟩ := h
  refine gf10_15 rfl (kdA dt_MX10_fit 66 rfl) c1 ?_
  obtain ⟨c2, h⟩ := h
  refine K_alen (kdA dt_MX10_fit 67 rfl) (by decide) c2 ?_
  refine K_icmp_ge (tgt := 203) (kdA dt_MX10_fit 68 rfl) rfl (fun c => ?_) (fun c => ?_)
  · have h := h.1 c
    exact K_return (kdA dt_MX10_fit 113 rfl) rfl ⟨rfl, rfl, h⟩
  · have h := h.2 c
    refine K_aload_n 0 (kdA dt_MX10_fit 69 rfl) rfl rfl ?_
    refine gf10_9 rfl (kdA dt_MX10_fit 70 rfl) c1 ?_
    refine K_iload 1 (kdA dt_MX10_fit 71 rfl) rfl ?_
    obtain ⟨c3, h⟩ := h
    obtain ⟨c4, h⟩ := h
    refine K_iaload (kdA dt_MX10_fit 72 rfl) c3 c4.1 c4.2 ?_
    refine K_istore (ls' := [(0, (2, a0)), (5, (0, a5)), (6, (0, (σ (σ a0 0) a5)))]) (kdA dt_MX10_fit 73 rfl) (by decide) rfl ?_
    refine K_iload 2 (kdA dt_MX10_fit 74 rfl) rfl ?_
    refine K_iconst (kdA dt_MX10_fit 75 rfl) (by decide) ?_
    refine K_icmp_eq (tgt := 197) (kdA dt_MX10_fit 76 rfl) rfl (fun c => ?_) (fun c => ?_)
    · have h := h.1 c
      obtain ⟨c5, h⟩ := h
      refine K_iinc (ls' := [(0, (2, a0)), (5, (0, (a5 + 1))), (6, (0, (σ (σ a0 0) a5)))]) 1 (kdA dt_MX10_fit 111 rfl) rfl c5 (by decide) rfl ?_
      refine K_goto (tgt := 118) (kdA dt_MX10_fit 112 rfl) rfl ?_
      refine K_pick [0, 1] (ls' := [(0, (2, a0)), (5, (0, (a5 + 1)))]) rfl ?_
      exact h
    · have h := h.2 c
      refine K_aload_n 0 (kdA dt_MX10_fit 77 rfl) rfl rfl ?_
      refine gf10_27 rfl (kdA dt_MX10_fit 78 rfl) c1 ?_
      refine K_iload 2 (kdA dt_MX10_fit 79 rfl) rfl ?_
      obtain ⟨c5, h⟩ := h
      obtain ⟨c6, h⟩ := h
      refine K_iaload (kdA dt_MX10_fit 80 rfl) c5 c6.1 c6.2 ?_
      refine K_aload_n 0 (kdA dt_MX10_fit 81 rfl) rfl rfl ?_
      refine gf10_27 rfl (kdA dt_MX10_fit 82 rfl) c1 ?_
      refine K_iload 1 (kdA dt_MX10_fit 83 rfl) rfl ?_
      refine K_bipush (kdA dt_MX10_fit 84 rfl) (by decide +kernel) ?_
      obtain ⟨c7, h⟩ := h
      refine K_idiv (kdA dt_MX10_fit 85 rfl) c7 (by decide) ?_
      obtain ⟨c8, h⟩ := h
      refine K_iaload (kdA dt_MX10_fit 86 rfl) c5 c8.1 c8.2 ?_
      obtain ⟨c9, h⟩ := h
      refine K_isub (kdA dt_MX10_fit 87 rfl) c9 ?_
      refine K_istore (ls' := [(0, (2, a0)), (5, (0, a5)), (6, (0, (σ (σ a0 0) a5))), (7, (0, ((σ (σ a0 6) (σ (σ a0 0) a5)) - (σ (σ a0 6) (a5 / 8)))))]) (kdA dt_MX10_fit 88 rfl) (by decide) rfl ?_
      refine K_aload_n 0 (kdA dt_MX10_fit 89 rfl) rfl rfl ?_
      refine gf10_15 rfl (kdA dt_MX10_fit 90 rfl) c1 ?_
      refine K_iload 1 (kdA dt_MX10_fit 91 rfl) rfl ?_
      refine K_aload_n 0 (kdA dt_MX10_fit 92 rfl) rfl rfl ?_
      refine K_iload 3 (kdA dt_MX10_fit 93 rfl) rfl ?_
      refine K_bipush (kdA dt_MX10_fit 94 rfl) (by decide +kernel) ?_
      obtain ⟨c10, h⟩ := h
      refine K_iadd (kdA dt_MX10_fit 95 rfl) c10 ?_
      refine K_bipush (kdA dt_MX10_fit 96 rfl) (by decide +kernel) ?_
      obtain ⟨c11, h⟩ := h
      refine K_imul (kdA dt_MX10_fit 97 rfl) c11 ?_
      refine K_aload_n 0 (kdA dt_MX10_fit 98 rfl) rfl rfl ?_
      refine gf10_30 rfl (kdA dt_MX10_fit 99 rfl) c1 ?_
      refine K_iload 2 (kdA dt_MX10_fit 100 rfl) rfl ?_
      obtain ⟨c12, h⟩ := h
      obtain ⟨c13, h⟩ := h
      refine K_iaload (kdA dt_MX10_fit 101 rfl) c12 c13.1 c13.2 ?_
      obtain ⟨c14, h⟩ := h
      refine K_iadd (kdA dt_MX10_fit 102 rfl) c14 ?_
      refine K_iconst (kdA dt_MX10_fit 103 rfl) (by decide) ?_
      obtain ⟨c15, h⟩ := h
      refine K_imul (kdA dt_MX10_fit 104 rfl) c15 ?_
      refine K_iload 1 (kdA dt_MX10_fit 105 rfl) rfl ?_
      refine K_iconst (kdA dt_MX10_fit 106 rfl) (by decide) ?_
      refine K_iand (kdA dt_MX10_fit 107 rfl) ?_
      obtain ⟨c16, h⟩ := h
      refine K_iadd (kdA dt_MX10_fit 108 rfl) c16 ?_
      refine K_cVi (c := 10) (as := [(0, (((((((σ (σ a0 6) (σ (σ a0 0) a5)) - (σ (σ a0 6) (a5 / 8))) + 99) * 8) + (σ (σ a0 7) (σ (σ a0 0) a5))) * 2) + (kand a5 1)))]) (st := [(0, a5), (2, (σ a0 1))]) (kdA dt_MX10_fit 109 rfl) rfl cl_MX10_painOf lk10_78 rfl rfl (Nat.le_of_ble_eq_true rfl) c1 (Ci.mono h (fun x17 s1 h => ?_))
      obtain ⟨c18, h⟩ := h
      refine K_iastore' (kdA dt_MX10_fit 110 rfl) c2 c18.1 c18.2 (fun s2 es2 => ?_)
      have h := h s2 es2
      obtain ⟨c19, h⟩ := h
      refine K_iinc (ls' := [(0, (2, a0)), (5, (0, (a5 + 1))), (6, (0, (σ (σ a0 0) a5))), (7, (0, ((σ (σ a0 6) (σ (σ a0 0) a5)) - (σ (σ a0 6) (a5 / 8)))))]) 1 (kdA dt_MX10_fit 111 rfl) rfl c19 (by decide) rfl ?_
      refine K_goto (tgt := 118) (kdA dt_MX10_fit 112 rfl) rfl ?_
      refine K_pick [0, 1] (ls' := [(0, (2, a0)), (5, (0, (a5 + 1)))]) rfl ?_
      exact h
theorem EX10_fit {d n : Nat} {Q : kS → Prop} {a0 a1 a2 a3 a4 : Int} {σ : kS} (h : (-2147483648 ≤ a2 ∧ a2 ≤ 2147483647) → (-2147483648 ≤ a3 ∧ a3 ≤ 2147483647) → kokw n σ → LX10_fit_0 d n Q a0 a1 a2 a3 a4 σ) : Cv (d + 1) MX10_fit [(2, a0), (2, a1), (0, a2), (0, a3), (2, a4)] n σ Q := Tri_of (by decide +kernel) (Nat.le_of_ble_eq_true rfl) (fun hk hw => h (hk (0, a2) (List.mem_of_getElem? (i := 2) rfl)) (hk (0, a3) (List.mem_of_getElem? (i := 3) rfl)) hw)

def LX10_follow_0 (d n : Nat) (Q : kS → Prop) (a0 : Int) (a1 : Int) (a2 : Int) (σ : kS) : Prop := K (d + 1) MX10_follow (kPv n Q) (0, 0) 0 [(0, (2, a0)), (1, (0, a1)), (2, (0, a2))] [] n σ
def LX10_follow_23 (d n : Nat) (Q : kS → Prop) (a0 : Int) (a2 : Int) (a3 : Int) (a4 : Int) (σ : kS) : Prop := K (d + 1) MX10_follow (kPv n Q) (0, 0) 23 [(0, (2, a0)), (2, (0, a2)), (3, (0, a3)), (4, (0, a4))] [] n σ
theorem SX10_follow_0 {d n : Nat} {Q : kS → Prop} {a0 a1 a2 : Int} {σ : kS} (h : isO 10 n a0 ∧ (isO 8 n (σ a0 13) ∧ (Ci d MX8_cut [(2, (σ a0 13)), (0, 0)] n σ (fun x3 s1 => isO 8 n (s1 a0 13) ∧ (Ci d MX8_add [(2, (s1 a0 13)), (0, a1)] n s1 (fun x5 s2 => LX10_follow_23 d n Q a0 a2 a1 0 s2)))))) : LX10_follow_0 d n Q a0 a1 a2 σ := by
  unfold LX10_follow_0
  refine K_aload_n 0 (kdA dt_MX10_follow 0 rfl) rfl rfl ?_
  obtain ⟨c1, h⟩ := h
  refine gf10_44 rfl (kdA dt_MX10_follow 1 rfl) c1 ?_
  refine K_iconst (kdA dt_MX10_follow 2 rfl) (by decide) ?_
  obtain ⟨c2, h⟩ := h
  refine K_cVi (c := 8) (as := [(0, 0)]) (st := []) (kdA dt_MX10_follow 3 rfl) rfl cl_MX8_cut lk10_122 rfl rfl (Nat.le_of_ble_eq_true rfl) c2 (Ci.mono h (fun x3 s1 h => ?_))
  refine K_pop (kdA dt_MX10_follow 4 rfl) rfl ?_
  refine K_iload_n 1 (kdA dt_MX10_follow 5 rfl) rfl rfl ?_
  refine K_istore_n (ls' := [(0, (2, a0)), (1, (0, a1)), (2, (0, a2)), (3, (0, a1))]) (kdA dt_MX10_follow 6 rfl) rfl (by decide) rfl ?_
  refine K_aload_n 0 (kdA dt_MX10_follow 7 rfl) rfl rfl ?_
  refine gf10_44 rfl (kdA dt_MX10_follow 8 rfl) c1 ?_
  refine K_iload_n 3 (kdA dt_MX10_follow 9 rfl) rfl rfl ?_
  obtain ⟨c4, h⟩ := h
  refine K_cVi (c := 8) (as := [(0, a1)]) (st := []) (kdA dt_MX10_follow 10 rfl) rfl cl_MX8_add lk10_125 rfl rfl (Nat.le_of_ble_eq_true rfl) c4 (Ci.mono h (fun x5 s2 h => ?_))
  refine K_pop (kdA dt_MX10_follow 11 rfl) rfl ?_
  refine K_iconst (kdA dt_MX10_follow 12 rfl) (by decide) ?_
  refine K_istore (ls' := [(0, (2, a0)), (1, (0, a1)), (2, (0, a2)), (3, (0, a1)), (4, (0, 0))]) (kdA dt_MX10_follow 13 rfl) (by decide) rfl ?_
  refine K_pick [0, 2, 3, 4] (ls' := [(0, (2, a0)), (2, (0, a2)), (3, (0, a1)), (4, (0, 0))]) rfl ?_
  exact h
theorem SX10_follow_23 {d n : Nat} {Q : kS → Prop} {a0 a2 a3 a4 : Int} {σ : kS} (h : (120 ≤ a4 → Q σ) ∧ (¬ 120 ≤ a4 → (a3 = a2 → Q σ) ∧ (¬ a3 = a2 → Ci d MX11_isCell [(0, a3)] n σ (fun x1 s1 => (x1 = 0 → Q s1) ∧ (¬ x1 = 0 → isO 10 n a0 ∧ (Ci d MX10_nextOn [(2, a0), (0, a3)] n s1 (fun x3 s2 => isO 8 n (s2 a0 13) ∧ (Ci d MX8_add [(2, (s2 a0 13)), (0, x3)] n s2 (fun x5 s3 => (-2147483648 ≤ (a4 + 1) ∧ (a4 + 1) ≤ 2147483647) ∧ (LX10_follow_23 d n Q a0 a2 x3 (a4 + 1) s3)))))))))) : LX10_follow_23 d n Q a0 a2 a3 a4 σ := by
  unfold LX10_follow_23
  refine K_iload 3 (kdA dt_MX10_follow 14 rfl) rfl ?_
  refine K_bipush (kdA dt_MX10_follow 15 rfl) (by decide +kernel) ?_
  refine K_icmp_ge (tgt := 63) (kdA dt_MX10_follow 16 rfl) rfl (fun c => ?_) (fun c => ?_)
  · have h := h.1 c
    exact K_return (kdA dt_MX10_follow 34 rfl) rfl ⟨rfl, rfl, h⟩
  · have h := h.2 c
    refine K_iload_n 2 (kdA dt_MX10_follow 17 rfl) rfl rfl ?_
    refine K_iload_n 1 (kdA dt_MX10_follow 18 rfl) rfl rfl ?_
    refine K_icmp_eq (tgt := 63) (kdA dt_MX10_follow 19 rfl) rfl (fun c => ?_) (fun c => ?_)
    · have h := h.1 c
      exact K_return (kdA dt_MX10_follow 34 rfl) rfl ⟨rfl, rfl, h⟩
    · have h := h.2 c
      refine K_iload_n 2 (kdA dt_MX10_follow 20 rfl) rfl rfl ?_
      refine K_cSi (as := [(0, a3)]) (st := []) (kdA dt_MX10_follow 21 rfl) cl_MX11_isCell lk10_100 rfl rfl (Nat.le_of_ble_eq_true rfl) (Ci.mono h (fun x1 s1 h => ?_))
      refine K_if_eq (tgt := 63) (kdA dt_MX10_follow 22 rfl) rfl (fun c => ?_) (fun c => ?_)
      · have h := h.1 c
        exact K_return (kdA dt_MX10_follow 34 rfl) rfl ⟨rfl, rfl, h⟩
      · have h := h.2 c
        refine K_aload_n 0 (kdA dt_MX10_follow 23 rfl) rfl rfl ?_
        refine K_iload_n 2 (kdA dt_MX10_follow 24 rfl) rfl rfl ?_
        obtain ⟨c2, h⟩ := h
        refine K_cVi (c := 10) (as := [(0, a3)]) (st := []) (kdA dt_MX10_follow 25 rfl) rfl cl_MX10_nextOn lk10_128 rfl rfl (Nat.le_of_ble_eq_true rfl) c2 (Ci.mono h (fun x3 s2 h => ?_))
        refine K_istore_n (ls' := [(0, (2, a0)), (2, (0, a2)), (3, (0, x3)), (4, (0, a4))]) (kdA dt_MX10_follow 26 rfl) rfl (by decide) rfl ?_
        refine K_aload_n 0 (kdA dt_MX10_follow 27 rfl) rfl rfl ?_
        refine gf10_44 rfl (kdA dt_MX10_follow 28 rfl) c2 ?_
        refine K_iload_n 2 (kdA dt_MX10_follow 29 rfl) rfl rfl ?_
        obtain ⟨c4, h⟩ := h
        refine K_cVi (c := 8) (as := [(0, x3)]) (st := []) (kdA dt_MX10_follow 30 rfl) rfl cl_MX8_add lk10_125 rfl rfl (Nat.le_of_ble_eq_true rfl) c4 (Ci.mono h (fun x5 s3 h => ?_))
        refine K_pop (kdA dt_MX10_follow 31 rfl) rfl ?_
        obtain ⟨c6, h⟩ := h
        refine K_iinc (ls' := [(0, (2, a0)), (2, (0, a2)), (3, (0, x3)), (4, (0, (a4 + 1)))]) 3 (kdA dt_MX10_follow 32 rfl) rfl c6 (by decide) rfl ?_
        refine K_goto (tgt := 23) (kdA dt_MX10_follow 33 rfl) rfl ?_
        exact h
theorem EX10_follow {d n : Nat} {Q : kS → Prop} {a0 a1 a2 : Int} {σ : kS} (h : (-2147483648 ≤ a1 ∧ a1 ≤ 2147483647) → (-2147483648 ≤ a2 ∧ a2 ≤ 2147483647) → kokw n σ → LX10_follow_0 d n Q a0 a1 a2 σ) : Cv (d + 1) MX10_follow [(2, a0), (0, a1), (0, a2)] n σ Q := Tri_of (by decide +kernel) (Nat.le_of_ble_eq_true rfl) (fun hk hw => h (hk (0, a1) (List.mem_of_getElem? (i := 1) rfl)) (hk (0, a2) (List.mem_of_getElem? (i := 2) rfl)) hw)

def LX10_lay_0 (d n : Nat) (Q : kS → Prop) (a0 : Int) (a1 : Int) (a2 : Int) (σ : kS) : Prop := K (d + 1) MX10_lay (kPv n Q) (0, 0) 0 [(0, (2, a0)), (1, (0, a1)), (2, (0, a2))] [] n σ
theorem SX10_lay_0 {d n : Nat} {Q : kS → Prop} {a0 a1 a2 : Int} {σ : kS} (h : isO 10 n a0 ∧ (Cv d MX10_spreadTo [(2, a0), (0, a2)] n σ (fun s1 => Cv d MX10_follow [(2, a0), (0, a1), (0, a2)] n s1 (fun s2 => Q s2)))) : LX10_lay_0 d n Q a0 a1 a2 σ := by
  unfold LX10_lay_0
  refine K_aload_n 0 (kdA dt_MX10_lay 0 rfl) rfl rfl ?_
  refine K_iload_n 2 (kdA dt_MX10_lay 1 rfl) rfl rfl ?_
  obtain ⟨c1, h⟩ := h
  refine K_cVv (c := 10) (as := [(0, a2)]) (st := []) (kdA dt_MX10_lay 2 rfl) rfl cl_MX10_spreadTo lk10_115 rfl rfl (Nat.le_of_ble_eq_true rfl) c1 (Cv.mono h (fun s1 h => ?_))
  refine K_aload_n 0 (kdA dt_MX10_lay 3 rfl) rfl rfl ?_
  refine K_iload_n 1 (kdA dt_MX10_lay 4 rfl) rfl rfl ?_
  refine K_iload_n 2 (kdA dt_MX10_lay 5 rfl) rfl rfl ?_
  refine K_cVv (c := 10) (as := [(0, a1), (0, a2)]) (st := []) (kdA dt_MX10_lay 6 rfl) rfl cl_MX10_follow lk10_118 rfl rfl (Nat.le_of_ble_eq_true rfl) c1 (Cv.mono h (fun s2 h => ?_))
  exact K_return (kdA dt_MX10_lay 7 rfl) rfl ⟨rfl, rfl, h⟩
theorem EX10_lay {d n : Nat} {Q : kS → Prop} {a0 a1 a2 : Int} {σ : kS} (h : (-2147483648 ≤ a1 ∧ a1 ≤ 2147483647) → (-2147483648 ≤ a2 ∧ a2 ≤ 2147483647) → kokw n σ → LX10_lay_0 d n Q a0 a1 a2 σ) : Cv (d + 1) MX10_lay [(2, a0), (0, a1), (0, a2)] n σ Q := Tri_of (by decide +kernel) (Nat.le_of_ble_eq_true rfl) (fun hk hw => h (hk (0, a1) (List.mem_of_getElem? (i := 1) rfl)) (hk (0, a2) (List.mem_of_getElem? (i := 2) rfl)) hw)

def LX10_least_0 (d n : Nat) (Q : Int → kS → Prop) (a0 : Int) (a1 : Int) (σ : kS) : Prop := K (d + 1) MX10_least (kPi n Q) (0, 0) 0 [(0, (2, a0)), (1, (0, a1))] [] n σ
theorem SX10_least_0 {d n : Nat} {Q : Int → kS → Prop} {a0 a1 : Int} {σ : kS} (h : Ci d MX11_isCell [(0, a1)] n σ (fun x1 s1 => (x1 = 0 → Q 0 s1) ∧ (¬ x1 = 0 → isO 10 n a0 ∧ (isA 20 n (s1 a0 2) ∧ (((0 : Int) ≤ a1 ∧ a1 < klen (s1 a0 2)) ∧ (((0 : Int) ≤ (s1 (s1 a0 2) a1)) ∧ (Q ((s1 (s1 a0 2) a1) / 128) s1))))))) : LX10_least_0 d n Q a0 a1 σ := by
  unfold LX10_least_0
  refine K_iload_n 1 (kdA dt_MX10_least 0 rfl) rfl rfl ?_
  refine K_cSi (as := [(0, a1)]) (st := []) (kdA dt_MX10_least 1 rfl) cl_MX11_isCell lk10_100 rfl rfl (Nat.le_of_ble_eq_true rfl) (Ci.mono h (fun x1 s1 h => ?_))
  refine K_if_eq (tgt := 20) (kdA dt_MX10_least 2 rfl) rfl (fun c => ?_) (fun c => ?_)
  · have h := h.1 c
    refine K_iconst (kdA dt_MX10_least 10 rfl) (by decide) ?_
    exact K_ireturn (kdA dt_MX10_least 11 rfl) rfl ⟨rfl, _, rfl, h⟩
  · have h := h.2 c
    refine K_aload_n 0 (kdA dt_MX10_least 3 rfl) rfl rfl ?_
    obtain ⟨c2, h⟩ := h
    refine gf10_18 rfl (kdA dt_MX10_least 4 rfl) c2 ?_
    refine K_iload_n 1 (kdA dt_MX10_least 5 rfl) rfl rfl ?_
    obtain ⟨c3, h⟩ := h
    obtain ⟨c4, h⟩ := h
    refine K_iaload (kdA dt_MX10_least 6 rfl) c3 c4.1 c4.2 ?_
    refine K_sipush (kdA dt_MX10_least 7 rfl) (by decide +kernel) ?_
    obtain ⟨c5, h⟩ := h
    refine K_idiv (kdA dt_MX10_least 8 rfl) c5 (by decide) ?_
    refine K_goto (tgt := 21) (kdA dt_MX10_least 9 rfl) rfl ?_
    exact K_ireturn (kdA dt_MX10_least 11 rfl) rfl ⟨rfl, _, rfl, h⟩
theorem EX10_least {d n : Nat} {Q : Int → kS → Prop} {a0 a1 : Int} {σ : kS} (h : (-2147483648 ≤ a1 ∧ a1 ≤ 2147483647) → kokw n σ → LX10_least_0 d n Q a0 a1 σ) : Ci (d + 1) MX10_least [(2, a0), (0, a1)] n σ Q := Tri_of (by decide +kernel) (Nat.le_of_ble_eq_true rfl) (fun hk hw => h (hk (0, a1) (List.mem_of_getElem? (i := 1) rfl)) hw)

def LX10_nextOn_0 (d n : Nat) (Q : Int → kS → Prop) (a0 : Int) (a1 : Int) (σ : kS) : Prop := K (d + 1) MX10_nextOn (kPi n Q) (0, 0) 0 [(0, (2, a0)), (1, (0, a1))] [] n σ
def LX10_nextOn_2 (d n : Nat) (Q : Int → kS → Prop) (a0 : Int) (a1 : Int) (a2 : Int) (σ : kS) : Prop := K (d + 1) MX10_nextOn (kPi n Q) (0, 0) 2 [(0, (2, a0)), (1, (0, a1)), (2, (0, a2))] [] n σ
theorem SX10_nextOn_0 {d n : Nat} {Q : Int → kS → Prop} {a0 a1 : Int} {σ : kS} (h : LX10_nextOn_2 d n Q a0 a1 0 σ) : LX10_nextOn_0 d n Q a0 a1 σ := by
  unfold LX10_nextOn_0
  refine K_iconst (kdA dt_MX10_nextOn 0 rfl) (by decide) ?_
  refine K_istore_n (ls' := [(0, (2, a0)), (1, (0, a1)), (2, (0, 0))]) (kdA dt_MX10_nextOn 1 rfl) rfl (by decide) rfl ?_
  exact h
theorem SX10_nextOn_2 {d n : Nat} {Q : Int → kS → Prop} {a0 a1 a2 : Int} {σ : kS} (h : (8 ≤ a2 → Q (-1) σ) ∧ (¬ 8 ≤ a2 → (-2147483648 ≤ (a1 * 8) ∧ (a1 * 8) ≤ 2147483647) ∧ ((-2147483648 ≤ ((a1 * 8) + a2) ∧ ((a1 * 8) + a2) ≤ 2147483647) ∧ (isO 10 n a0 ∧ (isA 20 n (σ a0 0) ∧ (((0 : Int) ≤ ((a1 * 8) + a2) ∧ ((a1 * 8) + a2) < klen (σ a0 0)) ∧ (((σ (σ a0 0) ((a1 * 8) + a2)) = (-1) → (-2147483648 ≤ (a2 + 1) ∧ (a2 + 1) ≤ 2147483647) ∧ (LX10_nextOn_2 d n Q a0 a1 (a2 + 1) σ)) ∧ (¬ (σ (σ a0 0) ((a1 * 8) + a2)) = (-1) → isA 20 n (σ a0 2) ∧ (((0 : Int) ≤ a1 ∧ a1 < klen (σ a0 2)) ∧ (((0 : Int) ≤ (σ (σ a0 0) ((a1 * 8) + a2)) ∧ (σ (σ a0 0) ((a1 * 8) + a2)) < klen (σ a0 2)) ∧ (isA 20 n (σ a0 1) ∧ (((0 : Int) ≤ ((a1 * 8) + a2) ∧ ((a1 * 8) + a2) < klen (σ a0 1)) ∧ ((-2147483648 ≤ ((σ (σ a0 1) ((a1 * 8) + a2)) * 128) ∧ ((σ (σ a0 1) ((a1 * 8) + a2)) * 128) ≤ 2147483647) ∧ ((-2147483648 ≤ ((σ (σ a0 2) (σ (σ a0 0) ((a1 * 8) + a2))) + ((σ (σ a0 1) ((a1 * 8) + a2)) * 128)) ∧ ((σ (σ a0 2) (σ (σ a0 0) ((a1 * 8) + a2))) + ((σ (σ a0 1) ((a1 * 8) + a2)) * 128)) ≤ 2147483647) ∧ ((-2147483648 ≤ (((σ (σ a0 2) (σ (σ a0 0) ((a1 * 8) + a2))) + ((σ (σ a0 1) ((a1 * 8) + a2)) * 128)) + 1) ∧ (((σ (σ a0 2) (σ (σ a0 0) ((a1 * 8) + a2))) + ((σ (σ a0 1) ((a1 * 8) + a2)) * 128)) + 1) ≤ 2147483647) ∧ ((¬ (σ (σ a0 2) a1) = (((σ (σ a0 2) (σ (σ a0 0) ((a1 * 8) + a2))) + ((σ (σ a0 1) ((a1 * 8) + a2)) * 128)) + 1) → (-2147483648 ≤ (a2 + 1) ∧ (a2 + 1) ≤ 2147483647) ∧ (LX10_nextOn_2 d n Q a0 a1 (a2 + 1) σ)) ∧ (¬ (¬ (σ (σ a0 2) a1) = (((σ (σ a0 2) (σ (σ a0 0) ((a1 * 8) + a2))) + ((σ (σ a0 1) ((a1 * 8) + a2)) * 128)) + 1)) → Q (σ (σ a0 0) ((a1 * 8) + a2)) σ))))))))))))))))) : LX10_nextOn_2 d n Q a0 a1 a2 σ := by
  unfold LX10_nextOn_2
  refine K_iload_n 2 (kdA dt_MX10_nextOn 2 rfl) rfl rfl ?_
  refine K_bipush (kdA dt_MX10_nextOn 3 rfl) (by decide +kernel) ?_
  refine K_icmp_ge (tgt := 67) (kdA dt_MX10_nextOn 4 rfl) rfl (fun c => ?_) (fun c => ?_)
  · have h := h.1 c
    refine K_iconst (kdA dt_MX10_nextOn 41 rfl) (by decide) ?_
    exact K_ireturn (kdA dt_MX10_nextOn 42 rfl) rfl ⟨rfl, _, rfl, h⟩
  · have h := h.2 c
    refine K_iload_n 1 (kdA dt_MX10_nextOn 5 rfl) rfl rfl ?_
    refine K_bipush (kdA dt_MX10_nextOn 6 rfl) (by decide +kernel) ?_
    obtain ⟨c1, h⟩ := h
    refine K_imul (kdA dt_MX10_nextOn 7 rfl) c1 ?_
    refine K_iload_n 2 (kdA dt_MX10_nextOn 8 rfl) rfl rfl ?_
    obtain ⟨c2, h⟩ := h
    refine K_iadd (kdA dt_MX10_nextOn 9 rfl) c2 ?_
    refine K_istore_n (ls' := [(0, (2, a0)), (1, (0, a1)), (2, (0, a2)), (3, (0, ((a1 * 8) + a2)))]) (kdA dt_MX10_nextOn 10 rfl) rfl (by decide) rfl ?_
    refine K_aload_n 0 (kdA dt_MX10_nextOn 11 rfl) rfl rfl ?_
    obtain ⟨c3, h⟩ := h
    refine gf10_9 rfl (kdA dt_MX10_nextOn 12 rfl) c3 ?_
    refine K_iload_n 3 (kdA dt_MX10_nextOn 13 rfl) rfl rfl ?_
    obtain ⟨c4, h⟩ := h
    obtain ⟨c5, h⟩ := h
    refine K_iaload (kdA dt_MX10_nextOn 14 rfl) c4 c5.1 c5.2 ?_
    refine K_istore (ls' := [(0, (2, a0)), (1, (0, a1)), (2, (0, a2)), (3, (0, ((a1 * 8) + a2))), (4, (0, (σ (σ a0 0) ((a1 * 8) + a2))))]) (kdA dt_MX10_nextOn 15 rfl) (by decide) rfl ?_
    refine K_iload 4 (kdA dt_MX10_nextOn 16 rfl) rfl ?_
    refine K_iconst (kdA dt_MX10_nextOn 17 rfl) (by decide) ?_
    refine K_icmp_eq (tgt := 61) (kdA dt_MX10_nextOn 18 rfl) rfl (fun c => ?_) (fun c => ?_)
    · have h := h.1 c
      obtain ⟨c6, h⟩ := h
      refine K_iinc (ls' := [(0, (2, a0)), (1, (0, a1)), (2, (0, (a2 + 1))), (3, (0, ((a1 * 8) + a2))), (4, (0, (σ (σ a0 0) ((a1 * 8) + a2))))]) 2 (kdA dt_MX10_nextOn 39 rfl) rfl c6 (by decide) rfl ?_
      refine K_goto (tgt := 2) (kdA dt_MX10_nextOn 40 rfl) rfl ?_
      refine K_pick [0, 1, 2] (ls' := [(0, (2, a0)), (1, (0, a1)), (2, (0, (a2 + 1)))]) rfl ?_
      exact h
    · have h := h.2 c
      refine K_aload_n 0 (kdA dt_MX10_nextOn 19 rfl) rfl rfl ?_
      refine gf10_18 rfl (kdA dt_MX10_nextOn 20 rfl) c3 ?_
      refine K_iload_n 1 (kdA dt_MX10_nextOn 21 rfl) rfl rfl ?_
      obtain ⟨c6, h⟩ := h
      obtain ⟨c7, h⟩ := h
      refine K_iaload (kdA dt_MX10_nextOn 22 rfl) c6 c7.1 c7.2 ?_
      refine K_aload_n 0 (kdA dt_MX10_nextOn 23 rfl) rfl rfl ?_
      refine gf10_18 rfl (kdA dt_MX10_nextOn 24 rfl) c3 ?_
      refine K_iload 4 (kdA dt_MX10_nextOn 25 rfl) rfl ?_
      obtain ⟨c8, h⟩ := h
      refine K_iaload (kdA dt_MX10_nextOn 26 rfl) c6 c8.1 c8.2 ?_
      refine K_aload_n 0 (kdA dt_MX10_nextOn 27 rfl) rfl rfl ?_
      refine gf10_15 rfl (kdA dt_MX10_nextOn 28 rfl) c3 ?_
      refine K_iload_n 3 (kdA dt_MX10_nextOn 29 rfl) rfl rfl ?_
      obtain ⟨c9, h⟩ := h
      obtain ⟨c10, h⟩ := h
      refine K_iaload (kdA dt_MX10_nextOn 30 rfl) c9 c10.1 c10.2 ?_
      refine K_sipush (kdA dt_MX10_nextOn 31 rfl) (by decide +kernel) ?_
      obtain ⟨c11, h⟩ := h
      refine K_imul (kdA dt_MX10_nextOn 32 rfl) c11 ?_
      obtain ⟨c12, h⟩ := h
      refine K_iadd (kdA dt_MX10_nextOn 33 rfl) c12 ?_
      refine K_iconst (kdA dt_MX10_nextOn 34 rfl) (by decide) ?_
      obtain ⟨c13, h⟩ := h
      refine K_iadd (kdA dt_MX10_nextOn 35 rfl) c13 ?_
      refine K_icmp_ne (tgt := 61) (kdA dt_MX10_nextOn 36 rfl) rfl (fun c => ?_) (fun c => ?_)
      · have h := h.1 c
        obtain ⟨c14, h⟩ := h
        refine K_iinc (ls' := [(0, (2, a0)), (1, (0, a1)), (2, (0, (a2 + 1))), (3, (0, ((a1 * 8) + a2))), (4, (0, (σ (σ a0 0) ((a1 * 8) + a2))))]) 2 (kdA dt_MX10_nextOn 39 rfl) rfl c14 (by decide) rfl ?_
        refine K_goto (tgt := 2) (kdA dt_MX10_nextOn 40 rfl) rfl ?_
        refine K_pick [0, 1, 2] (ls' := [(0, (2, a0)), (1, (0, a1)), (2, (0, (a2 + 1)))]) rfl ?_
        exact h
      · have h := h.2 c
        refine K_iload 4 (kdA dt_MX10_nextOn 37 rfl) rfl ?_
        exact K_ireturn (kdA dt_MX10_nextOn 38 rfl) rfl ⟨rfl, _, rfl, h⟩
theorem EX10_nextOn {d n : Nat} {Q : Int → kS → Prop} {a0 a1 : Int} {σ : kS} (h : (-2147483648 ≤ a1 ∧ a1 ≤ 2147483647) → kokw n σ → LX10_nextOn_0 d n Q a0 a1 σ) : Ci (d + 1) MX10_nextOn [(2, a0), (0, a1)] n σ Q := Tri_of (by decide +kernel) (Nat.le_of_ble_eq_true rfl) (fun hk hw => h (hk (0, a1) (List.mem_of_getElem? (i := 1) rfl)) hw)

def LX10_painOf_0 (d n : Nat) (Q : Int → kS → Prop) (a0 : Int) (a1 : Int) (σ : kS) : Prop := K (d + 1) MX10_painOf (kPi n Q) (0, 0) 0 [(0, (2, a0)), (1, (0, a1))] [] n σ
theorem SX10_painOf_0 {d n : Nat} {Q : Int → kS → Prop} {a0 a1 : Int} {σ : kS} (h : (a1 < 0 → Q 1 σ) ∧ (¬ a1 < 0 → (3184 ≤ a1 → Q 1 σ) ∧ (¬ 3184 ≤ a1 → isO 10 n a0 ∧ ((¬ (σ a0 10) = (-1) → isA 20 n (σ a0 9) ∧ (((0 : Int) ≤ a1 ∧ a1 < klen (σ a0 9)) ∧ ((¬ (σ (σ a0 9) a1) = 0 → Q (σ (σ a0 9) a1) σ) ∧ (¬ (¬ (σ (σ a0 9) a1) = 0) → ((0 : Int) ≤ a1) ∧ ((-2147483648 ≤ ((a1 / 16) - 99) ∧ ((a1 / 16) - 99) ≤ 2147483647) ∧ (Ci d MJm_max [(0, ((a1 / 16) - 99)), (0, 0)] n σ (fun x6 s1 => isA 20 n (σ a0 8) ∧ (((0 : Int) ≤ 0 ∧ 0 < klen (σ a0 8)) ∧ (∀ s2, s2 = kst s1 (σ a0 8) 0 x6 → (-2147483648 ≤ (-((a1 / 16) - 99)) ∧ (-((a1 / 16) - 99)) ≤ 2147483647) ∧ (Ci d MJm_max [(0, (-((a1 / 16) - 99))), (0, 0)] n s2 (fun x10 s3 => isA 20 n (s2 a0 8) ∧ (((0 : Int) ≤ 1 ∧ 1 < klen (s2 a0 8)) ∧ (∀ s4, s4 = kst s3 (s2 a0 8) 1 x10 → isA 20 n (s4 a0 8) ∧ (((0 : Int) ≤ 2 ∧ 2 < klen (s4 a0 8)) ∧ (∀ s5, s5 = kst s4 (s4 a0 8) 2 (kand (kishr a1 1) 1) → isA 20 n (s5 a0 8) ∧ (((0 : Int) ≤ 3 ∧ 3 < klen (s5 a0 8)) ∧ (∀ s6, s6 = kst s5 (s5 a0 8) 3 (kand (kishr a1 2) 1) → isA 20 n (s6 a0 8) ∧ (((0 : Int) ≤ 4 ∧ 4 < klen (s6 a0 8)) ∧ (∀ s7, s7 = kst s6 (s6 a0 8) 4 (kand (kishr a1 3) 1) → ((s7 a0 12) = 0 → isA 20 n (s7 a0 8) ∧ (((0 : Int) ≤ 5 ∧ 5 < klen (s7 a0 8)) ∧ (∀ s8, s8 = kst s7 (s7 a0 8) 5 0 → isA 20 n (s8 a0 8) ∧ (((0 : Int) ≤ 6 ∧ 6 < klen (s8 a0 8)) ∧ (∀ s9, s9 = kst s8 (s8 a0 8) 6 (s8 a0 11) → isA 20 n (s9 a0 8) ∧ (((0 : Int) ≤ 7 ∧ 7 < klen (s9 a0 8)) ∧ (∀ s10, s10 = kst s9 (s9 a0 8) 7 (kand a1 1) → isO 3 n (s10 a0 10) ∧ (Ci d MX3_worth [(2, (s10 a0 10)), (2, (s10 a0 8))] n s10 (fun x26 s11 => Ci d MJm_min [(0, 10000), (0, x26)] n s11 (fun x27 s12 => Ci d MJm_max [(0, 1), (0, x27)] n s12 (fun x28 s13 => isA 20 n (s10 a0 9) ∧ (((0 : Int) ≤ a1 ∧ a1 < klen (s10 a0 9)) ∧ (∀ s14, s14 = kst s13 (s10 a0 9) a1 x28 → isA 20 n (s14 a0 9) ∧ (((0 : Int) ≤ a1 ∧ a1 < klen (s14 a0 9)) ∧ (Q (s14 (s14 a0 9) a1) s14))))))))))))))) ∧ (¬ (s7 a0 12) = 0 → isA 20 n (s7 a0 8) ∧ (((0 : Int) ≤ 5 ∧ 5 < klen (s7 a0 8)) ∧ (∀ s8, s8 = kst s7 (s7 a0 8) 5 1 → isA 20 n (s8 a0 8) ∧ (((0 : Int) ≤ 6 ∧ 6 < klen (s8 a0 8)) ∧ (∀ s9, s9 = kst s8 (s8 a0 8) 6 (s8 a0 11) → isA 20 n (s9 a0 8) ∧ (((0 : Int) ≤ 7 ∧ 7 < klen (s9 a0 8)) ∧ (∀ s10, s10 = kst s9 (s9 a0 8) 7 (kand a1 1) → isO 3 n (s10 a0 10) ∧ (Ci d MX3_worth [(2, (s10 a0 10)), (2, (s10 a0 8))] n s10 (fun x26 s11 => Ci d MJm_min [(0, 10000), (0, x26)] n s11 (fun x27 s12 => Ci d MJm_max [(0, 1), (0, x27)] n s12 (fun x28 s13 => isA 20 n (s10 a0 9) ∧ (((0 : Int) ≤ a1 ∧ a1 < klen (s10 a0 9)) ∧ (∀ s14, s14 = kst s13 (s10 a0 9) a1 x28 → isA 20 n (s14 a0 9) ∧ (((0 : Int) ≤ a1 ∧ a1 < klen (s14 a0 9)) ∧ (Q (s14 (s14 a0 9) a1) s14)))))))))))))))))))))))))))))))))) ∧ (¬ (¬ (σ a0 10) = (-1)) → Q 1 σ))))) : LX10_painOf_0 d n Q a0 a1 σ := by
  unfold LX10_painOf_0
  refine K_iload_n 1 (kdA dt_MX10_painOf 0 rfl) rfl rfl ?_
  refine K_if_lt (tgt := 18) (kdA dt_MX10_painOf 1 rfl) rfl (fun c => ?_) (fun c => ?_)
  · have h := h.1 c
    refine K_iconst (kdA dt_MX10_painOf 8 rfl) (by decide) ?_
    exact K_ireturn (kdA dt_MX10_painOf 9 rfl) rfl ⟨rfl, _, rfl, h⟩
  · have h := h.2 c
    refine K_iload_n 1 (kdA dt_MX10_painOf 2 rfl) rfl rfl ?_
    refine K_sipush (kdA dt_MX10_painOf 3 rfl) (by decide +kernel) ?_
    refine K_icmp_ge (tgt := 18) (kdA dt_MX10_painOf 4 rfl) rfl (fun c => ?_) (fun c => ?_)
    · have h := h.1 c
      refine K_iconst (kdA dt_MX10_painOf 8 rfl) (by decide) ?_
      exact K_ireturn (kdA dt_MX10_painOf 9 rfl) rfl ⟨rfl, _, rfl, h⟩
    · have h := h.2 c
      refine K_aload_n 0 (kdA dt_MX10_painOf 5 rfl) rfl rfl ?_
      obtain ⟨c1, h⟩ := h
      refine gf10_55 rfl (kdA dt_MX10_painOf 6 rfl) c1 ?_
      refine K_ifnonnull (tgt := 20) (kdA dt_MX10_painOf 7 rfl) rfl (fun c => ?_) (fun c => ?_)
      · have h := h.1 c
        refine K_aload_n 0 (kdA dt_MX10_painOf 10 rfl) rfl rfl ?_
        refine gf10_36 rfl (kdA dt_MX10_painOf 11 rfl) c1 ?_
        refine K_iload_n 1 (kdA dt_MX10_painOf 12 rfl) rfl rfl ?_
        obtain ⟨c2, h⟩ := h
        obtain ⟨c3, h⟩ := h
        refine K_iaload (kdA dt_MX10_painOf 13 rfl) c2 c3.1 c3.2 ?_
        refine K_if_ne (tgt := 159) (kdA dt_MX10_painOf 14 rfl) rfl (fun c => ?_) (fun c => ?_)
        · have h := h.1 c
          refine K_aload_n 0 (kdA dt_MX10_painOf 99 rfl) rfl rfl ?_
          refine gf10_36 rfl (kdA dt_MX10_painOf 100 rfl) c1 ?_
          refine K_iload_n 1 (kdA dt_MX10_painOf 101 rfl) rfl rfl ?_
          refine K_iaload (kdA dt_MX10_painOf 102 rfl) c2 c3.1 c3.2 ?_
          exact K_ireturn (kdA dt_MX10_painOf 103 rfl) rfl ⟨rfl, _, rfl, h⟩
        · have h := h.2 c
          refine K_iload_n 1 (kdA dt_MX10_painOf 15 rfl) rfl rfl ?_
          refine K_bipush (kdA dt_MX10_painOf 16 rfl) (by decide +kernel) ?_
          obtain ⟨c4, h⟩ := h
          refine K_idiv (kdA dt_MX10_painOf 17 rfl) c4 (by decide) ?_
          refine K_bipush (kdA dt_MX10_painOf 18 rfl) (by decide +kernel) ?_
          obtain ⟨c5, h⟩ := h
          refine K_isub (kdA dt_MX10_painOf 19 rfl) c5 ?_
          refine K_istore_n (ls' := [(0, (2, a0)), (1, (0, a1)), (2, (0, ((a1 / 16) - 99)))]) (kdA dt_MX10_painOf 20 rfl) rfl (by decide) rfl ?_
          refine K_aload_n 0 (kdA dt_MX10_painOf 21 rfl) rfl rfl ?_
          refine gf10_33 rfl (kdA dt_MX10_painOf 22 rfl) c1 ?_
          refine K_iconst (kdA dt_MX10_painOf 23 rfl) (by decide) ?_
          refine K_iload_n 2 (kdA dt_MX10_painOf 24 rfl) rfl rfl ?_
          refine K_iconst (kdA dt_MX10_painOf 25 rfl) (by decide) ?_
          refine K_cSi (as := [(0, ((a1 / 16) - 99)), (0, 0)]) (st := [(0, 0), (2, (σ a0 8))]) (kdA dt_MX10_painOf 26 rfl) cl_MJm_max lk10_82 rfl rfl (Nat.le_of_ble_eq_true rfl) (Ci.mono h (fun x6 s1 h => ?_))
          obtain ⟨c7, h⟩ := h
          obtain ⟨c8, h⟩ := h
          refine K_iastore' (kdA dt_MX10_painOf 27 rfl) c7 c8.1 c8.2 (fun s2 es2 => ?_)
          have h := h s2 es2
          refine K_aload_n 0 (kdA dt_MX10_painOf 28 rfl) rfl rfl ?_
          refine gf10_33 rfl (kdA dt_MX10_painOf 29 rfl) c1 ?_
          refine K_iconst (kdA dt_MX10_painOf 30 rfl) (by decide) ?_
          refine K_iload_n 2 (kdA dt_MX10_painOf 31 rfl) rfl rfl ?_
          obtain ⟨c9, h⟩ := h
          refine K_ineg (kdA dt_MX10_painOf 32 rfl) c9 ?_
          refine K_iconst (kdA dt_MX10_painOf 33 rfl) (by decide) ?_
          refine K_cSi (as := [(0, (-((a1 / 16) - 99))), (0, 0)]) (st := [(0, 1), (2, (s2 a0 8))]) (kdA dt_MX10_painOf 34 rfl) cl_MJm_max lk10_82 rfl rfl (Nat.le_of_ble_eq_true rfl) (Ci.mono h (fun x10 s3 h => ?_))
          obtain ⟨c11, h⟩ := h
          obtain ⟨c12, h⟩ := h
          refine K_iastore' (kdA dt_MX10_painOf 35 rfl) c11 c12.1 c12.2 (fun s4 es4 => ?_)
          have h := h s4 es4
          refine K_aload_n 0 (kdA dt_MX10_painOf 36 rfl) rfl rfl ?_
          refine gf10_33 rfl (kdA dt_MX10_painOf 37 rfl) c1 ?_
          refine K_iconst (kdA dt_MX10_painOf 38 rfl) (by decide) ?_
          refine K_iload_n 1 (kdA dt_MX10_painOf 39 rfl) rfl rfl ?_
          refine K_iconst (kdA dt_MX10_painOf 40 rfl) (by decide) ?_
          refine K_ishr (kdA dt_MX10_painOf 41 rfl) ?_
          refine K_iconst (kdA dt_MX10_painOf 42 rfl) (by decide) ?_
          refine K_iand (kdA dt_MX10_painOf 43 rfl) ?_
          obtain ⟨c13, h⟩ := h
          obtain ⟨c14, h⟩ := h
          refine K_iastore' (kdA dt_MX10_painOf 44 rfl) c13 c14.1 c14.2 (fun s5 es5 => ?_)
          have h := h s5 es5
          refine K_aload_n 0 (kdA dt_MX10_painOf 45 rfl) rfl rfl ?_
          refine gf10_33 rfl (kdA dt_MX10_painOf 46 rfl) c1 ?_
          refine K_iconst (kdA dt_MX10_painOf 47 rfl) (by decide) ?_
          refine K_iload_n 1 (kdA dt_MX10_painOf 48 rfl) rfl rfl ?_
          refine K_iconst (kdA dt_MX10_painOf 49 rfl) (by decide) ?_
          refine K_ishr (kdA dt_MX10_painOf 50 rfl) ?_
          refine K_iconst (kdA dt_MX10_painOf 51 rfl) (by decide) ?_
          refine K_iand (kdA dt_MX10_painOf 52 rfl) ?_
          obtain ⟨c15, h⟩ := h
          obtain ⟨c16, h⟩ := h
          refine K_iastore' (kdA dt_MX10_painOf 53 rfl) c15 c16.1 c16.2 (fun s6 es6 => ?_)
          have h := h s6 es6
          refine K_aload_n 0 (kdA dt_MX10_painOf 54 rfl) rfl rfl ?_
          refine gf10_33 rfl (kdA dt_MX10_painOf 55 rfl) c1 ?_
          refine K_iconst (kdA dt_MX10_painOf 56 rfl) (by decide) ?_
          refine K_iload_n 1 (kdA dt_MX10_painOf 57 rfl) rfl rfl ?_
          refine K_iconst (kdA dt_MX10_painOf 58 rfl) (by decide) ?_
          refine K_ishr (kdA dt_MX10_painOf 59 rfl) ?_
          refine K_iconst (kdA dt_MX10_painOf 60 rfl) (by decide) ?_
          refine K_iand (kdA dt_MX10_painOf 61 rfl) ?_
          obtain ⟨c17, h⟩ := h
          obtain ⟨c18, h⟩ := h
          refine K_iastore' (kdA dt_MX10_painOf 62 rfl) c17 c18.1 c18.2 (fun s7 es7 => ?_)
          have h := h s7 es7
          refine K_aload_n 0 (kdA dt_MX10_painOf 63 rfl) rfl rfl ?_
          refine gf10_33 rfl (kdA dt_MX10_painOf 64 rfl) c1 ?_
          refine K_iconst (kdA dt_MX10_painOf 65 rfl) (by decide) ?_
          refine K_aload_n 0 (kdA dt_MX10_painOf 66 rfl) rfl rfl ?_
          refine gf10_63 rfl (kdA dt_MX10_painOf 67 rfl) c1 ?_
          refine K_if_eq (tgt := 109) (kdA dt_MX10_painOf 68 rfl) rfl (fun c => ?_) (fun c => ?_)
          · have h := h.1 c
            refine K_iconst (kdA dt_MX10_painOf 71 rfl) (by decide) ?_
            obtain ⟨c19, h⟩ := h
            obtain ⟨c20, h⟩ := h
            refine K_iastore' (kdA dt_MX10_painOf 72 rfl) c19 c20.1 c20.2 (fun s8 es8 => ?_)
            have h := h s8 es8
            refine K_aload_n 0 (kdA dt_MX10_painOf 73 rfl) rfl rfl ?_
            refine gf10_33 rfl (kdA dt_MX10_painOf 74 rfl) c1 ?_
            refine K_bipush (kdA dt_MX10_painOf 75 rfl) (by decide +kernel) ?_
            refine K_aload_n 0 (kdA dt_MX10_painOf 76 rfl) rfl rfl ?_
            refine gf10_59 rfl (kdA dt_MX10_painOf 77 rfl) c1 ?_
            obtain ⟨c21, h⟩ := h
            obtain ⟨c22, h⟩ := h
            refine K_iastore' (kdA dt_MX10_painOf 78 rfl) c21 c22.1 c22.2 (fun s9 es9 => ?_)
            have h := h s9 es9
            refine K_aload_n 0 (kdA dt_MX10_painOf 79 rfl) rfl rfl ?_
            refine gf10_33 rfl (kdA dt_MX10_painOf 80 rfl) c1 ?_
            refine K_bipush (kdA dt_MX10_painOf 81 rfl) (by decide +kernel) ?_
            refine K_iload_n 1 (kdA dt_MX10_painOf 82 rfl) rfl rfl ?_
            refine K_iconst (kdA dt_MX10_painOf 83 rfl) (by decide) ?_
            refine K_iand (kdA dt_MX10_painOf 84 rfl) ?_
            obtain ⟨c23, h⟩ := h
            obtain ⟨c24, h⟩ := h
            refine K_iastore' (kdA dt_MX10_painOf 85 rfl) c23 c24.1 c24.2 (fun s10 es10 => ?_)
            have h := h s10 es10
            refine K_aload_n 0 (kdA dt_MX10_painOf 86 rfl) rfl rfl ?_
            refine gf10_36 rfl (kdA dt_MX10_painOf 87 rfl) c1 ?_
            refine K_iload_n 1 (kdA dt_MX10_painOf 88 rfl) rfl rfl ?_
            refine K_iconst (kdA dt_MX10_painOf 89 rfl) (by decide) ?_
            refine K_sipush (kdA dt_MX10_painOf 90 rfl) (by decide +kernel) ?_
            refine K_aload_n 0 (kdA dt_MX10_painOf 91 rfl) rfl rfl ?_
            refine gf10_55 rfl (kdA dt_MX10_painOf 92 rfl) c1 ?_
            refine K_aload_n 0 (kdA dt_MX10_painOf 93 rfl) rfl rfl ?_
            refine gf10_33 rfl (kdA dt_MX10_painOf 94 rfl) c1 ?_
            obtain ⟨c25, h⟩ := h
            refine K_cVi (c := 3) (as := [(2, (s10 a0 8))]) (st := [(0, 10000), (0, 1), (0, a1), (2, (s10 a0 9))]) (kdA dt_MX10_painOf 95 rfl) rfl cl_MX3_worth lk10_87 rfl rfl (Nat.le_of_ble_eq_true rfl) c25 (Ci.mono h (fun x26 s11 h => ?_))
            refine K_cSi (as := [(0, 10000), (0, x26)]) (st := [(0, 1), (0, a1), (2, (s10 a0 9))]) (kdA dt_MX10_painOf 96 rfl) cl_MJm_min lk10_93 rfl rfl (Nat.le_of_ble_eq_true rfl) (Ci.mono h (fun x27 s12 h => ?_))
            refine K_cSi (as := [(0, 1), (0, x27)]) (st := [(0, a1), (2, (s10 a0 9))]) (kdA dt_MX10_painOf 97 rfl) cl_MJm_max lk10_82 rfl rfl (Nat.le_of_ble_eq_true rfl) (Ci.mono h (fun x28 s13 h => ?_))
            obtain ⟨c29, h⟩ := h
            obtain ⟨c30, h⟩ := h
            refine K_iastore' (kdA dt_MX10_painOf 98 rfl) c29 c30.1 c30.2 (fun s14 es14 => ?_)
            have h := h s14 es14
            refine K_aload_n 0 (kdA dt_MX10_painOf 99 rfl) rfl rfl ?_
            refine gf10_36 rfl (kdA dt_MX10_painOf 100 rfl) c1 ?_
            refine K_iload_n 1 (kdA dt_MX10_painOf 101 rfl) rfl rfl ?_
            obtain ⟨c31, h⟩ := h
            obtain ⟨c32, h⟩ := h
            refine K_iaload (kdA dt_MX10_painOf 102 rfl) c31 c32.1 c32.2 ?_
            exact K_ireturn (kdA dt_MX10_painOf 103 rfl) rfl ⟨rfl, _, rfl, h⟩
          · have h := h.2 c
            refine K_iconst (kdA dt_MX10_painOf 69 rfl) (by decide) ?_
            refine K_goto (tgt := 110) (kdA dt_MX10_painOf 70 rfl) rfl ?_
            obtain ⟨c19, h⟩ := h
            obtain ⟨c20, h⟩ := h
            refine K_iastore' (kdA dt_MX10_painOf 72 rfl) c19 c20.1 c20.2 (fun s8 es8 => ?_)
            have h := h s8 es8
            refine K_aload_n 0 (kdA dt_MX10_painOf 73 rfl) rfl rfl ?_
            refine gf10_33 rfl (kdA dt_MX10_painOf 74 rfl) c1 ?_
            refine K_bipush (kdA dt_MX10_painOf 75 rfl) (by decide +kernel) ?_
            refine K_aload_n 0 (kdA dt_MX10_painOf 76 rfl) rfl rfl ?_
            refine gf10_59 rfl (kdA dt_MX10_painOf 77 rfl) c1 ?_
            obtain ⟨c21, h⟩ := h
            obtain ⟨c22, h⟩ := h
            refine K_iastore' (kdA dt_MX10_painOf 78 rfl) c21 c22.1 c22.2 (fun s9 es9 => ?_)
            have h := h s9 es9
            refine K_aload_n 0 (kdA dt_MX10_painOf 79 rfl) rfl rfl ?_
            refine gf10_33 rfl (kdA dt_MX10_painOf 80 rfl) c1 ?_
            refine K_bipush (kdA dt_MX10_painOf 81 rfl) (by decide +kernel) ?_
            refine K_iload_n 1 (kdA dt_MX10_painOf 82 rfl) rfl rfl ?_
            refine K_iconst (kdA dt_MX10_painOf 83 rfl) (by decide) ?_
            refine K_iand (kdA dt_MX10_painOf 84 rfl) ?_
            obtain ⟨c23, h⟩ := h
            obtain ⟨c24, h⟩ := h
            refine K_iastore' (kdA dt_MX10_painOf 85 rfl) c23 c24.1 c24.2 (fun s10 es10 => ?_)
            have h := h s10 es10
            refine K_aload_n 0 (kdA dt_MX10_painOf 86 rfl) rfl rfl ?_
            refine gf10_36 rfl (kdA dt_MX10_painOf 87 rfl) c1 ?_
            refine K_iload_n 1 (kdA dt_MX10_painOf 88 rfl) rfl rfl ?_
            refine K_iconst (kdA dt_MX10_painOf 89 rfl) (by decide) ?_
            refine K_sipush (kdA dt_MX10_painOf 90 rfl) (by decide +kernel) ?_
            refine K_aload_n 0 (kdA dt_MX10_painOf 91 rfl) rfl rfl ?_
            refine gf10_55 rfl (kdA dt_MX10_painOf 92 rfl) c1 ?_
            refine K_aload_n 0 (kdA dt_MX10_painOf 93 rfl) rfl rfl ?_
            refine gf10_33 rfl (kdA dt_MX10_painOf 94 rfl) c1 ?_
            obtain ⟨c25, h⟩ := h
            refine K_cVi (c := 3) (as := [(2, (s10 a0 8))]) (st := [(0, 10000), (0, 1), (0, a1), (2, (s10 a0 9))]) (kdA dt_MX10_painOf 95 rfl) rfl cl_MX3_worth lk10_87 rfl rfl (Nat.le_of_ble_eq_true rfl) c25 (Ci.mono h (fun x26 s11 h => ?_))
            refine K_cSi (as := [(0, 10000), (0, x26)]) (st := [(0, 1), (0, a1), (2, (s10 a0 9))]) (kdA dt_MX10_painOf 96 rfl) cl_MJm_min lk10_93 rfl rfl (Nat.le_of_ble_eq_true rfl) (Ci.mono h (fun x27 s12 h => ?_))
            refine K_cSi (as := [(0, 1), (0, x27)]) (st := [(0, a1), (2, (s10 a0 9))]) (kdA dt_MX10_painOf 97 rfl) cl_MJm_max lk10_82 rfl rfl (Nat.le_of_ble_eq_true rfl) (Ci.mono h (fun x28 s13 h => ?_))
            obtain ⟨c29, h⟩ := h
            obtain ⟨c30, h⟩ := h
            refine K_iastore' (kdA dt_MX10_painOf 98 rfl) c29 c30.1 c30.2 (fun s14 es14 => ?_)
            have h := h s14 es14
            refine K_aload_n 0 (kdA dt_MX10_painOf 99 rfl) rfl rfl ?_
            refine gf10_36 rfl (kdA dt_MX10_painOf 100 rfl) c1 ?_
            refine K_iload_n 1 (kdA dt_MX10_painOf 101 rfl) rfl rfl ?_
            obtain ⟨c31, h⟩ := h
            obtain ⟨c32, h⟩ := h
            refine K_iaload (kdA dt_MX10_painOf 102 rfl) c31 c32.1 c32.2 ?_
            exact K_ireturn (kdA dt_MX10_painOf 103 rfl) rfl ⟨rfl, _, rfl, h⟩
      · have h := h.2 c
        refine K_iconst (kdA dt_MX10_painOf 8 rfl) (by decide) ?_
        exact K_ireturn (kdA dt_MX10_painOf 9 rfl) rfl ⟨rfl, _, rfl, h⟩
theorem EX10_painOf {d n : Nat} {Q : Int → kS → Prop} {a0 a1 : Int} {σ : kS} (h : (-2147483648 ≤ a1 ∧ a1 ≤ 2147483647) → kokw n σ → LX10_painOf_0 d n Q a0 a1 σ) : Ci (d + 1) MX10_painOf [(2, a0), (0, a1)] n σ Q := Tri_of (by decide +kernel) (Nat.le_of_ble_eq_true rfl) (fun hk hw => h (hk (0, a1) (List.mem_of_getElem? (i := 1) rfl)) hw)

def LX10_reach_0 (d n : Nat) (Q : kS → Prop) (a0 : Int) (a1 : Int) (a2 : Int) (a3 : Int) (σ : kS) : Prop := K (d + 1) MX10_reach (kPv n Q) (0, 0) 0 [(0, (2, a0)), (1, (0, a1)), (2, (0, a2)), (3, (2, a3))] [] n σ
theorem SX10_reach_0 {d n : Nat} {Q : kS → Prop} {a0 a1 a2 a3 : Int} {σ : kS} (h : isA 20 n a3 ∧ (((0 : Int) ≤ a1 ∧ a1 < klen a3) ∧ ((a2 < (σ a3 a1) → (¬ (σ a3 a1) = 1073741824 → ∀ s1, s1 = kst σ a3 a1 a2 → Q s1) ∧ (¬ (¬ (σ a3 a1) = 1073741824) → isO 10 n a0 ∧ (isA 20 n (σ a0 4) ∧ (((klen (σ a0 4)) ≤ (σ a0 5) → ∀ s1, s1 = kst σ a3 a1 a2 → Q s1) ∧ (¬ (klen (σ a0 4)) ≤ (σ a0 5) → ((0 : Int) ≤ (σ a0 5) ∧ (σ a0 5) < klen (σ a0 4)) ∧ (∀ s1, s1 = kst σ (σ a0 4) (σ a0 5) a1 → (-2147483648 ≤ ((s1 a0 5) + 1) ∧ ((s1 a0 5) + 1) ≤ 2147483647) ∧ (∀ s2, s2 = kst s1 a0 5 ((s1 a0 5) + 1) → ∀ s3, s3 = kst s2 a3 a1 a2 → Q s3))))))) ∧ (¬ a2 < (σ a3 a1) → Q σ)))) : LX10_reach_0 d n Q a0 a1 a2 a3 σ := by
  unfold LX10_reach_0
  refine K_iload_n 2 (kdA dt_MX10_reach 0 rfl) rfl rfl ?_
  refine K_aload_n 3 (kdA dt_MX10_reach 1 rfl) rfl rfl ?_
  refine K_iload_n 1 (kdA dt_MX10_reach 2 rfl) rfl rfl ?_
  obtain ⟨c1, h⟩ := h
  obtain ⟨c2, h⟩ := h
  refine K_iaload (kdA dt_MX10_reach 3 rfl) c1 c2.1 c2.2 ?_
  refine K_icmp_lt (tgt := 8) (kdA dt_MX10_reach 4 rfl) rfl (fun c => ?_) (fun c => ?_)
  · have h := h.1 c
    refine K_aload_n 3 (kdA dt_MX10_reach 6 rfl) rfl rfl ?_
    refine K_iload_n 1 (kdA dt_MX10_reach 7 rfl) rfl rfl ?_
    refine K_iaload (kdA dt_MX10_reach 8 rfl) c1 c2.1 c2.2 ?_
    refine K_ldc (x := 1073741824) (kdA dt_MX10_reach 9 rfl) (tb3 107 rfl rfl) (by decide +kernel) ?_
    refine K_icmp_ne (tgt := 48) (kdA dt_MX10_reach 10 rfl) rfl (fun c => ?_) (fun c => ?_)
    · have h := h.1 c
      refine K_aload_n 3 (kdA dt_MX10_reach 29 rfl) rfl rfl ?_
      refine K_iload_n 1 (kdA dt_MX10_reach 30 rfl) rfl rfl ?_
      refine K_iload_n 2 (kdA dt_MX10_reach 31 rfl) rfl rfl ?_
      refine K_iastore' (kdA dt_MX10_reach 32 rfl) c1 c2.1 c2.2 (fun s1 es1 => ?_)
      have h := h s1 es1
      exact K_return (kdA dt_MX10_reach 33 rfl) rfl ⟨rfl, rfl, h⟩
    · have h := h.2 c
      refine K_aload_n 0 (kdA dt_MX10_reach 11 rfl) rfl rfl ?_
      obtain ⟨c3, h⟩ := h
      refine gf10_105 rfl (kdA dt_MX10_reach 12 rfl) c3 ?_
      refine K_aload_n 0 (kdA dt_MX10_reach 13 rfl) rfl rfl ?_
      refine gf10_24 rfl (kdA dt_MX10_reach 14 rfl) c3 ?_
      obtain ⟨c4, h⟩ := h
      refine K_alen (kdA dt_MX10_reach 15 rfl) (by decide) c4 ?_
      refine K_icmp_ge (tgt := 48) (kdA dt_MX10_reach 16 rfl) rfl (fun c => ?_) (fun c => ?_)
      · have h := h.1 c
        refine K_aload_n 3 (kdA dt_MX10_reach 29 rfl) rfl rfl ?_
        refine K_iload_n 1 (kdA dt_MX10_reach 30 rfl) rfl rfl ?_
        refine K_iload_n 2 (kdA dt_MX10_reach 31 rfl) rfl rfl ?_
        refine K_iastore' (kdA dt_MX10_reach 32 rfl) c1 c2.1 c2.2 (fun s1 es1 => ?_)
        have h := h s1 es1
        exact K_return (kdA dt_MX10_reach 33 rfl) rfl ⟨rfl, rfl, h⟩
      · have h := h.2 c
        refine K_aload_n 0 (kdA dt_MX10_reach 17 rfl) rfl rfl ?_
        refine gf10_24 rfl (kdA dt_MX10_reach 18 rfl) c3 ?_
        refine K_aload_n 0 (kdA dt_MX10_reach 19 rfl) rfl rfl ?_
        refine gf10_105 rfl (kdA dt_MX10_reach 20 rfl) c3 ?_
        refine K_iload_n 1 (kdA dt_MX10_reach 21 rfl) rfl rfl ?_
        obtain ⟨c5, h⟩ := h
        refine K_iastore' (kdA dt_MX10_reach 22 rfl) c4 c5.1 c5.2 (fun s1 es1 => ?_)
        have h := h s1 es1
        refine K_aload_n 0 (kdA dt_MX10_reach 23 rfl) rfl rfl ?_
        refine K_dup (kdA dt_MX10_reach 24 rfl) rfl ?_
        refine gf10_105 rfl (kdA dt_MX10_reach 25 rfl) c3 ?_
        refine K_iconst (kdA dt_MX10_reach 26 rfl) (by decide) ?_
        obtain ⟨c6, h⟩ := h
        refine K_iadd (kdA dt_MX10_reach 27 rfl) c6 ?_
        refine pf10_105 rfl (kdA dt_MX10_reach 28 rfl) c3 (fun s2 es2 => ?_)
        have h := h s2 es2
        refine K_aload_n 3 (kdA dt_MX10_reach 29 rfl) rfl rfl ?_
        refine K_iload_n 1 (kdA dt_MX10_reach 30 rfl) rfl rfl ?_
        refine K_iload_n 2 (kdA dt_MX10_reach 31 rfl) rfl rfl ?_
        refine K_iastore' (kdA dt_MX10_reach 32 rfl) c1 c2.1 c2.2 (fun s3 es3 => ?_)
        have h := h s3 es3
        exact K_return (kdA dt_MX10_reach 33 rfl) rfl ⟨rfl, rfl, h⟩
  · have h := h.2 c
    exact K_return (kdA dt_MX10_reach 5 rfl) rfl ⟨rfl, rfl, h⟩
theorem EX10_reach {d n : Nat} {Q : kS → Prop} {a0 a1 a2 a3 : Int} {σ : kS} (h : (-2147483648 ≤ a1 ∧ a1 ≤ 2147483647) → (-2147483648 ≤ a2 ∧ a2 ≤ 2147483647) → kokw n σ → LX10_reach_0 d n Q a0 a1 a2 a3 σ) : Cv (d + 1) MX10_reach [(2, a0), (0, a1), (0, a2), (2, a3)] n σ Q := Tri_of (by decide +kernel) (Nat.le_of_ble_eq_true rfl) (fun hk hw => h (hk (0, a1) (List.mem_of_getElem? (i := 1) rfl)) (hk (0, a2) (List.mem_of_getElem? (i := 2) rfl)) hw)

def LX10_spread_0 (d n : Nat) (Q : kS → Prop) (a0 : Int) (a1 : Int) (a2 : Int) (a3 : Int) (σ : kS) : Prop := K (d + 1) MX10_spread (kPv n Q) (0, 0) 0 [(0, (2, a0)), (1, (0, a1)), (2, (0, a2)), (3, (2, a3))] [] n σ
def LX10_spread_33 (d n : Nat) (Q : kS → Prop) (a0 : Int) (a2 : Int) (a3 : Int) (a4 : Int) (σ : kS) : Prop := K (d + 1) MX10_spread (kPv n Q) (0, 0) 33 [(0, (2, a0)), (2, (0, a2)), (3, (2, a3)), (4, (0, a4))] [] n σ
def LX10_spread_57 (d n : Nat) (Q : kS → Prop) (a0 : Int) (a2 : Int) (a3 : Int) (a4 : Int) (a5 : Int) (a6 : Int) (σ : kS) : Prop := K (d + 1) MX10_spread (kPv n Q) (0, 0) 57 [(0, (2, a0)), (2, (0, a2)), (3, (2, a3)), (4, (0, a4)), (5, (0, a5)), (6, (0, a6))] [] n σ
theorem SX10_spread_0 {d n : Nat} {Q : kS → Prop} {a0 a1 a2 a3 : Int} {σ : kS} (h : Ci d MX11_isCell [(0, a1)] n σ (fun x1 s1 => (¬ x1 = 0 → Cv d MJm_fill [(2, a3), (0, 1073741824)] n s1 (fun s2 => isA 20 n a3 ∧ (((0 : Int) ≤ a1 ∧ a1 < klen a3) ∧ (∀ s3, s3 = kst s2 a3 a1 0 → isO 10 n a0 ∧ (isA 20 n (s3 a0 4) ∧ (((0 : Int) ≤ 0 ∧ 0 < klen (s3 a0 4)) ∧ (∀ s4, s4 = kst s3 (s3 a0 4) 0 a1 → ∀ s5, s5 = kst s4 a0 5 1 → LX10_spread_33 d n Q a0 a2 a3 0 s5))))))) ∧ (¬ (¬ x1 = 0) → Q s1))) : LX10_spread_0 d n Q a0 a1 a2 a3 σ := by
  unfold LX10_spread_0
  refine K_iload_n 1 (kdA dt_MX10_spread 0 rfl) rfl rfl ?_
  refine K_cSi (as := [(0, a1)]) (st := []) (kdA dt_MX10_spread 1 rfl) cl_MX11_isCell lk10_100 rfl rfl (Nat.le_of_ble_eq_true rfl) (Ci.mono h (fun x1 s1 h => ?_))
  refine K_if_ne (tgt := 8) (kdA dt_MX10_spread 2 rfl) rfl (fun c => ?_) (fun c => ?_)
  · have h := h.1 c
    refine K_aload_n 3 (kdA dt_MX10_spread 4 rfl) rfl rfl ?_
    refine K_ldc (x := 1073741824) (kdA dt_MX10_spread 5 rfl) (tb3 107 rfl rfl) (by decide +kernel) ?_
    refine K_cSv (as := [(2, a3), (0, 1073741824)]) (st := []) (kdA dt_MX10_spread 6 rfl) cl_MJm_fill lk10_67 rfl rfl (Nat.le_of_ble_eq_true rfl) (Cv.mono h (fun s2 h => ?_))
    refine K_aload_n 3 (kdA dt_MX10_spread 7 rfl) rfl rfl ?_
    refine K_iload_n 1 (kdA dt_MX10_spread 8 rfl) rfl rfl ?_
    refine K_iconst (kdA dt_MX10_spread 9 rfl) (by decide) ?_
    obtain ⟨c3, h⟩ := h
    obtain ⟨c4, h⟩ := h
    refine K_iastore' (kdA dt_MX10_spread 10 rfl) c3 c4.1 c4.2 (fun s3 es3 => ?_)
    have h := h s3 es3
    refine K_aload_n 0 (kdA dt_MX10_spread 11 rfl) rfl rfl ?_
    obtain ⟨c5, h⟩ := h
    refine gf10_24 rfl (kdA dt_MX10_spread 12 rfl) c5 ?_
    refine K_iconst (kdA dt_MX10_spread 13 rfl) (by decide) ?_
    refine K_iload_n 1 (kdA dt_MX10_spread 14 rfl) rfl rfl ?_
    obtain ⟨c6, h⟩ := h
    obtain ⟨c7, h⟩ := h
    refine K_iastore' (kdA dt_MX10_spread 15 rfl) c6 c7.1 c7.2 (fun s4 es4 => ?_)
    have h := h s4 es4
    refine K_aload_n 0 (kdA dt_MX10_spread 16 rfl) rfl rfl ?_
    refine K_iconst (kdA dt_MX10_spread 17 rfl) (by decide) ?_
    refine pf10_105 rfl (kdA dt_MX10_spread 18 rfl) c5 (fun s5 es5 => ?_)
    have h := h s5 es5
    refine K_iconst (kdA dt_MX10_spread 19 rfl) (by decide) ?_
    refine K_istore (ls' := [(0, (2, a0)), (1, (0, a1)), (2, (0, a2)), (3, (2, a3)), (4, (0, 0))]) (kdA dt_MX10_spread 20 rfl) (by decide) rfl ?_
    refine K_pick [0, 2, 3, 4] (ls' := [(0, (2, a0)), (2, (0, a2)), (3, (2, a3)), (4, (0, 0))]) rfl ?_
    exact h
  · have h := h.2 c
    exact K_return (kdA dt_MX10_spread 3 rfl) rfl ⟨rfl, rfl, h⟩
theorem SX10_spread_33 {d n : Nat} {Q : kS → Prop} {a0 a2 a3 a4 : Int} {σ : kS} (h : (120 ≤ a4 → Q σ) ∧ (¬ 120 ≤ a4 → isO 10 n a0 ∧ (((σ a0 5) ≤ 0 → Q σ) ∧ (¬ (σ a0 5) ≤ 0 → Ci d MX10_takeLeast [(2, a0), (2, a3)] n σ (fun x2 s1 => LX10_spread_57 d n Q a0 a2 a3 a4 x2 0 s1))))) : LX10_spread_33 d n Q a0 a2 a3 a4 σ := by
  unfold LX10_spread_33
  refine K_iload 3 (kdA dt_MX10_spread 21 rfl) rfl ?_
  refine K_bipush (kdA dt_MX10_spread 22 rfl) (by decide +kernel) ?_
  refine K_icmp_ge (tgt := 152) (kdA dt_MX10_spread 23 rfl) rfl (fun c => ?_) (fun c => ?_)
  · have h := h.1 c
    exact K_return (kdA dt_MX10_spread 84 rfl) rfl ⟨rfl, rfl, h⟩
  · have h := h.2 c
    refine K_aload_n 0 (kdA dt_MX10_spread 24 rfl) rfl rfl ?_
    obtain ⟨c1, h⟩ := h
    refine gf10_105 rfl (kdA dt_MX10_spread 25 rfl) c1 ?_
    refine K_if_le (tgt := 152) (kdA dt_MX10_spread 26 rfl) rfl (fun c => ?_) (fun c => ?_)
    · have h := h.1 c
      exact K_return (kdA dt_MX10_spread 84 rfl) rfl ⟨rfl, rfl, h⟩
    · have h := h.2 c
      refine K_aload_n 0 (kdA dt_MX10_spread 27 rfl) rfl rfl ?_
      refine K_aload_n 2 (kdA dt_MX10_spread 28 rfl) rfl rfl ?_
      refine K_cVi (c := 10) (as := [(2, a3)]) (st := []) (kdA dt_MX10_spread 29 rfl) rfl cl_MX10_takeLeast lk10_108 rfl rfl (Nat.le_of_ble_eq_true rfl) c1 (Ci.mono h (fun x2 s1 h => ?_))
      refine K_istore (ls' := [(0, (2, a0)), (2, (0, a2)), (3, (2, a3)), (4, (0, a4)), (5, (0, x2))]) (kdA dt_MX10_spread 30 rfl) (by decide) rfl ?_
      refine K_iconst (kdA dt_MX10_spread 31 rfl) (by decide) ?_
      refine K_istore (ls' := [(0, (2, a0)), (2, (0, a2)), (3, (2, a3)), (4, (0, a4)), (5, (0, x2)), (6, (0, 0))]) (kdA dt_MX10_spread 32 rfl) (by decide) rfl ?_
      exact h
theorem SX10_spread_57 {d n : Nat} {Q : kS → Prop} {a0 a2 a3 a4 a5 a6 : Int} {σ : kS} (h : (8 ≤ a6 → (-2147483648 ≤ (a4 + 1) ∧ (a4 + 1) ≤ 2147483647) ∧ (LX10_spread_33 d n Q a0 a2 a3 (a4 + 1) σ)) ∧ (¬ 8 ≤ a6 → isO 10 n a0 ∧ ((-2147483648 ≤ (a5 * 8) ∧ (a5 * 8) ≤ 2147483647) ∧ ((a2 = 0 → (-2147483648 ≤ ((a5 * 8) + a6) ∧ ((a5 * 8) + a6) ≤ 2147483647) ∧ (isA 20 n (σ a0 0) ∧ (((0 : Int) ≤ ((a5 * 8) + a6) ∧ ((a5 * 8) + a6) < klen (σ a0 0)) ∧ (((σ (σ a0 0) ((a5 * 8) + a6)) = (-1) → (-2147483648 ≤ (a6 + 1) ∧ (a6 + 1) ≤ 2147483647) ∧ (LX10_spread_57 d n Q a0 a2 a3 a4 a5 (a6 + 1) σ)) ∧ (¬ (σ (σ a0 0) ((a5 * 8) + a6)) = (-1) → (a2 = 0 → isA 20 n a3 ∧ (((0 : Int) ≤ a5 ∧ a5 < klen a3) ∧ (isA 20 n (σ a0 1) ∧ (((0 : Int) ≤ ((a5 * 8) + a6) ∧ ((a5 * 8) + a6) < klen (σ a0 1)) ∧ ((-2147483648 ≤ ((σ (σ a0 1) ((a5 * 8) + a6)) * 128) ∧ ((σ (σ a0 1) ((a5 * 8) + a6)) * 128) ≤ 2147483647) ∧ ((-2147483648 ≤ ((σ a3 a5) + ((σ (σ a0 1) ((a5 * 8) + a6)) * 128)) ∧ ((σ a3 a5) + ((σ (σ a0 1) ((a5 * 8) + a6)) * 128)) ≤ 2147483647) ∧ ((-2147483648 ≤ (((σ a3 a5) + ((σ (σ a0 1) ((a5 * 8) + a6)) * 128)) + 1) ∧ (((σ a3 a5) + ((σ (σ a0 1) ((a5 * 8) + a6)) * 128)) + 1) ≤ 2147483647) ∧ (Cv d MX10_reach [(2, a0), (0, (σ (σ a0 0) ((a5 * 8) + a6))), (0, (((σ a3 a5) + ((σ (σ a0 1) ((a5 * 8) + a6)) * 128)) + 1)), (2, a3)] n σ (fun s1 => (-2147483648 ≤ (a6 + 1) ∧ (a6 + 1) ≤ 2147483647) ∧ (LX10_spread_57 d n Q a0 a2 a3 a4 a5 (a6 + 1) s1)))))))))) ∧ (¬ a2 = 0 → (-2147483648 ≤ ((σ (σ a0 0) ((a5 * 8) + a6)) * 8) ∧ ((σ (σ a0 0) ((a5 * 8) + a6)) * 8) ≤ 2147483647) ∧ ((-2147483648 ≤ (((σ (σ a0 0) ((a5 * 8) + a6)) * 8) + a6) ∧ (((σ (σ a0 0) ((a5 * 8) + a6)) * 8) + a6) ≤ 2147483647) ∧ (isA 20 n a3 ∧ (((0 : Int) ≤ a5 ∧ a5 < klen a3) ∧ (isA 20 n (σ a0 1) ∧ (((0 : Int) ≤ (((σ (σ a0 0) ((a5 * 8) + a6)) * 8) + a6) ∧ (((σ (σ a0 0) ((a5 * 8) + a6)) * 8) + a6) < klen (σ a0 1)) ∧ ((-2147483648 ≤ ((σ (σ a0 1) (((σ (σ a0 0) ((a5 * 8) + a6)) * 8) + a6)) * 128) ∧ ((σ (σ a0 1) (((σ (σ a0 0) ((a5 * 8) + a6)) * 8) + a6)) * 128) ≤ 2147483647) ∧ ((-2147483648 ≤ ((σ a3 a5) + ((σ (σ a0 1) (((σ (σ a0 0) ((a5 * 8) + a6)) * 8) + a6)) * 128)) ∧ ((σ a3 a5) + ((σ (σ a0 1) (((σ (σ a0 0) ((a5 * 8) + a6)) * 8) + a6)) * 128)) ≤ 2147483647) ∧ ((-2147483648 ≤ (((σ a3 a5) + ((σ (σ a0 1) (((σ (σ a0 0) ((a5 * 8) + a6)) * 8) + a6)) * 128)) + 1) ∧ (((σ a3 a5) + ((σ (σ a0 1) (((σ (σ a0 0) ((a5 * 8) + a6)) * 8) + a6)) * 128)) + 1) ≤ 2147483647) ∧ (Cv d MX10_reach [(2, a0), (0, (σ (σ a0 0) ((a5 * 8) + a6))), (0, (((σ a3 a5) + ((σ (σ a0 1) (((σ (σ a0 0) ((a5 * 8) + a6)) * 8) + a6)) * 128)) + 1)), (2, a3)] n σ (fun s1 => (-2147483648 ≤ (a6 + 1) ∧ (a6 + 1) ≤ 2147483647) ∧ (LX10_spread_57 d n Q a0 a2 a3 a4 a5 (a6 + 1) s1))))))))))))))))) ∧ (¬ a2 = 0 → (-2147483648 ≤ ((a5 * 8) + (kxor a6 4)) ∧ ((a5 * 8) + (kxor a6 4)) ≤ 2147483647) ∧ (isA 20 n (σ a0 0) ∧ (((0 : Int) ≤ ((a5 * 8) + (kxor a6 4)) ∧ ((a5 * 8) + (kxor a6 4)) < klen (σ a0 0)) ∧ (((σ (σ a0 0) ((a5 * 8) + (kxor a6 4))) = (-1) → (-2147483648 ≤ (a6 + 1) ∧ (a6 + 1) ≤ 2147483647) ∧ (LX10_spread_57 d n Q a0 a2 a3 a4 a5 (a6 + 1) σ)) ∧ (¬ (σ (σ a0 0) ((a5 * 8) + (kxor a6 4))) = (-1) → (a2 = 0 → (-2147483648 ≤ ((a5 * 8) + a6) ∧ ((a5 * 8) + a6) ≤ 2147483647) ∧ (isA 20 n a3 ∧ (((0 : Int) ≤ a5 ∧ a5 < klen a3) ∧ (isA 20 n (σ a0 1) ∧ (((0 : Int) ≤ ((a5 * 8) + a6) ∧ ((a5 * 8) + a6) < klen (σ a0 1)) ∧ ((-2147483648 ≤ ((σ (σ a0 1) ((a5 * 8) + a6)) * 128) ∧ ((σ (σ a0 1) ((a5 * 8) + a6)) * 128) ≤ 2147483647) ∧ ((-2147483648 ≤ ((σ a3 a5) + ((σ (σ a0 1) ((a5 * 8) + a6)) * 128)) ∧ ((σ a3 a5) + ((σ (σ a0 1) ((a5 * 8) + a6)) * 128)) ≤ 2147483647) ∧ ((-2147483648 ≤ (((σ a3 a5) + ((σ (σ a0 1) ((a5 * 8) + a6)) * 128)) + 1) ∧ (((σ a3 a5) + ((σ (σ a0 1) ((a5 * 8) + a6)) * 128)) + 1) ≤ 2147483647) ∧ (Cv d MX10_reach [(2, a0), (0, (σ (σ a0 0) ((a5 * 8) + (kxor a6 4)))), (0, (((σ a3 a5) + ((σ (σ a0 1) ((a5 * 8) + a6)) * 128)) + 1)), (2, a3)] n σ (fun s1 => (-2147483648 ≤ (a6 + 1) ∧ (a6 + 1) ≤ 2147483647) ∧ (LX10_spread_57 d n Q a0 a2 a3 a4 a5 (a6 + 1) s1))))))))))) ∧ (¬ a2 = 0 → (-2147483648 ≤ ((σ (σ a0 0) ((a5 * 8) + (kxor a6 4))) * 8) ∧ ((σ (σ a0 0) ((a5 * 8) + (kxor a6 4))) * 8) ≤ 2147483647) ∧ ((-2147483648 ≤ (((σ (σ a0 0) ((a5 * 8) + (kxor a6 4))) * 8) + a6) ∧ (((σ (σ a0 0) ((a5 * 8) + (kxor a6 4))) * 8) + a6) ≤ 2147483647) ∧ (isA 20 n a3 ∧ (((0 : Int) ≤ a5 ∧ a5 < klen a3) ∧ (isA 20 n (σ a0 1) ∧ (((0 : Int) ≤ (((σ (σ a0 0) ((a5 * 8) + (kxor a6 4))) * 8) + a6) ∧ (((σ (σ a0 0) ((a5 * 8) + (kxor a6 4))) * 8) + a6) < klen (σ a0 1)) ∧ ((-2147483648 ≤ ((σ (σ a0 1) (((σ (σ a0 0) ((a5 * 8) + (kxor a6 4))) * 8) + a6)) * 128) ∧ ((σ (σ a0 1) (((σ (σ a0 0) ((a5 * 8) + (kxor a6 4))) * 8) + a6)) * 128) ≤ 2147483647) ∧ ((-2147483648 ≤ ((σ a3 a5) + ((σ (σ a0 1) (((σ (σ a0 0) ((a5 * 8) + (kxor a6 4))) * 8) + a6)) * 128)) ∧ ((σ a3 a5) + ((σ (σ a0 1) (((σ (σ a0 0) ((a5 * 8) + (kxor a6 4))) * 8) + a6)) * 128)) ≤ 2147483647) ∧ ((-2147483648 ≤ (((σ a3 a5) + ((σ (σ a0 1) (((σ (σ a0 0) ((a5 * 8) + (kxor a6 4))) * 8) + a6)) * 128)) + 1) ∧ (((σ a3 a5) + ((σ (σ a0 1) (((σ (σ a0 0) ((a5 * 8) + (kxor a6 4))) * 8) + a6)) * 128)) + 1) ≤ 2147483647) ∧ (Cv d MX10_reach [(2, a0), (0, (σ (σ a0 0) ((a5 * 8) + (kxor a6 4)))), (0, (((σ a3 a5) + ((σ (σ a0 1) (((σ (σ a0 0) ((a5 * 8) + (kxor a6 4))) * 8) + a6)) * 128)) + 1)), (2, a3)] n σ (fun s1 => (-2147483648 ≤ (a6 + 1) ∧ (a6 + 1) ≤ 2147483647) ∧ (LX10_spread_57 d n Q a0 a2 a3 a4 a5 (a6 + 1) s1))))))))))))))))))))) : LX10_spread_57 d n Q a0 a2 a3 a4 a5 a6 σ := by
  unfold LX10_spread_57
  refine K_iload 5 (kdA dt_MX10_spread 33 rfl) rfl ?_
  refine K_bipush (kdA dt_MX10_spread 34 rfl) (by decide +kernel) ?_
  refine K_icmp_ge (tgt := 146) (kdA dt_MX10_spread 35 rfl) rfl (fun c => ?_) (fun c => ?_)
  · have h := h.1 c
    obtain ⟨c1, h⟩ := h
    refine K_iinc (ls' := [(0, (2, a0)), (2, (0, a2)), (3, (2, a3)), (4, (0, (a4 + 1))), (5, (0, a5)), (6, (0, a6))]) 3 (kdA dt_MX10_spread 82 rfl) rfl c1 (by decide) rfl ?_
    refine K_goto (tgt := 33) (kdA dt_MX10_spread 83 rfl) rfl ?_
    refine K_pick [0, 1, 2, 3] (ls' := [(0, (2, a0)), (2, (0, a2)), (3, (2, a3)), (4, (0, (a4 + 1)))]) rfl ?_
    exact h
  · have h := h.2 c
    refine K_aload_n 0 (kdA dt_MX10_spread 36 rfl) rfl rfl ?_
    obtain ⟨c1, h⟩ := h
    refine gf10_9 rfl (kdA dt_MX10_spread 37 rfl) c1 ?_
    refine K_iload 4 (kdA dt_MX10_spread 38 rfl) rfl ?_
    refine K_bipush (kdA dt_MX10_spread 39 rfl) (by decide +kernel) ?_
    obtain ⟨c2, h⟩ := h
    refine K_imul (kdA dt_MX10_spread 40 rfl) c2 ?_
    refine K_iload_n 1 (kdA dt_MX10_spread 41 rfl) rfl rfl ?_
    refine K_if_eq (tgt := 84) (kdA dt_MX10_spread 42 rfl) rfl (fun c => ?_) (fun c => ?_)
    · have h := h.1 c
      refine K_iload 5 (kdA dt_MX10_spread 47 rfl) rfl ?_
      obtain ⟨c3, h⟩ := h
      refine K_iadd (kdA dt_MX10_spread 48 rfl) c3 ?_
      obtain ⟨c4, h⟩ := h
      obtain ⟨c5, h⟩ := h
      refine K_iaload (kdA dt_MX10_spread 49 rfl) c4 c5.1 c5.2 ?_
      refine K_istore (ls' := [(0, (2, a0)), (2, (0, a2)), (3, (2, a3)), (4, (0, a4)), (5, (0, a5)), (6, (0, a6)), (7, (0, (σ (σ a0 0) ((a5 * 8) + a6))))]) (kdA dt_MX10_spread 50 rfl) (by decide) rfl ?_
      refine K_iload 6 (kdA dt_MX10_spread 51 rfl) rfl ?_
      refine K_iconst (kdA dt_MX10_spread 52 rfl) (by decide) ?_
      refine K_icmp_eq (tgt := 140) (kdA dt_MX10_spread 53 rfl) rfl (fun c => ?_) (fun c => ?_)
      · have h := h.1 c
        obtain ⟨c6, h⟩ := h
        refine K_iinc (ls' := [(0, (2, a0)), (2, (0, a2)), (3, (2, a3)), (4, (0, a4)), (5, (0, a5)), (6, (0, (a6 + 1))), (7, (0, (σ (σ a0 0) ((a5 * 8) + a6))))]) 5 (kdA dt_MX10_spread 80 rfl) rfl c6 (by decide) rfl ?_
        refine K_goto (tgt := 57) (kdA dt_MX10_spread 81 rfl) rfl ?_
        refine K_pick [0, 1, 2, 3, 4, 5] (ls' := [(0, (2, a0)), (2, (0, a2)), (3, (2, a3)), (4, (0, a4)), (5, (0, a5)), (6, (0, (a6 + 1)))]) rfl ?_
        exact h
      · have h := h.2 c
        refine K_iload_n 1 (kdA dt_MX10_spread 54 rfl) rfl rfl ?_
        refine K_if_eq (tgt := 105) (kdA dt_MX10_spread 55 rfl) rfl (fun c => ?_) (fun c => ?_)
        · have h := h.1 c
          refine K_iload 4 (kdA dt_MX10_spread 58 rfl) rfl ?_
          refine K_bipush (kdA dt_MX10_spread 59 rfl) (by decide +kernel) ?_
          refine K_imul (kdA dt_MX10_spread 60 rfl) c2 ?_
          refine K_iload 5 (kdA dt_MX10_spread 61 rfl) rfl ?_
          refine K_iadd (kdA dt_MX10_spread 62 rfl) c3 ?_
          refine K_istore (ls' := [(0, (2, a0)), (2, (0, a2)), (3, (2, a3)), (4, (0, a4)), (5, (0, a5)), (6, (0, a6)), (7, (0, (σ (σ a0 0) ((a5 * 8) + a6)))), (8, (0, ((a5 * 8) + a6)))]) (kdA dt_MX10_spread 63 rfl) (by decide) rfl ?_
          refine K_aload_n 0 (kdA dt_MX10_spread 64 rfl) rfl rfl ?_
          refine K_iload 6 (kdA dt_MX10_spread 65 rfl) rfl ?_
          refine K_aload_n 2 (kdA dt_MX10_spread 66 rfl) rfl rfl ?_
          refine K_iload 4 (kdA dt_MX10_spread 67 rfl) rfl ?_
          obtain ⟨c6, h⟩ := h
          obtain ⟨c7, h⟩ := h
          refine K_iaload (kdA dt_MX10_spread 68 rfl) c6 c7.1 c7.2 ?_
          refine K_aload_n 0 (kdA dt_MX10_spread 69 rfl) rfl rfl ?_
          refine gf10_15 rfl (kdA dt_MX10_spread 70 rfl) c1 ?_
          refine K_iload 7 (kdA dt_MX10_spread 71 rfl) rfl ?_
          obtain ⟨c8, h⟩ := h
          obtain ⟨c9, h⟩ := h
          refine K_iaload (kdA dt_MX10_spread 72 rfl) c8 c9.1 c9.2 ?_
          refine K_sipush (kdA dt_MX10_spread 73 rfl) (by decide +kernel) ?_
          obtain ⟨c10, h⟩ := h
          refine K_imul (kdA dt_MX10_spread 74 rfl) c10 ?_
          obtain ⟨c11, h⟩ := h
          refine K_iadd (kdA dt_MX10_spread 75 rfl) c11 ?_
          refine K_iconst (kdA dt_MX10_spread 76 rfl) (by decide) ?_
          obtain ⟨c12, h⟩ := h
          refine K_iadd (kdA dt_MX10_spread 77 rfl) c12 ?_
          refine K_aload_n 2 (kdA dt_MX10_spread 78 rfl) rfl rfl ?_
          refine K_cVv (c := 10) (as := [(0, (σ (σ a0 0) ((a5 * 8) + a6))), (0, (((σ a3 a5) + ((σ (σ a0 1) ((a5 * 8) + a6)) * 128)) + 1)), (2, a3)]) (st := []) (kdA dt_MX10_spread 79 rfl) rfl cl_MX10_reach lk10_111 rfl rfl (Nat.le_of_ble_eq_true rfl) c1 (Cv.mono h (fun s1 h => ?_))
          obtain ⟨c14, h⟩ := h
          refine K_iinc (ls' := [(0, (2, a0)), (2, (0, a2)), (3, (2, a3)), (4, (0, a4)), (5, (0, a5)), (6, (0, (a6 + 1))), (7, (0, (σ (σ a0 0) ((a5 * 8) + a6)))), (8, (0, ((a5 * 8) + a6)))]) 5 (kdA dt_MX10_spread 80 rfl) rfl c14 (by decide) rfl ?_
          refine K_goto (tgt := 57) (kdA dt_MX10_spread 81 rfl) rfl ?_
          refine K_pick [0, 1, 2, 3, 4, 5] (ls' := [(0, (2, a0)), (2, (0, a2)), (3, (2, a3)), (4, (0, a4)), (5, (0, a5)), (6, (0, (a6 + 1)))]) rfl ?_
          exact h
        · have h := h.2 c
          refine K_iload 6 (kdA dt_MX10_spread 56 rfl) rfl ?_
          refine K_goto (tgt := 107) (kdA dt_MX10_spread 57 rfl) rfl ?_
          refine K_bipush (kdA dt_MX10_spread 59 rfl) (by decide +kernel) ?_
          obtain ⟨c6, h⟩ := h
          refine K_imul (kdA dt_MX10_spread 60 rfl) c6 ?_
          refine K_iload 5 (kdA dt_MX10_spread 61 rfl) rfl ?_
          obtain ⟨c7, h⟩ := h
          refine K_iadd (kdA dt_MX10_spread 62 rfl) c7 ?_
          refine K_istore (ls' := [(0, (2, a0)), (2, (0, a2)), (3, (2, a3)), (4, (0, a4)), (5, (0, a5)), (6, (0, a6)), (7, (0, (σ (σ a0 0) ((a5 * 8) + a6)))), (8, (0, (((σ (σ a0 0) ((a5 * 8) + a6)) * 8) + a6)))]) (kdA dt_MX10_spread 63 rfl) (by decide) rfl ?_
          refine K_aload_n 0 (kdA dt_MX10_spread 64 rfl) rfl rfl ?_
          refine K_iload 6 (kdA dt_MX10_spread 65 rfl) rfl ?_
          refine K_aload_n 2 (kdA dt_MX10_spread 66 rfl) rfl rfl ?_
          refine K_iload 4 (kdA dt_MX10_spread 67 rfl) rfl ?_
          obtain ⟨c8, h⟩ := h
          obtain ⟨c9, h⟩ := h
          refine K_iaload (kdA dt_MX10_spread 68 rfl) c8 c9.1 c9.2 ?_
          refine K_aload_n 0 (kdA dt_MX10_spread 69 rfl) rfl rfl ?_
          refine gf10_15 rfl (kdA dt_MX10_spread 70 rfl) c1 ?_
          refine K_iload 7 (kdA dt_MX10_spread 71 rfl) rfl ?_
          obtain ⟨c10, h⟩ := h
          obtain ⟨c11, h⟩ := h
          refine K_iaload (kdA dt_MX10_spread 72 rfl) c10 c11.1 c11.2 ?_
          refine K_sipush (kdA dt_MX10_spread 73 rfl) (by decide +kernel) ?_
          obtain ⟨c12, h⟩ := h
          refine K_imul (kdA dt_MX10_spread 74 rfl) c12 ?_
          obtain ⟨c13, h⟩ := h
          refine K_iadd (kdA dt_MX10_spread 75 rfl) c13 ?_
          refine K_iconst (kdA dt_MX10_spread 76 rfl) (by decide) ?_
          obtain ⟨c14, h⟩ := h
          refine K_iadd (kdA dt_MX10_spread 77 rfl) c14 ?_
          refine K_aload_n 2 (kdA dt_MX10_spread 78 rfl) rfl rfl ?_
          refine K_cVv (c := 10) (as := [(0, (σ (σ a0 0) ((a5 * 8) + a6))), (0, (((σ a3 a5) + ((σ (σ a0 1) (((σ (σ a0 0) ((a5 * 8) + a6)) * 8) + a6)) * 128)) + 1)), (2, a3)]) (st := []) (kdA dt_MX10_spread 79 rfl) rfl cl_MX10_reach lk10_111 rfl rfl (Nat.le_of_ble_eq_true rfl) c1 (Cv.mono h (fun s1 h => ?_))
          obtain ⟨c16, h⟩ := h
          refine K_iinc (ls' := [(0, (2, a0)), (2, (0, a2)), (3, (2, a3)), (4, (0, a4)), (5, (0, a5)), (6, (0, (a6 + 1))), (7, (0, (σ (σ a0 0) ((a5 * 8) + a6)))), (8, (0, (((σ (σ a0 0) ((a5 * 8) + a6)) * 8) + a6)))]) 5 (kdA dt_MX10_spread 80 rfl) rfl c16 (by decide) rfl ?_
          refine K_goto (tgt := 57) (kdA dt_MX10_spread 81 rfl) rfl ?_
          refine K_pick [0, 1, 2, 3, 4, 5] (ls' := [(0, (2, a0)), (2, (0, a2)), (3, (2, a3)), (4, (0, a4)), (5, (0, a5)), (6, (0, (a6 + 1)))]) rfl ?_
          exact h
    · have h := h.2 c
      refine K_iload 5 (kdA dt_MX10_spread 43 rfl) rfl ?_
      refine K_iconst (kdA dt_MX10_spread 44 rfl) (by decide) ?_
      refine K_ixor (kdA dt_MX10_spread 45 rfl) ?_
      refine K_goto (tgt := 86) (kdA dt_MX10_spread 46 rfl) rfl ?_
      obtain ⟨c3, h⟩ := h
      refine K_iadd (kdA dt_MX10_spread 48 rfl) c3 ?_
      obtain ⟨c4, h⟩ := h
      obtain ⟨c5, h⟩ := h
      refine K_iaload (kdA dt_MX10_spread 49 rfl) c4 c5.1 c5.2 ?_
      refine K_istore (ls' := [(0, (2, a0)), (2, (0, a2)), (3, (2, a3)), (4, (0, a4)), (5, (0, a5)), (6, (0, a6)), (7, (0, (σ (σ a0 0) ((a5 * 8) + (kxor a6 4)))))]) (kdA dt_MX10_spread 50 rfl) (by decide) rfl ?_
      refine K_iload 6 (kdA dt_MX10_spread 51 rfl) rfl ?_
      refine K_iconst (kdA dt_MX10_spread 52 rfl) (by decide) ?_
      refine K_icmp_eq (tgt := 140) (kdA dt_MX10_spread 53 rfl) rfl (fun c => ?_) (fun c => ?_)
      · have h := h.1 c
        obtain ⟨c6, h⟩ := h
        refine K_iinc (ls' := [(0, (2, a0)), (2, (0, a2)), (3, (2, a3)), (4, (0, a4)), (5, (0, a5)), (6, (0, (a6 + 1))), (7, (0, (σ (σ a0 0) ((a5 * 8) + (kxor a6 4)))))]) 5 (kdA dt_MX10_spread 80 rfl) rfl c6 (by decide) rfl ?_
        refine K_goto (tgt := 57) (kdA dt_MX10_spread 81 rfl) rfl ?_
        refine K_pick [0, 1, 2, 3, 4, 5] (ls' := [(0, (2, a0)), (2, (0, a2)), (3, (2, a3)), (4, (0, a4)), (5, (0, a5)), (6, (0, (a6 + 1)))]) rfl ?_
        exact h
      · have h := h.2 c
        refine K_iload_n 1 (kdA dt_MX10_spread 54 rfl) rfl rfl ?_
        refine K_if_eq (tgt := 105) (kdA dt_MX10_spread 55 rfl) rfl (fun c => ?_) (fun c => ?_)
        · have h := h.1 c
          refine K_iload 4 (kdA dt_MX10_spread 58 rfl) rfl ?_
          refine K_bipush (kdA dt_MX10_spread 59 rfl) (by decide +kernel) ?_
          refine K_imul (kdA dt_MX10_spread 60 rfl) c2 ?_
          refine K_iload 5 (kdA dt_MX10_spread 61 rfl) rfl ?_
          obtain ⟨c6, h⟩ := h
          refine K_iadd (kdA dt_MX10_spread 62 rfl) c6 ?_
          refine K_istore (ls' := [(0, (2, a0)), (2, (0, a2)), (3, (2, a3)), (4, (0, a4)), (5, (0, a5)), (6, (0, a6)), (7, (0, (σ (σ a0 0) ((a5 * 8) + (kxor a6 4))))), (8, (0, ((a5 * 8) + a6)))]) (kdA dt_MX10_spread 63 rfl) (by decide) rfl ?_
          refine K_aload_n 0 (kdA dt_MX10_spread 64 rfl) rfl rfl ?_
          refine K_iload 6 (kdA dt_MX10_spread 65 rfl) rfl ?_
          refine K_aload_n 2 (kdA dt_MX10_spread 66 rfl) rfl rfl ?_
          refine K_iload 4 (kdA dt_MX10_spread 67 rfl) rfl ?_
          obtain ⟨c7, h⟩ := h
          obtain ⟨c8, h⟩ := h
          refine K_iaload (kdA dt_MX10_spread 68 rfl) c7 c8.1 c8.2 ?_
          refine K_aload_n 0 (kdA dt_MX10_spread 69 rfl) rfl rfl ?_
          refine gf10_15 rfl (kdA dt_MX10_spread 70 rfl) c1 ?_
          refine K_iload 7 (kdA dt_MX10_spread 71 rfl) rfl ?_
          obtain ⟨c9, h⟩ := h
          obtain ⟨c10, h⟩ := h
          refine K_iaload (kdA dt_MX10_spread 72 rfl) c9 c10.1 c10.2 ?_
          refine K_sipush (kdA dt_MX10_spread 73 rfl) (by decide +kernel) ?_
          obtain ⟨c11, h⟩ := h
          refine K_imul (kdA dt_MX10_spread 74 rfl) c11 ?_
          obtain ⟨c12, h⟩ := h
          refine K_iadd (kdA dt_MX10_spread 75 rfl) c12 ?_
          refine K_iconst (kdA dt_MX10_spread 76 rfl) (by decide) ?_
          obtain ⟨c13, h⟩ := h
          refine K_iadd (kdA dt_MX10_spread 77 rfl) c13 ?_
          refine K_aload_n 2 (kdA dt_MX10_spread 78 rfl) rfl rfl ?_
          refine K_cVv (c := 10) (as := [(0, (σ (σ a0 0) ((a5 * 8) + (kxor a6 4)))), (0, (((σ a3 a5) + ((σ (σ a0 1) ((a5 * 8) + a6)) * 128)) + 1)), (2, a3)]) (st := []) (kdA dt_MX10_spread 79 rfl) rfl cl_MX10_reach lk10_111 rfl rfl (Nat.le_of_ble_eq_true rfl) c1 (Cv.mono h (fun s1 h => ?_))
          obtain ⟨c15, h⟩ := h
          refine K_iinc (ls' := [(0, (2, a0)), (2, (0, a2)), (3, (2, a3)), (4, (0, a4)), (5, (0, a5)), (6, (0, (a6 + 1))), (7, (0, (σ (σ a0 0) ((a5 * 8) + (kxor a6 4))))), (8, (0, ((a5 * 8) + a6)))]) 5 (kdA dt_MX10_spread 80 rfl) rfl c15 (by decide) rfl ?_
          refine K_goto (tgt := 57) (kdA dt_MX10_spread 81 rfl) rfl ?_
          refine K_pick [0, 1, 2, 3, 4, 5] (ls' := [(0, (2, a0)), (2, (0, a2)), (3, (2, a3)), (4, (0, a4)), (5, (0, a5)), (6, (0, (a6 + 1)))]) rfl ?_
          exact h
        · have h := h.2 c
          refine K_iload 6 (kdA dt_MX10_spread 56 rfl) rfl ?_
          refine K_goto (tgt := 107) (kdA dt_MX10_spread 57 rfl) rfl ?_
          refine K_bipush (kdA dt_MX10_spread 59 rfl) (by decide +kernel) ?_
          obtain ⟨c6, h⟩ := h
          refine K_imul (kdA dt_MX10_spread 60 rfl) c6 ?_
          refine K_iload 5 (kdA dt_MX10_spread 61 rfl) rfl ?_
          obtain ⟨c7, h⟩ := h
          refine K_iadd (kdA dt_MX10_spread 62 rfl) c7 ?_
          refine K_istore (ls' := [(0, (2, a0)), (2, (0, a2)), (3, (2, a3)), (4, (0, a4)), (5, (0, a5)), (6, (0, a6)), (7, (0, (σ (σ a0 0) ((a5 * 8) + (kxor a6 4))))), (8, (0, (((σ (σ a0 0) ((a5 * 8) + (kxor a6 4))) * 8) + a6)))]) (kdA dt_MX10_spread 63 rfl) (by decide) rfl ?_
          refine K_aload_n 0 (kdA dt_MX10_spread 64 rfl) rfl rfl ?_
          refine K_iload 6 (kdA dt_MX10_spread 65 rfl) rfl ?_
          refine K_aload_n 2 (kdA dt_MX10_spread 66 rfl) rfl rfl ?_
          refine K_iload 4 (kdA dt_MX10_spread 67 rfl) rfl ?_
          obtain ⟨c8, h⟩ := h
          obtain ⟨c9, h⟩ := h
          refine K_iaload (kdA dt_MX10_spread 68 rfl) c8 c9.1 c9.2 ?_
          refine K_aload_n 0 (kdA dt_MX10_spread 69 rfl) rfl rfl ?_
          refine gf10_15 rfl (kdA dt_MX10_spread 70 rfl) c1 ?_
          refine K_iload 7 (kdA dt_MX10_spread 71 rfl) rfl ?_
          obtain ⟨c10, h⟩ := h
          obtain ⟨c11, h⟩ := h
          refine K_iaload (kdA dt_MX10_spread 72 rfl) c10 c11.1 c11.2 ?_
          refine K_sipush (kdA dt_MX10_spread 73 rfl) (by decide +kernel) ?_
          obtain ⟨c12, h⟩ := h
          refine K_imul (kdA dt_MX10_spread 74 rfl) c12 ?_
          obtain ⟨c13, h⟩ := h
          refine K_iadd (kdA dt_MX10_spread 75 rfl) c13 ?_
          refine K_iconst (kdA dt_MX10_spread 76 rfl) (by decide) ?_
          obtain ⟨c14, h⟩ := h
          refine K_iadd (kdA dt_MX10_spread 77 rfl) c14 ?_
          refine K_aload_n 2 (kdA dt_MX10_spread 78 rfl) rfl rfl ?_
          refine K_cVv (c := 10) (as := [(0, (σ (σ a0 0) ((a5 * 8) + (kxor a6 4)))), (0, (((σ a3 a5) + ((σ (σ a0 1) (((σ (σ a0 0) ((a5 * 8) + (kxor a6 4))) * 8) + a6)) * 128)) + 1)), (2, a3)]) (st := []) (kdA dt_MX10_spread 79 rfl) rfl cl_MX10_reach lk10_111 rfl rfl (Nat.le_of_ble_eq_true rfl) c1 (Cv.mono h (fun s1 h => ?_))
          obtain ⟨c16, h⟩ := h
          refine K_iinc (ls' := [(0, (2, a0)), (2, (0, a2)), (3, (2, a3)), (4, (0, a4)), (5, (0, a5)), (6, (0, (a6 + 1))), (7, (0, (σ (σ a0 0) ((a5 * 8) + (kxor a6 4))))), (8, (0, (((σ (σ a0 0) ((a5 * 8) + (kxor a6 4))) * 8) + a6)))]) 5 (kdA dt_MX10_spread 80 rfl) rfl c16 (by decide) rfl ?_
          refine K_goto (tgt := 57) (kdA dt_MX10_spread 81 rfl) rfl ?_
          refine K_pick [0, 1, 2, 3, 4, 5] (ls' := [(0, (2, a0)), (2, (0, a2)), (3, (2, a3)), (4, (0, a4)), (5, (0, a5)), (6, (0, (a6 + 1)))]) rfl ?_
          exact h
theorem EX10_spread {d n : Nat} {Q : kS → Prop} {a0 a1 a2 a3 : Int} {σ : kS} (h : (-2147483648 ≤ a1 ∧ a1 ≤ 2147483647) → (-2147483648 ≤ a2 ∧ a2 ≤ 2147483647) → kokw n σ → LX10_spread_0 d n Q a0 a1 a2 a3 σ) : Cv (d + 1) MX10_spread [(2, a0), (0, a1), (0, a2), (2, a3)] n σ Q := Tri_of (by decide +kernel) (Nat.le_of_ble_eq_true rfl) (fun hk hw => h (hk (0, a1) (List.mem_of_getElem? (i := 1) rfl)) (hk (0, a2) (List.mem_of_getElem? (i := 2) rfl)) hw)

def LX10_spreadFrom_0 (d n : Nat) (Q : kS → Prop) (a0 : Int) (a1 : Int) (σ : kS) : Prop := K (d + 1) MX10_spreadFrom (kPv n Q) (0, 0) 0 [(0, (2, a0)), (1, (0, a1))] [] n σ
theorem SX10_spreadFrom_0 {d n : Nat} {Q : kS → Prop} {a0 a1 : Int} {σ : kS} (h : isO 10 n a0 ∧ (Cv d MX10_spread [(2, a0), (0, a1), (0, 0), (2, (σ a0 3))] n σ (fun s1 => Q s1))) : LX10_spreadFrom_0 d n Q a0 a1 σ := by
  unfold LX10_spreadFrom_0
  refine K_aload_n 0 (kdA dt_MX10_spreadFrom 0 rfl) rfl rfl ?_
  refine K_iload_n 1 (kdA dt_MX10_spreadFrom 1 rfl) rfl rfl ?_
  refine K_iconst (kdA dt_MX10_spreadFrom 2 rfl) (by decide) ?_
  refine K_aload_n 0 (kdA dt_MX10_spreadFrom 3 rfl) rfl rfl ?_
  obtain ⟨c1, h⟩ := h
  refine gf10_21 rfl (kdA dt_MX10_spreadFrom 4 rfl) c1 ?_
  refine K_cVv (c := 10) (as := [(0, a1), (0, 0), (2, (σ a0 3))]) (st := []) (kdA dt_MX10_spreadFrom 5 rfl) rfl cl_MX10_spread lk10_96 rfl rfl (Nat.le_of_ble_eq_true rfl) c1 (Cv.mono h (fun s1 h => ?_))
  exact K_return (kdA dt_MX10_spreadFrom 6 rfl) rfl ⟨rfl, rfl, h⟩
theorem EX10_spreadFrom {d n : Nat} {Q : kS → Prop} {a0 a1 : Int} {σ : kS} (h : (-2147483648 ≤ a1 ∧ a1 ≤ 2147483647) → kokw n σ → LX10_spreadFrom_0 d n Q a0 a1 σ) : Cv (d + 1) MX10_spreadFrom [(2, a0), (0, a1)] n σ Q := Tri_of (by decide +kernel) (Nat.le_of_ble_eq_true rfl) (fun hk hw => h (hk (0, a1) (List.mem_of_getElem? (i := 1) rfl)) hw)

def LX10_spreadTo_0 (d n : Nat) (Q : kS → Prop) (a0 : Int) (a1 : Int) (σ : kS) : Prop := K (d + 1) MX10_spreadTo (kPv n Q) (0, 0) 0 [(0, (2, a0)), (1, (0, a1))] [] n σ
theorem SX10_spreadTo_0 {d n : Nat} {Q : kS → Prop} {a0 a1 : Int} {σ : kS} (h : isO 10 n a0 ∧ (Cv d MX10_spread [(2, a0), (0, a1), (0, 1), (2, (σ a0 2))] n σ (fun s1 => Q s1))) : LX10_spreadTo_0 d n Q a0 a1 σ := by
  unfold LX10_spreadTo_0
  refine K_aload_n 0 (kdA dt_MX10_spreadTo 0 rfl) rfl rfl ?_
  refine K_iload_n 1 (kdA dt_MX10_spreadTo 1 rfl) rfl rfl ?_
  refine K_iconst (kdA dt_MX10_spreadTo 2 rfl) (by decide) ?_
  refine K_aload_n 0 (kdA dt_MX10_spreadTo 3 rfl) rfl rfl ?_
  obtain ⟨c1, h⟩ := h
  refine gf10_18 rfl (kdA dt_MX10_spreadTo 4 rfl) c1 ?_
  refine K_cVv (c := 10) (as := [(0, a1), (0, 1), (2, (σ a0 2))]) (st := []) (kdA dt_MX10_spreadTo 5 rfl) rfl cl_MX10_spread lk10_96 rfl rfl (Nat.le_of_ble_eq_true rfl) c1 (Cv.mono h (fun s1 h => ?_))
  exact K_return (kdA dt_MX10_spreadTo 6 rfl) rfl ⟨rfl, rfl, h⟩
theorem EX10_spreadTo {d n : Nat} {Q : kS → Prop} {a0 a1 : Int} {σ : kS} (h : (-2147483648 ≤ a1 ∧ a1 ≤ 2147483647) → kokw n σ → LX10_spreadTo_0 d n Q a0 a1 σ) : Cv (d + 1) MX10_spreadTo [(2, a0), (0, a1)] n σ Q := Tri_of (by decide +kernel) (Nat.le_of_ble_eq_true rfl) (fun hk hw => h (hk (0, a1) (List.mem_of_getElem? (i := 1) rfl)) hw)

def LX10_takeLeast_0 (d n : Nat) (Q : Int → kS → Prop) (a0 : Int) (a1 : Int) (σ : kS) : Prop := K (d + 1) MX10_takeLeast (kPi n Q) (0, 0) 0 [(0, (2, a0)), (1, (2, a1))] [] n σ
def LX10_takeLeast_4 (d n : Nat) (Q : Int → kS → Prop) (a0 : Int) (a1 : Int) (a2 : Int) (a3 : Int) (σ : kS) : Prop := K (d + 1) MX10_takeLeast (kPi n Q) (0, 0) 4 [(0, (2, a0)), (1, (2, a1)), (2, (0, a2)), (3, (0, a3))] [] n σ
theorem SX10_takeLeast_0 {d n : Nat} {Q : Int → kS → Prop} {a0 a1 : Int} {σ : kS} (h : LX10_takeLeast_4 d n Q a0 a1 0 1 σ) : LX10_takeLeast_0 d n Q a0 a1 σ := by
  unfold LX10_takeLeast_0
  refine K_iconst (kdA dt_MX10_takeLeast 0 rfl) (by decide) ?_
  refine K_istore_n (ls' := [(0, (2, a0)), (1, (2, a1)), (2, (0, 0))]) (kdA dt_MX10_takeLeast 1 rfl) rfl (by decide) rfl ?_
  refine K_iconst (kdA dt_MX10_takeLeast 2 rfl) (by decide) ?_
  refine K_istore_n (ls' := [(0, (2, a0)), (1, (2, a1)), (2, (0, 0)), (3, (0, 1))]) (kdA dt_MX10_takeLeast 3 rfl) rfl (by decide) rfl ?_
  exact h
theorem SX10_takeLeast_4 {d n : Nat} {Q : Int → kS → Prop} {a0 a1 a2 a3 : Int} {σ : kS} (h : isO 10 n a0 ∧ (((σ a0 5) ≤ a3 → isA 20 n (σ a0 4) ∧ (((0 : Int) ≤ a2 ∧ a2 < klen (σ a0 4)) ∧ ((-2147483648 ≤ ((σ a0 5) - 1) ∧ ((σ a0 5) - 1) ≤ 2147483647) ∧ (∀ s1, s1 = kst σ a0 5 ((σ a0 5) - 1) → isA 20 n (s1 a0 4) ∧ (((0 : Int) ≤ (s1 a0 5) ∧ (s1 a0 5) < klen (s1 a0 4)) ∧ (((0 : Int) ≤ a2 ∧ a2 < klen (s1 a0 4)) ∧ (∀ s2, s2 = kst s1 (s1 a0 4) a2 (s1 (s1 a0 4) (s1 a0 5)) → Q (σ (σ a0 4) a2) s2))))))) ∧ (¬ (σ a0 5) ≤ a3 → isA 20 n (σ a0 4) ∧ (((0 : Int) ≤ a3 ∧ a3 < klen (σ a0 4)) ∧ (isA 20 n a1 ∧ (((0 : Int) ≤ (σ (σ a0 4) a3) ∧ (σ (σ a0 4) a3) < klen a1) ∧ (((0 : Int) ≤ a2 ∧ a2 < klen (σ a0 4)) ∧ (((0 : Int) ≤ (σ (σ a0 4) a2) ∧ (σ (σ a0 4) a2) < klen a1) ∧ (((σ a1 (σ (σ a0 4) a2)) ≤ (σ a1 (σ (σ a0 4) a3)) → (-2147483648 ≤ (a3 + 1) ∧ (a3 + 1) ≤ 2147483647) ∧ (LX10_takeLeast_4 d n Q a0 a1 a2 (a3 + 1) σ)) ∧ (¬ (σ a1 (σ (σ a0 4) a2)) ≤ (σ a1 (σ (σ a0 4) a3)) → (-2147483648 ≤ (a3 + 1) ∧ (a3 + 1) ≤ 2147483647) ∧ (LX10_takeLeast_4 d n Q a0 a1 a3 (a3 + 1) σ))))))))))) : LX10_takeLeast_4 d n Q a0 a1 a2 a3 σ := by
  unfold LX10_takeLeast_4
  refine K_iload_n 3 (kdA dt_MX10_takeLeast 4 rfl) rfl rfl ?_
  refine K_aload_n 0 (kdA dt_MX10_takeLeast 5 rfl) rfl rfl ?_
  obtain ⟨c1, h⟩ := h
  refine gf10_105 rfl (kdA dt_MX10_takeLeast 6 rfl) c1 ?_
  refine K_icmp_ge (tgt := 39) (kdA dt_MX10_takeLeast 7 rfl) rfl (fun c => ?_) (fun c => ?_)
  · have h := h.1 c
    refine K_aload_n 0 (kdA dt_MX10_takeLeast 25 rfl) rfl rfl ?_
    refine gf10_24 rfl (kdA dt_MX10_takeLeast 26 rfl) c1 ?_
    refine K_iload_n 2 (kdA dt_MX10_takeLeast 27 rfl) rfl rfl ?_
    obtain ⟨c2, h⟩ := h
    obtain ⟨c3, h⟩ := h
    refine K_iaload (kdA dt_MX10_takeLeast 28 rfl) c2 c3.1 c3.2 ?_
    refine K_istore_n (ls' := [(0, (2, a0)), (1, (2, a1)), (2, (0, a2)), (3, (0, (σ (σ a0 4) a2)))]) (kdA dt_MX10_takeLeast 29 rfl) rfl (by decide) rfl ?_
    refine K_aload_n 0 (kdA dt_MX10_takeLeast 30 rfl) rfl rfl ?_
    refine K_dup (kdA dt_MX10_takeLeast 31 rfl) rfl ?_
    refine gf10_105 rfl (kdA dt_MX10_takeLeast 32 rfl) c1 ?_
    refine K_iconst (kdA dt_MX10_takeLeast 33 rfl) (by decide) ?_
    obtain ⟨c4, h⟩ := h
    refine K_isub (kdA dt_MX10_takeLeast 34 rfl) c4 ?_
    refine pf10_105 rfl (kdA dt_MX10_takeLeast 35 rfl) c1 (fun s1 es1 => ?_)
    have h := h s1 es1
    refine K_aload_n 0 (kdA dt_MX10_takeLeast 36 rfl) rfl rfl ?_
    refine gf10_24 rfl (kdA dt_MX10_takeLeast 37 rfl) c1 ?_
    refine K_iload_n 2 (kdA dt_MX10_takeLeast 38 rfl) rfl rfl ?_
    refine K_aload_n 0 (kdA dt_MX10_takeLeast 39 rfl) rfl rfl ?_
    refine gf10_24 rfl (kdA dt_MX10_takeLeast 40 rfl) c1 ?_
    refine K_aload_n 0 (kdA dt_MX10_takeLeast 41 rfl) rfl rfl ?_
    refine gf10_105 rfl (kdA dt_MX10_takeLeast 42 rfl) c1 ?_
    obtain ⟨c5, h⟩ := h
    obtain ⟨c6, h⟩ := h
    refine K_iaload (kdA dt_MX10_takeLeast 43 rfl) c5 c6.1 c6.2 ?_
    obtain ⟨c7, h⟩ := h
    refine K_iastore' (kdA dt_MX10_takeLeast 44 rfl) c5 c7.1 c7.2 (fun s2 es2 => ?_)
    have h := h s2 es2
    refine K_iload_n 3 (kdA dt_MX10_takeLeast 45 rfl) rfl rfl ?_
    exact K_ireturn (kdA dt_MX10_takeLeast 46 rfl) rfl ⟨rfl, _, rfl, h⟩
  · have h := h.2 c
    refine K_aload_n 1 (kdA dt_MX10_takeLeast 8 rfl) rfl rfl ?_
    refine K_aload_n 0 (kdA dt_MX10_takeLeast 9 rfl) rfl rfl ?_
    refine gf10_24 rfl (kdA dt_MX10_takeLeast 10 rfl) c1 ?_
    refine K_iload_n 3 (kdA dt_MX10_takeLeast 11 rfl) rfl rfl ?_
    obtain ⟨c2, h⟩ := h
    obtain ⟨c3, h⟩ := h
    refine K_iaload (kdA dt_MX10_takeLeast 12 rfl) c2 c3.1 c3.2 ?_
    obtain ⟨c4, h⟩ := h
    obtain ⟨c5, h⟩ := h
    refine K_iaload (kdA dt_MX10_takeLeast 13 rfl) c4 c5.1 c5.2 ?_
    refine K_aload_n 1 (kdA dt_MX10_takeLeast 14 rfl) rfl rfl ?_
    refine K_aload_n 0 (kdA dt_MX10_takeLeast 15 rfl) rfl rfl ?_
    refine gf10_24 rfl (kdA dt_MX10_takeLeast 16 rfl) c1 ?_
    refine K_iload_n 2 (kdA dt_MX10_takeLeast 17 rfl) rfl rfl ?_
    obtain ⟨c6, h⟩ := h
    refine K_iaload (kdA dt_MX10_takeLeast 18 rfl) c2 c6.1 c6.2 ?_
    obtain ⟨c7, h⟩ := h
    refine K_iaload (kdA dt_MX10_takeLeast 19 rfl) c4 c7.1 c7.2 ?_
    refine K_icmp_ge (tgt := 33) (kdA dt_MX10_takeLeast 20 rfl) rfl (fun c => ?_) (fun c => ?_)
    · have h := h.1 c
      obtain ⟨c8, h⟩ := h
      refine K_iinc (ls' := [(0, (2, a0)), (1, (2, a1)), (2, (0, a2)), (3, (0, (a3 + 1)))]) 3 (kdA dt_MX10_takeLeast 23 rfl) rfl c8 (by decide) rfl ?_
      refine K_goto (tgt := 4) (kdA dt_MX10_takeLeast 24 rfl) rfl ?_
      exact h
    · have h := h.2 c
      refine K_iload_n 3 (kdA dt_MX10_takeLeast 21 rfl) rfl rfl ?_
      refine K_istore_n (ls' := [(0, (2, a0)), (1, (2, a1)), (2, (0, a3)), (3, (0, a3))]) (kdA dt_MX10_takeLeast 22 rfl) rfl (by decide) rfl ?_
      obtain ⟨c8, h⟩ := h
      refine K_iinc (ls' := [(0, (2, a0)), (1, (2, a1)), (2, (0, a3)), (3, (0, (a3 + 1)))]) 3 (kdA dt_MX10_takeLeast 23 rfl) rfl c8 (by decide) rfl ?_
      refine K_goto (tgt := 4) (kdA dt_MX10_takeLeast 24 rfl) rfl ?_
      exact h
theorem EX10_takeLeast {d n : Nat} {Q : Int → kS → Prop} {a0 a1 : Int} {σ : kS} (h : kokw n σ → LX10_takeLeast_0 d n Q a0 a1 σ) : Ci (d + 1) MX10_takeLeast [(2, a0), (2, a1)] n σ Q := Tri_of (by decide +kernel) (Nat.le_of_ble_eq_true rfl) (fun hk hw => h hw)

def LX10_through_0 (d n : Nat) (Q : Int → kS → Prop) (a0 : Int) (a1 : Int) (σ : kS) : Prop := K (d + 1) MX10_through (kPi n Q) (0, 0) 0 [(0, (2, a0)), (1, (0, a1))] [] n σ
theorem SX10_through_0 {d n : Nat} {Q : Int → kS → Prop} {a0 a1 : Int} {σ : kS} (h : Ci d MX11_isCell [(0, a1)] n σ (fun x1 s1 => (x1 = 0 → Q 1073741824 s1) ∧ (¬ x1 = 0 → isO 10 n a0 ∧ (isA 20 n (s1 a0 3) ∧ (((0 : Int) ≤ a1 ∧ a1 < klen (s1 a0 3)) ∧ (((0 : Int) ≤ (s1 (s1 a0 3) a1)) ∧ (isA 20 n (s1 a0 2) ∧ (((0 : Int) ≤ a1 ∧ a1 < klen (s1 a0 2)) ∧ (((0 : Int) ≤ (s1 (s1 a0 2) a1)) ∧ ((-2147483648 ≤ (((s1 (s1 a0 3) a1) / 128) + ((s1 (s1 a0 2) a1) / 128)) ∧ (((s1 (s1 a0 3) a1) / 128) + ((s1 (s1 a0 2) a1) / 128)) ≤ 2147483647) ∧ (Q (((s1 (s1 a0 3) a1) / 128) + ((s1 (s1 a0 2) a1) / 128)) s1))))))))))) : LX10_through_0 d n Q a0 a1 σ := by
  unfold LX10_through_0
  refine K_iload_n 1 (kdA dt_MX10_through 0 rfl) rfl rfl ?_
  refine K_cSi (as := [(0, a1)]) (st := []) (kdA dt_MX10_through 1 rfl) cl_MX11_isCell lk10_100 rfl rfl (Nat.le_of_ble_eq_true rfl) (Ci.mono h (fun x1 s1 h => ?_))
  refine K_if_eq (tgt := 31) (kdA dt_MX10_through 2 rfl) rfl (fun c => ?_) (fun c => ?_)
  · have h := h.1 c
    refine K_ldc (x := 1073741824) (kdA dt_MX10_through 17 rfl) (tb3 107 rfl rfl) (by decide +kernel) ?_
    exact K_ireturn (kdA dt_MX10_through 18 rfl) rfl ⟨rfl, _, rfl, h⟩
  · have h := h.2 c
    refine K_aload_n 0 (kdA dt_MX10_through 3 rfl) rfl rfl ?_
    obtain ⟨c2, h⟩ := h
    refine gf10_21 rfl (kdA dt_MX10_through 4 rfl) c2 ?_
    refine K_iload_n 1 (kdA dt_MX10_through 5 rfl) rfl rfl ?_
    obtain ⟨c3, h⟩ := h
    obtain ⟨c4, h⟩ := h
    refine K_iaload (kdA dt_MX10_through 6 rfl) c3 c4.1 c4.2 ?_
    refine K_sipush (kdA dt_MX10_through 7 rfl) (by decide +kernel) ?_
    obtain ⟨c5, h⟩ := h
    refine K_idiv (kdA dt_MX10_through 8 rfl) c5 (by decide) ?_
    refine K_aload_n 0 (kdA dt_MX10_through 9 rfl) rfl rfl ?_
    refine gf10_18 rfl (kdA dt_MX10_through 10 rfl) c2 ?_
    refine K_iload_n 1 (kdA dt_MX10_through 11 rfl) rfl rfl ?_
    obtain ⟨c6, h⟩ := h
    obtain ⟨c7, h⟩ := h
    refine K_iaload (kdA dt_MX10_through 12 rfl) c6 c7.1 c7.2 ?_
    refine K_sipush (kdA dt_MX10_through 13 rfl) (by decide +kernel) ?_
    obtain ⟨c8, h⟩ := h
    refine K_idiv (kdA dt_MX10_through 14 rfl) c8 (by decide) ?_
    obtain ⟨c9, h⟩ := h
    refine K_iadd (kdA dt_MX10_through 15 rfl) c9 ?_
    refine K_goto (tgt := 33) (kdA dt_MX10_through 16 rfl) rfl ?_
    exact K_ireturn (kdA dt_MX10_through 18 rfl) rfl ⟨rfl, _, rfl, h⟩
theorem EX10_through {d n : Nat} {Q : Int → kS → Prop} {a0 a1 : Int} {σ : kS} (h : (-2147483648 ≤ a1 ∧ a1 ≤ 2147483647) → kokw n σ → LX10_through_0 d n Q a0 a1 σ) : Ci (d + 1) MX10_through [(2, a0), (0, a1)] n σ Q := Tri_of (by decide +kernel) (Nat.le_of_ble_eq_true rfl) (fun hk hw => h (hk (0, a1) (List.mem_of_getElem? (i := 1) rfl)) hw)

def LX10_toll_0 (d n : Nat) (Q : Int → kS → Prop) (a0 : Int) (a1 : Int) (a2 : Int) (σ : kS) : Prop := K (d + 1) MX10_toll (kPi n Q) (0, 0) 0 [(0, (2, a0)), (1, (0, a1)), (2, (0, a2))] [] n σ
theorem SX10_toll_0 {d n : Nat} {Q : Int → kS → Prop} {a0 a1 a2 : Int} {σ : kS} (h : (-2147483648 ≤ (a1 * 8) ∧ (a1 * 8) ≤ 2147483647) ∧ ((-2147483648 ≤ ((a1 * 8) + a2) ∧ ((a1 * 8) + a2) ≤ 2147483647) ∧ ((((a1 * 8) + a2) < 0 → Q 0 σ) ∧ (¬ ((a1 * 8) + a2) < 0 → isO 10 n a0 ∧ (isA 20 n (σ a0 1) ∧ (((klen (σ a0 1)) ≤ ((a1 * 8) + a2) → Q 0 σ) ∧ (¬ (klen (σ a0 1)) ≤ ((a1 * 8) + a2) → ((0 : Int) ≤ ((a1 * 8) + a2) ∧ ((a1 * 8) + a2) < klen (σ a0 1)) ∧ (Q (σ (σ a0 1) ((a1 * 8) + a2)) σ)))))))) : LX10_toll_0 d n Q a0 a1 a2 σ := by
  unfold LX10_toll_0
  refine K_iload_n 1 (kdA dt_MX10_toll 0 rfl) rfl rfl ?_
  refine K_bipush (kdA dt_MX10_toll 1 rfl) (by decide +kernel) ?_
  obtain ⟨c1, h⟩ := h
  refine K_imul (kdA dt_MX10_toll 2 rfl) c1 ?_
  refine K_iload_n 2 (kdA dt_MX10_toll 3 rfl) rfl rfl ?_
  obtain ⟨c2, h⟩ := h
  refine K_iadd (kdA dt_MX10_toll 4 rfl) c2 ?_
  refine K_istore_n (ls' := [(0, (2, a0)), (1, (0, a1)), (2, (0, a2)), (3, (0, ((a1 * 8) + a2)))]) (kdA dt_MX10_toll 5 rfl) rfl (by decide) rfl ?_
  refine K_iload_n 3 (kdA dt_MX10_toll 6 rfl) rfl rfl ?_
  refine K_if_lt (tgt := 29) (kdA dt_MX10_toll 7 rfl) rfl (fun c => ?_) (fun c => ?_)
  · have h := h.1 c
    refine K_iconst (kdA dt_MX10_toll 18 rfl) (by decide) ?_
    exact K_ireturn (kdA dt_MX10_toll 19 rfl) rfl ⟨rfl, _, rfl, h⟩
  · have h := h.2 c
    refine K_iload_n 3 (kdA dt_MX10_toll 8 rfl) rfl rfl ?_
    refine K_aload_n 0 (kdA dt_MX10_toll 9 rfl) rfl rfl ?_
    obtain ⟨c3, h⟩ := h
    refine gf10_15 rfl (kdA dt_MX10_toll 10 rfl) c3 ?_
    obtain ⟨c4, h⟩ := h
    refine K_alen (kdA dt_MX10_toll 11 rfl) (by decide) c4 ?_
    refine K_icmp_ge (tgt := 29) (kdA dt_MX10_toll 12 rfl) rfl (fun c => ?_) (fun c => ?_)
    · have h := h.1 c
      refine K_iconst (kdA dt_MX10_toll 18 rfl) (by decide) ?_
      exact K_ireturn (kdA dt_MX10_toll 19 rfl) rfl ⟨rfl, _, rfl, h⟩
    · have h := h.2 c
      refine K_aload_n 0 (kdA dt_MX10_toll 13 rfl) rfl rfl ?_
      refine gf10_15 rfl (kdA dt_MX10_toll 14 rfl) c3 ?_
      refine K_iload_n 3 (kdA dt_MX10_toll 15 rfl) rfl rfl ?_
      obtain ⟨c5, h⟩ := h
      refine K_iaload (kdA dt_MX10_toll 16 rfl) c4 c5.1 c5.2 ?_
      refine K_goto (tgt := 30) (kdA dt_MX10_toll 17 rfl) rfl ?_
      exact K_ireturn (kdA dt_MX10_toll 19 rfl) rfl ⟨rfl, _, rfl, h⟩
theorem EX10_toll {d n : Nat} {Q : Int → kS → Prop} {a0 a1 a2 : Int} {σ : kS} (h : (-2147483648 ≤ a1 ∧ a1 ≤ 2147483647) → (-2147483648 ≤ a2 ∧ a2 ≤ 2147483647) → kokw n σ → LX10_toll_0 d n Q a0 a1 a2 σ) : Ci (d + 1) MX10_toll [(2, a0), (0, a1), (0, a2)] n σ Q := Tri_of (by decide +kernel) (Nat.le_of_ble_eq_true rfl) (fun hk hw => h (hk (0, a1) (List.mem_of_getElem? (i := 1) rfl)) (hk (0, a2) (List.mem_of_getElem? (i := 2) rfl)) hw)

def LX11_about_0 (d n : Nat) (Q : Int → kS → Prop) (a0 : Int) (a1 : Int) (a2 : Int) (σ : kS) : Prop := K (d + 1) MX11_about (kPi n Q) (0, 0) 0 [(0, (2, a0)), (1, (0, a1)), (2, (0, a2))] [] n σ
theorem SX11_about_0 {d n : Nat} {Q : Int → kS → Prop} {a0 a1 a2 : Int} {σ : kS} (h : isO 11 n a0 ∧ (Ci d MX11_isLine [(2, a0), (0, a1)] n σ (fun x2 s1 => (¬ x2 = 0 → (a2 < 0 ∨ 2 < a2 → Q (-1) s1) ∧ (a2 = 0 → isA 28 n (s1 a0 10) ∧ (((0 : Int) ≤ a1 ∧ a1 < klen (s1 a0 10)) ∧ (isO 8 n (s1 (s1 a0 10) a1) ∧ (Ci d MX8_miles [(2, (s1 (s1 a0 10) a1))] n s1 (fun x6 s2 => Q x6 s2))))) ∧ (a2 = 1 → isA 28 n (s1 a0 10) ∧ (((0 : Int) ≤ a1 ∧ a1 < klen (s1 a0 10)) ∧ (isO 8 n (s1 (s1 a0 10) a1) ∧ (Ci d MX8_turns [(2, (s1 (s1 a0 10) a1))] n s1 (fun x6 s2 => Q x6 s2))))) ∧ (a2 = 2 → isA 28 n (s1 a0 10) ∧ (((0 : Int) ≤ a1 ∧ a1 < klen (s1 a0 10)) ∧ (isO 8 n (s1 (s1 a0 10) a1) ∧ (Ci d MX8_longestRun [(2, (s1 (s1 a0 10) a1))] n s1 (fun x6 s2 => Q x6 s2)))))) ∧ (¬ (¬ x2 = 0) → Q (-1) s1)))) : LX11_about_0 d n Q a0 a1 a2 σ := by
  unfold LX11_about_0
  refine K_aload_n 0 (kdA dt_MX11_about 0 rfl) rfl rfl ?_
  refine K_iload_n 1 (kdA dt_MX11_about 1 rfl) rfl rfl ?_
  obtain ⟨c1, h⟩ := h
  refine K_cVi (c := 11) (as := [(0, a1)]) (st := []) (kdA dt_MX11_about 2 rfl) rfl cl_MX11_isLine lk11_233 rfl rfl (Nat.le_of_ble_eq_true rfl) c1 (Ci.mono h (fun x2 s1 h => ?_))
  refine K_if_ne (tgt := 10) (kdA dt_MX11_about 3 rfl) rfl (fun c => ?_) (fun c => ?_)
  · have h := h.1 c
    refine K_iload_n 2 (kdA dt_MX11_about 6 rfl) rfl rfl ?_
    by_cases hx : a2 < 0 ∨ 2 < a2
    · refine K_sw0 (tgt := 66) (kdA dt_MX11_about 7 rfl) hx rfl ?_
      have h := h.1 hx
      refine K_iconst (kdA dt_MX11_about 26 rfl) (by decide) ?_
      exact K_ireturn (kdA dt_MX11_about 27 rfl) rfl ⟨rfl, _, rfl, h⟩
    have h := h.2
    have l0 : (0 : Int) ≤ a2 := Int.not_lt.mp (fun q => hx (Or.inl q))
    by_cases e0 : a2 = 0
    · refine K_sw1 (tgt := 36) (kdA dt_MX11_about 7 rfl) e0 (by decide) rfl rfl ?_
      have h := h.1 e0
      refine K_aload_n 0 (kdA dt_MX11_about 8 rfl) rfl rfl ?_
      refine gf11_51 rfl (kdA dt_MX11_about 9 rfl) c1 ?_
      refine K_iload_n 1 (kdA dt_MX11_about 10 rfl) rfl rfl ?_
      obtain ⟨c3, h⟩ := h
      obtain ⟨c4, h⟩ := h
      refine K_aaload (kdA dt_MX11_about 11 rfl) (by decide) c3 c4.1 c4.2 ?_
      obtain ⟨c5, h⟩ := h
      refine K_cVi (c := 8) (as := []) (st := []) (kdA dt_MX11_about 12 rfl) rfl cl_MX8_miles lk11_240 rfl rfl (Nat.le_of_ble_eq_true rfl) c5 (Ci.mono h (fun x6 s2 h => ?_))
      exact K_ireturn (kdA dt_MX11_about 13 rfl) rfl ⟨rfl, _, rfl, h⟩
    have h := h.2
    have l1 := k_sn l0 e0 (show (0 : Int) + 1 = 1 by decide)
    by_cases e1 : a2 = 1
    · refine K_sw1 (tgt := 46) (kdA dt_MX11_about 7 rfl) e1 (by decide) rfl rfl ?_
      have h := h.1 e1
      refine K_aload_n 0 (kdA dt_MX11_about 14 rfl) rfl rfl ?_
      refine gf11_51 rfl (kdA dt_MX11_about 15 rfl) c1 ?_
      refine K_iload_n 1 (kdA dt_MX11_about 16 rfl) rfl rfl ?_
      obtain ⟨c3, h⟩ := h
      obtain ⟨c4, h⟩ := h
      refine K_aaload (kdA dt_MX11_about 17 rfl) (by decide) c3 c4.1 c4.2 ?_
      obtain ⟨c5, h⟩ := h
      refine K_cVi (c := 8) (as := []) (st := []) (kdA dt_MX11_about 18 rfl) rfl cl_MX8_turns lk11_243 rfl rfl (Nat.le_of_ble_eq_true rfl) c5 (Ci.mono h (fun x6 s2 h => ?_))
      exact K_ireturn (kdA dt_MX11_about 19 rfl) rfl ⟨rfl, _, rfl, h⟩
    have h := h.2
    have l2 := k_sn l1 e1 (show (1 : Int) + 1 = 2 by decide)
    by_cases e2 : a2 = 2
    · refine K_sw1 (tgt := 56) (kdA dt_MX11_about 7 rfl) e2 (by decide) rfl rfl ?_
      have h := h e2
      refine K_aload_n 0 (kdA dt_MX11_about 20 rfl) rfl rfl ?_
      refine gf11_51 rfl (kdA dt_MX11_about 21 rfl) c1 ?_
      refine K_iload_n 1 (kdA dt_MX11_about 22 rfl) rfl rfl ?_
      obtain ⟨c3, h⟩ := h
      obtain ⟨c4, h⟩ := h
      refine K_aaload (kdA dt_MX11_about 23 rfl) (by decide) c3 c4.1 c4.2 ?_
      obtain ⟨c5, h⟩ := h
      refine K_cVi (c := 8) (as := []) (st := []) (kdA dt_MX11_about 24 rfl) rfl cl_MX8_longestRun lk11_246 rfl rfl (Nat.le_of_ble_eq_true rfl) c5 (Ci.mono h (fun x6 s2 h => ?_))
      exact K_ireturn (kdA dt_MX11_about 25 rfl) rfl ⟨rfl, _, rfl, h⟩
    have l3 := k_sn l2 e2 (show (2 : Int) + 1 = 3 by decide)
    exact absurd (Or.inr (Int.lt_of_lt_of_le (show (2 : Int) < 3 by decide) l3)) hx
  · have h := h.2 c
    refine K_iconst (kdA dt_MX11_about 4 rfl) (by decide) ?_
    exact K_ireturn (kdA dt_MX11_about 5 rfl) rfl ⟨rfl, _, rfl, h⟩
theorem EX11_about {d n : Nat} {Q : Int → kS → Prop} {a0 a1 a2 : Int} {σ : kS} (h : (-2147483648 ≤ a1 ∧ a1 ≤ 2147483647) → (-2147483648 ≤ a2 ∧ a2 ≤ 2147483647) → kokw n σ → LX11_about_0 d n Q a0 a1 a2 σ) : Ci (d + 1) MX11_about [(2, a0), (0, a1), (0, a2)] n σ Q := Tri_of (by decide +kernel) (Nat.le_of_ble_eq_true rfl) (fun hk hw => h (hk (0, a1) (List.mem_of_getElem? (i := 1) rfl)) (hk (0, a2) (List.mem_of_getElem? (i := 2) rfl)) hw)

def LX11_addBytes_0 (d n : Nat) (Q : kS → Prop) (a0 : Int) (a1 : Int) (σ : kS) : Prop := K (d + 1) MX11_addBytes (kPv n Q) (0, 0) 0 [(0, (2, a0)), (1, (0, a1))] [] n σ
def LX11_addBytes_3 (d n : Nat) (Q : kS → Prop) (a0 : Int) (a1 : Int) (a2 : Int) (σ : kS) : Prop := K (d + 1) MX11_addBytes (kPv n Q) (0, 0) 3 [(0, (2, a0)), (1, (0, a1)), (2, (0, a2))] [] n σ
theorem SX11_addBytes_0 {d n : Nat} {Q : kS → Prop} {a0 a1 : Int} {σ : kS} (h : LX11_addBytes_3 d n Q a0 a1 24 σ) : LX11_addBytes_0 d n Q a0 a1 σ := by
  unfold LX11_addBytes_0
  refine K_bipush (kdA dt_MX11_addBytes 0 rfl) (by decide +kernel) ?_
  refine K_istore_n (ls' := [(0, (2, a0)), (1, (0, a1)), (2, (0, 24))]) (kdA dt_MX11_addBytes 1 rfl) rfl (by decide) rfl ?_
  exact h
theorem SX11_addBytes_3 {d n : Nat} {Q : kS → Prop} {a0 a1 a2 : Int} {σ : kS} (h : (a2 < 0 → Q σ) ∧ (¬ a2 < 0 → ((kand (kiushr a1 a2) 255) = 0 → (-2147483648 ≤ (a2 + (-8)) ∧ (a2 + (-8)) ≤ 2147483647) ∧ (LX11_addBytes_3 d n Q a0 a1 (a2 + (-8)) σ)) ∧ (¬ (kand (kiushr a1 a2) 255) = 0 → isO 11 n a0 ∧ (isO 8 n (σ a0 3) ∧ (Ci d MX8_add [(2, (σ a0 3)), (0, (kand (kiushr a1 a2) 255))] n σ (fun x3 s1 => (-2147483648 ≤ (a2 + (-8)) ∧ (a2 + (-8)) ≤ 2147483647) ∧ (LX11_addBytes_3 d n Q a0 a1 (a2 + (-8)) s1))))))) : LX11_addBytes_3 d n Q a0 a1 a2 σ := by
  unfold LX11_addBytes_3
  refine K_iload_n 2 (kdA dt_MX11_addBytes 2 rfl) rfl rfl ?_
  refine K_if_lt (tgt := 34) (kdA dt_MX11_addBytes 3 rfl) rfl (fun c => ?_) (fun c => ?_)
  · have h := h.1 c
    exact K_return (kdA dt_MX11_addBytes 19 rfl) rfl ⟨rfl, rfl, h⟩
  · have h := h.2 c
    refine K_iload_n 1 (kdA dt_MX11_addBytes 4 rfl) rfl rfl ?_
    refine K_iload_n 2 (kdA dt_MX11_addBytes 5 rfl) rfl rfl ?_
    refine K_iushr (kdA dt_MX11_addBytes 6 rfl) ?_
    refine K_sipush (kdA dt_MX11_addBytes 7 rfl) (by decide +kernel) ?_
    refine K_iand (kdA dt_MX11_addBytes 8 rfl) ?_
    refine K_istore_n (ls' := [(0, (2, a0)), (1, (0, a1)), (2, (0, a2)), (3, (0, (kand (kiushr a1 a2) 255)))]) (kdA dt_MX11_addBytes 9 rfl) rfl (by decide) rfl ?_
    refine K_iload_n 3 (kdA dt_MX11_addBytes 10 rfl) rfl rfl ?_
    refine K_if_eq (tgt := 28) (kdA dt_MX11_addBytes 11 rfl) rfl (fun c => ?_) (fun c => ?_)
    · have h := h.1 c
      obtain ⟨c1, h⟩ := h
      refine K_iinc (ls' := [(0, (2, a0)), (1, (0, a1)), (2, (0, (a2 + (-8)))), (3, (0, (kand (kiushr a1 a2) 255)))]) 2 (kdA dt_MX11_addBytes 17 rfl) rfl c1 (by decide) rfl ?_
      refine K_goto (tgt := 3) (kdA dt_MX11_addBytes 18 rfl) rfl ?_
      refine K_pick [0, 1, 2] (ls' := [(0, (2, a0)), (1, (0, a1)), (2, (0, (a2 + (-8))))]) rfl ?_
      exact h
    · have h := h.2 c
      refine K_aload_n 0 (kdA dt_MX11_addBytes 12 rfl) rfl rfl ?_
      obtain ⟨c1, h⟩ := h
      refine gf11_25 rfl (kdA dt_MX11_addBytes 13 rfl) c1 ?_
      refine K_iload_n 3 (kdA dt_MX11_addBytes 14 rfl) rfl rfl ?_
      obtain ⟨c2, h⟩ := h
      refine K_cVi (c := 8) (as := [(0, (kand (kiushr a1 a2) 255))]) (st := []) (kdA dt_MX11_addBytes 15 rfl) rfl cl_MX8_add lk11_127 rfl rfl (Nat.le_of_ble_eq_true rfl) c2 (Ci.mono h (fun x3 s1 h => ?_))
      refine K_pop (kdA dt_MX11_addBytes 16 rfl) rfl ?_
      obtain ⟨c4, h⟩ := h
      refine K_iinc (ls' := [(0, (2, a0)), (1, (0, a1)), (2, (0, (a2 + (-8)))), (3, (0, (kand (kiushr a1 a2) 255)))]) 2 (kdA dt_MX11_addBytes 17 rfl) rfl c4 (by decide) rfl ?_
      refine K_goto (tgt := 3) (kdA dt_MX11_addBytes 18 rfl) rfl ?_
      refine K_pick [0, 1, 2] (ls' := [(0, (2, a0)), (1, (0, a1)), (2, (0, (a2 + (-8))))]) rfl ?_
      exact h
theorem EX11_addBytes {d n : Nat} {Q : kS → Prop} {a0 a1 : Int} {σ : kS} (h : (-2147483648 ≤ a1 ∧ a1 ≤ 2147483647) → kokw n σ → LX11_addBytes_0 d n Q a0 a1 σ) : Cv (d + 1) MX11_addBytes [(2, a0), (0, a1)] n σ Q := Tri_of (by decide +kernel) (Nat.le_of_ble_eq_true rfl) (fun hk hw => h (hk (0, a1) (List.mem_of_getElem? (i := 1) rfl)) hw)

def LX11_against_0 (d n : Nat) (Q : Int → kS → Prop) (a0 : Int) (a1 : Int) (a2 : Int) (a3 : Int) (a4 : Int) (σ : kS) : Prop := K (d + 1) MX11_against (kPi n Q) (0, 0) 0 [(0, (2, a0)), (1, (0, a1)), (2, (0, a2)), (3, (0, a3)), (4, (0, a4))] [] n σ
theorem SX11_against_0 {d n : Nat} {Q : Int → kS → Prop} {a0 a1 a2 a3 a4 : Int} {σ : kS} (h : isO 11 n a0 ∧ (Ci d MX11_isSearch [(2, a0), (0, a1), (0, a2), (0, a3)] n σ (fun x2 s1 => (x2 = 0 → Q (-1) s1) ∧ (¬ x2 = 0 → (a4 < 0 → Q (-1) s1) ∧ (¬ a4 < 0 → (a4 ≤ 1 → isA 28 n (s1 a0 10) ∧ (((0 : Int) ≤ a1 ∧ a1 < klen (s1 a0 10)) ∧ ((¬ a4 = 0 → isO 2 n (s1 a0 16) ∧ (Ci d MX2_besides [(2, (s1 a0 16)), (2, (s1 (s1 a0 10) a1)), (0, a2), (0, a3), (0, 0)] n s1 (fun x6 s2 => Q x6 s2))) ∧ (¬ (¬ a4 = 0) → isO 2 n (s1 a0 16) ∧ (Ci d MX2_besides [(2, (s1 a0 16)), (2, (s1 (s1 a0 10) a1)), (0, a2), (0, a3), (0, 1)] n s1 (fun x6 s2 => Q x6 s2)))))) ∧ (¬ a4 ≤ 1 → Q (-1) s1)))))) : LX11_against_0 d n Q a0 a1 a2 a3 a4 σ := by
  unfold LX11_against_0
  refine K_aload_n 0 (kdA dt_MX11_against 0 rfl) rfl rfl ?_
  refine K_iload_n 1 (kdA dt_MX11_against 1 rfl) rfl rfl ?_
  refine K_iload_n 2 (kdA dt_MX11_against 2 rfl) rfl rfl ?_
  refine K_iload_n 3 (kdA dt_MX11_against 3 rfl) rfl rfl ?_
  obtain ⟨c1, h⟩ := h
  refine K_cVi (c := 11) (as := [(0, a1), (0, a2), (0, a3)]) (st := []) (kdA dt_MX11_against 4 rfl) rfl cl_MX11_isSearch lk11_252 rfl rfl (Nat.le_of_ble_eq_true rfl) c1 (Ci.mono h (fun x2 s1 h => ?_))
  refine K_if_eq (tgt := 21) (kdA dt_MX11_against 5 rfl) rfl (fun c => ?_) (fun c => ?_)
  · have h := h.1 c
    refine K_iconst (kdA dt_MX11_against 11 rfl) (by decide) ?_
    exact K_ireturn (kdA dt_MX11_against 12 rfl) rfl ⟨rfl, _, rfl, h⟩
  · have h := h.2 c
    refine K_iload 4 (kdA dt_MX11_against 6 rfl) rfl ?_
    refine K_if_lt (tgt := 21) (kdA dt_MX11_against 7 rfl) rfl (fun c => ?_) (fun c => ?_)
    · have h := h.1 c
      refine K_iconst (kdA dt_MX11_against 11 rfl) (by decide) ?_
      exact K_ireturn (kdA dt_MX11_against 12 rfl) rfl ⟨rfl, _, rfl, h⟩
    · have h := h.2 c
      refine K_iload 4 (kdA dt_MX11_against 8 rfl) rfl ?_
      refine K_iconst (kdA dt_MX11_against 9 rfl) (by decide) ?_
      refine K_icmp_le (tgt := 23) (kdA dt_MX11_against 10 rfl) rfl (fun c => ?_) (fun c => ?_)
      · have h := h.1 c
        refine K_aload_n 0 (kdA dt_MX11_against 13 rfl) rfl rfl ?_
        refine gf11_78 rfl (kdA dt_MX11_against 14 rfl) c1 ?_
        refine K_aload_n 0 (kdA dt_MX11_against 15 rfl) rfl rfl ?_
        refine gf11_51 rfl (kdA dt_MX11_against 16 rfl) c1 ?_
        refine K_iload_n 1 (kdA dt_MX11_against 17 rfl) rfl rfl ?_
        obtain ⟨c3, h⟩ := h
        obtain ⟨c4, h⟩ := h
        refine K_aaload (kdA dt_MX11_against 18 rfl) (by decide) c3 c4.1 c4.2 ?_
        refine K_iload_n 2 (kdA dt_MX11_against 19 rfl) rfl rfl ?_
        refine K_iload_n 3 (kdA dt_MX11_against 20 rfl) rfl rfl ?_
        refine K_iload 4 (kdA dt_MX11_against 21 rfl) rfl ?_
        refine K_if_ne (tgt := 44) (kdA dt_MX11_against 22 rfl) rfl (fun c => ?_) (fun c => ?_)
        · have h := h.1 c
          refine K_iconst (kdA dt_MX11_against 25 rfl) (by decide) ?_
          obtain ⟨c5, h⟩ := h
          refine K_cVi (c := 2) (as := [(2, (s1 (s1 a0 10) a1)), (0, a2), (0, a3), (0, 0)]) (st := []) (kdA dt_MX11_against 26 rfl) rfl cl_MX2_besides lk11_259 rfl rfl (Nat.le_of_ble_eq_true rfl) c5 (Ci.mono h (fun x6 s2 h => ?_))
          exact K_ireturn (kdA dt_MX11_against 27 rfl) rfl ⟨rfl, _, rfl, h⟩
        · have h := h.2 c
          refine K_iconst (kdA dt_MX11_against 23 rfl) (by decide) ?_
          refine K_goto (tgt := 45) (kdA dt_MX11_against 24 rfl) rfl ?_
          obtain ⟨c5, h⟩ := h
          refine K_cVi (c := 2) (as := [(2, (s1 (s1 a0 10) a1)), (0, a2), (0, a3), (0, 1)]) (st := []) (kdA dt_MX11_against 26 rfl) rfl cl_MX2_besides lk11_259 rfl rfl (Nat.le_of_ble_eq_true rfl) c5 (Ci.mono h (fun x6 s2 h => ?_))
          exact K_ireturn (kdA dt_MX11_against 27 rfl) rfl ⟨rfl, _, rfl, h⟩
      · have h := h.2 c
        refine K_iconst (kdA dt_MX11_against 11 rfl) (by decide) ?_
        exact K_ireturn (kdA dt_MX11_against 12 rfl) rfl ⟨rfl, _, rfl, h⟩
theorem EX11_against {d n : Nat} {Q : Int → kS → Prop} {a0 a1 a2 a3 a4 : Int} {σ : kS} (h : (-2147483648 ≤ a1 ∧ a1 ≤ 2147483647) → (-2147483648 ≤ a2 ∧ a2 ≤ 2147483647) → (-2147483648 ≤ a3 ∧ a3 ≤ 2147483647) → (-2147483648 ≤ a4 ∧ a4 ≤ 2147483647) → kokw n σ → LX11_against_0 d n Q a0 a1 a2 a3 a4 σ) : Ci (d + 1) MX11_against [(2, a0), (0, a1), (0, a2), (0, a3), (0, a4)] n σ Q := Tri_of (by decide +kernel) (Nat.le_of_ble_eq_true rfl) (fun hk hw => h (hk (0, a1) (List.mem_of_getElem? (i := 1) rfl)) (hk (0, a2) (List.mem_of_getElem? (i := 2) rfl)) (hk (0, a3) (List.mem_of_getElem? (i := 3) rfl)) (hk (0, a4) (List.mem_of_getElem? (i := 4) rfl)) hw)

def LX11_alike_0 (d n : Nat) (Q : Int → kS → Prop) (a0 : Int) (a1 : Int) (a2 : Int) (σ : kS) : Prop := K (d + 1) MX11_alike (kPi n Q) (0, 0) 0 [(0, (2, a0)), (1, (0, a1)), (2, (0, a2))] [] n σ
def LX11_alike_22 (d n : Nat) (Q : Int → kS → Prop) (a0 : Int) (a1 : Int) (a2 : Int) (a3 : Int) (a4 : Int) (σ : kS) : Prop := K (d + 1) MX11_alike (kPi n Q) (0, 0) 22 [(0, (2, a0)), (1, (0, a1)), (2, (0, a2)), (3, (0, a3)), (4, (0, a4))] [] n σ
theorem SX11_alike_0 {d n : Nat} {Q : Int → kS → Prop} {a0 a1 a2 : Int} {σ : kS} (h : isO 11 n a0 ∧ (Ci d MX11_isLine [(2, a0), (0, a1)] n σ (fun x2 s1 => (x2 = 0 → Q (-1) s1) ∧ (¬ x2 = 0 → Ci d MX11_isOften [(0, a2)] n s1 (fun x3 s2 => (¬ x3 = 0 → LX11_alike_22 d n Q a0 a1 a2 0 0 s2) ∧ (¬ (¬ x3 = 0) → Q (-1) s2)))))) : LX11_alike_0 d n Q a0 a1 a2 σ := by
  unfold LX11_alike_0
  refine K_aload_n 0 (kdA dt_MX11_alike 0 rfl) rfl rfl ?_
  refine K_iload_n 1 (kdA dt_MX11_alike 1 rfl) rfl rfl ?_
  obtain ⟨c1, h⟩ := h
  refine K_cVi (c := 11) (as := [(0, a1)]) (st := []) (kdA dt_MX11_alike 2 rfl) rfl cl_MX11_isLine lk11_233 rfl rfl (Nat.le_of_ble_eq_true rfl) c1 (Ci.mono h (fun x2 s1 h => ?_))
  refine K_if_eq (tgt := 15) (kdA dt_MX11_alike 3 rfl) rfl (fun c => ?_) (fun c => ?_)
  · have h := h.1 c
    refine K_iconst (kdA dt_MX11_alike 7 rfl) (by decide) ?_
    exact K_ireturn (kdA dt_MX11_alike 8 rfl) rfl ⟨rfl, _, rfl, h⟩
  · have h := h.2 c
    refine K_iload_n 2 (kdA dt_MX11_alike 4 rfl) rfl rfl ?_
    refine K_cSi (as := [(0, a2)]) (st := []) (kdA dt_MX11_alike 5 rfl) cl_MX11_isOften lk11_374 rfl rfl (Nat.le_of_ble_eq_true rfl) (Ci.mono h (fun x3 s2 h => ?_))
    refine K_if_ne (tgt := 17) (kdA dt_MX11_alike 6 rfl) rfl (fun c => ?_) (fun c => ?_)
    · have h := h.1 c
      refine K_iconst (kdA dt_MX11_alike 9 rfl) (by decide) ?_
      refine K_istore_n (ls' := [(0, (2, a0)), (1, (0, a1)), (2, (0, a2)), (3, (0, 0))]) (kdA dt_MX11_alike 10 rfl) rfl (by decide) rfl ?_
      refine K_iconst (kdA dt_MX11_alike 11 rfl) (by decide) ?_
      refine K_istore (ls' := [(0, (2, a0)), (1, (0, a1)), (2, (0, a2)), (3, (0, 0)), (4, (0, 0))]) (kdA dt_MX11_alike 12 rfl) (by decide) rfl ?_
      exact h
    · have h := h.2 c
      refine K_iconst (kdA dt_MX11_alike 7 rfl) (by decide) ?_
      exact K_ireturn (kdA dt_MX11_alike 8 rfl) rfl ⟨rfl, _, rfl, h⟩
theorem SX11_alike_22 {d n : Nat} {Q : Int → kS → Prop} {a0 a1 a2 a3 a4 : Int} {σ : kS} (h : (120 ≤ a4 → Q a3 σ) ∧ (¬ 120 ≤ a4 → isO 11 n a0 ∧ (isO 1 n (σ a0 18) ∧ (isA 20 n (σ (σ a0 18) 0) ∧ (((0 : Int) ≤ a4 ∧ a4 < klen (σ (σ a0 18) 0)) ∧ (((σ (σ (σ a0 18) 0) a4) < a2 → (-2147483648 ≤ (a4 + 1) ∧ (a4 + 1) ≤ 2147483647) ∧ (LX11_alike_22 d n Q a0 a1 a2 a3 (a4 + 1) σ)) ∧ (¬ (σ (σ (σ a0 18) 0) a4) < a2 → isA 28 n (σ a0 10) ∧ (((0 : Int) ≤ a1 ∧ a1 < klen (σ a0 10)) ∧ (isO 8 n (σ (σ a0 10) a1) ∧ (Ci d MX8_has [(2, (σ (σ a0 10) a1)), (0, a4)] n σ (fun x8 s1 => (x8 = 0 → (-2147483648 ≤ (a4 + 1) ∧ (a4 + 1) ≤ 2147483647) ∧ (LX11_alike_22 d n Q a0 a1 a2 a3 (a4 + 1) s1)) ∧ (¬ x8 = 0 → (-2147483648 ≤ (a3 + 1) ∧ (a3 + 1) ≤ 2147483647) ∧ ((-2147483648 ≤ (a4 + 1) ∧ (a4 + 1) ≤ 2147483647) ∧ (LX11_alike_22 d n Q a0 a1 a2 (a3 + 1) (a4 + 1) s1)))))))))))))) : LX11_alike_22 d n Q a0 a1 a2 a3 a4 σ := by
  unfold LX11_alike_22
  refine K_iload 4 (kdA dt_MX11_alike 13 rfl) rfl ?_
  refine K_bipush (kdA dt_MX11_alike 14 rfl) (by decide +kernel) ?_
  refine K_icmp_ge (tgt := 66) (kdA dt_MX11_alike 15 rfl) rfl (fun c => ?_) (fun c => ?_)
  · have h := h.1 c
    refine K_iload_n 3 (kdA dt_MX11_alike 33 rfl) rfl rfl ?_
    exact K_ireturn (kdA dt_MX11_alike 34 rfl) rfl ⟨rfl, _, rfl, h⟩
  · have h := h.2 c
    refine K_aload_n 0 (kdA dt_MX11_alike 16 rfl) rfl rfl ?_
    obtain ⟨c1, h⟩ := h
    refine gf11_92 rfl (kdA dt_MX11_alike 17 rfl) c1 ?_
    obtain ⟨c2, h⟩ := h
    refine gf11_361 rfl (kdA dt_MX11_alike 18 rfl) c2 ?_
    refine K_iload 4 (kdA dt_MX11_alike 19 rfl) rfl ?_
    obtain ⟨c3, h⟩ := h
    obtain ⟨c4, h⟩ := h
    refine K_iaload (kdA dt_MX11_alike 20 rfl) c3 c4.1 c4.2 ?_
    refine K_iload_n 2 (kdA dt_MX11_alike 21 rfl) rfl rfl ?_
    refine K_icmp_lt (tgt := 60) (kdA dt_MX11_alike 22 rfl) rfl (fun c => ?_) (fun c => ?_)
    · have h := h.1 c
      obtain ⟨c5, h⟩ := h
      refine K_iinc (ls' := [(0, (2, a0)), (1, (0, a1)), (2, (0, a2)), (3, (0, a3)), (4, (0, (a4 + 1)))]) 4 (kdA dt_MX11_alike 31 rfl) rfl c5 (by decide) rfl ?_
      refine K_goto (tgt := 22) (kdA dt_MX11_alike 32 rfl) rfl ?_
      exact h
    · have h := h.2 c
      refine K_aload_n 0 (kdA dt_MX11_alike 23 rfl) rfl rfl ?_
      refine gf11_51 rfl (kdA dt_MX11_alike 24 rfl) c1 ?_
      refine K_iload_n 1 (kdA dt_MX11_alike 25 rfl) rfl rfl ?_
      obtain ⟨c5, h⟩ := h
      obtain ⟨c6, h⟩ := h
      refine K_aaload (kdA dt_MX11_alike 26 rfl) (by decide) c5 c6.1 c6.2 ?_
      refine K_iload 4 (kdA dt_MX11_alike 27 rfl) rfl ?_
      obtain ⟨c7, h⟩ := h
      refine K_cVi (c := 8) (as := [(0, a4)]) (st := []) (kdA dt_MX11_alike 28 rfl) rfl cl_MX8_has lk11_124 rfl rfl (Nat.le_of_ble_eq_true rfl) c7 (Ci.mono h (fun x8 s1 h => ?_))
      refine K_if_eq (tgt := 60) (kdA dt_MX11_alike 29 rfl) rfl (fun c => ?_) (fun c => ?_)
      · have h := h.1 c
        obtain ⟨c9, h⟩ := h
        refine K_iinc (ls' := [(0, (2, a0)), (1, (0, a1)), (2, (0, a2)), (3, (0, a3)), (4, (0, (a4 + 1)))]) 4 (kdA dt_MX11_alike 31 rfl) rfl c9 (by decide) rfl ?_
        refine K_goto (tgt := 22) (kdA dt_MX11_alike 32 rfl) rfl ?_
        exact h
      · have h := h.2 c
        obtain ⟨c9, h⟩ := h
        refine K_iinc (ls' := [(0, (2, a0)), (1, (0, a1)), (2, (0, a2)), (3, (0, (a3 + 1))), (4, (0, a4))]) 3 (kdA dt_MX11_alike 30 rfl) rfl c9 (by decide) rfl ?_
        obtain ⟨c10, h⟩ := h
        refine K_iinc (ls' := [(0, (2, a0)), (1, (0, a1)), (2, (0, a2)), (3, (0, (a3 + 1))), (4, (0, (a4 + 1)))]) 4 (kdA dt_MX11_alike 31 rfl) rfl c10 (by decide) rfl ?_
        refine K_goto (tgt := 22) (kdA dt_MX11_alike 32 rfl) rfl ?_
        exact h
theorem EX11_alike {d n : Nat} {Q : Int → kS → Prop} {a0 a1 a2 : Int} {σ : kS} (h : (-2147483648 ≤ a1 ∧ a1 ≤ 2147483647) → (-2147483648 ≤ a2 ∧ a2 ≤ 2147483647) → kokw n σ → LX11_alike_0 d n Q a0 a1 a2 σ) : Ci (d + 1) MX11_alike [(2, a0), (0, a1), (0, a2)] n σ Q := Tri_of (by decide +kernel) (Nat.le_of_ble_eq_true rfl) (fun hk hw => h (hk (0, a1) (List.mem_of_getElem? (i := 1) rfl)) (hk (0, a2) (List.mem_of_getElem? (i := 2) rfl)) hw)

def LX11_apart_0 (d n : Nat) (Q : Int → kS → Prop) (a0 : Int) (a1 : Int) (σ : kS) : Prop := K (d + 1) MX11_apart (kPi n Q) (0, 0) 0 [(0, (0, a0)), (1, (0, a1))] [] n σ
theorem SX11_apart_0 {d n : Nat} {Q : Int → kS → Prop} {a0 a1 : Int} {σ : kS} (h : ((0 : Int) ≤ a0) ∧ (((0 : Int) ≤ a1) ∧ ((-2147483648 ≤ ((a0 % 12) - (a1 % 12)) ∧ ((a0 % 12) - (a1 % 12)) ≤ 2147483647) ∧ (Ci d MJm_abs [(0, ((a0 % 12) - (a1 % 12)))] n σ (fun x4 s1 => (-2147483648 ≤ ((a0 / 12) - (a1 / 12)) ∧ ((a0 / 12) - (a1 / 12)) ≤ 2147483647) ∧ (Ci d MJm_abs [(0, ((a0 / 12) - (a1 / 12)))] n s1 (fun x6 s2 => Ci d MJm_max [(0, x4), (0, x6)] n s2 (fun x7 s3 => Q x7 s3)))))))) : LX11_apart_0 d n Q a0 a1 σ := by
  unfold LX11_apart_0
  refine K_iload_n 0 (kdA dt_MX11_apart 0 rfl) rfl rfl ?_
  refine K_bipush (kdA dt_MX11_apart 1 rfl) (by decide +kernel) ?_
  obtain ⟨c1, h⟩ := h
  refine K_irem (kdA dt_MX11_apart 2 rfl) c1 (by decide) ?_
  refine K_iload_n 1 (kdA dt_MX11_apart 3 rfl) rfl rfl ?_
  refine K_bipush (kdA dt_MX11_apart 4 rfl) (by decide +kernel) ?_
  obtain ⟨c2, h⟩ := h
  refine K_irem (kdA dt_MX11_apart 5 rfl) c2 (by decide) ?_
  obtain ⟨c3, h⟩ := h
  refine K_isub (kdA dt_MX11_apart 6 rfl) c3 ?_
  refine K_cSi (as := [(0, ((a0 % 12) - (a1 % 12)))]) (st := []) (kdA dt_MX11_apart 7 rfl) cl_MJm_abs lk11_403 rfl rfl (Nat.le_of_ble_eq_true rfl) (Ci.mono h (fun x4 s1 h => ?_))
  refine K_istore_n (ls' := [(0, (0, a0)), (1, (0, a1)), (2, (0, x4))]) (kdA dt_MX11_apart 8 rfl) rfl (by decide) rfl ?_
  refine K_iload_n 0 (kdA dt_MX11_apart 9 rfl) rfl rfl ?_
  refine K_bipush (kdA dt_MX11_apart 10 rfl) (by decide +kernel) ?_
  refine K_idiv (kdA dt_MX11_apart 11 rfl) c1 (by decide) ?_
  refine K_iload_n 1 (kdA dt_MX11_apart 12 rfl) rfl rfl ?_
  refine K_bipush (kdA dt_MX11_apart 13 rfl) (by decide +kernel) ?_
  refine K_idiv (kdA dt_MX11_apart 14 rfl) c2 (by decide) ?_
  obtain ⟨c5, h⟩ := h
  refine K_isub (kdA dt_MX11_apart 15 rfl) c5 ?_
  refine K_cSi (as := [(0, ((a0 / 12) - (a1 / 12)))]) (st := []) (kdA dt_MX11_apart 16 rfl) cl_MJm_abs lk11_403 rfl rfl (Nat.le_of_ble_eq_true rfl) (Ci.mono h (fun x6 s2 h => ?_))
  refine K_istore_n (ls' := [(0, (0, a0)), (1, (0, a1)), (2, (0, x4)), (3, (0, x6))]) (kdA dt_MX11_apart 17 rfl) rfl (by decide) rfl ?_
  refine K_iload_n 2 (kdA dt_MX11_apart 18 rfl) rfl rfl ?_
  refine K_iload_n 3 (kdA dt_MX11_apart 19 rfl) rfl rfl ?_
  refine K_cSi (as := [(0, x4), (0, x6)]) (st := []) (kdA dt_MX11_apart 20 rfl) cl_MJm_max lk11_408 rfl rfl (Nat.le_of_ble_eq_true rfl) (Ci.mono h (fun x7 s3 h => ?_))
  exact K_ireturn (kdA dt_MX11_apart 21 rfl) rfl ⟨rfl, _, rfl, h⟩
theorem EX11_apart {d n : Nat} {Q : Int → kS → Prop} {a0 a1 : Int} {σ : kS} (h : (-2147483648 ≤ a0 ∧ a0 ≤ 2147483647) → (-2147483648 ≤ a1 ∧ a1 ≤ 2147483647) → kokw n σ → LX11_apart_0 d n Q a0 a1 σ) : Ci (d + 1) MX11_apart [(0, a0), (0, a1)] n σ Q := Tri_of (by decide +kernel) (Nat.le_of_ble_eq_true rfl) (fun hk hw => h (hk (0, a0) (List.mem_of_getElem? (i := 0) rfl)) (hk (0, a1) (List.mem_of_getElem? (i := 1) rfl)) hw)

def LX11_areTwoTowns_0 (d n : Nat) (Q : Int → kS → Prop) (a0 : Int) (a1 : Int) (a2 : Int) (σ : kS) : Prop := K (d + 1) MX11_areTwoTowns (kPi n Q) (0, 0) 0 [(0, (2, a0)), (1, (0, a1)), (2, (0, a2))] [] n σ
theorem SX11_areTwoTowns_0 {d n : Nat} {Q : Int → kS → Prop} {a0 a1 a2 : Int} {σ : kS} (h : (a1 < 0 → Q 0 σ) ∧ (¬ a1 < 0 → isO 11 n a0 ∧ (isO 8 n (σ a0 9) ∧ (((σ (σ a0 9) 1) ≤ a1 → Q 0 σ) ∧ (¬ (σ (σ a0 9) 1) ≤ a1 → (a2 < 0 → Q 0 σ) ∧ (¬ a2 < 0 → ((σ (σ a0 9) 1) ≤ a2 → Q 0 σ) ∧ (¬ (σ (σ a0 9) 1) ≤ a2 → (a1 = a2 → Q 0 σ) ∧ (¬ a1 = a2 → Q 1 σ)))))))) : LX11_areTwoTowns_0 d n Q a0 a1 a2 σ := by
  unfold LX11_areTwoTowns_0
  refine K_iload_n 1 (kdA dt_MX11_areTwoTowns 0 rfl) rfl rfl ?_
  refine K_if_lt (tgt := 39) (kdA dt_MX11_areTwoTowns 1 rfl) rfl (fun c => ?_) (fun c => ?_)
  · have h := h.1 c
    refine K_iconst (kdA dt_MX11_areTwoTowns 19 rfl) (by decide) ?_
    exact K_zreturn (kdA dt_MX11_areTwoTowns 20 rfl) rfl (Or.inl rfl) ⟨rfl, _, rfl, h⟩
  · have h := h.2 c
    refine K_iload_n 1 (kdA dt_MX11_areTwoTowns 2 rfl) rfl rfl ?_
    refine K_aload_n 0 (kdA dt_MX11_areTwoTowns 3 rfl) rfl rfl ?_
    obtain ⟨c1, h⟩ := h
    refine gf11_48 rfl (kdA dt_MX11_areTwoTowns 4 rfl) c1 ?_
    obtain ⟨c2, h⟩ := h
    refine gf11_130 rfl (kdA dt_MX11_areTwoTowns 5 rfl) c2 ?_
    refine K_icmp_ge (tgt := 39) (kdA dt_MX11_areTwoTowns 6 rfl) rfl (fun c => ?_) (fun c => ?_)
    · have h := h.1 c
      refine K_iconst (kdA dt_MX11_areTwoTowns 19 rfl) (by decide) ?_
      exact K_zreturn (kdA dt_MX11_areTwoTowns 20 rfl) rfl (Or.inl rfl) ⟨rfl, _, rfl, h⟩
    · have h := h.2 c
      refine K_iload_n 2 (kdA dt_MX11_areTwoTowns 7 rfl) rfl rfl ?_
      refine K_if_lt (tgt := 39) (kdA dt_MX11_areTwoTowns 8 rfl) rfl (fun c => ?_) (fun c => ?_)
      · have h := h.1 c
        refine K_iconst (kdA dt_MX11_areTwoTowns 19 rfl) (by decide) ?_
        exact K_zreturn (kdA dt_MX11_areTwoTowns 20 rfl) rfl (Or.inl rfl) ⟨rfl, _, rfl, h⟩
      · have h := h.2 c
        refine K_iload_n 2 (kdA dt_MX11_areTwoTowns 9 rfl) rfl rfl ?_
        refine K_aload_n 0 (kdA dt_MX11_areTwoTowns 10 rfl) rfl rfl ?_
        refine gf11_48 rfl (kdA dt_MX11_areTwoTowns 11 rfl) c1 ?_
        refine gf11_130 rfl (kdA dt_MX11_areTwoTowns 12 rfl) c2 ?_
        refine K_icmp_ge (tgt := 39) (kdA dt_MX11_areTwoTowns 13 rfl) rfl (fun c => ?_) (fun c => ?_)
        · have h := h.1 c
          refine K_iconst (kdA dt_MX11_areTwoTowns 19 rfl) (by decide) ?_
          exact K_zreturn (kdA dt_MX11_areTwoTowns 20 rfl) rfl (Or.inl rfl) ⟨rfl, _, rfl, h⟩
        · have h := h.2 c
          refine K_iload_n 1 (kdA dt_MX11_areTwoTowns 14 rfl) rfl rfl ?_
          refine K_iload_n 2 (kdA dt_MX11_areTwoTowns 15 rfl) rfl rfl ?_
          refine K_icmp_eq (tgt := 39) (kdA dt_MX11_areTwoTowns 16 rfl) rfl (fun c => ?_) (fun c => ?_)
          · have h := h.1 c
            refine K_iconst (kdA dt_MX11_areTwoTowns 19 rfl) (by decide) ?_
            exact K_zreturn (kdA dt_MX11_areTwoTowns 20 rfl) rfl (Or.inl rfl) ⟨rfl, _, rfl, h⟩
          · have h := h.2 c
            refine K_iconst (kdA dt_MX11_areTwoTowns 17 rfl) (by decide) ?_
            refine K_goto (tgt := 40) (kdA dt_MX11_areTwoTowns 18 rfl) rfl ?_
            exact K_zreturn (kdA dt_MX11_areTwoTowns 20 rfl) rfl (Or.inr rfl) ⟨rfl, _, rfl, h⟩
theorem EX11_areTwoTowns {d n : Nat} {Q : Int → kS → Prop} {a0 a1 a2 : Int} {σ : kS} (h : (-2147483648 ≤ a1 ∧ a1 ≤ 2147483647) → (-2147483648 ≤ a2 ∧ a2 ≤ 2147483647) → kokw n σ → LX11_areTwoTowns_0 d n Q a0 a1 a2 σ) : Ci (d + 1) MX11_areTwoTowns [(2, a0), (0, a1), (0, a2)] n σ Q := Tri_of (by decide +kernel) (Nat.le_of_ble_eq_true rfl) (fun hk hw => h (hk (0, a1) (List.mem_of_getElem? (i := 1) rfl)) (hk (0, a2) (List.mem_of_getElem? (i := 2) rfl)) hw)

def LX11_best_0 (d n : Nat) (Q : Int → kS → Prop) (a0 : Int) (a1 : Int) (a2 : Int) (a3 : Int) (σ : kS) : Prop := K (d + 1) MX11_best (kPi n Q) (0, 0) 0 [(0, (2, a0)), (1, (0, a1)), (2, (0, a2)), (3, (0, a3))] [] n σ
theorem SX11_best_0 {d n : Nat} {Q : Int → kS → Prop} {a0 a1 a2 a3 : Int} {σ : kS} (h : isO 11 n a0 ∧ (Ci d MX11_isManner [(2, a0), (0, 0), (0, a1)] n σ (fun x2 s1 => (x2 = 0 → Q (-1) s1) ∧ (¬ x2 = 0 → (a3 < 0 → Q (-1) s1) ∧ (¬ a3 < 0 → (a3 ≤ 1 → Cv d MX11_fillMisses [(2, a0), (0, a1), (0, a2)] n s1 (fun s2 => Ci d MX11_bestBut [(2, a0), (0, (-1))] n s2 (fun x4 s3 => (¬ a3 = 0 → Ci d MX11_fitBut [(2, a0), (0, x4), (0, (-1))] n s3 (fun x5 s4 => Q x5 s4)) ∧ (¬ (¬ a3 = 0) → Q x4 s3)))) ∧ (¬ a3 ≤ 1 → Q (-1) s1)))))) : LX11_best_0 d n Q a0 a1 a2 a3 σ := by
  unfold LX11_best_0
  refine K_aload_n 0 (kdA dt_MX11_best 0 rfl) rfl rfl ?_
  refine K_iconst (kdA dt_MX11_best 1 rfl) (by decide) ?_
  refine K_iload_n 1 (kdA dt_MX11_best 2 rfl) rfl rfl ?_
  obtain ⟨c1, h⟩ := h
  refine K_cVi (c := 11) (as := [(0, 0), (0, a1)]) (st := []) (kdA dt_MX11_best 3 rfl) rfl cl_MX11_isManner lk11_169 rfl rfl (Nat.le_of_ble_eq_true rfl) c1 (Ci.mono h (fun x2 s1 h => ?_))
  refine K_if_eq (tgt := 18) (kdA dt_MX11_best 4 rfl) rfl (fun c => ?_) (fun c => ?_)
  · have h := h.1 c
    refine K_iconst (kdA dt_MX11_best 10 rfl) (by decide) ?_
    exact K_ireturn (kdA dt_MX11_best 11 rfl) rfl ⟨rfl, _, rfl, h⟩
  · have h := h.2 c
    refine K_iload_n 3 (kdA dt_MX11_best 5 rfl) rfl rfl ?_
    refine K_if_lt (tgt := 18) (kdA dt_MX11_best 6 rfl) rfl (fun c => ?_) (fun c => ?_)
    · have h := h.1 c
      refine K_iconst (kdA dt_MX11_best 10 rfl) (by decide) ?_
      exact K_ireturn (kdA dt_MX11_best 11 rfl) rfl ⟨rfl, _, rfl, h⟩
    · have h := h.2 c
      refine K_iload_n 3 (kdA dt_MX11_best 7 rfl) rfl rfl ?_
      refine K_iconst (kdA dt_MX11_best 8 rfl) (by decide) ?_
      refine K_icmp_le (tgt := 20) (kdA dt_MX11_best 9 rfl) rfl (fun c => ?_) (fun c => ?_)
      · have h := h.1 c
        refine K_aload_n 0 (kdA dt_MX11_best 12 rfl) rfl rfl ?_
        refine K_iload_n 1 (kdA dt_MX11_best 13 rfl) rfl rfl ?_
        refine K_iload_n 2 (kdA dt_MX11_best 14 rfl) rfl rfl ?_
        refine K_cVv (c := 11) (as := [(0, a1), (0, a2)]) (st := []) (kdA dt_MX11_best 15 rfl) rfl cl_MX11_fillMisses lk11_266 rfl rfl (Nat.le_of_ble_eq_true rfl) c1 (Cv.mono h (fun s2 h => ?_))
        refine K_aload_n 0 (kdA dt_MX11_best 16 rfl) rfl rfl ?_
        refine K_iconst (kdA dt_MX11_best 17 rfl) (by decide) ?_
        refine K_cVi (c := 11) (as := [(0, (-1))]) (st := []) (kdA dt_MX11_best 18 rfl) rfl cl_MX11_bestBut lk11_270 rfl rfl (Nat.le_of_ble_eq_true rfl) c1 (Ci.mono h (fun x4 s3 h => ?_))
        refine K_istore (ls' := [(0, (2, a0)), (1, (0, a1)), (2, (0, a2)), (3, (0, a3)), (4, (0, x4))]) (kdA dt_MX11_best 19 rfl) (by decide) rfl ?_
        refine K_iload_n 3 (kdA dt_MX11_best 20 rfl) rfl rfl ?_
        refine K_if_ne (tgt := 42) (kdA dt_MX11_best 21 rfl) rfl (fun c => ?_) (fun c => ?_)
        · have h := h.1 c
          refine K_aload_n 0 (kdA dt_MX11_best 24 rfl) rfl rfl ?_
          refine K_iload 4 (kdA dt_MX11_best 25 rfl) rfl ?_
          refine K_iconst (kdA dt_MX11_best 26 rfl) (by decide) ?_
          refine K_cVi (c := 11) (as := [(0, x4), (0, (-1))]) (st := []) (kdA dt_MX11_best 27 rfl) rfl cl_MX11_fitBut lk11_273 rfl rfl (Nat.le_of_ble_eq_true rfl) c1 (Ci.mono h (fun x5 s4 h => ?_))
          exact K_ireturn (kdA dt_MX11_best 28 rfl) rfl ⟨rfl, _, rfl, h⟩
        · have h := h.2 c
          refine K_iload 4 (kdA dt_MX11_best 22 rfl) rfl ?_
          refine K_goto (tgt := 49) (kdA dt_MX11_best 23 rfl) rfl ?_
          exact K_ireturn (kdA dt_MX11_best 28 rfl) rfl ⟨rfl, _, rfl, h⟩
      · have h := h.2 c
        refine K_iconst (kdA dt_MX11_best 10 rfl) (by decide) ?_
        exact K_ireturn (kdA dt_MX11_best 11 rfl) rfl ⟨rfl, _, rfl, h⟩
theorem EX11_best {d n : Nat} {Q : Int → kS → Prop} {a0 a1 a2 a3 : Int} {σ : kS} (h : (-2147483648 ≤ a1 ∧ a1 ≤ 2147483647) → (-2147483648 ≤ a2 ∧ a2 ≤ 2147483647) → (-2147483648 ≤ a3 ∧ a3 ≤ 2147483647) → kokw n σ → LX11_best_0 d n Q a0 a1 a2 a3 σ) : Ci (d + 1) MX11_best [(2, a0), (0, a1), (0, a2), (0, a3)] n σ Q := Tri_of (by decide +kernel) (Nat.le_of_ble_eq_true rfl) (fun hk hw => h (hk (0, a1) (List.mem_of_getElem? (i := 1) rfl)) (hk (0, a2) (List.mem_of_getElem? (i := 2) rfl)) (hk (0, a3) (List.mem_of_getElem? (i := 3) rfl)) hw)

def LX11_bestBut_0 (d n : Nat) (Q : Int → kS → Prop) (a0 : Int) (a1 : Int) (σ : kS) : Prop := K (d + 1) MX11_bestBut (kPi n Q) (0, 0) 0 [(0, (2, a0)), (1, (0, a1))] [] n σ
def LX11_bestBut_4 (d n : Nat) (Q : Int → kS → Prop) (a0 : Int) (a1 : Int) (a2 : Int) (a3 : Int) (σ : kS) : Prop := K (d + 1) MX11_bestBut (kPi n Q) (0, 0) 4 [(0, (2, a0)), (1, (0, a1)), (2, (0, a2)), (3, (0, a3))] [] n σ
theorem SX11_bestBut_0 {d n : Nat} {Q : Int → kS → Prop} {a0 a1 : Int} {σ : kS} (h : LX11_bestBut_4 d n Q a0 a1 0 1 σ) : LX11_bestBut_0 d n Q a0 a1 σ := by
  unfold LX11_bestBut_0
  refine K_iconst (kdA dt_MX11_bestBut 0 rfl) (by decide) ?_
  refine K_istore_n (ls' := [(0, (2, a0)), (1, (0, a1)), (2, (0, 0))]) (kdA dt_MX11_bestBut 1 rfl) rfl (by decide) rfl ?_
  refine K_iconst (kdA dt_MX11_bestBut 2 rfl) (by decide) ?_
  refine K_istore_n (ls' := [(0, (2, a0)), (1, (0, a1)), (2, (0, 0)), (3, (0, 1))]) (kdA dt_MX11_bestBut 3 rfl) rfl (by decide) rfl ?_
  exact h
theorem SX11_bestBut_4 {d n : Nat} {Q : Int → kS → Prop} {a0 a1 a2 a3 : Int} {σ : kS} (h : isO 11 n a0 ∧ (((σ a0 6) ≤ a3 → Q a2 σ) ∧ (¬ (σ a0 6) ≤ a3 → Ci d MX11_fitBut [(2, a0), (0, a3), (0, a1)] n σ (fun x2 s1 => Ci d MX11_fitBut [(2, a0), (0, a2), (0, a1)] n s1 (fun x3 s2 => (x3 ≤ x2 → (-2147483648 ≤ (a3 + 1) ∧ (a3 + 1) ≤ 2147483647) ∧ (LX11_bestBut_4 d n Q a0 a1 a2 (a3 + 1) s2)) ∧ (¬ x3 ≤ x2 → (-2147483648 ≤ (a3 + 1) ∧ (a3 + 1) ≤ 2147483647) ∧ (LX11_bestBut_4 d n Q a0 a1 a3 (a3 + 1) s2))))))) : LX11_bestBut_4 d n Q a0 a1 a2 a3 σ := by
  unfold LX11_bestBut_4
  refine K_iload_n 3 (kdA dt_MX11_bestBut 4 rfl) rfl rfl ?_
  refine K_aload_n 0 (kdA dt_MX11_bestBut 5 rfl) rfl rfl ?_
  obtain ⟨c1, h⟩ := h
  refine gf11_158 rfl (kdA dt_MX11_bestBut 6 rfl) c1 ?_
  refine K_icmp_ge (tgt := 35) (kdA dt_MX11_bestBut 7 rfl) rfl (fun c => ?_) (fun c => ?_)
  · have h := h.1 c
    refine K_iload_n 2 (kdA dt_MX11_bestBut 21 rfl) rfl rfl ?_
    exact K_ireturn (kdA dt_MX11_bestBut 22 rfl) rfl ⟨rfl, _, rfl, h⟩
  · have h := h.2 c
    refine K_aload_n 0 (kdA dt_MX11_bestBut 8 rfl) rfl rfl ?_
    refine K_iload_n 3 (kdA dt_MX11_bestBut 9 rfl) rfl rfl ?_
    refine K_iload_n 1 (kdA dt_MX11_bestBut 10 rfl) rfl rfl ?_
    refine K_cVi (c := 11) (as := [(0, a3), (0, a1)]) (st := []) (kdA dt_MX11_bestBut 11 rfl) rfl cl_MX11_fitBut lk11_273 rfl rfl (Nat.le_of_ble_eq_true rfl) c1 (Ci.mono h (fun x2 s1 h => ?_))
    refine K_aload_n 0 (kdA dt_MX11_bestBut 12 rfl) rfl rfl ?_
    refine K_iload_n 2 (kdA dt_MX11_bestBut 13 rfl) rfl rfl ?_
    refine K_iload_n 1 (kdA dt_MX11_bestBut 14 rfl) rfl rfl ?_
    refine K_cVi (c := 11) (as := [(0, a2), (0, a1)]) (st := [(0, x2)]) (kdA dt_MX11_bestBut 15 rfl) rfl cl_MX11_fitBut lk11_273 rfl rfl (Nat.le_of_ble_eq_true rfl) c1 (Ci.mono h (fun x3 s2 h => ?_))
    refine K_icmp_ge (tgt := 29) (kdA dt_MX11_bestBut 16 rfl) rfl (fun c => ?_) (fun c => ?_)
    · have h := h.1 c
      obtain ⟨c4, h⟩ := h
      refine K_iinc (ls' := [(0, (2, a0)), (1, (0, a1)), (2, (0, a2)), (3, (0, (a3 + 1)))]) 3 (kdA dt_MX11_bestBut 19 rfl) rfl c4 (by decide) rfl ?_
      refine K_goto (tgt := 4) (kdA dt_MX11_bestBut 20 rfl) rfl ?_
      exact h
    · have h := h.2 c
      refine K_iload_n 3 (kdA dt_MX11_bestBut 17 rfl) rfl rfl ?_
      refine K_istore_n (ls' := [(0, (2, a0)), (1, (0, a1)), (2, (0, a3)), (3, (0, a3))]) (kdA dt_MX11_bestBut 18 rfl) rfl (by decide) rfl ?_
      obtain ⟨c4, h⟩ := h
      refine K_iinc (ls' := [(0, (2, a0)), (1, (0, a1)), (2, (0, a3)), (3, (0, (a3 + 1)))]) 3 (kdA dt_MX11_bestBut 19 rfl) rfl c4 (by decide) rfl ?_
      refine K_goto (tgt := 4) (kdA dt_MX11_bestBut 20 rfl) rfl ?_
      exact h
theorem EX11_bestBut {d n : Nat} {Q : Int → kS → Prop} {a0 a1 : Int} {σ : kS} (h : (-2147483648 ≤ a1 ∧ a1 ≤ 2147483647) → kokw n σ → LX11_bestBut_0 d n Q a0 a1 σ) : Ci (d + 1) MX11_bestBut [(2, a0), (0, a1)] n σ Q := Tri_of (by decide +kernel) (Nat.le_of_ble_eq_true rfl) (fun hk hw => h (hk (0, a1) (List.mem_of_getElem? (i := 1) rfl)) hw)

def LX11_bring_0 (d n : Nat) (Q : Int → kS → Prop) (a0 : Int) (a1 : Int) (σ : kS) : Prop := K (d + 1) MX11_bring (kPi n Q) (0, 0) 0 [(0, (2, a0)), (1, (0, a1))] [] n σ
theorem SX11_bring_0 {d n : Nat} {Q : Int → kS → Prop} {a0 a1 : Int} {σ : kS} (h : isO 11 n a0 ∧ (Ci d MX11_isEra [(2, a0), (0, a1)] n σ (fun x2 s1 => (¬ x2 = 0 → isA 25 n (s1 a0 1) ∧ (((0 : Int) ≤ a1 ∧ a1 < klen (s1 a0 1)) ∧ (isO 5 n (s1 a0 0) ∧ (Ci d MX5_unlikeCells [(2, (s1 a0 0)), (2, (s1 (s1 a0 1) a1))] n s1 (fun x6 s2 => isA 25 n (s2 a0 1) ∧ (((0 : Int) ≤ a1 ∧ a1 < klen (s2 a0 1)) ∧ (isO 5 n (s2 a0 0) ∧ (Cv d MX5_take [(2, (s2 a0 0)), (2, (s2 (s2 a0 1) a1))] n s2 (fun s3 => Q x6 s3))))))))) ∧ (¬ (¬ x2 = 0) → Q (-1) s1)))) : LX11_bring_0 d n Q a0 a1 σ := by
  unfold LX11_bring_0
  refine K_aload_n 0 (kdA dt_MX11_bring 0 rfl) rfl rfl ?_
  refine K_iload_n 1 (kdA dt_MX11_bring 1 rfl) rfl rfl ?_
  obtain ⟨c1, h⟩ := h
  refine K_cVi (c := 11) (as := [(0, a1)]) (st := []) (kdA dt_MX11_bring 2 rfl) rfl cl_MX11_isEra lk11_383 rfl rfl (Nat.le_of_ble_eq_true rfl) c1 (Ci.mono h (fun x2 s1 h => ?_))
  refine K_if_ne (tgt := 10) (kdA dt_MX11_bring 3 rfl) rfl (fun c => ?_) (fun c => ?_)
  · have h := h.1 c
    refine K_aload_n 0 (kdA dt_MX11_bring 6 rfl) rfl rfl ?_
    refine gf11_10 rfl (kdA dt_MX11_bring 7 rfl) c1 ?_
    refine K_aload_n 0 (kdA dt_MX11_bring 8 rfl) rfl rfl ?_
    refine gf11_16 rfl (kdA dt_MX11_bring 9 rfl) c1 ?_
    refine K_iload_n 1 (kdA dt_MX11_bring 10 rfl) rfl rfl ?_
    obtain ⟨c3, h⟩ := h
    obtain ⟨c4, h⟩ := h
    refine K_aaload (kdA dt_MX11_bring 11 rfl) (by decide) c3 c4.1 c4.2 ?_
    obtain ⟨c5, h⟩ := h
    refine K_cVi (c := 5) (as := [(2, (s1 (s1 a0 1) a1))]) (st := []) (kdA dt_MX11_bring 12 rfl) rfl cl_MX5_unlikeCells lk11_386 rfl rfl (Nat.le_of_ble_eq_true rfl) c5 (Ci.mono h (fun x6 s2 h => ?_))
    refine K_istore_n (ls' := [(0, (2, a0)), (1, (0, a1)), (2, (0, x6))]) (kdA dt_MX11_bring 13 rfl) rfl (by decide) rfl ?_
    refine K_aload_n 0 (kdA dt_MX11_bring 14 rfl) rfl rfl ?_
    refine gf11_10 rfl (kdA dt_MX11_bring 15 rfl) c1 ?_
    refine K_aload_n 0 (kdA dt_MX11_bring 16 rfl) rfl rfl ?_
    refine gf11_16 rfl (kdA dt_MX11_bring 17 rfl) c1 ?_
    refine K_iload_n 1 (kdA dt_MX11_bring 18 rfl) rfl rfl ?_
    obtain ⟨c7, h⟩ := h
    obtain ⟨c8, h⟩ := h
    refine K_aaload (kdA dt_MX11_bring 19 rfl) (by decide) c7 c8.1 c8.2 ?_
    obtain ⟨c9, h⟩ := h
    refine K_cVv (c := 5) (as := [(2, (s2 (s2 a0 1) a1))]) (st := []) (kdA dt_MX11_bring 20 rfl) rfl cl_MX5_take lk11_380 rfl rfl (Nat.le_of_ble_eq_true rfl) c9 (Cv.mono h (fun s3 h => ?_))
    refine K_iload_n 2 (kdA dt_MX11_bring 21 rfl) rfl rfl ?_
    exact K_ireturn (kdA dt_MX11_bring 22 rfl) rfl ⟨rfl, _, rfl, h⟩
  · have h := h.2 c
    refine K_iconst (kdA dt_MX11_bring 4 rfl) (by decide) ?_
    exact K_ireturn (kdA dt_MX11_bring 5 rfl) rfl ⟨rfl, _, rfl, h⟩
theorem EX11_bring {d n : Nat} {Q : Int → kS → Prop} {a0 a1 : Int} {σ : kS} (h : (-2147483648 ≤ a1 ∧ a1 ≤ 2147483647) → kokw n σ → LX11_bring_0 d n Q a0 a1 σ) : Ci (d + 1) MX11_bring [(2, a0), (0, a1)] n σ Q := Tri_of (by decide +kernel) (Nat.le_of_ble_eq_true rfl) (fun hk hw => h (hk (0, a1) (List.mem_of_getElem? (i := 1) rfl)) hw)

def LX11_bytesIn_0 (d n : Nat) (Q : Int → kS → Prop) (a0 : Int) (σ : kS) : Prop := K (d + 1) MX11_bytesIn (kPi n Q) (0, 0) 0 [(0, (0, a0))] [] n σ
def LX11_bytesIn_5 (d n : Nat) (Q : Int → kS → Prop) (a0 : Int) (a1 : Int) (a2 : Int) (σ : kS) : Prop := K (d + 1) MX11_bytesIn (kPi n Q) (0, 0) 5 [(0, (0, a0)), (1, (0, a1)), (2, (0, a2))] [] n σ
theorem SX11_bytesIn_0 {d n : Nat} {Q : Int → kS → Prop} {a0 : Int} {σ : kS} (h : LX11_bytesIn_5 d n Q a0 0 24 σ) : LX11_bytesIn_0 d n Q a0 σ := by
  unfold LX11_bytesIn_0
  refine K_iconst (kdA dt_MX11_bytesIn 0 rfl) (by decide) ?_
  refine K_istore_n (ls' := [(0, (0, a0)), (1, (0, 0))]) (kdA dt_MX11_bytesIn 1 rfl) rfl (by decide) rfl ?_
  refine K_bipush (kdA dt_MX11_bytesIn 2 rfl) (by decide +kernel) ?_
  refine K_istore_n (ls' := [(0, (0, a0)), (1, (0, 0)), (2, (0, 24))]) (kdA dt_MX11_bytesIn 3 rfl) rfl (by decide) rfl ?_
  exact h
theorem SX11_bytesIn_5 {d n : Nat} {Q : Int → kS → Prop} {a0 a1 a2 : Int} {σ : kS} (h : (a2 < 0 → Q a1 σ) ∧ (¬ a2 < 0 → ((kand (kiushr a0 a2) 255) = 0 → (-2147483648 ≤ (a2 + (-8)) ∧ (a2 + (-8)) ≤ 2147483647) ∧ (LX11_bytesIn_5 d n Q a0 a1 (a2 + (-8)) σ)) ∧ (¬ (kand (kiushr a0 a2) 255) = 0 → (-2147483648 ≤ (a1 + 1) ∧ (a1 + 1) ≤ 2147483647) ∧ ((-2147483648 ≤ (a2 + (-8)) ∧ (a2 + (-8)) ≤ 2147483647) ∧ (LX11_bytesIn_5 d n Q a0 (a1 + 1) (a2 + (-8)) σ))))) : LX11_bytesIn_5 d n Q a0 a1 a2 σ := by
  unfold LX11_bytesIn_5
  refine K_iload_n 2 (kdA dt_MX11_bytesIn 4 rfl) rfl rfl ?_
  refine K_if_lt (tgt := 28) (kdA dt_MX11_bytesIn 5 rfl) rfl (fun c => ?_) (fun c => ?_)
  · have h := h.1 c
    refine K_iload_n 1 (kdA dt_MX11_bytesIn 15 rfl) rfl rfl ?_
    exact K_ireturn (kdA dt_MX11_bytesIn 16 rfl) rfl ⟨rfl, _, rfl, h⟩
  · have h := h.2 c
    refine K_iload_n 0 (kdA dt_MX11_bytesIn 6 rfl) rfl rfl ?_
    refine K_iload_n 2 (kdA dt_MX11_bytesIn 7 rfl) rfl rfl ?_
    refine K_iushr (kdA dt_MX11_bytesIn 8 rfl) ?_
    refine K_sipush (kdA dt_MX11_bytesIn 9 rfl) (by decide +kernel) ?_
    refine K_iand (kdA dt_MX11_bytesIn 10 rfl) ?_
    refine K_if_eq (tgt := 22) (kdA dt_MX11_bytesIn 11 rfl) rfl (fun c => ?_) (fun c => ?_)
    · have h := h.1 c
      obtain ⟨c1, h⟩ := h
      refine K_iinc (ls' := [(0, (0, a0)), (1, (0, a1)), (2, (0, (a2 + (-8))))]) 2 (kdA dt_MX11_bytesIn 13 rfl) rfl c1 (by decide) rfl ?_
      refine K_goto (tgt := 5) (kdA dt_MX11_bytesIn 14 rfl) rfl ?_
      exact h
    · have h := h.2 c
      obtain ⟨c1, h⟩ := h
      refine K_iinc (ls' := [(0, (0, a0)), (1, (0, (a1 + 1))), (2, (0, a2))]) 1 (kdA dt_MX11_bytesIn 12 rfl) rfl c1 (by decide) rfl ?_
      obtain ⟨c2, h⟩ := h
      refine K_iinc (ls' := [(0, (0, a0)), (1, (0, (a1 + 1))), (2, (0, (a2 + (-8))))]) 2 (kdA dt_MX11_bytesIn 13 rfl) rfl c2 (by decide) rfl ?_
      refine K_goto (tgt := 5) (kdA dt_MX11_bytesIn 14 rfl) rfl ?_
      exact h
theorem EX11_bytesIn {d n : Nat} {Q : Int → kS → Prop} {a0 : Int} {σ : kS} (h : (-2147483648 ≤ a0 ∧ a0 ≤ 2147483647) → kokw n σ → LX11_bytesIn_0 d n Q a0 σ) : Ci (d + 1) MX11_bytesIn [(0, a0)] n σ Q := Tri_of (by decide +kernel) (Nat.le_of_ble_eq_true rfl) (fun hk hw => h (hk (0, a0) (List.mem_of_getElem? (i := 0) rfl)) hw)

def LX11_changed_0 (d n : Nat) (Q : Int → kS → Prop) (a0 : Int) (a1 : Int) (σ : kS) : Prop := K (d + 1) MX11_changed (kPi n Q) (0, 0) 0 [(0, (2, a0)), (1, (0, a1))] [] n σ
theorem SX11_changed_0 {d n : Nat} {Q : Int → kS → Prop} {a0 a1 : Int} {σ : kS} (h : isO 11 n a0 ∧ (Ci d MX11_isEra [(2, a0), (0, a1)] n σ (fun x2 s1 => (x2 = 0 → Q (-1) s1) ∧ (¬ x2 = 0 → isA 25 n (s1 a0 1) ∧ (((0 : Int) ≤ a1 ∧ a1 < klen (s1 a0 1)) ∧ (isO 5 n (s1 a0 0) ∧ (Ci d MX5_unlikeCells [(2, (s1 a0 0)), (2, (s1 (s1 a0 1) a1))] n s1 (fun x6 s2 => Q x6 s2)))))))) : LX11_changed_0 d n Q a0 a1 σ := by
  unfold LX11_changed_0
  refine K_aload_n 0 (kdA dt_MX11_changed 0 rfl) rfl rfl ?_
  refine K_iload_n 1 (kdA dt_MX11_changed 1 rfl) rfl rfl ?_
  obtain ⟨c1, h⟩ := h
  refine K_cVi (c := 11) (as := [(0, a1)]) (st := []) (kdA dt_MX11_changed 2 rfl) rfl cl_MX11_isEra lk11_383 rfl rfl (Nat.le_of_ble_eq_true rfl) c1 (Ci.mono h (fun x2 s1 h => ?_))
  refine K_if_eq (tgt := 24) (kdA dt_MX11_changed 3 rfl) rfl (fun c => ?_) (fun c => ?_)
  · have h := h.1 c
    refine K_iconst (kdA dt_MX11_changed 12 rfl) (by decide) ?_
    exact K_ireturn (kdA dt_MX11_changed 13 rfl) rfl ⟨rfl, _, rfl, h⟩
  · have h := h.2 c
    refine K_aload_n 0 (kdA dt_MX11_changed 4 rfl) rfl rfl ?_
    refine gf11_10 rfl (kdA dt_MX11_changed 5 rfl) c1 ?_
    refine K_aload_n 0 (kdA dt_MX11_changed 6 rfl) rfl rfl ?_
    refine gf11_16 rfl (kdA dt_MX11_changed 7 rfl) c1 ?_
    refine K_iload_n 1 (kdA dt_MX11_changed 8 rfl) rfl rfl ?_
    obtain ⟨c3, h⟩ := h
    obtain ⟨c4, h⟩ := h
    refine K_aaload (kdA dt_MX11_changed 9 rfl) (by decide) c3 c4.1 c4.2 ?_
    obtain ⟨c5, h⟩ := h
    refine K_cVi (c := 5) (as := [(2, (s1 (s1 a0 1) a1))]) (st := []) (kdA dt_MX11_changed 10 rfl) rfl cl_MX5_unlikeCells lk11_386 rfl rfl (Nat.le_of_ble_eq_true rfl) c5 (Ci.mono h (fun x6 s2 h => ?_))
    refine K_goto (tgt := 25) (kdA dt_MX11_changed 11 rfl) rfl ?_
    exact K_ireturn (kdA dt_MX11_changed 13 rfl) rfl ⟨rfl, _, rfl, h⟩
theorem EX11_changed {d n : Nat} {Q : Int → kS → Prop} {a0 a1 : Int} {σ : kS} (h : (-2147483648 ≤ a1 ∧ a1 ≤ 2147483647) → kokw n σ → LX11_changed_0 d n Q a0 a1 σ) : Ci (d + 1) MX11_changed [(2, a0), (0, a1)] n σ Q := Tri_of (by decide +kernel) (Nat.le_of_ble_eq_true rfl) (fun hk hw => h (hk (0, a1) (List.mem_of_getElem? (i := 1) rfl)) hw)

def LX11_count_0 (d n : Nat) (Q : Int → kS → Prop) (a0 : Int) (a1 : Int) (σ : kS) : Prop := K (d + 1) MX11_count (kPi n Q) (0, 0) 0 [(0, (2, a0)), (1, (0, a1))] [] n σ
theorem SX11_count_0 {d n : Nat} {Q : Int → kS → Prop} {a0 a1 : Int} {σ : kS} (h : (a1 < 0 ∨ 9 < a1 → Q (-1) σ) ∧ (a1 = 0 → isO 11 n a0 ∧ (isO 8 n (σ a0 9) ∧ (Q (σ (σ a0 9) 1) σ))) ∧ (a1 = 1 → isO 11 n a0 ∧ (Q (σ a0 6) σ)) ∧ (a1 = 2 → isO 11 n a0 ∧ (Q (σ a0 8) σ)) ∧ (a1 = 3 → isO 11 n a0 ∧ (Q (σ a0 11) σ)) ∧ (a1 = 4 → isO 11 n a0 ∧ (isO 2 n (σ a0 16) ∧ (isO 8 n (σ (σ a0 16) 0) ∧ (Q (σ (σ (σ a0 16) 0) 1) σ)))) ∧ (a1 = 5 → isO 11 n a0 ∧ (isO 8 n (σ a0 12) ∧ (Q (σ (σ a0 12) 1) σ))) ∧ (a1 = 6 → isO 11 n a0 ∧ (isO 7 n (σ a0 17) ∧ (isO 8 n (σ (σ a0 17) 0) ∧ (Q (σ (σ (σ a0 17) 0) 1) σ)))) ∧ (a1 = 7 → isO 11 n a0 ∧ (isO 8 n (σ a0 13) ∧ (((0 : Int) ≤ (σ (σ a0 13) 1)) ∧ (Q ((σ (σ a0 13) 1) / 4) σ)))) ∧ (a1 = 8 → isO 11 n a0 ∧ (isO 8 n (σ a0 3) ∧ (Q (σ (σ a0 3) 1) σ))) ∧ (a1 = 9 → isO 11 n a0 ∧ (Q (σ a0 2) σ))) : LX11_count_0 d n Q a0 a1 σ := by
  unfold LX11_count_0
  refine K_iload_n 1 (kdA dt_MX11_count 0 rfl) rfl rfl ?_
  by_cases hx : a1 < 0 ∨ 9 < a1
  · refine K_sw0 (tgt := 132) (kdA dt_MX11_count 1 rfl) hx rfl ?_
    have h := h.1 hx
    refine K_iconst (kdA dt_MX11_count 42 rfl) (by decide) ?_
    exact K_ireturn (kdA dt_MX11_count 43 rfl) rfl ⟨rfl, _, rfl, h⟩
  have h := h.2
  have l0 : (0 : Int) ≤ a1 := Int.not_lt.mp (fun q => hx (Or.inl q))
  by_cases e0 : a1 = 0
  · refine K_sw1 (tgt := 56) (kdA dt_MX11_count 1 rfl) e0 (by decide) rfl rfl ?_
    have h := h.1 e0
    refine K_aload_n 0 (kdA dt_MX11_count 2 rfl) rfl rfl ?_
    obtain ⟨c1, h⟩ := h
    refine gf11_48 rfl (kdA dt_MX11_count 3 rfl) c1 ?_
    obtain ⟨c2, h⟩ := h
    refine gf11_130 rfl (kdA dt_MX11_count 4 rfl) c2 ?_
    exact K_ireturn (kdA dt_MX11_count 5 rfl) rfl ⟨rfl, _, rfl, h⟩
  have h := h.2
  have l1 := k_sn l0 e0 (show (0 : Int) + 1 = 1 by decide)
  by_cases e1 : a1 = 1
  · refine K_sw1 (tgt := 64) (kdA dt_MX11_count 1 rfl) e1 (by decide) rfl rfl ?_
    have h := h.1 e1
    refine K_aload_n 0 (kdA dt_MX11_count 6 rfl) rfl rfl ?_
    obtain ⟨c1, h⟩ := h
    refine gf11_158 rfl (kdA dt_MX11_count 7 rfl) c1 ?_
    exact K_ireturn (kdA dt_MX11_count 8 rfl) rfl ⟨rfl, _, rfl, h⟩
  have h := h.2
  have l2 := k_sn l1 e1 (show (1 : Int) + 1 = 2 by decide)
  by_cases e2 : a1 = 2
  · refine K_sw1 (tgt := 69) (kdA dt_MX11_count 1 rfl) e2 (by decide) rfl rfl ?_
    have h := h.1 e2
    refine K_aload_n 0 (kdA dt_MX11_count 9 rfl) rfl rfl ?_
    obtain ⟨c1, h⟩ := h
    refine gf11_151 rfl (kdA dt_MX11_count 10 rfl) c1 ?_
    exact K_ireturn (kdA dt_MX11_count 11 rfl) rfl ⟨rfl, _, rfl, h⟩
  have h := h.2
  have l3 := k_sn l2 e2 (show (2 : Int) + 1 = 3 by decide)
  by_cases e3 : a1 = 3
  · refine K_sw1 (tgt := 74) (kdA dt_MX11_count 1 rfl) e3 (by decide) rfl rfl ?_
    have h := h.1 e3
    refine K_aload_n 0 (kdA dt_MX11_count 12 rfl) rfl rfl ?_
    obtain ⟨c1, h⟩ := h
    refine gf11_216 rfl (kdA dt_MX11_count 13 rfl) c1 ?_
    exact K_ireturn (kdA dt_MX11_count 14 rfl) rfl ⟨rfl, _, rfl, h⟩
  have h := h.2
  have l4 := k_sn l3 e3 (show (3 : Int) + 1 = 4 by decide)
  by_cases e4 : a1 = 4
  · refine K_sw1 (tgt := 79) (kdA dt_MX11_count 1 rfl) e4 (by decide) rfl rfl ?_
    have h := h.1 e4
    refine K_aload_n 0 (kdA dt_MX11_count 15 rfl) rfl rfl ?_
    obtain ⟨c1, h⟩ := h
    refine gf11_78 rfl (kdA dt_MX11_count 16 rfl) c1 ?_
    obtain ⟨c2, h⟩ := h
    refine gf11_399 rfl (kdA dt_MX11_count 17 rfl) c2 ?_
    obtain ⟨c3, h⟩ := h
    refine gf11_130 rfl (kdA dt_MX11_count 18 rfl) c3 ?_
    exact K_ireturn (kdA dt_MX11_count 19 rfl) rfl ⟨rfl, _, rfl, h⟩
  have h := h.2
  have l5 := k_sn l4 e4 (show (4 : Int) + 1 = 5 by decide)
  by_cases e5 : a1 = 5
  · refine K_sw1 (tgt := 90) (kdA dt_MX11_count 1 rfl) e5 (by decide) rfl rfl ?_
    have h := h.1 e5
    refine K_aload_n 0 (kdA dt_MX11_count 20 rfl) rfl rfl ?_
    obtain ⟨c1, h⟩ := h
    refine gf11_55 rfl (kdA dt_MX11_count 21 rfl) c1 ?_
    obtain ⟨c2, h⟩ := h
    refine gf11_130 rfl (kdA dt_MX11_count 22 rfl) c2 ?_
    exact K_ireturn (kdA dt_MX11_count 23 rfl) rfl ⟨rfl, _, rfl, h⟩
  have h := h.2
  have l6 := k_sn l5 e5 (show (5 : Int) + 1 = 6 by decide)
  by_cases e6 : a1 = 6
  · refine K_sw1 (tgt := 98) (kdA dt_MX11_count 1 rfl) e6 (by decide) rfl rfl ?_
    have h := h.1 e6
    refine K_aload_n 0 (kdA dt_MX11_count 24 rfl) rfl rfl ?_
    obtain ⟨c1, h⟩ := h
    refine gf11_85 rfl (kdA dt_MX11_count 25 rfl) c1 ?_
    obtain ⟨c2, h⟩ := h
    refine gf11_313 rfl (kdA dt_MX11_count 26 rfl) c2 ?_
    obtain ⟨c3, h⟩ := h
    refine gf11_130 rfl (kdA dt_MX11_count 27 rfl) c3 ?_
    exact K_ireturn (kdA dt_MX11_count 28 rfl) rfl ⟨rfl, _, rfl, h⟩
  have h := h.2
  have l7 := k_sn l6 e6 (show (6 : Int) + 1 = 7 by decide)
  by_cases e7 : a1 = 7
  · refine K_sw1 (tgt := 109) (kdA dt_MX11_count 1 rfl) e7 (by decide) rfl rfl ?_
    have h := h.1 e7
    refine K_aload_n 0 (kdA dt_MX11_count 29 rfl) rfl rfl ?_
    obtain ⟨c1, h⟩ := h
    refine gf11_58 rfl (kdA dt_MX11_count 30 rfl) c1 ?_
    obtain ⟨c2, h⟩ := h
    refine gf11_130 rfl (kdA dt_MX11_count 31 rfl) c2 ?_
    refine K_iconst (kdA dt_MX11_count 32 rfl) (by decide) ?_
    obtain ⟨c3, h⟩ := h
    refine K_idiv (kdA dt_MX11_count 33 rfl) c3 (by decide) ?_
    exact K_ireturn (kdA dt_MX11_count 34 rfl) rfl ⟨rfl, _, rfl, h⟩
  have h := h.2
  have l8 := k_sn l7 e7 (show (7 : Int) + 1 = 8 by decide)
  by_cases e8 : a1 = 8
  · refine K_sw1 (tgt := 119) (kdA dt_MX11_count 1 rfl) e8 (by decide) rfl rfl ?_
    have h := h.1 e8
    refine K_aload_n 0 (kdA dt_MX11_count 35 rfl) rfl rfl ?_
    obtain ⟨c1, h⟩ := h
    refine gf11_25 rfl (kdA dt_MX11_count 36 rfl) c1 ?_
    obtain ⟨c2, h⟩ := h
    refine gf11_130 rfl (kdA dt_MX11_count 37 rfl) c2 ?_
    exact K_ireturn (kdA dt_MX11_count 38 rfl) rfl ⟨rfl, _, rfl, h⟩
  have h := h.2
  have l9 := k_sn l8 e8 (show (8 : Int) + 1 = 9 by decide)
  by_cases e9 : a1 = 9
  · refine K_sw1 (tgt := 127) (kdA dt_MX11_count 1 rfl) e9 (by decide) rfl rfl ?_
    have h := h e9
    refine K_aload_n 0 (kdA dt_MX11_count 39 rfl) rfl rfl ?_
    obtain ⟨c1, h⟩ := h
    refine gf11_377 rfl (kdA dt_MX11_count 40 rfl) c1 ?_
    exact K_ireturn (kdA dt_MX11_count 41 rfl) rfl ⟨rfl, _, rfl, h⟩
  have l10 := k_sn l9 e9 (show (9 : Int) + 1 = 10 by decide)
  exact absurd (Or.inr (Int.lt_of_lt_of_le (show (9 : Int) < 10 by decide) l10)) hx
theorem EX11_count {d n : Nat} {Q : Int → kS → Prop} {a0 a1 : Int} {σ : kS} (h : (-2147483648 ≤ a1 ∧ a1 ≤ 2147483647) → kokw n σ → LX11_count_0 d n Q a0 a1 σ) : Ci (d + 1) MX11_count [(2, a0), (0, a1)] n σ Q := Tri_of (by decide +kernel) (Nat.le_of_ble_eq_true rfl) (fun hk hw => h (hk (0, a1) (List.mem_of_getElem? (i := 1) rfl)) hw)

def LX11_dig_0 (d n : Nat) (Q : Int → kS → Prop) (a0 : Int) (a1 : Int) (a2 : Int) (a3 : Int) (σ : kS) : Prop := K (d + 1) MX11_dig (kPi n Q) (0, 0) 0 [(0, (2, a0)), (1, (0, a1)), (2, (0, a2)), (3, (0, a3))] [] n σ
def LX11_dig_31 (d n : Nat) (Q : Int → kS → Prop) (a0 : Int) (a1 : Int) (a2 : Int) (a3 : Int) (a4 : Int) (σ : kS) : Prop := K (d + 1) MX11_dig (kPi n Q) (0, 0) 31 [(0, (2, a0)), (1, (0, a1)), (2, (0, a2)), (3, (0, a3)), (4, (0, a4))] [] n σ
theorem SX11_dig_0 {d n : Nat} {Q : Int → kS → Prop} {a0 a1 a2 a3 : Int} {σ : kS} (h : isO 11 n a0 ∧ (Ci d MX11_areTwoTowns [(2, a0), (0, a1), (0, a2)] n σ (fun x2 s1 => (x2 = 0 → Q (-1) s1) ∧ (¬ x2 = 0 → (a3 < 0 → Q (-1) s1) ∧ (¬ a3 < 0 → (a3 ≤ 6 → isO 7 n (s1 a0 17) ∧ (Cv d MX7_forgetWorlds [(2, (s1 a0 17))] n s1 (fun s2 => LX11_dig_31 d n Q a0 a1 a2 a3 0 s2))) ∧ (¬ a3 ≤ 6 → Q (-1) s1)))))) : LX11_dig_0 d n Q a0 a1 a2 a3 σ := by
  unfold LX11_dig_0
  refine K_aload_n 0 (kdA dt_MX11_dig 0 rfl) rfl rfl ?_
  refine K_iload_n 1 (kdA dt_MX11_dig 1 rfl) rfl rfl ?_
  refine K_iload_n 2 (kdA dt_MX11_dig 2 rfl) rfl rfl ?_
  obtain ⟨c1, h⟩ := h
  refine K_cVi (c := 11) (as := [(0, a1), (0, a2)]) (st := []) (kdA dt_MX11_dig 3 rfl) rfl cl_MX11_areTwoTowns lk11_307 rfl rfl (Nat.le_of_ble_eq_true rfl) c1 (Ci.mono h (fun x2 s1 h => ?_))
  refine K_if_eq (tgt := 19) (kdA dt_MX11_dig 4 rfl) rfl (fun c => ?_) (fun c => ?_)
  · have h := h.1 c
    refine K_iconst (kdA dt_MX11_dig 10 rfl) (by decide) ?_
    exact K_ireturn (kdA dt_MX11_dig 11 rfl) rfl ⟨rfl, _, rfl, h⟩
  · have h := h.2 c
    refine K_iload_n 3 (kdA dt_MX11_dig 5 rfl) rfl rfl ?_
    refine K_if_lt (tgt := 19) (kdA dt_MX11_dig 6 rfl) rfl (fun c => ?_) (fun c => ?_)
    · have h := h.1 c
      refine K_iconst (kdA dt_MX11_dig 10 rfl) (by decide) ?_
      exact K_ireturn (kdA dt_MX11_dig 11 rfl) rfl ⟨rfl, _, rfl, h⟩
    · have h := h.2 c
      refine K_iload_n 3 (kdA dt_MX11_dig 7 rfl) rfl rfl ?_
      refine K_bipush (kdA dt_MX11_dig 8 rfl) (by decide +kernel) ?_
      refine K_icmp_le (tgt := 21) (kdA dt_MX11_dig 9 rfl) rfl (fun c => ?_) (fun c => ?_)
      · have h := h.1 c
        refine K_aload_n 0 (kdA dt_MX11_dig 12 rfl) rfl rfl ?_
        refine gf11_85 rfl (kdA dt_MX11_dig 13 rfl) c1 ?_
        obtain ⟨c3, h⟩ := h
        refine K_cVv (c := 7) (as := []) (st := []) (kdA dt_MX11_dig 14 rfl) rfl cl_MX7_forgetWorlds lk11_316 rfl rfl (Nat.le_of_ble_eq_true rfl) c3 (Cv.mono h (fun s2 h => ?_))
        refine K_iconst (kdA dt_MX11_dig 15 rfl) (by decide) ?_
        refine K_istore (ls' := [(0, (2, a0)), (1, (0, a1)), (2, (0, a2)), (3, (0, a3)), (4, (0, 0))]) (kdA dt_MX11_dig 16 rfl) (by decide) rfl ?_
        exact h
      · have h := h.2 c
        refine K_iconst (kdA dt_MX11_dig 10 rfl) (by decide) ?_
        exact K_ireturn (kdA dt_MX11_dig 11 rfl) rfl ⟨rfl, _, rfl, h⟩
theorem SX11_dig_31 {d n : Nat} {Q : Int → kS → Prop} {a0 a1 a2 a3 a4 : Int} {σ : kS} (h : isO 11 n a0 ∧ (((σ a0 6) ≤ a4 → isO 7 n (σ a0 17) ∧ (Ci d MX7_bestSet [(2, (σ a0 17)), (0, a3)] n σ (fun x3 s1 => Q x3 s1))) ∧ (¬ (σ a0 6) ≤ a4 → Ci d MX11_evidenceOf [(2, a0), (0, a4), (0, a1), (0, a2)] n σ (fun x2 s1 => isO 10 n (s1 a0 14) ∧ (isO 7 n (σ a0 17) ∧ (Cv d MX7_addWorld [(2, (σ a0 17)), (0, x2), (2, (s1 (s1 a0 14) 13))] n s1 (fun s2 => (-2147483648 ≤ (a4 + 1) ∧ (a4 + 1) ≤ 2147483647) ∧ (LX11_dig_31 d n Q a0 a1 a2 a3 (a4 + 1) s2)))))))) : LX11_dig_31 d n Q a0 a1 a2 a3 a4 σ := by
  unfold LX11_dig_31
  refine K_iload 4 (kdA dt_MX11_dig 17 rfl) rfl ?_
  refine K_aload_n 0 (kdA dt_MX11_dig 18 rfl) rfl rfl ?_
  obtain ⟨c1, h⟩ := h
  refine gf11_158 rfl (kdA dt_MX11_dig 19 rfl) c1 ?_
  refine K_icmp_ge (tgt := 68) (kdA dt_MX11_dig 20 rfl) rfl (fun c => ?_) (fun c => ?_)
  · have h := h.1 c
    refine K_aload_n 0 (kdA dt_MX11_dig 34 rfl) rfl rfl ?_
    refine gf11_85 rfl (kdA dt_MX11_dig 35 rfl) c1 ?_
    refine K_iload_n 3 (kdA dt_MX11_dig 36 rfl) rfl rfl ?_
    obtain ⟨c2, h⟩ := h
    refine K_cVi (c := 7) (as := [(0, a3)]) (st := []) (kdA dt_MX11_dig 37 rfl) rfl cl_MX7_bestSet lk11_323 rfl rfl (Nat.le_of_ble_eq_true rfl) c2 (Ci.mono h (fun x3 s1 h => ?_))
    exact K_ireturn (kdA dt_MX11_dig 38 rfl) rfl ⟨rfl, _, rfl, h⟩
  · have h := h.2 c
    refine K_aload_n 0 (kdA dt_MX11_dig 21 rfl) rfl rfl ?_
    refine gf11_85 rfl (kdA dt_MX11_dig 22 rfl) c1 ?_
    refine K_aload_n 0 (kdA dt_MX11_dig 23 rfl) rfl rfl ?_
    refine K_iload 4 (kdA dt_MX11_dig 24 rfl) rfl ?_
    refine K_iload_n 1 (kdA dt_MX11_dig 25 rfl) rfl rfl ?_
    refine K_iload_n 2 (kdA dt_MX11_dig 26 rfl) rfl rfl ?_
    refine K_cVi (c := 11) (as := [(0, a4), (0, a1), (0, a2)]) (st := [(2, (σ a0 17))]) (kdA dt_MX11_dig 27 rfl) rfl cl_MX11_evidenceOf lk11_310 rfl rfl (Nat.le_of_ble_eq_true rfl) c1 (Ci.mono h (fun x2 s1 h => ?_))
    refine K_aload_n 0 (kdA dt_MX11_dig 28 rfl) rfl rfl ?_
    refine gf11_64 rfl (kdA dt_MX11_dig 29 rfl) c1 ?_
    obtain ⟨c3, h⟩ := h
    refine gf11_193 rfl (kdA dt_MX11_dig 30 rfl) c3 ?_
    obtain ⟨c4, h⟩ := h
    refine K_cVv (c := 7) (as := [(0, x2), (2, (s1 (s1 a0 14) 13))]) (st := []) (kdA dt_MX11_dig 31 rfl) rfl cl_MX7_addWorld lk11_319 rfl rfl (Nat.le_of_ble_eq_true rfl) c4 (Cv.mono h (fun s2 h => ?_))
    obtain ⟨c6, h⟩ := h
    refine K_iinc (ls' := [(0, (2, a0)), (1, (0, a1)), (2, (0, a2)), (3, (0, a3)), (4, (0, (a4 + 1)))]) 4 (kdA dt_MX11_dig 32 rfl) rfl c6 (by decide) rfl ?_
    refine K_goto (tgt := 31) (kdA dt_MX11_dig 33 rfl) rfl ?_
    exact h
theorem EX11_dig {d n : Nat} {Q : Int → kS → Prop} {a0 a1 a2 a3 : Int} {σ : kS} (h : (-2147483648 ≤ a1 ∧ a1 ≤ 2147483647) → (-2147483648 ≤ a2 ∧ a2 ≤ 2147483647) → (-2147483648 ≤ a3 ∧ a3 ≤ 2147483647) → kokw n σ → LX11_dig_0 d n Q a0 a1 a2 a3 σ) : Ci (d + 1) MX11_dig [(2, a0), (0, a1), (0, a2), (0, a3)] n σ Q := Tri_of (by decide +kernel) (Nat.le_of_ble_eq_true rfl) (fun hk hw => h (hk (0, a1) (List.mem_of_getElem? (i := 1) rfl)) (hk (0, a2) (List.mem_of_getElem? (i := 2) rfl)) (hk (0, a3) (List.mem_of_getElem? (i := 3) rfl)) hw)

def LX11_draw_0 (d n : Nat) (Q : Int → kS → Prop) (a0 : Int) (a1 : Int) (a2 : Int) (a3 : Int) (a4 : Int) (a5 : Int) (a6 : Int) (σ : kS) : Prop := K (d + 1) MX11_draw (kPi n Q) (0, 0) 0 [(0, (2, a0)), (1, (0, a1)), (2, (0, a2)), (3, (0, a3)), (4, (0, a4)), (5, (0, a5)), (6, (0, a6))] [] n σ
def LX11_draw_47 (d n : Nat) (Q : Int → kS → Prop) (a0 : Int) (a1 : Int) (a3 : Int) (a4 : Int) (a5 : Int) (a6 : Int) (a7 : Int) (σ : kS) : Prop := K (d + 1) MX11_draw (kPi n Q) (0, 0) 47 [(0, (2, a0)), (1, (0, a1)), (3, (0, a3)), (4, (0, a4)), (5, (0, a5)), (6, (0, a6)), (7, (0, a7))] [] n σ
def LX11_draw_57 (d n : Nat) (Q : Int → kS → Prop) (a0 : Int) (a1 : Int) (a3 : Int) (a4 : Int) (a5 : Int) (a6 : Int) (a7 : Int) (a8 : Int) (σ : kS) : Prop := K (d + 1) MX11_draw (kPi n Q) (0, 0) 57 [(0, (2, a0)), (1, (0, a1)), (3, (0, a3)), (4, (0, a4)), (5, (0, a5)), (6, (0, a6)), (7, (0, a7)), (8, (0, a8))] [] n σ
theorem SX11_draw_0 {d n : Nat} {Q : Int → kS → Prop} {a0 a1 a2 a3 a4 a5 a6 : Int} {σ : kS} (h : Ci d MX11_isBox [(0, a1), (0, a2), (0, a3), (0, a4)] n σ (fun x1 s1 => (x1 = 0 → Q 0 s1) ∧ (¬ x1 = 0 → Ci d MX11_isLayer [(0, a5)] n s1 (fun x2 s2 => (¬ x2 = 0 → (a6 < 0 → Q 0 s2) ∧ (¬ a6 < 0 → (¬ a5 = 0 → (a6 ≤ 1 → LX11_draw_47 d n Q a0 a1 a3 a4 a5 a6 a2 s2) ∧ (¬ a6 ≤ 1 → Q 0 s2)) ∧ (¬ (¬ a5 = 0) → (a6 ≤ 99 → LX11_draw_47 d n Q a0 a1 a3 a4 a5 a6 a2 s2) ∧ (¬ a6 ≤ 99 → Q 0 s2)))) ∧ (¬ (¬ x2 = 0) → Q 0 s2))))) : LX11_draw_0 d n Q a0 a1 a2 a3 a4 a5 a6 σ := by
  unfold LX11_draw_0
  refine K_iload_n 1 (kdA dt_MX11_draw 0 rfl) rfl rfl ?_
  refine K_iload_n 2 (kdA dt_MX11_draw 1 rfl) rfl rfl ?_
  refine K_iload_n 3 (kdA dt_MX11_draw 2 rfl) rfl rfl ?_
  refine K_iload 4 (kdA dt_MX11_draw 3 rfl) rfl ?_
  refine K_cSi (as := [(0, a1), (0, a2), (0, a3), (0, a4)]) (st := []) (kdA dt_MX11_draw 4 rfl) cl_MX11_isBox lk11_105 rfl rfl (Nat.le_of_ble_eq_true rfl) (Ci.mono h (fun x1 s1 h => ?_))
  refine K_if_eq (tgt := 19) (kdA dt_MX11_draw 5 rfl) rfl (fun c => ?_) (fun c => ?_)
  · have h := h.1 c
    refine K_iconst (kdA dt_MX11_draw 9 rfl) (by decide) ?_
    exact K_zreturn (kdA dt_MX11_draw 10 rfl) rfl (Or.inl rfl) ⟨rfl, _, rfl, h⟩
  · have h := h.2 c
    refine K_iload 5 (kdA dt_MX11_draw 6 rfl) rfl ?_
    refine K_cSi (as := [(0, a5)]) (st := []) (kdA dt_MX11_draw 7 rfl) cl_MX11_isLayer lk11_109 rfl rfl (Nat.le_of_ble_eq_true rfl) (Ci.mono h (fun x2 s2 h => ?_))
    refine K_if_ne (tgt := 21) (kdA dt_MX11_draw 8 rfl) rfl (fun c => ?_) (fun c => ?_)
    · have h := h.1 c
      refine K_iload 6 (kdA dt_MX11_draw 11 rfl) rfl ?_
      refine K_if_lt (tgt := 42) (kdA dt_MX11_draw 12 rfl) rfl (fun c => ?_) (fun c => ?_)
      · have h := h.1 c
        refine K_iconst (kdA dt_MX11_draw 20 rfl) (by decide) ?_
        exact K_zreturn (kdA dt_MX11_draw 21 rfl) rfl (Or.inl rfl) ⟨rfl, _, rfl, h⟩
      · have h := h.2 c
        refine K_iload 6 (kdA dt_MX11_draw 13 rfl) rfl ?_
        refine K_iload 5 (kdA dt_MX11_draw 14 rfl) rfl ?_
        refine K_if_ne (tgt := 38) (kdA dt_MX11_draw 15 rfl) rfl (fun c => ?_) (fun c => ?_)
        · have h := h.1 c
          refine K_iconst (kdA dt_MX11_draw 18 rfl) (by decide) ?_
          refine K_icmp_le (tgt := 44) (kdA dt_MX11_draw 19 rfl) rfl (fun c => ?_) (fun c => ?_)
          · have h := h.1 c
            refine K_iload_n 2 (kdA dt_MX11_draw 22 rfl) rfl rfl ?_
            refine K_istore (ls' := [(0, (2, a0)), (1, (0, a1)), (2, (0, a2)), (3, (0, a3)), (4, (0, a4)), (5, (0, a5)), (6, (0, a6)), (7, (0, a2))]) (kdA dt_MX11_draw 23 rfl) (by decide) rfl ?_
            refine K_pick [0, 1, 3, 4, 5, 6, 7] (ls' := [(0, (2, a0)), (1, (0, a1)), (3, (0, a3)), (4, (0, a4)), (5, (0, a5)), (6, (0, a6)), (7, (0, a2))]) rfl ?_
            exact h
          · have h := h.2 c
            refine K_iconst (kdA dt_MX11_draw 20 rfl) (by decide) ?_
            exact K_zreturn (kdA dt_MX11_draw 21 rfl) rfl (Or.inl rfl) ⟨rfl, _, rfl, h⟩
        · have h := h.2 c
          refine K_bipush (kdA dt_MX11_draw 16 rfl) (by decide +kernel) ?_
          refine K_goto (tgt := 39) (kdA dt_MX11_draw 17 rfl) rfl ?_
          refine K_icmp_le (tgt := 44) (kdA dt_MX11_draw 19 rfl) rfl (fun c => ?_) (fun c => ?_)
          · have h := h.1 c
            refine K_iload_n 2 (kdA dt_MX11_draw 22 rfl) rfl rfl ?_
            refine K_istore (ls' := [(0, (2, a0)), (1, (0, a1)), (2, (0, a2)), (3, (0, a3)), (4, (0, a4)), (5, (0, a5)), (6, (0, a6)), (7, (0, a2))]) (kdA dt_MX11_draw 23 rfl) (by decide) rfl ?_
            refine K_pick [0, 1, 3, 4, 5, 6, 7] (ls' := [(0, (2, a0)), (1, (0, a1)), (3, (0, a3)), (4, (0, a4)), (5, (0, a5)), (6, (0, a6)), (7, (0, a2))]) rfl ?_
            exact h
          · have h := h.2 c
            refine K_iconst (kdA dt_MX11_draw 20 rfl) (by decide) ?_
            exact K_zreturn (kdA dt_MX11_draw 21 rfl) rfl (Or.inl rfl) ⟨rfl, _, rfl, h⟩
    · have h := h.2 c
      refine K_iconst (kdA dt_MX11_draw 9 rfl) (by decide) ?_
      exact K_zreturn (kdA dt_MX11_draw 10 rfl) rfl (Or.inl rfl) ⟨rfl, _, rfl, h⟩
theorem SX11_draw_47 {d n : Nat} {Q : Int → kS → Prop} {a0 a1 a3 a4 a5 a6 a7 : Int} {σ : kS} (h : (a4 < a7 → Q 1 σ) ∧ (¬ a4 < a7 → LX11_draw_57 d n Q a0 a1 a3 a4 a5 a6 a7 a1 σ)) : LX11_draw_47 d n Q a0 a1 a3 a4 a5 a6 a7 σ := by
  unfold LX11_draw_47
  refine K_iload 6 (kdA dt_MX11_draw 24 rfl) rfl ?_
  refine K_iload 3 (kdA dt_MX11_draw 25 rfl) rfl ?_
  refine K_icmp_gt (tgt := 94) (kdA dt_MX11_draw 26 rfl) rfl (fun c => ?_) (fun c => ?_)
  · have h := h.1 c
    refine K_iconst (kdA dt_MX11_draw 46 rfl) (by decide) ?_
    exact K_zreturn (kdA dt_MX11_draw 47 rfl) rfl (Or.inr rfl) ⟨rfl, _, rfl, h⟩
  · have h := h.2 c
    refine K_iload_n 1 (kdA dt_MX11_draw 27 rfl) rfl rfl ?_
    refine K_istore (ls' := [(0, (2, a0)), (1, (0, a1)), (3, (0, a3)), (4, (0, a4)), (5, (0, a5)), (6, (0, a6)), (7, (0, a7)), (8, (0, a1))]) (kdA dt_MX11_draw 28 rfl) (by decide) rfl ?_
    exact h
theorem SX11_draw_57 {d n : Nat} {Q : Int → kS → Prop} {a0 a1 a3 a4 a5 a6 a7 a8 : Int} {σ : kS} (h : (a3 < a8 → (-2147483648 ≤ (a7 + 1) ∧ (a7 + 1) ≤ 2147483647) ∧ (LX11_draw_47 d n Q a0 a1 a3 a4 a5 a6 (a7 + 1) σ)) ∧ (¬ a3 < a8 → isO 11 n a0 ∧ ((-2147483648 ≤ (a7 * 12) ∧ (a7 * 12) ≤ 2147483647) ∧ ((-2147483648 ≤ ((a7 * 12) + a8) ∧ ((a7 * 12) + a8) ≤ 2147483647) ∧ (isO 5 n (σ a0 0) ∧ (Cv d MX5_put [(2, (σ a0 0)), (0, ((a7 * 12) + a8)), (0, a5), (0, a6)] n σ (fun s1 => (-2147483648 ≤ (a8 + 1) ∧ (a8 + 1) ≤ 2147483647) ∧ (LX11_draw_57 d n Q a0 a1 a3 a4 a5 a6 a7 (a8 + 1) s1)))))))) : LX11_draw_57 d n Q a0 a1 a3 a4 a5 a6 a7 a8 σ := by
  unfold LX11_draw_57
  refine K_iload 7 (kdA dt_MX11_draw 29 rfl) rfl ?_
  refine K_iload_n 2 (kdA dt_MX11_draw 30 rfl) rfl rfl ?_
  refine K_icmp_gt (tgt := 88) (kdA dt_MX11_draw 31 rfl) rfl (fun c => ?_) (fun c => ?_)
  · have h := h.1 c
    obtain ⟨c1, h⟩ := h
    refine K_iinc (ls' := [(0, (2, a0)), (1, (0, a1)), (3, (0, a3)), (4, (0, a4)), (5, (0, a5)), (6, (0, a6)), (7, (0, (a7 + 1))), (8, (0, a8))]) 6 (kdA dt_MX11_draw 44 rfl) rfl c1 (by decide) rfl ?_
    refine K_goto (tgt := 47) (kdA dt_MX11_draw 45 rfl) rfl ?_
    refine K_pick [0, 1, 2, 3, 4, 5, 6] (ls' := [(0, (2, a0)), (1, (0, a1)), (3, (0, a3)), (4, (0, a4)), (5, (0, a5)), (6, (0, a6)), (7, (0, (a7 + 1)))]) rfl ?_
    exact h
  · have h := h.2 c
    refine K_aload_n 0 (kdA dt_MX11_draw 32 rfl) rfl rfl ?_
    obtain ⟨c1, h⟩ := h
    refine gf11_10 rfl (kdA dt_MX11_draw 33 rfl) c1 ?_
    refine K_iload 6 (kdA dt_MX11_draw 34 rfl) rfl ?_
    refine K_bipush (kdA dt_MX11_draw 35 rfl) (by decide +kernel) ?_
    obtain ⟨c2, h⟩ := h
    refine K_imul (kdA dt_MX11_draw 36 rfl) c2 ?_
    refine K_iload 7 (kdA dt_MX11_draw 37 rfl) rfl ?_
    obtain ⟨c3, h⟩ := h
    refine K_iadd (kdA dt_MX11_draw 38 rfl) c3 ?_
    refine K_iload 4 (kdA dt_MX11_draw 39 rfl) rfl ?_
    refine K_iload 5 (kdA dt_MX11_draw 40 rfl) rfl ?_
    obtain ⟨c4, h⟩ := h
    refine K_cVv (c := 5) (as := [(0, ((a7 * 12) + a8)), (0, a5), (0, a6)]) (st := []) (kdA dt_MX11_draw 41 rfl) rfl cl_MX5_put lk11_113 rfl rfl (Nat.le_of_ble_eq_true rfl) c4 (Cv.mono h (fun s1 h => ?_))
    obtain ⟨c6, h⟩ := h
    refine K_iinc (ls' := [(0, (2, a0)), (1, (0, a1)), (3, (0, a3)), (4, (0, a4)), (5, (0, a5)), (6, (0, a6)), (7, (0, a7)), (8, (0, (a8 + 1)))]) 7 (kdA dt_MX11_draw 42 rfl) rfl c6 (by decide) rfl ?_
    refine K_goto (tgt := 57) (kdA dt_MX11_draw 43 rfl) rfl ?_
    exact h
theorem EX11_draw {d n : Nat} {Q : Int → kS → Prop} {a0 a1 a2 a3 a4 a5 a6 : Int} {σ : kS} (h : (-2147483648 ≤ a1 ∧ a1 ≤ 2147483647) → (-2147483648 ≤ a2 ∧ a2 ≤ 2147483647) → (-2147483648 ≤ a3 ∧ a3 ≤ 2147483647) → (-2147483648 ≤ a4 ∧ a4 ≤ 2147483647) → (-2147483648 ≤ a5 ∧ a5 ≤ 2147483647) → (-2147483648 ≤ a6 ∧ a6 ≤ 2147483647) → kokw n σ → LX11_draw_0 d n Q a0 a1 a2 a3 a4 a5 a6 σ) : Ci (d + 1) MX11_draw [(2, a0), (0, a1), (0, a2), (0, a3), (0, a4), (0, a5), (0, a6)] n σ Q := Tri_of (by decide +kernel) (Nat.le_of_ble_eq_true rfl) (fun hk hw => h (hk (0, a1) (List.mem_of_getElem? (i := 1) rfl)) (hk (0, a2) (List.mem_of_getElem? (i := 2) rfl)) (hk (0, a3) (List.mem_of_getElem? (i := 3) rfl)) (hk (0, a4) (List.mem_of_getElem? (i := 4) rfl)) (hk (0, a5) (List.mem_of_getElem? (i := 5) rfl)) (hk (0, a6) (List.mem_of_getElem? (i := 6) rfl)) hw)

def LX11_drawn_0 (d n : Nat) (Q : Int → kS → Prop) (a0 : Int) (a1 : Int) (a2 : Int) (σ : kS) : Prop := K (d + 1) MX11_drawn (kPi n Q) (0, 0) 0 [(0, (2, a0)), (1, (0, a1)), (2, (0, a2))] [] n σ
theorem SX11_drawn_0 {d n : Nat} {Q : Int → kS → Prop} {a0 a1 a2 : Int} {σ : kS} (h : Ci d MX11_isCell [(0, a1)] n σ (fun x1 s1 => (x1 = 0 → Q (-1) s1) ∧ (¬ x1 = 0 → Ci d MX11_isLayer [(0, a2)] n s1 (fun x2 s2 => (x2 = 0 → Q (-1) s2) ∧ (¬ x2 = 0 → isO 11 n a0 ∧ (isO 5 n (s2 a0 0) ∧ (Ci d MX5_told [(2, (s2 a0 0)), (0, a1), (0, a2)] n s2 (fun x5 s3 => Q x5 s3)))))))) : LX11_drawn_0 d n Q a0 a1 a2 σ := by
  unfold LX11_drawn_0
  refine K_iload_n 1 (kdA dt_MX11_drawn 0 rfl) rfl rfl ?_
  refine K_cSi (as := [(0, a1)]) (st := []) (kdA dt_MX11_drawn 1 rfl) cl_MX11_isCell lk11_117 rfl rfl (Nat.le_of_ble_eq_true rfl) (Ci.mono h (fun x1 s1 h => ?_))
  refine K_if_eq (tgt := 26) (kdA dt_MX11_drawn 2 rfl) rfl (fun c => ?_) (fun c => ?_)
  · have h := h.1 c
    refine K_iconst (kdA dt_MX11_drawn 12 rfl) (by decide) ?_
    exact K_ireturn (kdA dt_MX11_drawn 13 rfl) rfl ⟨rfl, _, rfl, h⟩
  · have h := h.2 c
    refine K_iload_n 2 (kdA dt_MX11_drawn 3 rfl) rfl rfl ?_
    refine K_cSi (as := [(0, a2)]) (st := []) (kdA dt_MX11_drawn 4 rfl) cl_MX11_isLayer lk11_109 rfl rfl (Nat.le_of_ble_eq_true rfl) (Ci.mono h (fun x2 s2 h => ?_))
    refine K_if_eq (tgt := 26) (kdA dt_MX11_drawn 5 rfl) rfl (fun c => ?_) (fun c => ?_)
    · have h := h.1 c
      refine K_iconst (kdA dt_MX11_drawn 12 rfl) (by decide) ?_
      exact K_ireturn (kdA dt_MX11_drawn 13 rfl) rfl ⟨rfl, _, rfl, h⟩
    · have h := h.2 c
      refine K_aload_n 0 (kdA dt_MX11_drawn 6 rfl) rfl rfl ?_
      obtain ⟨c3, h⟩ := h
      refine gf11_10 rfl (kdA dt_MX11_drawn 7 rfl) c3 ?_
      refine K_iload_n 1 (kdA dt_MX11_drawn 8 rfl) rfl rfl ?_
      refine K_iload_n 2 (kdA dt_MX11_drawn 9 rfl) rfl rfl ?_
      obtain ⟨c4, h⟩ := h
      refine K_cVi (c := 5) (as := [(0, a1), (0, a2)]) (st := []) (kdA dt_MX11_drawn 10 rfl) rfl cl_MX5_told lk11_120 rfl rfl (Nat.le_of_ble_eq_true rfl) c4 (Ci.mono h (fun x5 s3 h => ?_))
      refine K_goto (tgt := 27) (kdA dt_MX11_drawn 11 rfl) rfl ?_
      exact K_ireturn (kdA dt_MX11_drawn 13 rfl) rfl ⟨rfl, _, rfl, h⟩
theorem EX11_drawn {d n : Nat} {Q : Int → kS → Prop} {a0 a1 a2 : Int} {σ : kS} (h : (-2147483648 ≤ a1 ∧ a1 ≤ 2147483647) → (-2147483648 ≤ a2 ∧ a2 ≤ 2147483647) → kokw n σ → LX11_drawn_0 d n Q a0 a1 a2 σ) : Ci (d + 1) MX11_drawn [(2, a0), (0, a1), (0, a2)] n σ Q := Tri_of (by decide +kernel) (Nat.le_of_ble_eq_true rfl) (fun hk hw => h (hk (0, a1) (List.mem_of_getElem? (i := 1) rfl)) (hk (0, a2) (List.mem_of_getElem? (i := 2) rfl)) hw)

def LX11_end_0 (d n : Nat) (Q : Int → kS → Prop) (a0 : Int) (a1 : Int) (σ : kS) : Prop := K (d + 1) MX11_end (kPi n Q) (0, 0) 0 [(0, (2, a0)), (1, (0, a1))] [] n σ
theorem SX11_end_0 {d n : Nat} {Q : Int → kS → Prop} {a0 a1 : Int} {σ : kS} (h : isO 11 n a0 ∧ (isO 8 n (σ a0 3) ∧ (Ci d MX8_cut [(2, (σ a0 3)), (0, a1)] n σ (fun x3 s1 => (x3 = 0 ∨ x3 = 1) ∧ (Q x3 s1))))) : LX11_end_0 d n Q a0 a1 σ := by
  unfold LX11_end_0
  refine K_aload_n 0 (kdA dt_MX11_end 0 rfl) rfl rfl ?_
  obtain ⟨c1, h⟩ := h
  refine gf11_25 rfl (kdA dt_MX11_end 1 rfl) c1 ?_
  refine K_iload_n 1 (kdA dt_MX11_end 2 rfl) rfl rfl ?_
  obtain ⟨c2, h⟩ := h
  refine K_cVi (c := 8) (as := [(0, a1)]) (st := []) (kdA dt_MX11_end 3 rfl) rfl cl_MX8_cut lk11_141 rfl rfl (Nat.le_of_ble_eq_true rfl) c2 (Ci.mono h (fun x3 s1 h => ?_))
  obtain ⟨c4, h⟩ := h
  exact K_zreturn (kdA dt_MX11_end 4 rfl) rfl c4 ⟨rfl, _, rfl, h⟩
theorem EX11_end {d n : Nat} {Q : Int → kS → Prop} {a0 a1 : Int} {σ : kS} (h : (-2147483648 ≤ a1 ∧ a1 ≤ 2147483647) → kokw n σ → LX11_end_0 d n Q a0 a1 σ) : Ci (d + 1) MX11_end [(2, a0), (0, a1)] n σ Q := Tri_of (by decide +kernel) (Nat.le_of_ble_eq_true rfl) (fun hk hw => h (hk (0, a1) (List.mem_of_getElem? (i := 1) rfl)) hw)

def LX11_era_0 (d n : Nat) (Q : Int → kS → Prop) (a0 : Int) (σ : kS) : Prop := K (d + 1) MX11_era (kPi n Q) (0, 0) 0 [(0, (2, a0))] [] n σ
theorem SX11_era_0 {d n : Nat} {Q : Int → kS → Prop} {a0 : Int} {σ : kS} (h : isO 11 n a0 ∧ (((σ a0 2) < 4 → isA 25 n (σ a0 1) ∧ (((0 : Int) ≤ (σ a0 2) ∧ (σ a0 2) < klen (σ a0 1)) ∧ (isO 5 n (σ (σ a0 1) (σ a0 2)) ∧ (Cv d MX5_take [(2, (σ (σ a0 1) (σ a0 2))), (2, (σ a0 0))] n σ (fun s1 => (-2147483648 ≤ ((s1 a0 2) + 1) ∧ ((s1 a0 2) + 1) ≤ 2147483647) ∧ (∀ s2, s2 = kst s1 a0 2 ((s1 a0 2) + 1) → (-2147483648 ≤ ((s2 a0 2) - 1) ∧ ((s2 a0 2) - 1) ≤ 2147483647) ∧ (Q ((s2 a0 2) - 1) s2))))))) ∧ (¬ (σ a0 2) < 4 → Q (-1) σ))) : LX11_era_0 d n Q a0 σ := by
  unfold LX11_era_0
  refine K_aload_n 0 (kdA dt_MX11_era 0 rfl) rfl rfl ?_
  obtain ⟨c1, h⟩ := h
  refine gf11_377 rfl (kdA dt_MX11_era 1 rfl) c1 ?_
  refine K_iconst (kdA dt_MX11_era 2 rfl) (by decide) ?_
  refine K_icmp_lt (tgt := 10) (kdA dt_MX11_era 3 rfl) rfl (fun c => ?_) (fun c => ?_)
  · have h := h.1 c
    refine K_aload_n 0 (kdA dt_MX11_era 6 rfl) rfl rfl ?_
    refine gf11_16 rfl (kdA dt_MX11_era 7 rfl) c1 ?_
    refine K_aload_n 0 (kdA dt_MX11_era 8 rfl) rfl rfl ?_
    refine gf11_377 rfl (kdA dt_MX11_era 9 rfl) c1 ?_
    obtain ⟨c2, h⟩ := h
    obtain ⟨c3, h⟩ := h
    refine K_aaload (kdA dt_MX11_era 10 rfl) (by decide) c2 c3.1 c3.2 ?_
    refine K_aload_n 0 (kdA dt_MX11_era 11 rfl) rfl rfl ?_
    refine gf11_10 rfl (kdA dt_MX11_era 12 rfl) c1 ?_
    obtain ⟨c4, h⟩ := h
    refine K_cVv (c := 5) (as := [(2, (σ a0 0))]) (st := []) (kdA dt_MX11_era 13 rfl) rfl cl_MX5_take lk11_380 rfl rfl (Nat.le_of_ble_eq_true rfl) c4 (Cv.mono h (fun s1 h => ?_))
    refine K_aload_n 0 (kdA dt_MX11_era 14 rfl) rfl rfl ?_
    refine K_dup (kdA dt_MX11_era 15 rfl) rfl ?_
    refine gf11_377 rfl (kdA dt_MX11_era 16 rfl) c1 ?_
    refine K_iconst (kdA dt_MX11_era 17 rfl) (by decide) ?_
    obtain ⟨c6, h⟩ := h
    refine K_iadd (kdA dt_MX11_era 18 rfl) c6 ?_
    refine pf11_377 rfl (kdA dt_MX11_era 19 rfl) c1 (fun s2 es2 => ?_)
    have h := h s2 es2
    refine K_aload_n 0 (kdA dt_MX11_era 20 rfl) rfl rfl ?_
    refine gf11_377 rfl (kdA dt_MX11_era 21 rfl) c1 ?_
    refine K_iconst (kdA dt_MX11_era 22 rfl) (by decide) ?_
    obtain ⟨c7, h⟩ := h
    refine K_isub (kdA dt_MX11_era 23 rfl) c7 ?_
    exact K_ireturn (kdA dt_MX11_era 24 rfl) rfl ⟨rfl, _, rfl, h⟩
  · have h := h.2 c
    refine K_iconst (kdA dt_MX11_era 4 rfl) (by decide) ?_
    exact K_ireturn (kdA dt_MX11_era 5 rfl) rfl ⟨rfl, _, rfl, h⟩
theorem EX11_era {d n : Nat} {Q : Int → kS → Prop} {a0 : Int} {σ : kS} (h : kokw n σ → LX11_era_0 d n Q a0 σ) : Ci (d + 1) MX11_era [(2, a0)] n σ Q := Tri_of (by decide +kernel) (Nat.le_of_ble_eq_true rfl) (fun hk hw => h hw)

def LX11_evidence_0 (d n : Nat) (Q : Int → kS → Prop) (a0 : Int) (a1 : Int) (a2 : Int) (a3 : Int) (σ : kS) : Prop := K (d + 1) MX11_evidence (kPi n Q) (0, 0) 0 [(0, (2, a0)), (1, (0, a1)), (2, (0, a2)), (3, (0, a3))] [] n σ
theorem SX11_evidence_0 {d n : Nat} {Q : Int → kS → Prop} {a0 a1 a2 a3 : Int} {σ : kS} (h : isO 11 n a0 ∧ (Ci d MX11_isManner [(2, a0), (0, a1), (0, 0)] n σ (fun x2 s1 => (x2 = 0 → Q (-1) s1) ∧ (¬ x2 = 0 → Ci d MX11_areTwoTowns [(2, a0), (0, a2), (0, a3)] n s1 (fun x3 s2 => (¬ x3 = 0 → Ci d MX11_evidenceOf [(2, a0), (0, a1), (0, a2), (0, a3)] n s2 (fun x4 s3 => Q x4 s3)) ∧ (¬ (¬ x3 = 0) → Q (-1) s2)))))) : LX11_evidence_0 d n Q a0 a1 a2 a3 σ := by
  unfold LX11_evidence_0
  refine K_aload_n 0 (kdA dt_MX11_evidence 0 rfl) rfl rfl ?_
  refine K_iload_n 1 (kdA dt_MX11_evidence 1 rfl) rfl rfl ?_
  refine K_iconst (kdA dt_MX11_evidence 2 rfl) (by decide) ?_
  obtain ⟨c1, h⟩ := h
  refine K_cVi (c := 11) (as := [(0, a1), (0, 0)]) (st := []) (kdA dt_MX11_evidence 3 rfl) rfl cl_MX11_isManner lk11_169 rfl rfl (Nat.le_of_ble_eq_true rfl) c1 (Ci.mono h (fun x2 s1 h => ?_))
  refine K_if_eq (tgt := 18) (kdA dt_MX11_evidence 4 rfl) rfl (fun c => ?_) (fun c => ?_)
  · have h := h.1 c
    refine K_iconst (kdA dt_MX11_evidence 10 rfl) (by decide) ?_
    exact K_ireturn (kdA dt_MX11_evidence 11 rfl) rfl ⟨rfl, _, rfl, h⟩
  · have h := h.2 c
    refine K_aload_n 0 (kdA dt_MX11_evidence 5 rfl) rfl rfl ?_
    refine K_iload_n 2 (kdA dt_MX11_evidence 6 rfl) rfl rfl ?_
    refine K_iload_n 3 (kdA dt_MX11_evidence 7 rfl) rfl rfl ?_
    refine K_cVi (c := 11) (as := [(0, a2), (0, a3)]) (st := []) (kdA dt_MX11_evidence 8 rfl) rfl cl_MX11_areTwoTowns lk11_307 rfl rfl (Nat.le_of_ble_eq_true rfl) c1 (Ci.mono h (fun x3 s2 h => ?_))
    refine K_if_ne (tgt := 20) (kdA dt_MX11_evidence 9 rfl) rfl (fun c => ?_) (fun c => ?_)
    · have h := h.1 c
      refine K_aload_n 0 (kdA dt_MX11_evidence 12 rfl) rfl rfl ?_
      refine K_iload_n 1 (kdA dt_MX11_evidence 13 rfl) rfl rfl ?_
      refine K_iload_n 2 (kdA dt_MX11_evidence 14 rfl) rfl rfl ?_
      refine K_iload_n 3 (kdA dt_MX11_evidence 15 rfl) rfl rfl ?_
      refine K_cVi (c := 11) (as := [(0, a1), (0, a2), (0, a3)]) (st := []) (kdA dt_MX11_evidence 16 rfl) rfl cl_MX11_evidenceOf lk11_310 rfl rfl (Nat.le_of_ble_eq_true rfl) c1 (Ci.mono h (fun x4 s3 h => ?_))
      exact K_ireturn (kdA dt_MX11_evidence 17 rfl) rfl ⟨rfl, _, rfl, h⟩
    · have h := h.2 c
      refine K_iconst (kdA dt_MX11_evidence 10 rfl) (by decide) ?_
      exact K_ireturn (kdA dt_MX11_evidence 11 rfl) rfl ⟨rfl, _, rfl, h⟩
theorem EX11_evidence {d n : Nat} {Q : Int → kS → Prop} {a0 a1 a2 a3 : Int} {σ : kS} (h : (-2147483648 ≤ a1 ∧ a1 ≤ 2147483647) → (-2147483648 ≤ a2 ∧ a2 ≤ 2147483647) → (-2147483648 ≤ a3 ∧ a3 ≤ 2147483647) → kokw n σ → LX11_evidence_0 d n Q a0 a1 a2 a3 σ) : Ci (d + 1) MX11_evidence [(2, a0), (0, a1), (0, a2), (0, a3)] n σ Q := Tri_of (by decide +kernel) (Nat.le_of_ble_eq_true rfl) (fun hk hw => h (hk (0, a1) (List.mem_of_getElem? (i := 1) rfl)) (hk (0, a2) (List.mem_of_getElem? (i := 2) rfl)) (hk (0, a3) (List.mem_of_getElem? (i := 3) rfl)) hw)

def LX11_evidenceOf_0 (d n : Nat) (Q : Int → kS → Prop) (a0 : Int) (a1 : Int) (a2 : Int) (a3 : Int) (σ : kS) : Prop := K (d + 1) MX11_evidenceOf (kPi n Q) (0, 0) 0 [(0, (2, a0)), (1, (0, a1)), (2, (0, a2)), (3, (0, a3))] [] n σ
theorem SX11_evidenceOf_0 {d n : Nat} {Q : Int → kS → Prop} {a0 a1 a2 a3 : Int} {σ : kS} (h : isO 11 n a0 ∧ (isO 8 n (σ a0 9) ∧ (Ci d MX8_at [(2, (σ a0 9)), (0, a2)] n σ (fun x3 s1 => isO 8 n (s1 a0 9) ∧ (Ci d MX8_at [(2, (s1 a0 9)), (0, a3)] n s1 (fun x5 s2 => Ci d MX11_goes [(2, a0), (2, (σ a0 0)), (0, a1), (0, 0), (0, 0), (0, x3), (0, x5)] n s2 (fun x6 s3 => isA 26 n (s3 a0 5) ∧ (((0 : Int) ≤ a1 ∧ a1 < klen (s3 a0 5)) ∧ (isO 3 n (s3 (s3 a0 5) a1) ∧ (isO 10 n (s3 a0 14) ∧ (isO 2 n (s3 a0 16) ∧ (Ci d MX2_speakFor [(2, (s3 a0 16)), (2, (s3 (s3 a0 14) 13))] n s3 (fun x12 s4 => (-2147483648 ≤ ((s3 (s3 (s3 a0 5) a1) 3) * x12) ∧ ((s3 (s3 (s3 a0 5) a1) 3) * x12) ≤ 2147483647) ∧ (Q ((s3 (s3 (s3 a0 5) a1) 3) * x12) s4)))))))))))))) : LX11_evidenceOf_0 d n Q a0 a1 a2 a3 σ := by
  unfold LX11_evidenceOf_0
  refine K_aload_n 0 (kdA dt_MX11_evidenceOf 0 rfl) rfl rfl ?_
  refine K_aload_n 0 (kdA dt_MX11_evidenceOf 1 rfl) rfl rfl ?_
  obtain ⟨c1, h⟩ := h
  refine gf11_10 rfl (kdA dt_MX11_evidenceOf 2 rfl) c1 ?_
  refine K_iload_n 1 (kdA dt_MX11_evidenceOf 3 rfl) rfl rfl ?_
  refine K_iconst (kdA dt_MX11_evidenceOf 4 rfl) (by decide) ?_
  refine K_iconst (kdA dt_MX11_evidenceOf 5 rfl) (by decide) ?_
  refine K_aload_n 0 (kdA dt_MX11_evidenceOf 6 rfl) rfl rfl ?_
  refine gf11_48 rfl (kdA dt_MX11_evidenceOf 7 rfl) c1 ?_
  refine K_iload_n 2 (kdA dt_MX11_evidenceOf 8 rfl) rfl rfl ?_
  obtain ⟨c2, h⟩ := h
  refine K_cVi (c := 8) (as := [(0, a2)]) (st := [(0, 0), (0, 0), (0, a1), (2, (σ a0 0)), (2, a0)]) (kdA dt_MX11_evidenceOf 9 rfl) rfl cl_MX8_at lk11_196 rfl rfl (Nat.le_of_ble_eq_true rfl) c2 (Ci.mono h (fun x3 s1 h => ?_))
  refine K_aload_n 0 (kdA dt_MX11_evidenceOf 10 rfl) rfl rfl ?_
  refine gf11_48 rfl (kdA dt_MX11_evidenceOf 11 rfl) c1 ?_
  refine K_iload_n 3 (kdA dt_MX11_evidenceOf 12 rfl) rfl rfl ?_
  obtain ⟨c4, h⟩ := h
  refine K_cVi (c := 8) (as := [(0, a3)]) (st := [(0, x3), (0, 0), (0, 0), (0, a1), (2, (σ a0 0)), (2, a0)]) (kdA dt_MX11_evidenceOf 13 rfl) rfl cl_MX8_at lk11_196 rfl rfl (Nat.le_of_ble_eq_true rfl) c4 (Ci.mono h (fun x5 s2 h => ?_))
  refine K_cVi (c := 11) (as := [(2, (σ a0 0)), (0, a1), (0, 0), (0, 0), (0, x3), (0, x5)]) (st := []) (kdA dt_MX11_evidenceOf 14 rfl) rfl cl_MX11_goes lk11_186 rfl rfl (Nat.le_of_ble_eq_true rfl) c1 (Ci.mono h (fun x6 s3 h => ?_))
  refine K_pop (kdA dt_MX11_evidenceOf 15 rfl) rfl ?_
  refine K_aload_n 0 (kdA dt_MX11_evidenceOf 16 rfl) rfl rfl ?_
  refine gf11_38 rfl (kdA dt_MX11_evidenceOf 17 rfl) c1 ?_
  refine K_iload_n 1 (kdA dt_MX11_evidenceOf 18 rfl) rfl rfl ?_
  obtain ⟨c7, h⟩ := h
  obtain ⟨c8, h⟩ := h
  refine K_aaload (kdA dt_MX11_evidenceOf 19 rfl) (by decide) c7 c8.1 c8.2 ?_
  obtain ⟨c9, h⟩ := h
  refine gf11_304 rfl (kdA dt_MX11_evidenceOf 20 rfl) c9 ?_
  refine K_aload_n 0 (kdA dt_MX11_evidenceOf 21 rfl) rfl rfl ?_
  refine gf11_78 rfl (kdA dt_MX11_evidenceOf 22 rfl) c1 ?_
  refine K_aload_n 0 (kdA dt_MX11_evidenceOf 23 rfl) rfl rfl ?_
  refine gf11_64 rfl (kdA dt_MX11_evidenceOf 24 rfl) c1 ?_
  obtain ⟨c10, h⟩ := h
  refine gf11_193 rfl (kdA dt_MX11_evidenceOf 25 rfl) c10 ?_
  obtain ⟨c11, h⟩ := h
  refine K_cVi (c := 2) (as := [(2, (s3 (s3 a0 14) 13))]) (st := [(0, (s3 (s3 (s3 a0 5) a1) 3))]) (kdA dt_MX11_evidenceOf 26 rfl) rfl cl_MX2_speakFor lk11_433 rfl rfl (Nat.le_of_ble_eq_true rfl) c11 (Ci.mono h (fun x12 s4 h => ?_))
  obtain ⟨c13, h⟩ := h
  refine K_imul (kdA dt_MX11_evidenceOf 27 rfl) c13 ?_
  exact K_ireturn (kdA dt_MX11_evidenceOf 28 rfl) rfl ⟨rfl, _, rfl, h⟩
theorem EX11_evidenceOf {d n : Nat} {Q : Int → kS → Prop} {a0 a1 a2 a3 : Int} {σ : kS} (h : (-2147483648 ≤ a1 ∧ a1 ≤ 2147483647) → (-2147483648 ≤ a2 ∧ a2 ≤ 2147483647) → (-2147483648 ≤ a3 ∧ a3 ≤ 2147483647) → kokw n σ → LX11_evidenceOf_0 d n Q a0 a1 a2 a3 σ) : Ci (d + 1) MX11_evidenceOf [(2, a0), (0, a1), (0, a2), (0, a3)] n σ Q := Tri_of (by decide +kernel) (Nat.le_of_ble_eq_true rfl) (fun hk hw => h (hk (0, a1) (List.mem_of_getElem? (i := 1) rfl)) (hk (0, a2) (List.mem_of_getElem? (i := 2) rfl)) (hk (0, a3) (List.mem_of_getElem? (i := 3) rfl)) hw)

def LX11_fault_0 (d n : Nat) (Q : Int → kS → Prop) (a0 : Int) (a1 : Int) (σ : kS) : Prop := K (d + 1) MX11_fault (kPi n Q) (0, 0) 0 [(0, (2, a0)), (1, (0, a1))] [] n σ
theorem SX11_fault_0 {d n : Nat} {Q : Int → kS → Prop} {a0 a1 : Int} {σ : kS} (h : (¬ a1 = 0 → (¬ a1 = 1 → Q (-2) σ) ∧ (¬ (¬ a1 = 1) → isO 11 n a0 ∧ (isA 27 n (σ a0 7) ∧ (((0 : Int) ≤ (σ a0 8) ∧ (σ a0 8) < klen (σ a0 7)) ∧ (isO 8 n (σ a0 9) ∧ (isO 0 n (σ (σ a0 7) (σ a0 8)) ∧ (Ci d MX0_reads [(2, (σ (σ a0 7) (σ a0 8))), (2, (σ a0 3)), (0, (σ (σ a0 9) 1))] n σ (fun x6 s1 => (x6 = 0 → isA 27 n (s1 a0 7) ∧ (((0 : Int) ≤ (s1 a0 8) ∧ (s1 a0 8) < klen (s1 a0 7)) ∧ (isO 0 n (s1 (s1 a0 7) (s1 a0 8)) ∧ (Q (s1 (s1 (s1 a0 7) (s1 a0 8)) 2) s1)))) ∧ (¬ x6 = 0 → Q (-1) s1))))))))) ∧ (¬ (¬ a1 = 0) → isO 11 n a0 ∧ (isO 4 n (σ a0 4) ∧ (Ci d MX4_reads [(2, (σ a0 4)), (2, (σ a0 3))] n σ (fun x3 s1 => (x3 = 0 → isO 4 n (s1 a0 4) ∧ (Q (s1 (s1 a0 4) 2) s1)) ∧ (¬ x3 = 0 → Q (-1) s1)))))) : LX11_fault_0 d n Q a0 a1 σ := by
  unfold LX11_fault_0
  refine K_iload_n 1 (kdA dt_MX11_fault 0 rfl) rfl rfl ?_
  refine K_if_ne (tgt := 30) (kdA dt_MX11_fault 1 rfl) rfl (fun c => ?_) (fun c => ?_)
  · have h := h.1 c
    refine K_iload_n 1 (kdA dt_MX11_fault 14 rfl) rfl rfl ?_
    refine K_iconst (kdA dt_MX11_fault 15 rfl) (by decide) ?_
    refine K_icmp_ne (tgt := 78) (kdA dt_MX11_fault 16 rfl) rfl (fun c => ?_) (fun c => ?_)
    · have h := h.1 c
      refine K_bipush (kdA dt_MX11_fault 38 rfl) (by decide +kernel) ?_
      exact K_ireturn (kdA dt_MX11_fault 39 rfl) rfl ⟨rfl, _, rfl, h⟩
    · have h := h.2 c
      refine K_aload_n 0 (kdA dt_MX11_fault 17 rfl) rfl rfl ?_
      obtain ⟨c1, h⟩ := h
      refine gf11_44 rfl (kdA dt_MX11_fault 18 rfl) c1 ?_
      refine K_aload_n 0 (kdA dt_MX11_fault 19 rfl) rfl rfl ?_
      refine gf11_151 rfl (kdA dt_MX11_fault 20 rfl) c1 ?_
      obtain ⟨c2, h⟩ := h
      obtain ⟨c3, h⟩ := h
      refine K_aaload (kdA dt_MX11_fault 21 rfl) (by decide) c2 c3.1 c3.2 ?_
      refine K_aload_n 0 (kdA dt_MX11_fault 22 rfl) rfl rfl ?_
      refine gf11_25 rfl (kdA dt_MX11_fault 23 rfl) c1 ?_
      refine K_aload_n 0 (kdA dt_MX11_fault 24 rfl) rfl rfl ?_
      refine gf11_48 rfl (kdA dt_MX11_fault 25 rfl) c1 ?_
      obtain ⟨c4, h⟩ := h
      refine gf11_130 rfl (kdA dt_MX11_fault 26 rfl) c4 ?_
      obtain ⟨c5, h⟩ := h
      refine K_cVi (c := 0) (as := [(2, (σ a0 3)), (0, (σ (σ a0 9) 1))]) (st := []) (kdA dt_MX11_fault 27 rfl) rfl cl_MX0_reads lk11_154 rfl rfl (Nat.le_of_ble_eq_true rfl) c5 (Ci.mono h (fun x6 s1 h => ?_))
      refine K_if_eq (tgt := 65) (kdA dt_MX11_fault 28 rfl) rfl (fun c => ?_) (fun c => ?_)
      · have h := h.1 c
        refine K_aload_n 0 (kdA dt_MX11_fault 31 rfl) rfl rfl ?_
        refine gf11_44 rfl (kdA dt_MX11_fault 32 rfl) c1 ?_
        refine K_aload_n 0 (kdA dt_MX11_fault 33 rfl) rfl rfl ?_
        refine gf11_151 rfl (kdA dt_MX11_fault 34 rfl) c1 ?_
        obtain ⟨c7, h⟩ := h
        obtain ⟨c8, h⟩ := h
        refine K_aaload (kdA dt_MX11_fault 35 rfl) (by decide) c7 c8.1 c8.2 ?_
        obtain ⟨c9, h⟩ := h
        refine gf11_157 rfl (kdA dt_MX11_fault 36 rfl) c9 ?_
        exact K_ireturn (kdA dt_MX11_fault 37 rfl) rfl ⟨rfl, _, rfl, h⟩
      · have h := h.2 c
        refine K_iconst (kdA dt_MX11_fault 29 rfl) (by decide) ?_
        refine K_goto (tgt := 77) (kdA dt_MX11_fault 30 rfl) rfl ?_
        exact K_ireturn (kdA dt_MX11_fault 37 rfl) rfl ⟨rfl, _, rfl, h⟩
  · have h := h.2 c
    refine K_aload_n 0 (kdA dt_MX11_fault 2 rfl) rfl rfl ?_
    obtain ⟨c1, h⟩ := h
    refine gf11_32 rfl (kdA dt_MX11_fault 3 rfl) c1 ?_
    refine K_aload_n 0 (kdA dt_MX11_fault 4 rfl) rfl rfl ?_
    refine gf11_25 rfl (kdA dt_MX11_fault 5 rfl) c1 ?_
    obtain ⟨c2, h⟩ := h
    refine K_cVi (c := 4) (as := [(2, (σ a0 3))]) (st := []) (kdA dt_MX11_fault 6 rfl) rfl cl_MX4_reads lk11_144 rfl rfl (Nat.le_of_ble_eq_true rfl) c2 (Ci.mono h (fun x3 s1 h => ?_))
    refine K_if_eq (tgt := 22) (kdA dt_MX11_fault 7 rfl) rfl (fun c => ?_) (fun c => ?_)
    · have h := h.1 c
      refine K_aload_n 0 (kdA dt_MX11_fault 10 rfl) rfl rfl ?_
      refine gf11_32 rfl (kdA dt_MX11_fault 11 rfl) c1 ?_
      obtain ⟨c4, h⟩ := h
      refine gf11_148 rfl (kdA dt_MX11_fault 12 rfl) c4 ?_
      exact K_ireturn (kdA dt_MX11_fault 13 rfl) rfl ⟨rfl, _, rfl, h⟩
    · have h := h.2 c
      refine K_iconst (kdA dt_MX11_fault 8 rfl) (by decide) ?_
      refine K_goto (tgt := 29) (kdA dt_MX11_fault 9 rfl) rfl ?_
      exact K_ireturn (kdA dt_MX11_fault 13 rfl) rfl ⟨rfl, _, rfl, h⟩
theorem EX11_fault {d n : Nat} {Q : Int → kS → Prop} {a0 a1 : Int} {σ : kS} (h : (-2147483648 ≤ a1 ∧ a1 ≤ 2147483647) → kokw n σ → LX11_fault_0 d n Q a0 a1 σ) : Ci (d + 1) MX11_fault [(2, a0), (0, a1)] n σ Q := Tri_of (by decide +kernel) (Nat.le_of_ble_eq_true rfl) (fun hk hw => h (hk (0, a1) (List.mem_of_getElem? (i := 1) rfl)) hw)

def LX11_feed_0 (d n : Nat) (Q : Int → kS → Prop) (a0 : Int) (a1 : Int) (a2 : Int) (a3 : Int) (a4 : Int) (a5 : Int) (σ : kS) : Prop := K (d + 1) MX11_feed (kPi n Q) (0, 0) 0 [(0, (2, a0)), (1, (0, a1)), (2, (0, a2)), (3, (0, a3)), (4, (0, a4)), (5, (0, a5))] [] n σ
theorem SX11_feed_0 {d n : Nat} {Q : Int → kS → Prop} {a0 a1 a2 a3 a4 a5 : Int} {σ : kS} (h : Ci d MX11_bytesIn [(0, a1)] n σ (fun x1 s1 => Ci d MX11_bytesIn [(0, a2)] n s1 (fun x2 s2 => (-2147483648 ≤ (x1 + x2) ∧ (x1 + x2) ≤ 2147483647) ∧ (Ci d MX11_bytesIn [(0, a3)] n s2 (fun x4 s3 => (-2147483648 ≤ ((x1 + x2) + x4) ∧ ((x1 + x2) + x4) ≤ 2147483647) ∧ (Ci d MX11_bytesIn [(0, a4)] n s3 (fun x6 s4 => (-2147483648 ≤ (((x1 + x2) + x4) + x6) ∧ (((x1 + x2) + x4) + x6) ≤ 2147483647) ∧ (Ci d MX11_bytesIn [(0, a5)] n s4 (fun x8 s5 => (-2147483648 ≤ ((((x1 + x2) + x4) + x6) + x8) ∧ ((((x1 + x2) + x4) + x6) + x8) ≤ 2147483647) ∧ (isO 11 n a0 ∧ (isO 8 n (s5 a0 3) ∧ ((-2147483648 ≤ ((s5 (s5 a0 3) 1) + ((((x1 + x2) + x4) + x6) + x8)) ∧ ((s5 (s5 a0 3) 1) + ((((x1 + x2) + x4) + x6) + x8)) ≤ 2147483647) ∧ ((((s5 (s5 a0 3) 1) + ((((x1 + x2) + x4) + x6) + x8)) ≤ 120 → Cv d MX11_addBytes [(2, a0), (0, a1)] n s5 (fun s6 => Cv d MX11_addBytes [(2, a0), (0, a2)] n s6 (fun s7 => Cv d MX11_addBytes [(2, a0), (0, a3)] n s7 (fun s8 => Cv d MX11_addBytes [(2, a0), (0, a4)] n s8 (fun s9 => Cv d MX11_addBytes [(2, a0), (0, a5)] n s9 (fun s10 => isO 8 n (s10 a0 3) ∧ (Q (s10 (s10 a0 3) 1) s10))))))) ∧ (¬ ((s5 (s5 a0 3) 1) + ((((x1 + x2) + x4) + x6) + x8)) ≤ 120 → Q (-1) s5)))))))))))))) : LX11_feed_0 d n Q a0 a1 a2 a3 a4 a5 σ := by
  unfold LX11_feed_0
  refine K_iload_n 1 (kdA dt_MX11_feed 0 rfl) rfl rfl ?_
  refine K_cSi (as := [(0, a1)]) (st := []) (kdA dt_MX11_feed 1 rfl) cl_MX11_bytesIn lk11_134 rfl rfl (Nat.le_of_ble_eq_true rfl) (Ci.mono h (fun x1 s1 h => ?_))
  refine K_iload_n 2 (kdA dt_MX11_feed 2 rfl) rfl rfl ?_
  refine K_cSi (as := [(0, a2)]) (st := [(0, x1)]) (kdA dt_MX11_feed 3 rfl) cl_MX11_bytesIn lk11_134 rfl rfl (Nat.le_of_ble_eq_true rfl) (Ci.mono h (fun x2 s2 h => ?_))
  obtain ⟨c3, h⟩ := h
  refine K_iadd (kdA dt_MX11_feed 4 rfl) c3 ?_
  refine K_iload_n 3 (kdA dt_MX11_feed 5 rfl) rfl rfl ?_
  refine K_cSi (as := [(0, a3)]) (st := [(0, (x1 + x2))]) (kdA dt_MX11_feed 6 rfl) cl_MX11_bytesIn lk11_134 rfl rfl (Nat.le_of_ble_eq_true rfl) (Ci.mono h (fun x4 s3 h => ?_))
  obtain ⟨c5, h⟩ := h
  refine K_iadd (kdA dt_MX11_feed 7 rfl) c5 ?_
  refine K_iload 4 (kdA dt_MX11_feed 8 rfl) rfl ?_
  refine K_cSi (as := [(0, a4)]) (st := [(0, ((x1 + x2) + x4))]) (kdA dt_MX11_feed 9 rfl) cl_MX11_bytesIn lk11_134 rfl rfl (Nat.le_of_ble_eq_true rfl) (Ci.mono h (fun x6 s4 h => ?_))
  obtain ⟨c7, h⟩ := h
  refine K_iadd (kdA dt_MX11_feed 10 rfl) c7 ?_
  refine K_iload 5 (kdA dt_MX11_feed 11 rfl) rfl ?_
  refine K_cSi (as := [(0, a5)]) (st := [(0, (((x1 + x2) + x4) + x6))]) (kdA dt_MX11_feed 12 rfl) cl_MX11_bytesIn lk11_134 rfl rfl (Nat.le_of_ble_eq_true rfl) (Ci.mono h (fun x8 s5 h => ?_))
  obtain ⟨c9, h⟩ := h
  refine K_iadd (kdA dt_MX11_feed 13 rfl) c9 ?_
  refine K_istore (ls' := [(0, (2, a0)), (1, (0, a1)), (2, (0, a2)), (3, (0, a3)), (4, (0, a4)), (5, (0, a5)), (6, (0, ((((x1 + x2) + x4) + x6) + x8)))]) (kdA dt_MX11_feed 14 rfl) (by decide) rfl ?_
  refine K_aload_n 0 (kdA dt_MX11_feed 15 rfl) rfl rfl ?_
  obtain ⟨c10, h⟩ := h
  refine gf11_25 rfl (kdA dt_MX11_feed 16 rfl) c10 ?_
  obtain ⟨c11, h⟩ := h
  refine gf11_130 rfl (kdA dt_MX11_feed 17 rfl) c11 ?_
  refine K_iload 6 (kdA dt_MX11_feed 18 rfl) rfl ?_
  obtain ⟨c12, h⟩ := h
  refine K_iadd (kdA dt_MX11_feed 19 rfl) c12 ?_
  refine K_bipush (kdA dt_MX11_feed 20 rfl) (by decide +kernel) ?_
  refine K_icmp_le (tgt := 45) (kdA dt_MX11_feed 21 rfl) rfl (fun c => ?_) (fun c => ?_)
  · have h := h.1 c
    refine K_aload_n 0 (kdA dt_MX11_feed 24 rfl) rfl rfl ?_
    refine K_iload_n 1 (kdA dt_MX11_feed 25 rfl) rfl rfl ?_
    refine K_cVv (c := 11) (as := [(0, a1)]) (st := []) (kdA dt_MX11_feed 26 rfl) rfl cl_MX11_addBytes lk11_138 rfl rfl (Nat.le_of_ble_eq_true rfl) c10 (Cv.mono h (fun s6 h => ?_))
    refine K_aload_n 0 (kdA dt_MX11_feed 27 rfl) rfl rfl ?_
    refine K_iload_n 2 (kdA dt_MX11_feed 28 rfl) rfl rfl ?_
    refine K_cVv (c := 11) (as := [(0, a2)]) (st := []) (kdA dt_MX11_feed 29 rfl) rfl cl_MX11_addBytes lk11_138 rfl rfl (Nat.le_of_ble_eq_true rfl) c10 (Cv.mono h (fun s7 h => ?_))
    refine K_aload_n 0 (kdA dt_MX11_feed 30 rfl) rfl rfl ?_
    refine K_iload_n 3 (kdA dt_MX11_feed 31 rfl) rfl rfl ?_
    refine K_cVv (c := 11) (as := [(0, a3)]) (st := []) (kdA dt_MX11_feed 32 rfl) rfl cl_MX11_addBytes lk11_138 rfl rfl (Nat.le_of_ble_eq_true rfl) c10 (Cv.mono h (fun s8 h => ?_))
    refine K_aload_n 0 (kdA dt_MX11_feed 33 rfl) rfl rfl ?_
    refine K_iload 4 (kdA dt_MX11_feed 34 rfl) rfl ?_
    refine K_cVv (c := 11) (as := [(0, a4)]) (st := []) (kdA dt_MX11_feed 35 rfl) rfl cl_MX11_addBytes lk11_138 rfl rfl (Nat.le_of_ble_eq_true rfl) c10 (Cv.mono h (fun s9 h => ?_))
    refine K_aload_n 0 (kdA dt_MX11_feed 36 rfl) rfl rfl ?_
    refine K_iload 5 (kdA dt_MX11_feed 37 rfl) rfl ?_
    refine K_cVv (c := 11) (as := [(0, a5)]) (st := []) (kdA dt_MX11_feed 38 rfl) rfl cl_MX11_addBytes lk11_138 rfl rfl (Nat.le_of_ble_eq_true rfl) c10 (Cv.mono h (fun s10 h => ?_))
    refine K_aload_n 0 (kdA dt_MX11_feed 39 rfl) rfl rfl ?_
    refine gf11_25 rfl (kdA dt_MX11_feed 40 rfl) c10 ?_
    obtain ⟨c18, h⟩ := h
    refine gf11_130 rfl (kdA dt_MX11_feed 41 rfl) c18 ?_
    exact K_ireturn (kdA dt_MX11_feed 42 rfl) rfl ⟨rfl, _, rfl, h⟩
  · have h := h.2 c
    refine K_iconst (kdA dt_MX11_feed 22 rfl) (by decide) ?_
    exact K_ireturn (kdA dt_MX11_feed 23 rfl) rfl ⟨rfl, _, rfl, h⟩
theorem EX11_feed {d n : Nat} {Q : Int → kS → Prop} {a0 a1 a2 a3 a4 a5 : Int} {σ : kS} (h : (-2147483648 ≤ a1 ∧ a1 ≤ 2147483647) → (-2147483648 ≤ a2 ∧ a2 ≤ 2147483647) → (-2147483648 ≤ a3 ∧ a3 ≤ 2147483647) → (-2147483648 ≤ a4 ∧ a4 ≤ 2147483647) → (-2147483648 ≤ a5 ∧ a5 ≤ 2147483647) → kokw n σ → LX11_feed_0 d n Q a0 a1 a2 a3 a4 a5 σ) : Ci (d + 1) MX11_feed [(2, a0), (0, a1), (0, a2), (0, a3), (0, a4), (0, a5)] n σ Q := Tri_of (by decide +kernel) (Nat.le_of_ble_eq_true rfl) (fun hk hw => h (hk (0, a1) (List.mem_of_getElem? (i := 1) rfl)) (hk (0, a2) (List.mem_of_getElem? (i := 2) rfl)) (hk (0, a3) (List.mem_of_getElem? (i := 3) rfl)) (hk (0, a4) (List.mem_of_getElem? (i := 4) rfl)) (hk (0, a5) (List.mem_of_getElem? (i := 5) rfl)) hw)

def LX11_feet_0 (d n : Nat) (Q : Int → kS → Prop) (a0 : Int) (a1 : Int) (a2 : Int) (a3 : Int) (a4 : Int) (a6 : Int) (a7 : Int) (σ : kS) : Prop := K (d + 1) MX11_feet (kPi n Q) (0, 0) 0 [(0, (2, a0)), (1, (0, a1)), (2, (0, a2)), (3, (0, a3)), (4, (1, a4)), (6, (0, a6)), (7, (0, a7))] [] n σ
def LX11_feet_80 (d n : Nat) (Q : Int → kS → Prop) (a0 : Int) (a6 : Int) (a7 : Int) (a8 : Int) (σ : kS) : Prop := K (d + 1) MX11_feet (kPi n Q) (0, 0) 80 [(0, (2, a0)), (6, (0, a6)), (7, (0, a7)), (8, (0, a8))] [] n σ
theorem SX11_feet_0 {d n : Nat} {Q : Int → kS → Prop} {a0 a1 a2 a3 a4 a6 a7 : Int} {σ : kS} (h : isO 11 n a0 ∧ (Ci d MX11_isManner [(2, a0), (0, a1), (0, a2)] n σ (fun x2 s1 => (x2 = 0 → Q (-1) s1) ∧ (¬ x2 = 0 → isO 8 n (s1 a0 9) ∧ ((2 ≤ (s1 (s1 a0 9) 1) → (a6 < 1 → Q (-1) s1) ∧ (¬ a6 < 1 → (40 < a6 → Q (-1) s1) ∧ (¬ 40 < a6 → (a7 < 0 → Q (-1) s1) ∧ (¬ a7 < 0 → (a7 ≤ 9 → isA 26 n (s1 a0 5) ∧ (((0 : Int) ≤ a1 ∧ a1 < klen (s1 a0 5)) ∧ (isO 10 n (s1 a0 14) ∧ (Cv d MX10_fit [(2, (s1 a0 14)), (2, (s1 (s1 a0 5) a1)), (0, a2), (0, a3), (2, (s1 a0 0))] n s1 (fun s2 => isO 1 n (s2 a0 18) ∧ (Cv d MX1_begin [(2, (s2 a0 18)), (1, a4)] n s2 (fun s3 => LX11_feet_80 d n Q a0 a6 a7 1 s3))))))) ∧ (¬ a7 ≤ 9 → Q (-1) s1))))) ∧ (¬ 2 ≤ (s1 (s1 a0 9) 1) → Q (-1) s1)))))) : LX11_feet_0 d n Q a0 a1 a2 a3 a4 a6 a7 σ := by
  unfold LX11_feet_0
  refine K_aload_n 0 (kdA dt_MX11_feet 0 rfl) rfl rfl ?_
  refine K_iload_n 1 (kdA dt_MX11_feet 1 rfl) rfl rfl ?_
  refine K_iload_n 2 (kdA dt_MX11_feet 2 rfl) rfl rfl ?_
  obtain ⟨c1, h⟩ := h
  refine K_cVi (c := 11) (as := [(0, a1), (0, a2)]) (st := []) (kdA dt_MX11_feet 3 rfl) rfl cl_MX11_isManner lk11_169 rfl rfl (Nat.le_of_ble_eq_true rfl) c1 (Ci.mono h (fun x2 s1 h => ?_))
  refine K_if_eq (tgt := 20) (kdA dt_MX11_feet 4 rfl) rfl (fun c => ?_) (fun c => ?_)
  · have h := h.1 c
    refine K_iconst (kdA dt_MX11_feet 10 rfl) (by decide) ?_
    exact K_ireturn (kdA dt_MX11_feet 11 rfl) rfl ⟨rfl, _, rfl, h⟩
  · have h := h.2 c
    refine K_aload_n 0 (kdA dt_MX11_feet 5 rfl) rfl rfl ?_
    refine gf11_48 rfl (kdA dt_MX11_feet 6 rfl) c1 ?_
    obtain ⟨c3, h⟩ := h
    refine gf11_130 rfl (kdA dt_MX11_feet 7 rfl) c3 ?_
    refine K_iconst (kdA dt_MX11_feet 8 rfl) (by decide) ?_
    refine K_icmp_ge (tgt := 22) (kdA dt_MX11_feet 9 rfl) rfl (fun c => ?_) (fun c => ?_)
    · have h := h.1 c
      refine K_iload 5 (kdA dt_MX11_feet 12 rfl) rfl ?_
      refine K_iconst (kdA dt_MX11_feet 13 rfl) (by decide) ?_
      refine K_icmp_lt (tgt := 47) (kdA dt_MX11_feet 14 rfl) rfl (fun c => ?_) (fun c => ?_)
      · have h := h.1 c
        refine K_iconst (kdA dt_MX11_feet 23 rfl) (by decide) ?_
        exact K_ireturn (kdA dt_MX11_feet 24 rfl) rfl ⟨rfl, _, rfl, h⟩
      · have h := h.2 c
        refine K_iload 5 (kdA dt_MX11_feet 15 rfl) rfl ?_
        refine K_bipush (kdA dt_MX11_feet 16 rfl) (by decide +kernel) ?_
        refine K_icmp_gt (tgt := 47) (kdA dt_MX11_feet 17 rfl) rfl (fun c => ?_) (fun c => ?_)
        · have h := h.1 c
          refine K_iconst (kdA dt_MX11_feet 23 rfl) (by decide) ?_
          exact K_ireturn (kdA dt_MX11_feet 24 rfl) rfl ⟨rfl, _, rfl, h⟩
        · have h := h.2 c
          refine K_iload 6 (kdA dt_MX11_feet 18 rfl) rfl ?_
          refine K_if_lt (tgt := 47) (kdA dt_MX11_feet 19 rfl) rfl (fun c => ?_) (fun c => ?_)
          · have h := h.1 c
            refine K_iconst (kdA dt_MX11_feet 23 rfl) (by decide) ?_
            exact K_ireturn (kdA dt_MX11_feet 24 rfl) rfl ⟨rfl, _, rfl, h⟩
          · have h := h.2 c
            refine K_iload 6 (kdA dt_MX11_feet 20 rfl) rfl ?_
            refine K_bipush (kdA dt_MX11_feet 21 rfl) (by decide +kernel) ?_
            refine K_icmp_le (tgt := 49) (kdA dt_MX11_feet 22 rfl) rfl (fun c => ?_) (fun c => ?_)
            · have h := h.1 c
              refine K_aload_n 0 (kdA dt_MX11_feet 25 rfl) rfl rfl ?_
              refine gf11_64 rfl (kdA dt_MX11_feet 26 rfl) c1 ?_
              refine K_aload_n 0 (kdA dt_MX11_feet 27 rfl) rfl rfl ?_
              refine gf11_38 rfl (kdA dt_MX11_feet 28 rfl) c1 ?_
              refine K_iload_n 1 (kdA dt_MX11_feet 29 rfl) rfl rfl ?_
              obtain ⟨c4, h⟩ := h
              obtain ⟨c5, h⟩ := h
              refine K_aaload (kdA dt_MX11_feet 30 rfl) (by decide) c4 c5.1 c5.2 ?_
              refine K_iload_n 2 (kdA dt_MX11_feet 31 rfl) rfl rfl ?_
              refine K_iload_n 3 (kdA dt_MX11_feet 32 rfl) rfl rfl ?_
              refine K_aload_n 0 (kdA dt_MX11_feet 33 rfl) rfl rfl ?_
              refine gf11_10 rfl (kdA dt_MX11_feet 34 rfl) c1 ?_
              obtain ⟨c6, h⟩ := h
              refine K_cVv (c := 10) (as := [(2, (s1 (s1 a0 5) a1)), (0, a2), (0, a3), (2, (s1 a0 0))]) (st := []) (kdA dt_MX11_feet 35 rfl) rfl cl_MX10_fit lk11_179 rfl rfl (Nat.le_of_ble_eq_true rfl) c6 (Cv.mono h (fun s2 h => ?_))
              refine K_aload_n 0 (kdA dt_MX11_feet 36 rfl) rfl rfl ?_
              refine gf11_92 rfl (kdA dt_MX11_feet 37 rfl) c1 ?_
              refine K_lload 4 (kdA dt_MX11_feet 38 rfl) rfl ?_
              obtain ⟨c8, h⟩ := h
              refine K_cVv (c := 1) (as := [(1, a4)]) (st := []) (kdA dt_MX11_feet 39 rfl) rfl cl_MX1_begin lk11_351 rfl rfl (Nat.le_of_ble_eq_true rfl) c8 (Cv.mono h (fun s3 h => ?_))
              refine K_iconst (kdA dt_MX11_feet 40 rfl) (by decide) ?_
              refine K_istore (ls' := [(0, (2, a0)), (1, (0, a1)), (2, (0, a2)), (3, (0, a3)), (4, (1, a4)), (6, (0, a6)), (7, (0, a7)), (8, (0, 1))]) (kdA dt_MX11_feet 41 rfl) (by decide) rfl ?_
              refine K_pick [0, 5, 6, 7] (ls' := [(0, (2, a0)), (6, (0, a6)), (7, (0, a7)), (8, (0, 1))]) rfl ?_
              exact h
            · have h := h.2 c
              refine K_iconst (kdA dt_MX11_feet 23 rfl) (by decide) ?_
              exact K_ireturn (kdA dt_MX11_feet 24 rfl) rfl ⟨rfl, _, rfl, h⟩
    · have h := h.2 c
      refine K_iconst (kdA dt_MX11_feet 10 rfl) (by decide) ?_
      exact K_ireturn (kdA dt_MX11_feet 11 rfl) rfl ⟨rfl, _, rfl, h⟩
theorem SX11_feet_80 {d n : Nat} {Q : Int → kS → Prop} {a0 a6 a7 a8 : Int} {σ : kS} (h : (a6 < a8 → isO 11 n a0 ∧ (isO 1 n (σ a0 18) ∧ (Ci d MX1_troddenCells [(2, (σ a0 18)), (0, 1)] n σ (fun x3 s1 => Q x3 s1)))) ∧ (¬ a6 < a8 → isO 11 n a0 ∧ (isO 1 n (σ a0 18) ∧ (Cv d MX1_goOnce [(2, (σ a0 18)), (2, (σ a0 14)), (2, (σ a0 9)), (0, a8), (0, a7)] n σ (fun s1 => (-2147483648 ≤ (a8 + 1) ∧ (a8 + 1) ≤ 2147483647) ∧ (LX11_feet_80 d n Q a0 a6 a7 (a8 + 1) s1)))))) : LX11_feet_80 d n Q a0 a6 a7 a8 σ := by
  unfold LX11_feet_80
  refine K_iload 3 (kdA dt_MX11_feet 42 rfl) rfl ?_
  refine K_iload 1 (kdA dt_MX11_feet 43 rfl) rfl ?_
  refine K_icmp_gt (tgt := 112) (kdA dt_MX11_feet 44 rfl) rfl (fun c => ?_) (fun c => ?_)
  · have h := h.1 c
    refine K_aload_n 0 (kdA dt_MX11_feet 56 rfl) rfl rfl ?_
    obtain ⟨c1, h⟩ := h
    refine gf11_92 rfl (kdA dt_MX11_feet 57 rfl) c1 ?_
    refine K_iconst (kdA dt_MX11_feet 58 rfl) (by decide) ?_
    obtain ⟨c2, h⟩ := h
    refine K_cVi (c := 1) (as := [(0, 1)]) (st := []) (kdA dt_MX11_feet 59 rfl) rfl cl_MX1_troddenCells lk11_358 rfl rfl (Nat.le_of_ble_eq_true rfl) c2 (Ci.mono h (fun x3 s1 h => ?_))
    exact K_ireturn (kdA dt_MX11_feet 60 rfl) rfl ⟨rfl, _, rfl, h⟩
  · have h := h.2 c
    refine K_aload_n 0 (kdA dt_MX11_feet 45 rfl) rfl rfl ?_
    obtain ⟨c1, h⟩ := h
    refine gf11_92 rfl (kdA dt_MX11_feet 46 rfl) c1 ?_
    refine K_aload_n 0 (kdA dt_MX11_feet 47 rfl) rfl rfl ?_
    refine gf11_64 rfl (kdA dt_MX11_feet 48 rfl) c1 ?_
    refine K_aload_n 0 (kdA dt_MX11_feet 49 rfl) rfl rfl ?_
    refine gf11_48 rfl (kdA dt_MX11_feet 50 rfl) c1 ?_
    refine K_iload 3 (kdA dt_MX11_feet 51 rfl) rfl ?_
    refine K_iload 2 (kdA dt_MX11_feet 52 rfl) rfl ?_
    obtain ⟨c2, h⟩ := h
    refine K_cVv (c := 1) (as := [(2, (σ a0 14)), (2, (σ a0 9)), (0, a8), (0, a7)]) (st := []) (kdA dt_MX11_feet 53 rfl) rfl cl_MX1_goOnce lk11_354 rfl rfl (Nat.le_of_ble_eq_true rfl) c2 (Cv.mono h (fun s1 h => ?_))
    obtain ⟨c4, h⟩ := h
    refine K_iinc (ls' := [(0, (2, a0)), (6, (0, a6)), (7, (0, a7)), (8, (0, (a8 + 1)))]) 3 (kdA dt_MX11_feet 54 rfl) rfl c4 (by decide) rfl ?_
    refine K_goto (tgt := 80) (kdA dt_MX11_feet 55 rfl) rfl ?_
    exact h
theorem EX11_feet {d n : Nat} {Q : Int → kS → Prop} {a0 a1 a2 a3 a4 a6 a7 : Int} {σ : kS} (h : (-2147483648 ≤ a1 ∧ a1 ≤ 2147483647) → (-2147483648 ≤ a2 ∧ a2 ≤ 2147483647) → (-2147483648 ≤ a3 ∧ a3 ≤ 2147483647) → (-9223372036854775808 ≤ a4 ∧ a4 ≤ 9223372036854775807) → (-2147483648 ≤ a6 ∧ a6 ≤ 2147483647) → (-2147483648 ≤ a7 ∧ a7 ≤ 2147483647) → kokw n σ → LX11_feet_0 d n Q a0 a1 a2 a3 a4 a6 a7 σ) : Ci (d + 1) MX11_feet [(2, a0), (0, a1), (0, a2), (0, a3), (1, a4), (0, a6), (0, a7)] n σ Q := Tri_of (by decide +kernel) (Nat.le_of_ble_eq_true rfl) (fun hk hw => h (hk (0, a1) (List.mem_of_getElem? (i := 1) rfl)) (hk (0, a2) (List.mem_of_getElem? (i := 2) rfl)) (hk (0, a3) (List.mem_of_getElem? (i := 3) rfl)) (hk (1, a4) (List.mem_of_getElem? (i := 4) rfl)) (hk (0, a6) (List.mem_of_getElem? (i := 5) rfl)) (hk (0, a7) (List.mem_of_getElem? (i := 6) rfl)) hw)

def LX11_field_0 (d n : Nat) (Q : Int → kS → Prop) (a0 : Int) (a1 : Int) (a2 : Int) (a3 : Int) (a4 : Int) (σ : kS) : Prop := K (d + 1) MX11_field (kPi n Q) (0, 0) 0 [(0, (2, a0)), (1, (0, a1)), (2, (0, a2)), (3, (0, a3)), (4, (0, a4))] [] n σ
theorem SX11_field_0 {d n : Nat} {Q : Int → kS → Prop} {a0 a1 a2 a3 a4 : Int} {σ : kS} (h : Ci d MX11_isBox [(0, a1), (0, a2), (0, a3), (0, a4)] n σ (fun x1 s1 => (x1 = 0 → Q (-1) s1) ∧ (¬ x1 = 0 → isO 11 n a0 ∧ (isO 8 n (s1 a0 13) ∧ (((0 : Int) ≤ (s1 (s1 a0 13) 1)) ∧ ((((s1 (s1 a0 13) 1) / 4) < 8 → Ci d MX8_add [(2, (s1 a0 13)), (0, a1)] n s1 (fun x5 s2 => isO 8 n (s2 a0 13) ∧ (Ci d MX8_add [(2, (s2 a0 13)), (0, a2)] n s2 (fun x7 s3 => isO 8 n (s3 a0 13) ∧ (Ci d MX8_add [(2, (s3 a0 13)), (0, a3)] n s3 (fun x9 s4 => isO 8 n (s4 a0 13) ∧ (Ci d MX8_add [(2, (s4 a0 13)), (0, a4)] n s4 (fun x11 s5 => isO 8 n (s5 a0 13) ∧ (((0 : Int) ≤ (s5 (s5 a0 13) 1)) ∧ ((-2147483648 ≤ (((s5 (s5 a0 13) 1) / 4) - 1) ∧ (((s5 (s5 a0 13) 1) / 4) - 1) ≤ 2147483647) ∧ (Q (((s5 (s5 a0 13) 1) / 4) - 1) s5))))))))))) ∧ (¬ ((s1 (s1 a0 13) 1) / 4) < 8 → Q (-1) s1))))))) : LX11_field_0 d n Q a0 a1 a2 a3 a4 σ := by
  unfold LX11_field_0
  refine K_iload_n 1 (kdA dt_MX11_field 0 rfl) rfl rfl ?_
  refine K_iload_n 2 (kdA dt_MX11_field 1 rfl) rfl rfl ?_
  refine K_iload_n 3 (kdA dt_MX11_field 2 rfl) rfl rfl ?_
  refine K_iload 4 (kdA dt_MX11_field 3 rfl) rfl ?_
  refine K_cSi (as := [(0, a1), (0, a2), (0, a3), (0, a4)]) (st := []) (kdA dt_MX11_field 4 rfl) cl_MX11_isBox lk11_105 rfl rfl (Nat.le_of_ble_eq_true rfl) (Ci.mono h (fun x1 s1 h => ?_))
  refine K_if_eq (tgt := 25) (kdA dt_MX11_field 5 rfl) rfl (fun c => ?_) (fun c => ?_)
  · have h := h.1 c
    refine K_iconst (kdA dt_MX11_field 13 rfl) (by decide) ?_
    exact K_ireturn (kdA dt_MX11_field 14 rfl) rfl ⟨rfl, _, rfl, h⟩
  · have h := h.2 c
    refine K_aload_n 0 (kdA dt_MX11_field 6 rfl) rfl rfl ?_
    obtain ⟨c2, h⟩ := h
    refine gf11_58 rfl (kdA dt_MX11_field 7 rfl) c2 ?_
    obtain ⟨c3, h⟩ := h
    refine gf11_130 rfl (kdA dt_MX11_field 8 rfl) c3 ?_
    refine K_iconst (kdA dt_MX11_field 9 rfl) (by decide) ?_
    obtain ⟨c4, h⟩ := h
    refine K_idiv (kdA dt_MX11_field 10 rfl) c4 (by decide) ?_
    refine K_bipush (kdA dt_MX11_field 11 rfl) (by decide +kernel) ?_
    refine K_icmp_lt (tgt := 27) (kdA dt_MX11_field 12 rfl) rfl (fun c => ?_) (fun c => ?_)
    · have h := h.1 c
      refine K_aload_n 0 (kdA dt_MX11_field 15 rfl) rfl rfl ?_
      refine gf11_58 rfl (kdA dt_MX11_field 16 rfl) c2 ?_
      refine K_iload_n 1 (kdA dt_MX11_field 17 rfl) rfl rfl ?_
      refine K_cVi (c := 8) (as := [(0, a1)]) (st := []) (kdA dt_MX11_field 18 rfl) rfl cl_MX8_add lk11_127 rfl rfl (Nat.le_of_ble_eq_true rfl) c3 (Ci.mono h (fun x5 s2 h => ?_))
      refine K_pop (kdA dt_MX11_field 19 rfl) rfl ?_
      refine K_aload_n 0 (kdA dt_MX11_field 20 rfl) rfl rfl ?_
      refine gf11_58 rfl (kdA dt_MX11_field 21 rfl) c2 ?_
      refine K_iload_n 2 (kdA dt_MX11_field 22 rfl) rfl rfl ?_
      obtain ⟨c6, h⟩ := h
      refine K_cVi (c := 8) (as := [(0, a2)]) (st := []) (kdA dt_MX11_field 23 rfl) rfl cl_MX8_add lk11_127 rfl rfl (Nat.le_of_ble_eq_true rfl) c6 (Ci.mono h (fun x7 s3 h => ?_))
      refine K_pop (kdA dt_MX11_field 24 rfl) rfl ?_
      refine K_aload_n 0 (kdA dt_MX11_field 25 rfl) rfl rfl ?_
      refine gf11_58 rfl (kdA dt_MX11_field 26 rfl) c2 ?_
      refine K_iload_n 3 (kdA dt_MX11_field 27 rfl) rfl rfl ?_
      obtain ⟨c8, h⟩ := h
      refine K_cVi (c := 8) (as := [(0, a3)]) (st := []) (kdA dt_MX11_field 28 rfl) rfl cl_MX8_add lk11_127 rfl rfl (Nat.le_of_ble_eq_true rfl) c8 (Ci.mono h (fun x9 s4 h => ?_))
      refine K_pop (kdA dt_MX11_field 29 rfl) rfl ?_
      refine K_aload_n 0 (kdA dt_MX11_field 30 rfl) rfl rfl ?_
      refine gf11_58 rfl (kdA dt_MX11_field 31 rfl) c2 ?_
      refine K_iload 4 (kdA dt_MX11_field 32 rfl) rfl ?_
      obtain ⟨c10, h⟩ := h
      refine K_cVi (c := 8) (as := [(0, a4)]) (st := []) (kdA dt_MX11_field 33 rfl) rfl cl_MX8_add lk11_127 rfl rfl (Nat.le_of_ble_eq_true rfl) c10 (Ci.mono h (fun x11 s5 h => ?_))
      refine K_pop (kdA dt_MX11_field 34 rfl) rfl ?_
      refine K_aload_n 0 (kdA dt_MX11_field 35 rfl) rfl rfl ?_
      refine gf11_58 rfl (kdA dt_MX11_field 36 rfl) c2 ?_
      obtain ⟨c12, h⟩ := h
      refine gf11_130 rfl (kdA dt_MX11_field 37 rfl) c12 ?_
      refine K_iconst (kdA dt_MX11_field 38 rfl) (by decide) ?_
      obtain ⟨c13, h⟩ := h
      refine K_idiv (kdA dt_MX11_field 39 rfl) c13 (by decide) ?_
      refine K_iconst (kdA dt_MX11_field 40 rfl) (by decide) ?_
      obtain ⟨c14, h⟩ := h
      refine K_isub (kdA dt_MX11_field 41 rfl) c14 ?_
      exact K_ireturn (kdA dt_MX11_field 42 rfl) rfl ⟨rfl, _, rfl, h⟩
    · have h := h.2 c
      refine K_iconst (kdA dt_MX11_field 13 rfl) (by decide) ?_
      exact K_ireturn (kdA dt_MX11_field 14 rfl) rfl ⟨rfl, _, rfl, h⟩
theorem EX11_field {d n : Nat} {Q : Int → kS → Prop} {a0 a1 a2 a3 a4 : Int} {σ : kS} (h : (-2147483648 ≤ a1 ∧ a1 ≤ 2147483647) → (-2147483648 ≤ a2 ∧ a2 ≤ 2147483647) → (-2147483648 ≤ a3 ∧ a3 ≤ 2147483647) → (-2147483648 ≤ a4 ∧ a4 ≤ 2147483647) → kokw n σ → LX11_field_0 d n Q a0 a1 a2 a3 a4 σ) : Ci (d + 1) MX11_field [(2, a0), (0, a1), (0, a2), (0, a3), (0, a4)] n σ Q := Tri_of (by decide +kernel) (Nat.le_of_ble_eq_true rfl) (fun hk hw => h (hk (0, a1) (List.mem_of_getElem? (i := 1) rfl)) (hk (0, a2) (List.mem_of_getElem? (i := 2) rfl)) (hk (0, a3) (List.mem_of_getElem? (i := 3) rfl)) (hk (0, a4) (List.mem_of_getElem? (i := 4) rfl)) hw)

def LX11_fillMisses_0 (d n : Nat) (Q : kS → Prop) (a0 : Int) (a1 : Int) (a2 : Int) (σ : kS) : Prop := K (d + 1) MX11_fillMisses (kPv n Q) (0, 0) 0 [(0, (2, a0)), (1, (0, a1)), (2, (0, a2))] [] n σ
def LX11_fillMisses_2 (d n : Nat) (Q : kS → Prop) (a0 : Int) (a1 : Int) (a2 : Int) (a3 : Int) (σ : kS) : Prop := K (d + 1) MX11_fillMisses (kPv n Q) (0, 0) 2 [(0, (2, a0)), (1, (0, a1)), (2, (0, a2)), (3, (0, a3))] [] n σ
def LX11_fillMisses_32 (d n : Nat) (Q : kS → Prop) (a0 : Int) (a1 : Int) (a2 : Int) (a3 : Int) (a4 : Int) (σ : kS) : Prop := K (d + 1) MX11_fillMisses (kPv n Q) (0, 0) 32 [(0, (2, a0)), (1, (0, a1)), (2, (0, a2)), (3, (0, a3)), (4, (0, a4))] [] n σ
theorem SX11_fillMisses_0 {d n : Nat} {Q : kS → Prop} {a0 a1 a2 : Int} {σ : kS} (h : LX11_fillMisses_2 d n Q a0 a1 a2 0 σ) : LX11_fillMisses_0 d n Q a0 a1 a2 σ := by
  unfold LX11_fillMisses_0
  refine K_iconst (kdA dt_MX11_fillMisses 0 rfl) (by decide) ?_
  refine K_istore_n (ls' := [(0, (2, a0)), (1, (0, a1)), (2, (0, a2)), (3, (0, 0))]) (kdA dt_MX11_fillMisses 1 rfl) rfl (by decide) rfl ?_
  exact h
theorem SX11_fillMisses_2 {d n : Nat} {Q : kS → Prop} {a0 a1 a2 a3 : Int} {σ : kS} (h : isO 11 n a0 ∧ (((σ a0 6) ≤ a3 → Q σ) ∧ (¬ (σ a0 6) ≤ a3 → isA 26 n (σ a0 5) ∧ (((0 : Int) ≤ a3 ∧ a3 < klen (σ a0 5)) ∧ (isO 10 n (σ a0 14) ∧ (Cv d MX10_fit [(2, (σ a0 14)), (2, (σ (σ a0 5) a3)), (0, a1), (0, a2), (2, (σ a0 0))] n σ (fun s1 => LX11_fillMisses_32 d n Q a0 a1 a2 a3 0 s1))))))) : LX11_fillMisses_2 d n Q a0 a1 a2 a3 σ := by
  unfold LX11_fillMisses_2
  refine K_iload_n 3 (kdA dt_MX11_fillMisses 2 rfl) rfl rfl ?_
  refine K_aload_n 0 (kdA dt_MX11_fillMisses 3 rfl) rfl rfl ?_
  obtain ⟨c1, h⟩ := h
  refine gf11_158 rfl (kdA dt_MX11_fillMisses 4 rfl) c1 ?_
  refine K_icmp_ge (tgt := 74) (kdA dt_MX11_fillMisses 5 rfl) rfl (fun c => ?_) (fun c => ?_)
  · have h := h.1 c
    exact K_return (kdA dt_MX11_fillMisses 38 rfl) rfl ⟨rfl, rfl, h⟩
  · have h := h.2 c
    refine K_aload_n 0 (kdA dt_MX11_fillMisses 6 rfl) rfl rfl ?_
    refine gf11_64 rfl (kdA dt_MX11_fillMisses 7 rfl) c1 ?_
    refine K_aload_n 0 (kdA dt_MX11_fillMisses 8 rfl) rfl rfl ?_
    refine gf11_38 rfl (kdA dt_MX11_fillMisses 9 rfl) c1 ?_
    refine K_iload_n 3 (kdA dt_MX11_fillMisses 10 rfl) rfl rfl ?_
    obtain ⟨c2, h⟩ := h
    obtain ⟨c3, h⟩ := h
    refine K_aaload (kdA dt_MX11_fillMisses 11 rfl) (by decide) c2 c3.1 c3.2 ?_
    refine K_iload_n 1 (kdA dt_MX11_fillMisses 12 rfl) rfl rfl ?_
    refine K_iload_n 2 (kdA dt_MX11_fillMisses 13 rfl) rfl rfl ?_
    refine K_aload_n 0 (kdA dt_MX11_fillMisses 14 rfl) rfl rfl ?_
    refine gf11_10 rfl (kdA dt_MX11_fillMisses 15 rfl) c1 ?_
    obtain ⟨c4, h⟩ := h
    refine K_cVv (c := 10) (as := [(2, (σ (σ a0 5) a3)), (0, a1), (0, a2), (2, (σ a0 0))]) (st := []) (kdA dt_MX11_fillMisses 16 rfl) rfl cl_MX10_fit lk11_179 rfl rfl (Nat.le_of_ble_eq_true rfl) c4 (Cv.mono h (fun s1 h => ?_))
    refine K_iconst (kdA dt_MX11_fillMisses 17 rfl) (by decide) ?_
    refine K_istore (ls' := [(0, (2, a0)), (1, (0, a1)), (2, (0, a2)), (3, (0, a3)), (4, (0, 0))]) (kdA dt_MX11_fillMisses 18 rfl) (by decide) rfl ?_
    exact h
theorem SX11_fillMisses_32 {d n : Nat} {Q : kS → Prop} {a0 a1 a2 a3 a4 : Int} {σ : kS} (h : isO 11 n a0 ∧ (isO 8 n (σ a0 12) ∧ (((σ (σ a0 12) 1) ≤ a4 → (-2147483648 ≤ (a3 + 1) ∧ (a3 + 1) ≤ 2147483647) ∧ (LX11_fillMisses_2 d n Q a0 a1 a2 (a3 + 1) σ)) ∧ (¬ (σ (σ a0 12) 1) ≤ a4 → isA 26 n (σ a0 5) ∧ (((0 : Int) ≤ a3 ∧ a3 < klen (σ a0 5)) ∧ (isO 3 n (σ (σ a0 5) a3) ∧ (Ci d MX11_missOf [(2, a0), (0, a4)] n σ (fun x6 s1 => isA 20 n (σ (σ (σ a0 5) a3) 4) ∧ (((0 : Int) ≤ a4 ∧ a4 < klen (σ (σ (σ a0 5) a3) 4)) ∧ (∀ s2, s2 = kst s1 (σ (σ (σ a0 5) a3) 4) a4 x6 → (-2147483648 ≤ (a4 + 1) ∧ (a4 + 1) ≤ 2147483647) ∧ (LX11_fillMisses_32 d n Q a0 a1 a2 a3 (a4 + 1) s2))))))))))) : LX11_fillMisses_32 d n Q a0 a1 a2 a3 a4 σ := by
  unfold LX11_fillMisses_32
  refine K_iload 4 (kdA dt_MX11_fillMisses 19 rfl) rfl ?_
  refine K_aload_n 0 (kdA dt_MX11_fillMisses 20 rfl) rfl rfl ?_
  obtain ⟨c1, h⟩ := h
  refine gf11_55 rfl (kdA dt_MX11_fillMisses 21 rfl) c1 ?_
  obtain ⟨c2, h⟩ := h
  refine gf11_130 rfl (kdA dt_MX11_fillMisses 22 rfl) c2 ?_
  refine K_icmp_ge (tgt := 68) (kdA dt_MX11_fillMisses 23 rfl) rfl (fun c => ?_) (fun c => ?_)
  · have h := h.1 c
    obtain ⟨c3, h⟩ := h
    refine K_iinc (ls' := [(0, (2, a0)), (1, (0, a1)), (2, (0, a2)), (3, (0, (a3 + 1))), (4, (0, a4))]) 3 (kdA dt_MX11_fillMisses 36 rfl) rfl c3 (by decide) rfl ?_
    refine K_goto (tgt := 2) (kdA dt_MX11_fillMisses 37 rfl) rfl ?_
    refine K_pick [0, 1, 2, 3] (ls' := [(0, (2, a0)), (1, (0, a1)), (2, (0, a2)), (3, (0, (a3 + 1)))]) rfl ?_
    exact h
  · have h := h.2 c
    refine K_aload_n 0 (kdA dt_MX11_fillMisses 24 rfl) rfl rfl ?_
    refine gf11_38 rfl (kdA dt_MX11_fillMisses 25 rfl) c1 ?_
    refine K_iload_n 3 (kdA dt_MX11_fillMisses 26 rfl) rfl rfl ?_
    obtain ⟨c3, h⟩ := h
    obtain ⟨c4, h⟩ := h
    refine K_aaload (kdA dt_MX11_fillMisses 27 rfl) (by decide) c3 c4.1 c4.2 ?_
    obtain ⟨c5, h⟩ := h
    refine gf11_276 rfl (kdA dt_MX11_fillMisses 28 rfl) c5 ?_
    refine K_iload 4 (kdA dt_MX11_fillMisses 29 rfl) rfl ?_
    refine K_aload_n 0 (kdA dt_MX11_fillMisses 30 rfl) rfl rfl ?_
    refine K_iload 4 (kdA dt_MX11_fillMisses 31 rfl) rfl ?_
    refine K_cVi (c := 11) (as := [(0, a4)]) (st := [(0, a4), (2, (σ (σ (σ a0 5) a3) 4))]) (kdA dt_MX11_fillMisses 32 rfl) rfl cl_MX11_missOf lk11_263 rfl rfl (Nat.le_of_ble_eq_true rfl) c1 (Ci.mono h (fun x6 s1 h => ?_))
    obtain ⟨c7, h⟩ := h
    obtain ⟨c8, h⟩ := h
    refine K_iastore' (kdA dt_MX11_fillMisses 33 rfl) c7 c8.1 c8.2 (fun s2 es2 => ?_)
    have h := h s2 es2
    obtain ⟨c9, h⟩ := h
    refine K_iinc (ls' := [(0, (2, a0)), (1, (0, a1)), (2, (0, a2)), (3, (0, a3)), (4, (0, (a4 + 1)))]) 4 (kdA dt_MX11_fillMisses 34 rfl) rfl c9 (by decide) rfl ?_
    refine K_goto (tgt := 32) (kdA dt_MX11_fillMisses 35 rfl) rfl ?_
    exact h
theorem EX11_fillMisses {d n : Nat} {Q : kS → Prop} {a0 a1 a2 : Int} {σ : kS} (h : (-2147483648 ≤ a1 ∧ a1 ≤ 2147483647) → (-2147483648 ≤ a2 ∧ a2 ≤ 2147483647) → kokw n σ → LX11_fillMisses_0 d n Q a0 a1 a2 σ) : Cv (d + 1) MX11_fillMisses [(2, a0), (0, a1), (0, a2)] n σ Q := Tri_of (by decide +kernel) (Nat.le_of_ble_eq_true rfl) (fun hk hw => h (hk (0, a1) (List.mem_of_getElem? (i := 1) rfl)) (hk (0, a2) (List.mem_of_getElem? (i := 2) rfl)) hw)

def LX11_find_0 (d n : Nat) (Q : Int → kS → Prop) (a0 : Int) (a1 : Int) (a2 : Int) (a3 : Int) (σ : kS) : Prop := K (d + 1) MX11_find (kPi n Q) (0, 0) 0 [(0, (2, a0)), (1, (0, a1)), (2, (0, a2)), (3, (0, a3))] [] n σ
theorem SX11_find_0 {d n : Nat} {Q : Int → kS → Prop} {a0 a1 a2 a3 : Int} {σ : kS} (h : Ci d MX11_isCell [(0, a1)] n σ (fun x1 s1 => (x1 = 0 → Q (-1) s1) ∧ (¬ x1 = 0 → (a2 < 0 → Q (-1) s1) ∧ (¬ a2 < 0 → (4 ≤ a2 → Q (-1) s1) ∧ (¬ 4 ≤ a2 → (a3 < 1 → Q (-1) s1) ∧ (¬ a3 < 1 → (a3 ≤ 9 → isO 11 n a0 ∧ (isO 2 n (s1 a0 16) ∧ (Ci d MX2_add [(2, (s1 a0 16)), (0, a1), (0, a2), (0, a3)] n s1 (fun x4 s2 => Q x4 s2)))) ∧ (¬ a3 ≤ 9 → Q (-1) s1))))))) : LX11_find_0 d n Q a0 a1 a2 a3 σ := by
  unfold LX11_find_0
  refine K_iload_n 1 (kdA dt_MX11_find 0 rfl) rfl rfl ?_
  refine K_cSi (as := [(0, a1)]) (st := []) (kdA dt_MX11_find 1 rfl) cl_MX11_isCell lk11_117 rfl rfl (Nat.le_of_ble_eq_true rfl) (Ci.mono h (fun x1 s1 h => ?_))
  refine K_if_eq (tgt := 27) (kdA dt_MX11_find 2 rfl) rfl (fun c => ?_) (fun c => ?_)
  · have h := h.1 c
    refine K_iconst (kdA dt_MX11_find 14 rfl) (by decide) ?_
    exact K_ireturn (kdA dt_MX11_find 15 rfl) rfl ⟨rfl, _, rfl, h⟩
  · have h := h.2 c
    refine K_iload_n 2 (kdA dt_MX11_find 3 rfl) rfl rfl ?_
    refine K_if_lt (tgt := 27) (kdA dt_MX11_find 4 rfl) rfl (fun c => ?_) (fun c => ?_)
    · have h := h.1 c
      refine K_iconst (kdA dt_MX11_find 14 rfl) (by decide) ?_
      exact K_ireturn (kdA dt_MX11_find 15 rfl) rfl ⟨rfl, _, rfl, h⟩
    · have h := h.2 c
      refine K_iload_n 2 (kdA dt_MX11_find 5 rfl) rfl rfl ?_
      refine K_iconst (kdA dt_MX11_find 6 rfl) (by decide) ?_
      refine K_icmp_ge (tgt := 27) (kdA dt_MX11_find 7 rfl) rfl (fun c => ?_) (fun c => ?_)
      · have h := h.1 c
        refine K_iconst (kdA dt_MX11_find 14 rfl) (by decide) ?_
        exact K_ireturn (kdA dt_MX11_find 15 rfl) rfl ⟨rfl, _, rfl, h⟩
      · have h := h.2 c
        refine K_iload_n 3 (kdA dt_MX11_find 8 rfl) rfl rfl ?_
        refine K_iconst (kdA dt_MX11_find 9 rfl) (by decide) ?_
        refine K_icmp_lt (tgt := 27) (kdA dt_MX11_find 10 rfl) rfl (fun c => ?_) (fun c => ?_)
        · have h := h.1 c
          refine K_iconst (kdA dt_MX11_find 14 rfl) (by decide) ?_
          exact K_ireturn (kdA dt_MX11_find 15 rfl) rfl ⟨rfl, _, rfl, h⟩
        · have h := h.2 c
          refine K_iload_n 3 (kdA dt_MX11_find 11 rfl) rfl rfl ?_
          refine K_bipush (kdA dt_MX11_find 12 rfl) (by decide +kernel) ?_
          refine K_icmp_le (tgt := 29) (kdA dt_MX11_find 13 rfl) rfl (fun c => ?_) (fun c => ?_)
          · have h := h.1 c
            refine K_aload_n 0 (kdA dt_MX11_find 16 rfl) rfl rfl ?_
            obtain ⟨c2, h⟩ := h
            refine gf11_78 rfl (kdA dt_MX11_find 17 rfl) c2 ?_
            refine K_iload_n 1 (kdA dt_MX11_find 18 rfl) rfl rfl ?_
            refine K_iload_n 2 (kdA dt_MX11_find 19 rfl) rfl rfl ?_
            refine K_iload_n 3 (kdA dt_MX11_find 20 rfl) rfl rfl ?_
            obtain ⟨c3, h⟩ := h
            refine K_cVi (c := 2) (as := [(0, a1), (0, a2), (0, a3)]) (st := []) (kdA dt_MX11_find 21 rfl) rfl cl_MX2_add lk11_249 rfl rfl (Nat.le_of_ble_eq_true rfl) c3 (Ci.mono h (fun x4 s2 h => ?_))
            exact K_ireturn (kdA dt_MX11_find 22 rfl) rfl ⟨rfl, _, rfl, h⟩
          · have h := h.2 c
            refine K_iconst (kdA dt_MX11_find 14 rfl) (by decide) ?_
            exact K_ireturn (kdA dt_MX11_find 15 rfl) rfl ⟨rfl, _, rfl, h⟩
theorem EX11_find {d n : Nat} {Q : Int → kS → Prop} {a0 a1 a2 a3 : Int} {σ : kS} (h : (-2147483648 ≤ a1 ∧ a1 ≤ 2147483647) → (-2147483648 ≤ a2 ∧ a2 ≤ 2147483647) → (-2147483648 ≤ a3 ∧ a3 ≤ 2147483647) → kokw n σ → LX11_find_0 d n Q a0 a1 a2 a3 σ) : Ci (d + 1) MX11_find [(2, a0), (0, a1), (0, a2), (0, a3)] n σ Q := Tri_of (by decide +kernel) (Nat.le_of_ble_eq_true rfl) (fun hk hw => h (hk (0, a1) (List.mem_of_getElem? (i := 1) rfl)) (hk (0, a2) (List.mem_of_getElem? (i := 2) rfl)) (hk (0, a3) (List.mem_of_getElem? (i := 3) rfl)) hw)

def LX11_fitBut_0 (d n : Nat) (Q : Int → kS → Prop) (a0 : Int) (a1 : Int) (a2 : Int) (σ : kS) : Prop := K (d + 1) MX11_fitBut (kPi n Q) (0, 0) 0 [(0, (2, a0)), (1, (0, a1)), (2, (0, a2))] [] n σ
def LX11_fitBut_5 (d n : Nat) (Q : Int → kS → Prop) (a0 : Int) (a1 : Int) (a2 : Int) (a3 : Int) (a4 : Int) (σ : kS) : Prop := K (d + 1) MX11_fitBut (kPi n Q) (0, 0) 5 [(0, (2, a0)), (1, (0, a1)), (2, (0, a2)), (3, (0, a3)), (4, (0, a4))] [] n σ
theorem SX11_fitBut_0 {d n : Nat} {Q : Int → kS → Prop} {a0 a1 a2 : Int} {σ : kS} (h : LX11_fitBut_5 d n Q a0 a1 a2 0 0 σ) : LX11_fitBut_0 d n Q a0 a1 a2 σ := by
  unfold LX11_fitBut_0
  refine K_iconst (kdA dt_MX11_fitBut 0 rfl) (by decide) ?_
  refine K_istore_n (ls' := [(0, (2, a0)), (1, (0, a1)), (2, (0, a2)), (3, (0, 0))]) (kdA dt_MX11_fitBut 1 rfl) rfl (by decide) rfl ?_
  refine K_iconst (kdA dt_MX11_fitBut 2 rfl) (by decide) ?_
  refine K_istore (ls' := [(0, (2, a0)), (1, (0, a1)), (2, (0, a2)), (3, (0, 0)), (4, (0, 0))]) (kdA dt_MX11_fitBut 3 rfl) (by decide) rfl ?_
  exact h
theorem SX11_fitBut_5 {d n : Nat} {Q : Int → kS → Prop} {a0 a1 a2 a3 a4 : Int} {σ : kS} (h : isO 11 n a0 ∧ (isO 8 n (σ a0 12) ∧ (((σ (σ a0 12) 1) ≤ a4 → Q a3 σ) ∧ (¬ (σ (σ a0 12) 1) ≤ a4 → (a4 = a2 → (-2147483648 ≤ (a4 + 1) ∧ (a4 + 1) ≤ 2147483647) ∧ (LX11_fitBut_5 d n Q a0 a1 a2 a3 (a4 + 1) σ)) ∧ (¬ a4 = a2 → isA 26 n (σ a0 5) ∧ (((0 : Int) ≤ a1 ∧ a1 < klen (σ a0 5)) ∧ (isO 3 n (σ (σ a0 5) a1) ∧ (isA 20 n (σ (σ (σ a0 5) a1) 4) ∧ (((0 : Int) ≤ a4 ∧ a4 < klen (σ (σ (σ a0 5) a1) 4)) ∧ ((-2147483648 ≤ (a3 + (σ (σ (σ (σ a0 5) a1) 4) a4)) ∧ (a3 + (σ (σ (σ (σ a0 5) a1) 4) a4)) ≤ 2147483647) ∧ ((-2147483648 ≤ (a4 + 1) ∧ (a4 + 1) ≤ 2147483647) ∧ (LX11_fitBut_5 d n Q a0 a1 a2 (a3 + (σ (σ (σ (σ a0 5) a1) 4) a4)) (a4 + 1) σ)))))))))))) : LX11_fitBut_5 d n Q a0 a1 a2 a3 a4 σ := by
  unfold LX11_fitBut_5
  refine K_iload 4 (kdA dt_MX11_fitBut 4 rfl) rfl ?_
  refine K_aload_n 0 (kdA dt_MX11_fitBut 5 rfl) rfl rfl ?_
  obtain ⟨c1, h⟩ := h
  refine gf11_55 rfl (kdA dt_MX11_fitBut 6 rfl) c1 ?_
  obtain ⟨c2, h⟩ := h
  refine gf11_130 rfl (kdA dt_MX11_fitBut 7 rfl) c2 ?_
  refine K_icmp_ge (tgt := 44) (kdA dt_MX11_fitBut 8 rfl) rfl (fun c => ?_) (fun c => ?_)
  · have h := h.1 c
    refine K_iload_n 3 (kdA dt_MX11_fitBut 24 rfl) rfl rfl ?_
    exact K_ireturn (kdA dt_MX11_fitBut 25 rfl) rfl ⟨rfl, _, rfl, h⟩
  · have h := h.2 c
    refine K_iload 4 (kdA dt_MX11_fitBut 9 rfl) rfl ?_
    refine K_iload_n 2 (kdA dt_MX11_fitBut 10 rfl) rfl rfl ?_
    refine K_icmp_eq (tgt := 38) (kdA dt_MX11_fitBut 11 rfl) rfl (fun c => ?_) (fun c => ?_)
    · have h := h.1 c
      obtain ⟨c3, h⟩ := h
      refine K_iinc (ls' := [(0, (2, a0)), (1, (0, a1)), (2, (0, a2)), (3, (0, a3)), (4, (0, (a4 + 1)))]) 4 (kdA dt_MX11_fitBut 22 rfl) rfl c3 (by decide) rfl ?_
      refine K_goto (tgt := 5) (kdA dt_MX11_fitBut 23 rfl) rfl ?_
      exact h
    · have h := h.2 c
      refine K_iload_n 3 (kdA dt_MX11_fitBut 12 rfl) rfl rfl ?_
      refine K_aload_n 0 (kdA dt_MX11_fitBut 13 rfl) rfl rfl ?_
      refine gf11_38 rfl (kdA dt_MX11_fitBut 14 rfl) c1 ?_
      refine K_iload_n 1 (kdA dt_MX11_fitBut 15 rfl) rfl rfl ?_
      obtain ⟨c3, h⟩ := h
      obtain ⟨c4, h⟩ := h
      refine K_aaload (kdA dt_MX11_fitBut 16 rfl) (by decide) c3 c4.1 c4.2 ?_
      obtain ⟨c5, h⟩ := h
      refine gf11_276 rfl (kdA dt_MX11_fitBut 17 rfl) c5 ?_
      refine K_iload 4 (kdA dt_MX11_fitBut 18 rfl) rfl ?_
      obtain ⟨c6, h⟩ := h
      obtain ⟨c7, h⟩ := h
      refine K_iaload (kdA dt_MX11_fitBut 19 rfl) c6 c7.1 c7.2 ?_
      obtain ⟨c8, h⟩ := h
      refine K_iadd (kdA dt_MX11_fitBut 20 rfl) c8 ?_
      refine K_istore_n (ls' := [(0, (2, a0)), (1, (0, a1)), (2, (0, a2)), (3, (0, (a3 + (σ (σ (σ (σ a0 5) a1) 4) a4)))), (4, (0, a4))]) (kdA dt_MX11_fitBut 21 rfl) rfl (by decide) rfl ?_
      obtain ⟨c9, h⟩ := h
      refine K_iinc (ls' := [(0, (2, a0)), (1, (0, a1)), (2, (0, a2)), (3, (0, (a3 + (σ (σ (σ (σ a0 5) a1) 4) a4)))), (4, (0, (a4 + 1)))]) 4 (kdA dt_MX11_fitBut 22 rfl) rfl c9 (by decide) rfl ?_
      refine K_goto (tgt := 5) (kdA dt_MX11_fitBut 23 rfl) rfl ?_
      exact h
theorem EX11_fitBut {d n : Nat} {Q : Int → kS → Prop} {a0 a1 a2 : Int} {σ : kS} (h : (-2147483648 ≤ a1 ∧ a1 ≤ 2147483647) → (-2147483648 ≤ a2 ∧ a2 ≤ 2147483647) → kokw n σ → LX11_fitBut_0 d n Q a0 a1 a2 σ) : Ci (d + 1) MX11_fitBut [(2, a0), (0, a1), (0, a2)] n σ Q := Tri_of (by decide +kernel) (Nat.le_of_ble_eq_true rfl) (fun hk hw => h (hk (0, a1) (List.mem_of_getElem? (i := 1) rfl)) (hk (0, a2) (List.mem_of_getElem? (i := 2) rfl)) hw)

def LX11_goOn_0 (d n : Nat) (Q : Int → kS → Prop) (a0 : Int) (a1 : Int) (σ : kS) : Prop := K (d + 1) MX11_goOn (kPi n Q) (0, 0) 0 [(0, (2, a0)), (1, (0, a1))] [] n σ
theorem SX11_goOn_0 {d n : Nat} {Q : Int → kS → Prop} {a0 a1 : Int} {σ : kS} (h : isO 11 n a0 ∧ ((-2147483648 ≤ ((σ a0 11) - 1) ∧ ((σ a0 11) - 1) ≤ 2147483647) ∧ (Ci d MX11_isLine [(2, a0), (0, ((σ a0 11) - 1))] n σ (fun x3 s1 => (¬ x3 = 0 → (-2147483648 ≤ ((s1 a0 11) - 1) ∧ ((s1 a0 11) - 1) ≤ 2147483647) ∧ (isA 28 n (s1 a0 10) ∧ (((0 : Int) ≤ ((s1 a0 11) - 1) ∧ ((s1 a0 11) - 1) < klen (s1 a0 10)) ∧ (isO 8 n (s1 (s1 a0 10) ((s1 a0 11) - 1)) ∧ (Ci d MX8_last [(2, (s1 (s1 a0 10) ((s1 a0 11) - 1)))] n s1 (fun x8 s2 => Ci d MX11_stepFrom [(0, x8), (0, a1)] n s2 (fun x9 s3 => (x9 = (-1) → Q (-1) s3) ∧ (¬ x9 = (-1) → (60 ≤ (s3 (s1 (s1 a0 10) ((s1 a0 11) - 1)) 1) → Q (-1) s3) ∧ (¬ 60 ≤ (s3 (s1 (s1 a0 10) ((s1 a0 11) - 1)) 1) → Ci d MX8_add [(2, (s1 (s1 a0 10) ((s1 a0 11) - 1))), (0, x9)] n s3 (fun x10 s4 => (¬ x10 = 0 → Q (s4 (s1 (s1 a0 10) ((s1 a0 11) - 1)) 1) s4) ∧ (¬ (¬ x10 = 0) → Q (-1) s4))))))))))) ∧ (¬ (¬ x3 = 0) → Q (-1) s1))))) : LX11_goOn_0 d n Q a0 a1 σ := by
  unfold LX11_goOn_0
  refine K_aload_n 0 (kdA dt_MX11_goOn 0 rfl) rfl rfl ?_
  refine K_aload_n 0 (kdA dt_MX11_goOn 1 rfl) rfl rfl ?_
  obtain ⟨c1, h⟩ := h
  refine gf11_216 rfl (kdA dt_MX11_goOn 2 rfl) c1 ?_
  refine K_iconst (kdA dt_MX11_goOn 3 rfl) (by decide) ?_
  obtain ⟨c2, h⟩ := h
  refine K_isub (kdA dt_MX11_goOn 4 rfl) c2 ?_
  refine K_cVi (c := 11) (as := [(0, ((σ a0 11) - 1))]) (st := []) (kdA dt_MX11_goOn 5 rfl) rfl cl_MX11_isLine lk11_233 rfl rfl (Nat.le_of_ble_eq_true rfl) c1 (Ci.mono h (fun x3 s1 h => ?_))
  refine K_if_ne (tgt := 15) (kdA dt_MX11_goOn 6 rfl) rfl (fun c => ?_) (fun c => ?_)
  · have h := h.1 c
    refine K_aload_n 0 (kdA dt_MX11_goOn 9 rfl) rfl rfl ?_
    refine gf11_51 rfl (kdA dt_MX11_goOn 10 rfl) c1 ?_
    refine K_aload_n 0 (kdA dt_MX11_goOn 11 rfl) rfl rfl ?_
    refine gf11_216 rfl (kdA dt_MX11_goOn 12 rfl) c1 ?_
    refine K_iconst (kdA dt_MX11_goOn 13 rfl) (by decide) ?_
    obtain ⟨c4, h⟩ := h
    refine K_isub (kdA dt_MX11_goOn 14 rfl) c4 ?_
    obtain ⟨c5, h⟩ := h
    obtain ⟨c6, h⟩ := h
    refine K_aaload (kdA dt_MX11_goOn 15 rfl) (by decide) c5 c6.1 c6.2 ?_
    refine K_astore_n (ls' := [(0, (2, a0)), (1, (0, a1)), (2, (2, (s1 (s1 a0 10) ((s1 a0 11) - 1))))]) (kdA dt_MX11_goOn 16 rfl) rfl (by decide) rfl ?_
    refine K_aload_n 2 (kdA dt_MX11_goOn 17 rfl) rfl rfl ?_
    obtain ⟨c7, h⟩ := h
    refine K_cVi (c := 8) (as := []) (st := []) (kdA dt_MX11_goOn 18 rfl) rfl cl_MX8_last lk11_236 rfl rfl (Nat.le_of_ble_eq_true rfl) c7 (Ci.mono h (fun x8 s2 h => ?_))
    refine K_iload_n 1 (kdA dt_MX11_goOn 19 rfl) rfl rfl ?_
    refine K_cSi (as := [(0, x8), (0, a1)]) (st := []) (kdA dt_MX11_goOn 20 rfl) cl_MX11_stepFrom lk11_173 rfl rfl (Nat.le_of_ble_eq_true rfl) (Ci.mono h (fun x9 s3 h => ?_))
    refine K_istore_n (ls' := [(0, (2, a0)), (1, (0, a1)), (2, (2, (s1 (s1 a0 10) ((s1 a0 11) - 1)))), (3, (0, x9))]) (kdA dt_MX11_goOn 21 rfl) rfl (by decide) rfl ?_
    refine K_iload_n 3 (kdA dt_MX11_goOn 22 rfl) rfl rfl ?_
    refine K_iconst (kdA dt_MX11_goOn 23 rfl) (by decide) ?_
    refine K_icmp_eq (tgt := 58) (kdA dt_MX11_goOn 24 rfl) rfl (fun c => ?_) (fun c => ?_)
    · have h := h.1 c
      refine K_iconst (kdA dt_MX11_goOn 33 rfl) (by decide) ?_
      exact K_ireturn (kdA dt_MX11_goOn 34 rfl) rfl ⟨rfl, _, rfl, h⟩
    · have h := h.2 c
      refine K_aload_n 2 (kdA dt_MX11_goOn 25 rfl) rfl rfl ?_
      refine gf11_130 rfl (kdA dt_MX11_goOn 26 rfl) c7 ?_
      refine K_bipush (kdA dt_MX11_goOn 27 rfl) (by decide +kernel) ?_
      refine K_icmp_ge (tgt := 58) (kdA dt_MX11_goOn 28 rfl) rfl (fun c => ?_) (fun c => ?_)
      · have h := h.1 c
        refine K_iconst (kdA dt_MX11_goOn 33 rfl) (by decide) ?_
        exact K_ireturn (kdA dt_MX11_goOn 34 rfl) rfl ⟨rfl, _, rfl, h⟩
      · have h := h.2 c
        refine K_aload_n 2 (kdA dt_MX11_goOn 29 rfl) rfl rfl ?_
        refine K_iload_n 3 (kdA dt_MX11_goOn 30 rfl) rfl rfl ?_
        refine K_cVi (c := 8) (as := [(0, x9)]) (st := []) (kdA dt_MX11_goOn 31 rfl) rfl cl_MX8_add lk11_127 rfl rfl (Nat.le_of_ble_eq_true rfl) c7 (Ci.mono h (fun x10 s4 h => ?_))
        refine K_if_ne (tgt := 60) (kdA dt_MX11_goOn 32 rfl) rfl (fun c => ?_) (fun c => ?_)
        · have h := h.1 c
          refine K_aload_n 2 (kdA dt_MX11_goOn 35 rfl) rfl rfl ?_
          refine gf11_130 rfl (kdA dt_MX11_goOn 36 rfl) c7 ?_
          exact K_ireturn (kdA dt_MX11_goOn 37 rfl) rfl ⟨rfl, _, rfl, h⟩
        · have h := h.2 c
          refine K_iconst (kdA dt_MX11_goOn 33 rfl) (by decide) ?_
          exact K_ireturn (kdA dt_MX11_goOn 34 rfl) rfl ⟨rfl, _, rfl, h⟩
  · have h := h.2 c
    refine K_iconst (kdA dt_MX11_goOn 7 rfl) (by decide) ?_
    exact K_ireturn (kdA dt_MX11_goOn 8 rfl) rfl ⟨rfl, _, rfl, h⟩
theorem EX11_goOn {d n : Nat} {Q : Int → kS → Prop} {a0 a1 : Int} {σ : kS} (h : (-2147483648 ≤ a1 ∧ a1 ≤ 2147483647) → kokw n σ → LX11_goOn_0 d n Q a0 a1 σ) : Ci (d + 1) MX11_goOn [(2, a0), (0, a1)] n σ Q := Tri_of (by decide +kernel) (Nat.le_of_ble_eq_true rfl) (fun hk hw => h (hk (0, a1) (List.mem_of_getElem? (i := 1) rfl)) hw)

def LX11_goes_0 (d n : Nat) (Q : Int → kS → Prop) (a0 : Int) (a1 : Int) (a2 : Int) (a3 : Int) (a4 : Int) (a5 : Int) (a6 : Int) (σ : kS) : Prop := K (d + 1) MX11_goes (kPi n Q) (0, 0) 0 [(0, (2, a0)), (1, (2, a1)), (2, (0, a2)), (3, (0, a3)), (4, (0, a4)), (5, (0, a5)), (6, (0, a6))] [] n σ
theorem SX11_goes_0 {d n : Nat} {Q : Int → kS → Prop} {a0 a1 a2 a3 a4 a5 a6 : Int} {σ : kS} (h : isO 11 n a0 ∧ (Ci d MX11_isManner [(2, a0), (0, a2), (0, a3)] n σ (fun x2 s1 => (x2 = 0 → Q 0 s1) ∧ (¬ x2 = 0 → Ci d MX11_isCell [(0, a5)] n s1 (fun x3 s2 => (x3 = 0 → Q 0 s2) ∧ (¬ x3 = 0 → Ci d MX11_isCell [(0, a6)] n s2 (fun x4 s3 => (¬ x4 = 0 → isA 26 n (s3 a0 5) ∧ (((0 : Int) ≤ a2 ∧ a2 < klen (s3 a0 5)) ∧ (isO 10 n (s3 a0 14) ∧ (Cv d MX10_fit [(2, (s3 a0 14)), (2, (s3 (s3 a0 5) a2)), (0, a3), (0, a4), (2, a1)] n s3 (fun s4 => isO 10 n (s4 a0 14) ∧ (Cv d MX10_lay [(2, (s4 a0 14)), (0, a5), (0, a6)] n s4 (fun s5 => Q 1 s5))))))) ∧ (¬ (¬ x4 = 0) → Q 0 s3)))))))) : LX11_goes_0 d n Q a0 a1 a2 a3 a4 a5 a6 σ := by
  unfold LX11_goes_0
  refine K_aload_n 0 (kdA dt_MX11_goes 0 rfl) rfl rfl ?_
  refine K_iload_n 2 (kdA dt_MX11_goes 1 rfl) rfl rfl ?_
  refine K_iload_n 3 (kdA dt_MX11_goes 2 rfl) rfl rfl ?_
  obtain ⟨c1, h⟩ := h
  refine K_cVi (c := 11) (as := [(0, a2), (0, a3)]) (st := []) (kdA dt_MX11_goes 3 rfl) rfl cl_MX11_isManner lk11_169 rfl rfl (Nat.le_of_ble_eq_true rfl) c1 (Ci.mono h (fun x2 s1 h => ?_))
  refine K_if_eq (tgt := 25) (kdA dt_MX11_goes 4 rfl) rfl (fun c => ?_) (fun c => ?_)
  · have h := h.1 c
    refine K_iconst (kdA dt_MX11_goes 11 rfl) (by decide) ?_
    exact K_zreturn (kdA dt_MX11_goes 12 rfl) rfl (Or.inl rfl) ⟨rfl, _, rfl, h⟩
  · have h := h.2 c
    refine K_iload 5 (kdA dt_MX11_goes 5 rfl) rfl ?_
    refine K_cSi (as := [(0, a5)]) (st := []) (kdA dt_MX11_goes 6 rfl) cl_MX11_isCell lk11_117 rfl rfl (Nat.le_of_ble_eq_true rfl) (Ci.mono h (fun x3 s2 h => ?_))
    refine K_if_eq (tgt := 25) (kdA dt_MX11_goes 7 rfl) rfl (fun c => ?_) (fun c => ?_)
    · have h := h.1 c
      refine K_iconst (kdA dt_MX11_goes 11 rfl) (by decide) ?_
      exact K_zreturn (kdA dt_MX11_goes 12 rfl) rfl (Or.inl rfl) ⟨rfl, _, rfl, h⟩
    · have h := h.2 c
      refine K_iload 6 (kdA dt_MX11_goes 8 rfl) rfl ?_
      refine K_cSi (as := [(0, a6)]) (st := []) (kdA dt_MX11_goes 9 rfl) cl_MX11_isCell lk11_117 rfl rfl (Nat.le_of_ble_eq_true rfl) (Ci.mono h (fun x4 s3 h => ?_))
      refine K_if_ne (tgt := 27) (kdA dt_MX11_goes 10 rfl) rfl (fun c => ?_) (fun c => ?_)
      · have h := h.1 c
        refine K_aload_n 0 (kdA dt_MX11_goes 13 rfl) rfl rfl ?_
        refine gf11_64 rfl (kdA dt_MX11_goes 14 rfl) c1 ?_
        refine K_aload_n 0 (kdA dt_MX11_goes 15 rfl) rfl rfl ?_
        refine gf11_38 rfl (kdA dt_MX11_goes 16 rfl) c1 ?_
        refine K_iload_n 2 (kdA dt_MX11_goes 17 rfl) rfl rfl ?_
        obtain ⟨c5, h⟩ := h
        obtain ⟨c6, h⟩ := h
        refine K_aaload (kdA dt_MX11_goes 18 rfl) (by decide) c5 c6.1 c6.2 ?_
        refine K_iload_n 3 (kdA dt_MX11_goes 19 rfl) rfl rfl ?_
        refine K_iload 4 (kdA dt_MX11_goes 20 rfl) rfl ?_
        refine K_aload_n 1 (kdA dt_MX11_goes 21 rfl) rfl rfl ?_
        obtain ⟨c7, h⟩ := h
        refine K_cVv (c := 10) (as := [(2, (s3 (s3 a0 5) a2)), (0, a3), (0, a4), (2, a1)]) (st := []) (kdA dt_MX11_goes 22 rfl) rfl cl_MX10_fit lk11_179 rfl rfl (Nat.le_of_ble_eq_true rfl) c7 (Cv.mono h (fun s4 h => ?_))
        refine K_aload_n 0 (kdA dt_MX11_goes 23 rfl) rfl rfl ?_
        refine gf11_64 rfl (kdA dt_MX11_goes 24 rfl) c1 ?_
        refine K_iload 5 (kdA dt_MX11_goes 25 rfl) rfl ?_
        refine K_iload 6 (kdA dt_MX11_goes 26 rfl) rfl ?_
        obtain ⟨c9, h⟩ := h
        refine K_cVv (c := 10) (as := [(0, a5), (0, a6)]) (st := []) (kdA dt_MX11_goes 27 rfl) rfl cl_MX10_lay lk11_417 rfl rfl (Nat.le_of_ble_eq_true rfl) c9 (Cv.mono h (fun s5 h => ?_))
        refine K_iconst (kdA dt_MX11_goes 28 rfl) (by decide) ?_
        exact K_zreturn (kdA dt_MX11_goes 29 rfl) rfl (Or.inr rfl) ⟨rfl, _, rfl, h⟩
      · have h := h.2 c
        refine K_iconst (kdA dt_MX11_goes 11 rfl) (by decide) ?_
        exact K_zreturn (kdA dt_MX11_goes 12 rfl) rfl (Or.inl rfl) ⟨rfl, _, rfl, h⟩
theorem EX11_goes {d n : Nat} {Q : Int → kS → Prop} {a0 a1 a2 a3 a4 a5 a6 : Int} {σ : kS} (h : (-2147483648 ≤ a2 ∧ a2 ≤ 2147483647) → (-2147483648 ≤ a3 ∧ a3 ≤ 2147483647) → (-2147483648 ≤ a4 ∧ a4 ≤ 2147483647) → (-2147483648 ≤ a5 ∧ a5 ≤ 2147483647) → (-2147483648 ≤ a6 ∧ a6 ≤ 2147483647) → kokw n σ → LX11_goes_0 d n Q a0 a1 a2 a3 a4 a5 a6 σ) : Ci (d + 1) MX11_goes [(2, a0), (2, a1), (0, a2), (0, a3), (0, a4), (0, a5), (0, a6)] n σ Q := Tri_of (by decide +kernel) (Nat.le_of_ble_eq_true rfl) (fun hk hw => h (hk (0, a2) (List.mem_of_getElem? (i := 2) rfl)) (hk (0, a3) (List.mem_of_getElem? (i := 3) rfl)) (hk (0, a4) (List.mem_of_getElem? (i := 4) rfl)) (hk (0, a5) (List.mem_of_getElem? (i := 5) rfl)) (hk (0, a6) (List.mem_of_getElem? (i := 6) rfl)) hw)

def LX11_hedge_0 (d n : Nat) (Q : Int → kS → Prop) (a0 : Int) (a1 : Int) (a2 : Int) (a3 : Int) (σ : kS) : Prop := K (d + 1) MX11_hedge (kPi n Q) (0, 0) 0 [(0, (2, a0)), (1, (0, a1)), (2, (0, a2)), (3, (0, a3))] [] n σ
def LX11_hedge_36 (d n : Nat) (Q : Int → kS → Prop) (a0 : Int) (a1 : Int) (a2 : Int) (a3 : Int) (a4 : Int) (a5 : Int) (σ : kS) : Prop := K (d + 1) MX11_hedge (kPi n Q) (0, 0) 36 [(0, (2, a0)), (1, (0, a1)), (2, (0, a2)), (3, (0, a3)), (4, (0, a4)), (5, (0, a5))] [] n σ
def LX11_hedge_46 (d n : Nat) (Q : Int → kS → Prop) (a0 : Int) (a1 : Int) (a2 : Int) (a3 : Int) (a4 : Int) (a5 : Int) (a6 : Int) (σ : kS) : Prop := K (d + 1) MX11_hedge (kPi n Q) (0, 0) 46 [(0, (2, a0)), (1, (0, a1)), (2, (0, a2)), (3, (0, a3)), (4, (0, a4)), (5, (0, a5)), (6, (0, a6))] [] n σ
theorem SX11_hedge_0 {d n : Nat} {Q : Int → kS → Prop} {a0 a1 a2 a3 : Int} {σ : kS} (h : isO 11 n a0 ∧ (Ci d MX11_isLine [(2, a0), (0, a1)] n σ (fun x2 s1 => (x2 = 0 → Q (-1) s1) ∧ (¬ x2 = 0 → (a2 < 2 → Q (-1) s1) ∧ (¬ a2 < 2 → (12 < a2 → Q (-1) s1) ∧ (¬ 12 < a2 → (a3 < 0 → Q (-1) s1) ∧ (¬ a3 < 0 → (a3 ≤ 1 → LX11_hedge_36 d n Q a0 a1 a2 a3 0 0 s1) ∧ (¬ a3 ≤ 1 → Q (-1) s1)))))))) : LX11_hedge_0 d n Q a0 a1 a2 a3 σ := by
  unfold LX11_hedge_0
  refine K_aload_n 0 (kdA dt_MX11_hedge 0 rfl) rfl rfl ?_
  refine K_iload_n 1 (kdA dt_MX11_hedge 1 rfl) rfl rfl ?_
  obtain ⟨c1, h⟩ := h
  refine K_cVi (c := 11) (as := [(0, a1)]) (st := []) (kdA dt_MX11_hedge 2 rfl) rfl cl_MX11_isLine lk11_233 rfl rfl (Nat.le_of_ble_eq_true rfl) c1 (Ci.mono h (fun x2 s1 h => ?_))
  refine K_if_eq (tgt := 28) (kdA dt_MX11_hedge 3 rfl) rfl (fun c => ?_) (fun c => ?_)
  · have h := h.1 c
    refine K_iconst (kdA dt_MX11_hedge 15 rfl) (by decide) ?_
    exact K_ireturn (kdA dt_MX11_hedge 16 rfl) rfl ⟨rfl, _, rfl, h⟩
  · have h := h.2 c
    refine K_iload_n 2 (kdA dt_MX11_hedge 4 rfl) rfl rfl ?_
    refine K_iconst (kdA dt_MX11_hedge 5 rfl) (by decide) ?_
    refine K_icmp_lt (tgt := 28) (kdA dt_MX11_hedge 6 rfl) rfl (fun c => ?_) (fun c => ?_)
    · have h := h.1 c
      refine K_iconst (kdA dt_MX11_hedge 15 rfl) (by decide) ?_
      exact K_ireturn (kdA dt_MX11_hedge 16 rfl) rfl ⟨rfl, _, rfl, h⟩
    · have h := h.2 c
      refine K_iload_n 2 (kdA dt_MX11_hedge 7 rfl) rfl rfl ?_
      refine K_bipush (kdA dt_MX11_hedge 8 rfl) (by decide +kernel) ?_
      refine K_icmp_gt (tgt := 28) (kdA dt_MX11_hedge 9 rfl) rfl (fun c => ?_) (fun c => ?_)
      · have h := h.1 c
        refine K_iconst (kdA dt_MX11_hedge 15 rfl) (by decide) ?_
        exact K_ireturn (kdA dt_MX11_hedge 16 rfl) rfl ⟨rfl, _, rfl, h⟩
      · have h := h.2 c
        refine K_iload_n 3 (kdA dt_MX11_hedge 10 rfl) rfl rfl ?_
        refine K_if_lt (tgt := 28) (kdA dt_MX11_hedge 11 rfl) rfl (fun c => ?_) (fun c => ?_)
        · have h := h.1 c
          refine K_iconst (kdA dt_MX11_hedge 15 rfl) (by decide) ?_
          exact K_ireturn (kdA dt_MX11_hedge 16 rfl) rfl ⟨rfl, _, rfl, h⟩
        · have h := h.2 c
          refine K_iload_n 3 (kdA dt_MX11_hedge 12 rfl) rfl rfl ?_
          refine K_iconst (kdA dt_MX11_hedge 13 rfl) (by decide) ?_
          refine K_icmp_le (tgt := 30) (kdA dt_MX11_hedge 14 rfl) rfl (fun c => ?_) (fun c => ?_)
          · have h := h.1 c
            refine K_iconst (kdA dt_MX11_hedge 17 rfl) (by decide) ?_
            refine K_istore (ls' := [(0, (2, a0)), (1, (0, a1)), (2, (0, a2)), (3, (0, a3)), (4, (0, 0))]) (kdA dt_MX11_hedge 18 rfl) (by decide) rfl ?_
            refine K_iconst (kdA dt_MX11_hedge 19 rfl) (by decide) ?_
            refine K_istore (ls' := [(0, (2, a0)), (1, (0, a1)), (2, (0, a2)), (3, (0, a3)), (4, (0, 0)), (5, (0, 0))]) (kdA dt_MX11_hedge 20 rfl) (by decide) rfl ?_
            exact h
          · have h := h.2 c
            refine K_iconst (kdA dt_MX11_hedge 15 rfl) (by decide) ?_
            exact K_ireturn (kdA dt_MX11_hedge 16 rfl) rfl ⟨rfl, _, rfl, h⟩
theorem SX11_hedge_36 {d n : Nat} {Q : Int → kS → Prop} {a0 a1 a2 a3 a4 a5 : Int} {σ : kS} (h : (120 ≤ a5 → Q a4 σ) ∧ (¬ 120 ≤ a5 → LX11_hedge_46 d n Q a0 a1 a2 a3 a4 a5 2 σ)) : LX11_hedge_36 d n Q a0 a1 a2 a3 a4 a5 σ := by
  unfold LX11_hedge_36
  refine K_iload 5 (kdA dt_MX11_hedge 21 rfl) rfl ?_
  refine K_bipush (kdA dt_MX11_hedge 22 rfl) (by decide +kernel) ?_
  refine K_icmp_ge (tgt := 105) (kdA dt_MX11_hedge 23 rfl) rfl (fun c => ?_) (fun c => ?_)
  · have h := h.1 c
    refine K_iload 4 (kdA dt_MX11_hedge 54 rfl) rfl ?_
    exact K_ireturn (kdA dt_MX11_hedge 55 rfl) rfl ⟨rfl, _, rfl, h⟩
  · have h := h.2 c
    refine K_iconst (kdA dt_MX11_hedge 24 rfl) (by decide) ?_
    refine K_istore (ls' := [(0, (2, a0)), (1, (0, a1)), (2, (0, a2)), (3, (0, a3)), (4, (0, a4)), (5, (0, a5)), (6, (0, 2))]) (kdA dt_MX11_hedge 25 rfl) (by decide) rfl ?_
    exact h
theorem SX11_hedge_46 {d n : Nat} {Q : Int → kS → Prop} {a0 a1 a2 a3 a4 a5 a6 : Int} {σ : kS} (h : (5 < a6 → (-2147483648 ≤ (a5 + 1) ∧ (a5 + 1) ≤ 2147483647) ∧ (LX11_hedge_36 d n Q a0 a1 a2 a3 a4 (a5 + 1) σ)) ∧ (¬ 5 < a6 → (-2147483648 ≤ (a2 - 1) ∧ (a2 - 1) ≤ 2147483647) ∧ (Ci d MX11_staysInLand [(0, a5), (0, a6), (0, (a2 - 1))] n σ (fun x2 s1 => (¬ x2 = 0 → (a3 = 1 → (-2147483648 ≤ (a4 + 1) ∧ (a4 + 1) ≤ 2147483647) ∧ ((-2147483648 ≤ (a6 + 1) ∧ (a6 + 1) ≤ 2147483647) ∧ (LX11_hedge_46 d n Q a0 a1 a2 a3 (a4 + 1) a5 (a6 + 1) s1))) ∧ (¬ a3 = 1 → isO 11 n a0 ∧ (isA 28 n (s1 a0 10) ∧ (((0 : Int) ≤ a1 ∧ a1 < klen (s1 a0 10)) ∧ (Ci d MX11_lies [(2, (s1 (s1 a0 10) a1)), (0, a5), (0, a6), (0, a2)] n s1 (fun x6 s2 => (x6 = 0 → (-2147483648 ≤ (a6 + 1) ∧ (a6 + 1) ≤ 2147483647) ∧ (LX11_hedge_46 d n Q a0 a1 a2 a3 a4 a5 (a6 + 1) s2)) ∧ (¬ x6 = 0 → (-2147483648 ≤ (a4 + 1) ∧ (a4 + 1) ≤ 2147483647) ∧ ((-2147483648 ≤ (a6 + 1) ∧ (a6 + 1) ≤ 2147483647) ∧ (LX11_hedge_46 d n Q a0 a1 a2 a3 (a4 + 1) a5 (a6 + 1) s2))))))))) ∧ (¬ (¬ x2 = 0) → (-2147483648 ≤ (a6 + 1) ∧ (a6 + 1) ≤ 2147483647) ∧ (LX11_hedge_46 d n Q a0 a1 a2 a3 a4 a5 (a6 + 1) s1)))))) : LX11_hedge_46 d n Q a0 a1 a2 a3 a4 a5 a6 σ := by
  unfold LX11_hedge_46
  refine K_iload 6 (kdA dt_MX11_hedge 26 rfl) rfl ?_
  refine K_iconst (kdA dt_MX11_hedge 27 rfl) (by decide) ?_
  refine K_icmp_gt (tgt := 99) (kdA dt_MX11_hedge 28 rfl) rfl (fun c => ?_) (fun c => ?_)
  · have h := h.1 c
    obtain ⟨c1, h⟩ := h
    refine K_iinc (ls' := [(0, (2, a0)), (1, (0, a1)), (2, (0, a2)), (3, (0, a3)), (4, (0, a4)), (5, (0, (a5 + 1))), (6, (0, a6))]) 5 (kdA dt_MX11_hedge 52 rfl) rfl c1 (by decide) rfl ?_
    refine K_goto (tgt := 36) (kdA dt_MX11_hedge 53 rfl) rfl ?_
    refine K_pick [0, 1, 2, 3, 4, 5] (ls' := [(0, (2, a0)), (1, (0, a1)), (2, (0, a2)), (3, (0, a3)), (4, (0, a4)), (5, (0, (a5 + 1)))]) rfl ?_
    exact h
  · have h := h.2 c
    refine K_iload 5 (kdA dt_MX11_hedge 29 rfl) rfl ?_
    refine K_iload 6 (kdA dt_MX11_hedge 30 rfl) rfl ?_
    refine K_iload_n 2 (kdA dt_MX11_hedge 31 rfl) rfl rfl ?_
    refine K_iconst (kdA dt_MX11_hedge 32 rfl) (by decide) ?_
    obtain ⟨c1, h⟩ := h
    refine K_isub (kdA dt_MX11_hedge 33 rfl) c1 ?_
    refine K_cSi (as := [(0, a5), (0, a6), (0, (a2 - 1))]) (st := []) (kdA dt_MX11_hedge 34 rfl) cl_MX11_staysInLand lk11_330 rfl rfl (Nat.le_of_ble_eq_true rfl) (Ci.mono h (fun x2 s1 h => ?_))
    refine K_if_ne (tgt := 68) (kdA dt_MX11_hedge 35 rfl) rfl (fun c => ?_) (fun c => ?_)
    · have h := h.1 c
      refine K_iload_n 3 (kdA dt_MX11_hedge 37 rfl) rfl rfl ?_
      refine K_iconst (kdA dt_MX11_hedge 38 rfl) (by decide) ?_
      refine K_icmp_eq (tgt := 90) (kdA dt_MX11_hedge 39 rfl) rfl (fun c => ?_) (fun c => ?_)
      · have h := h.1 c
        obtain ⟨c3, h⟩ := h
        refine K_iinc (ls' := [(0, (2, a0)), (1, (0, a1)), (2, (0, a2)), (3, (0, a3)), (4, (0, (a4 + 1))), (5, (0, a5)), (6, (0, a6))]) 4 (kdA dt_MX11_hedge 49 rfl) rfl c3 (by decide) rfl ?_
        obtain ⟨c4, h⟩ := h
        refine K_iinc (ls' := [(0, (2, a0)), (1, (0, a1)), (2, (0, a2)), (3, (0, a3)), (4, (0, (a4 + 1))), (5, (0, a5)), (6, (0, (a6 + 1)))]) 6 (kdA dt_MX11_hedge 50 rfl) rfl c4 (by decide) rfl ?_
        refine K_goto (tgt := 46) (kdA dt_MX11_hedge 51 rfl) rfl ?_
        exact h
      · have h := h.2 c
        refine K_aload_n 0 (kdA dt_MX11_hedge 40 rfl) rfl rfl ?_
        obtain ⟨c3, h⟩ := h
        refine gf11_51 rfl (kdA dt_MX11_hedge 41 rfl) c3 ?_
        refine K_iload_n 1 (kdA dt_MX11_hedge 42 rfl) rfl rfl ?_
        obtain ⟨c4, h⟩ := h
        obtain ⟨c5, h⟩ := h
        refine K_aaload (kdA dt_MX11_hedge 43 rfl) (by decide) c4 c5.1 c5.2 ?_
        refine K_iload 5 (kdA dt_MX11_hedge 44 rfl) rfl ?_
        refine K_iload 6 (kdA dt_MX11_hedge 45 rfl) rfl ?_
        refine K_iload_n 2 (kdA dt_MX11_hedge 46 rfl) rfl rfl ?_
        refine K_cSi (as := [(2, (s1 (s1 a0 10) a1)), (0, a5), (0, a6), (0, a2)]) (st := []) (kdA dt_MX11_hedge 47 rfl) cl_MX11_lies lk11_333 rfl rfl (Nat.le_of_ble_eq_true rfl) (Ci.mono h (fun x6 s2 h => ?_))
        refine K_if_eq (tgt := 93) (kdA dt_MX11_hedge 48 rfl) rfl (fun c => ?_) (fun c => ?_)
        · have h := h.1 c
          obtain ⟨c7, h⟩ := h
          refine K_iinc (ls' := [(0, (2, a0)), (1, (0, a1)), (2, (0, a2)), (3, (0, a3)), (4, (0, a4)), (5, (0, a5)), (6, (0, (a6 + 1)))]) 6 (kdA dt_MX11_hedge 50 rfl) rfl c7 (by decide) rfl ?_
          refine K_goto (tgt := 46) (kdA dt_MX11_hedge 51 rfl) rfl ?_
          exact h
        · have h := h.2 c
          obtain ⟨c7, h⟩ := h
          refine K_iinc (ls' := [(0, (2, a0)), (1, (0, a1)), (2, (0, a2)), (3, (0, a3)), (4, (0, (a4 + 1))), (5, (0, a5)), (6, (0, a6))]) 4 (kdA dt_MX11_hedge 49 rfl) rfl c7 (by decide) rfl ?_
          obtain ⟨c8, h⟩ := h
          refine K_iinc (ls' := [(0, (2, a0)), (1, (0, a1)), (2, (0, a2)), (3, (0, a3)), (4, (0, (a4 + 1))), (5, (0, a5)), (6, (0, (a6 + 1)))]) 6 (kdA dt_MX11_hedge 50 rfl) rfl c8 (by decide) rfl ?_
          refine K_goto (tgt := 46) (kdA dt_MX11_hedge 51 rfl) rfl ?_
          exact h
    · have h := h.2 c
      refine K_goto (tgt := 93) (kdA dt_MX11_hedge 36 rfl) rfl ?_
      obtain ⟨c3, h⟩ := h
      refine K_iinc (ls' := [(0, (2, a0)), (1, (0, a1)), (2, (0, a2)), (3, (0, a3)), (4, (0, a4)), (5, (0, a5)), (6, (0, (a6 + 1)))]) 6 (kdA dt_MX11_hedge 50 rfl) rfl c3 (by decide) rfl ?_
      refine K_goto (tgt := 46) (kdA dt_MX11_hedge 51 rfl) rfl ?_
      exact h
theorem EX11_hedge {d n : Nat} {Q : Int → kS → Prop} {a0 a1 a2 a3 : Int} {σ : kS} (h : (-2147483648 ≤ a1 ∧ a1 ≤ 2147483647) → (-2147483648 ≤ a2 ∧ a2 ≤ 2147483647) → (-2147483648 ≤ a3 ∧ a3 ≤ 2147483647) → kokw n σ → LX11_hedge_0 d n Q a0 a1 a2 a3 σ) : Ci (d + 1) MX11_hedge [(2, a0), (0, a1), (0, a2), (0, a3)] n σ Q := Tri_of (by decide +kernel) (Nat.le_of_ble_eq_true rfl) (fun hk hw => h (hk (0, a1) (List.mem_of_getElem? (i := 1) rfl)) (hk (0, a2) (List.mem_of_getElem? (i := 2) rfl)) (hk (0, a3) (List.mem_of_getElem? (i := 3) rfl)) hw)

def LX11_holds_0 (d n : Nat) (Q : Int → kS → Prop) (a0 : Int) (a1 : Int) (a2 : Int) (a3 : Int) (σ : kS) : Prop := K (d + 1) MX11_holds (kPi n Q) (0, 0) 0 [(0, (2, a0)), (1, (0, a1)), (2, (0, a2)), (3, (0, a3))] [] n σ
def LX11_holds_55 (d n : Nat) (Q : Int → kS → Prop) (a0 : Int) (a1 : Int) (a3 : Int) (a4 : Int) (a5 : Int) (σ : kS) : Prop := K (d + 1) MX11_holds (kPi n Q) (0, 0) 55 [(0, (2, a0)), (1, (0, a1)), (3, (0, a3)), (4, (0, a4)), (5, (0, a5))] [] n σ
theorem SX11_holds_0 {d n : Nat} {Q : Int → kS → Prop} {a0 a1 a2 a3 : Int} {σ : kS} (h : (a1 < 0 → Q (-1) σ) ∧ (¬ a1 < 0 → isO 11 n a0 ∧ (((σ a0 8) ≤ a1 → Q (-1) σ) ∧ (¬ (σ a0 8) ≤ a1 → Ci d MX11_isManner [(2, a0), (0, a2), (0, 0)] n σ (fun x2 s1 => (x2 = 0 → Q (-1) s1) ∧ (¬ x2 = 0 → Ci d MX11_isBy [(0, a3)] n s1 (fun x3 s2 => (¬ x3 = 0 → isA 26 n (s2 a0 5) ∧ (((0 : Int) ≤ a2 ∧ a2 < klen (s2 a0 5)) ∧ (isO 10 n (s2 a0 14) ∧ (Cv d MX10_fit [(2, (s2 a0 14)), (2, (s2 (s2 a0 5) a2)), (0, 0), (0, 0), (2, (s2 a0 0))] n s2 (fun s3 => LX11_holds_55 d n Q a0 a1 a3 0 0 s3))))) ∧ (¬ (¬ x3 = 0) → Q (-1) s2)))))))) : LX11_holds_0 d n Q a0 a1 a2 a3 σ := by
  unfold LX11_holds_0
  refine K_iload_n 1 (kdA dt_MX11_holds 0 rfl) rfl rfl ?_
  refine K_if_lt (tgt := 28) (kdA dt_MX11_holds 1 rfl) rfl (fun c => ?_) (fun c => ?_)
  · have h := h.1 c
    refine K_iconst (kdA dt_MX11_holds 14 rfl) (by decide) ?_
    exact K_ireturn (kdA dt_MX11_holds 15 rfl) rfl ⟨rfl, _, rfl, h⟩
  · have h := h.2 c
    refine K_iload_n 1 (kdA dt_MX11_holds 2 rfl) rfl rfl ?_
    refine K_aload_n 0 (kdA dt_MX11_holds 3 rfl) rfl rfl ?_
    obtain ⟨c1, h⟩ := h
    refine gf11_151 rfl (kdA dt_MX11_holds 4 rfl) c1 ?_
    refine K_icmp_ge (tgt := 28) (kdA dt_MX11_holds 5 rfl) rfl (fun c => ?_) (fun c => ?_)
    · have h := h.1 c
      refine K_iconst (kdA dt_MX11_holds 14 rfl) (by decide) ?_
      exact K_ireturn (kdA dt_MX11_holds 15 rfl) rfl ⟨rfl, _, rfl, h⟩
    · have h := h.2 c
      refine K_aload_n 0 (kdA dt_MX11_holds 6 rfl) rfl rfl ?_
      refine K_iload_n 2 (kdA dt_MX11_holds 7 rfl) rfl rfl ?_
      refine K_iconst (kdA dt_MX11_holds 8 rfl) (by decide) ?_
      refine K_cVi (c := 11) (as := [(0, a2), (0, 0)]) (st := []) (kdA dt_MX11_holds 9 rfl) rfl cl_MX11_isManner lk11_169 rfl rfl (Nat.le_of_ble_eq_true rfl) c1 (Ci.mono h (fun x2 s1 h => ?_))
      refine K_if_eq (tgt := 28) (kdA dt_MX11_holds 10 rfl) rfl (fun c => ?_) (fun c => ?_)
      · have h := h.1 c
        refine K_iconst (kdA dt_MX11_holds 14 rfl) (by decide) ?_
        exact K_ireturn (kdA dt_MX11_holds 15 rfl) rfl ⟨rfl, _, rfl, h⟩
      · have h := h.2 c
        refine K_iload_n 3 (kdA dt_MX11_holds 11 rfl) rfl rfl ?_
        refine K_cSi (as := [(0, a3)]) (st := []) (kdA dt_MX11_holds 12 rfl) cl_MX11_isBy lk11_294 rfl rfl (Nat.le_of_ble_eq_true rfl) (Ci.mono h (fun x3 s2 h => ?_))
        refine K_if_ne (tgt := 30) (kdA dt_MX11_holds 13 rfl) rfl (fun c => ?_) (fun c => ?_)
        · have h := h.1 c
          refine K_aload_n 0 (kdA dt_MX11_holds 16 rfl) rfl rfl ?_
          refine gf11_64 rfl (kdA dt_MX11_holds 17 rfl) c1 ?_
          refine K_aload_n 0 (kdA dt_MX11_holds 18 rfl) rfl rfl ?_
          refine gf11_38 rfl (kdA dt_MX11_holds 19 rfl) c1 ?_
          refine K_iload_n 2 (kdA dt_MX11_holds 20 rfl) rfl rfl ?_
          obtain ⟨c4, h⟩ := h
          obtain ⟨c5, h⟩ := h
          refine K_aaload (kdA dt_MX11_holds 21 rfl) (by decide) c4 c5.1 c5.2 ?_
          refine K_iconst (kdA dt_MX11_holds 22 rfl) (by decide) ?_
          refine K_iconst (kdA dt_MX11_holds 23 rfl) (by decide) ?_
          refine K_aload_n 0 (kdA dt_MX11_holds 24 rfl) rfl rfl ?_
          refine gf11_10 rfl (kdA dt_MX11_holds 25 rfl) c1 ?_
          obtain ⟨c6, h⟩ := h
          refine K_cVv (c := 10) (as := [(2, (s2 (s2 a0 5) a2)), (0, 0), (0, 0), (2, (s2 a0 0))]) (st := []) (kdA dt_MX11_holds 26 rfl) rfl cl_MX10_fit lk11_179 rfl rfl (Nat.le_of_ble_eq_true rfl) c6 (Cv.mono h (fun s3 h => ?_))
          refine K_iconst (kdA dt_MX11_holds 27 rfl) (by decide) ?_
          refine K_istore (ls' := [(0, (2, a0)), (1, (0, a1)), (2, (0, a2)), (3, (0, a3)), (4, (0, 0))]) (kdA dt_MX11_holds 28 rfl) (by decide) rfl ?_
          refine K_iconst (kdA dt_MX11_holds 29 rfl) (by decide) ?_
          refine K_istore (ls' := [(0, (2, a0)), (1, (0, a1)), (2, (0, a2)), (3, (0, a3)), (4, (0, 0)), (5, (0, 0))]) (kdA dt_MX11_holds 30 rfl) (by decide) rfl ?_
          refine K_pick [0, 1, 3, 4, 5] (ls' := [(0, (2, a0)), (1, (0, a1)), (3, (0, a3)), (4, (0, 0)), (5, (0, 0))]) rfl ?_
          exact h
        · have h := h.2 c
          refine K_iconst (kdA dt_MX11_holds 14 rfl) (by decide) ?_
          exact K_ireturn (kdA dt_MX11_holds 15 rfl) rfl ⟨rfl, _, rfl, h⟩
theorem SX11_holds_55 {d n : Nat} {Q : Int → kS → Prop} {a0 a1 a3 a4 a5 : Int} {σ : kS} (h : isO 11 n a0 ∧ (isO 8 n (σ a0 9) ∧ (((σ (σ a0 9) 1) ≤ a5 → Q a4 σ) ∧ (¬ (σ (σ a0 9) 1) ≤ a5 → isA 27 n (σ a0 7) ∧ (((0 : Int) ≤ a1 ∧ a1 < klen (σ a0 7)) ∧ (Ci d MX11_holdsInto [(2, a0), (2, (σ (σ a0 7) a1)), (0, a5), (0, a3)] n σ (fun x5 s1 => (-2147483648 ≤ (a4 + x5) ∧ (a4 + x5) ≤ 2147483647) ∧ ((-2147483648 ≤ (a5 + 1) ∧ (a5 + 1) ≤ 2147483647) ∧ (LX11_holds_55 d n Q a0 a1 a3 (a4 + x5) (a5 + 1) s1))))))))) : LX11_holds_55 d n Q a0 a1 a3 a4 a5 σ := by
  unfold LX11_holds_55
  refine K_iload 4 (kdA dt_MX11_holds 31 rfl) rfl ?_
  refine K_aload_n 0 (kdA dt_MX11_holds 32 rfl) rfl rfl ?_
  obtain ⟨c1, h⟩ := h
  refine gf11_48 rfl (kdA dt_MX11_holds 33 rfl) c1 ?_
  obtain ⟨c2, h⟩ := h
  refine gf11_130 rfl (kdA dt_MX11_holds 34 rfl) c2 ?_
  refine K_icmp_ge (tgt := 91) (kdA dt_MX11_holds 35 rfl) rfl (fun c => ?_) (fun c => ?_)
  · have h := h.1 c
    refine K_iload 3 (kdA dt_MX11_holds 49 rfl) rfl ?_
    exact K_ireturn (kdA dt_MX11_holds 50 rfl) rfl ⟨rfl, _, rfl, h⟩
  · have h := h.2 c
    refine K_iload 3 (kdA dt_MX11_holds 36 rfl) rfl ?_
    refine K_aload_n 0 (kdA dt_MX11_holds 37 rfl) rfl rfl ?_
    refine K_aload_n 0 (kdA dt_MX11_holds 38 rfl) rfl rfl ?_
    refine gf11_44 rfl (kdA dt_MX11_holds 39 rfl) c1 ?_
    refine K_iload_n 1 (kdA dt_MX11_holds 40 rfl) rfl rfl ?_
    obtain ⟨c3, h⟩ := h
    obtain ⟨c4, h⟩ := h
    refine K_aaload (kdA dt_MX11_holds 41 rfl) (by decide) c3 c4.1 c4.2 ?_
    refine K_iload 4 (kdA dt_MX11_holds 42 rfl) rfl ?_
    refine K_iload_n 2 (kdA dt_MX11_holds 43 rfl) rfl rfl ?_
    refine K_cVi (c := 11) (as := [(2, (σ (σ a0 7) a1)), (0, a5), (0, a3)]) (st := [(0, a4)]) (kdA dt_MX11_holds 44 rfl) rfl cl_MX11_holdsInto lk11_300 rfl rfl (Nat.le_of_ble_eq_true rfl) c1 (Ci.mono h (fun x5 s1 h => ?_))
    obtain ⟨c6, h⟩ := h
    refine K_iadd (kdA dt_MX11_holds 45 rfl) c6 ?_
    refine K_istore (ls' := [(0, (2, a0)), (1, (0, a1)), (3, (0, a3)), (4, (0, (a4 + x5))), (5, (0, a5))]) (kdA dt_MX11_holds 46 rfl) (by decide) rfl ?_
    obtain ⟨c7, h⟩ := h
    refine K_iinc (ls' := [(0, (2, a0)), (1, (0, a1)), (3, (0, a3)), (4, (0, (a4 + x5))), (5, (0, (a5 + 1)))]) 4 (kdA dt_MX11_holds 47 rfl) rfl c7 (by decide) rfl ?_
    refine K_goto (tgt := 55) (kdA dt_MX11_holds 48 rfl) rfl ?_
    exact h
theorem EX11_holds {d n : Nat} {Q : Int → kS → Prop} {a0 a1 a2 a3 : Int} {σ : kS} (h : (-2147483648 ≤ a1 ∧ a1 ≤ 2147483647) → (-2147483648 ≤ a2 ∧ a2 ≤ 2147483647) → (-2147483648 ≤ a3 ∧ a3 ≤ 2147483647) → kokw n σ → LX11_holds_0 d n Q a0 a1 a2 a3 σ) : Ci (d + 1) MX11_holds [(2, a0), (0, a1), (0, a2), (0, a3)] n σ Q := Tri_of (by decide +kernel) (Nat.le_of_ble_eq_true rfl) (fun hk hw => h (hk (0, a1) (List.mem_of_getElem? (i := 1) rfl)) (hk (0, a2) (List.mem_of_getElem? (i := 2) rfl)) (hk (0, a3) (List.mem_of_getElem? (i := 3) rfl)) hw)

def LX11_holdsInto_0 (d n : Nat) (Q : Int → kS → Prop) (a0 : Int) (a1 : Int) (a2 : Int) (a3 : Int) (σ : kS) : Prop := K (d + 1) MX11_holdsInto (kPi n Q) (0, 0) 0 [(0, (2, a0)), (1, (2, a1)), (2, (0, a2)), (3, (0, a3))] [] n σ
def LX11_holdsInto_21 (d n : Nat) (Q : Int → kS → Prop) (a0 : Int) (a1 : Int) (a2 : Int) (a3 : Int) (a4 : Int) (a5 : Int) (σ : kS) : Prop := K (d + 1) MX11_holdsInto (kPi n Q) (0, 0) 21 [(0, (2, a0)), (1, (2, a1)), (2, (0, a2)), (3, (0, a3)), (4, (0, a4)), (5, (0, a5))] [] n σ
theorem SX11_holdsInto_0 {d n : Nat} {Q : Int → kS → Prop} {a0 a1 a2 a3 : Int} {σ : kS} (h : isO 11 n a0 ∧ (isO 8 n (σ a0 9) ∧ (Ci d MX8_at [(2, (σ a0 9)), (0, a2)] n σ (fun x3 s1 => isO 10 n (σ a0 14) ∧ (Cv d MX10_spreadTo [(2, (σ a0 14)), (0, x3)] n s1 (fun s2 => LX11_holdsInto_21 d n Q a0 a1 a2 a3 0 0 s2)))))) : LX11_holdsInto_0 d n Q a0 a1 a2 a3 σ := by
  unfold LX11_holdsInto_0
  refine K_aload_n 0 (kdA dt_MX11_holdsInto 0 rfl) rfl rfl ?_
  obtain ⟨c1, h⟩ := h
  refine gf11_64 rfl (kdA dt_MX11_holdsInto 1 rfl) c1 ?_
  refine K_aload_n 0 (kdA dt_MX11_holdsInto 2 rfl) rfl rfl ?_
  refine gf11_48 rfl (kdA dt_MX11_holdsInto 3 rfl) c1 ?_
  refine K_iload_n 2 (kdA dt_MX11_holdsInto 4 rfl) rfl rfl ?_
  obtain ⟨c2, h⟩ := h
  refine K_cVi (c := 8) (as := [(0, a2)]) (st := [(2, (σ a0 14))]) (kdA dt_MX11_holdsInto 5 rfl) rfl cl_MX8_at lk11_196 rfl rfl (Nat.le_of_ble_eq_true rfl) c2 (Ci.mono h (fun x3 s1 h => ?_))
  obtain ⟨c4, h⟩ := h
  refine K_cVv (c := 10) (as := [(0, x3)]) (st := []) (kdA dt_MX11_holdsInto 6 rfl) rfl cl_MX10_spreadTo lk11_340 rfl rfl (Nat.le_of_ble_eq_true rfl) c4 (Cv.mono h (fun s2 h => ?_))
  refine K_iconst (kdA dt_MX11_holdsInto 7 rfl) (by decide) ?_
  refine K_istore (ls' := [(0, (2, a0)), (1, (2, a1)), (2, (0, a2)), (3, (0, a3)), (4, (0, 0))]) (kdA dt_MX11_holdsInto 8 rfl) (by decide) rfl ?_
  refine K_iconst (kdA dt_MX11_holdsInto 9 rfl) (by decide) ?_
  refine K_istore (ls' := [(0, (2, a0)), (1, (2, a1)), (2, (0, a2)), (3, (0, a3)), (4, (0, 0)), (5, (0, 0))]) (kdA dt_MX11_holdsInto 10 rfl) (by decide) rfl ?_
  exact h
theorem SX11_holdsInto_21 {d n : Nat} {Q : Int → kS → Prop} {a0 a1 a2 a3 a4 a5 : Int} {σ : kS} (h : isO 0 n a1 ∧ (Ci d MX0_stages [(2, a1)] n σ (fun x2 s1 => (x2 ≤ a5 → Q a4 s1) ∧ (¬ x2 ≤ a5 → (-2147483648 ≤ (a5 + 1) ∧ (a5 + 1) ≤ 2147483647) ∧ (Ci d MX0_townAt [(2, a1), (0, (a5 + 1))] n s1 (fun x4 s2 => (x4 = a2 → isO 11 n a0 ∧ (Ci d MX0_townAt [(2, a1), (0, a5)] n s2 (fun x6 s3 => isO 8 n (s2 a0 9) ∧ (Ci d MX8_at [(2, (s2 a0 9)), (0, x6)] n s3 (fun x8 s4 => isO 8 n (s4 a0 9) ∧ (Ci d MX8_at [(2, (s4 a0 9)), (0, a2)] n s4 (fun x10 s5 => isO 10 n (s2 a0 14) ∧ (Cv d MX10_follow [(2, (s2 a0 14)), (0, x8), (0, x10)] n s5 (fun s6 => Ci d MX0_milesTold [(2, a1), (0, a5)] n s6 (fun x13 s7 => isO 10 n (s7 a0 14) ∧ (isO 8 n (s7 (s7 a0 14) 13) ∧ (Ci d MX8_miles [(2, (s7 (s7 a0 14) 13))] n s7 (fun x16 s8 => Ci d MX11_slipOf [(0, x13), (0, x16), (0, a3)] n s8 (fun x17 s9 => (¬ x17 = 0 → LX11_holdsInto_21 d n Q a0 a1 a2 a3 a4 (a5 + 1) s9) ∧ (¬ (¬ x17 = 0) → (-2147483648 ≤ (a4 + 1) ∧ (a4 + 1) ≤ 2147483647) ∧ (LX11_holdsInto_21 d n Q a0 a1 a2 a3 (a4 + 1) (a5 + 1) s9)))))))))))))))) ∧ (¬ x4 = a2 → LX11_holdsInto_21 d n Q a0 a1 a2 a3 a4 (a5 + 1) s2))))))) : LX11_holdsInto_21 d n Q a0 a1 a2 a3 a4 a5 σ := by
  unfold LX11_holdsInto_21
  refine K_iload 5 (kdA dt_MX11_holdsInto 11 rfl) rfl ?_
  refine K_aload_n 1 (kdA dt_MX11_holdsInto 12 rfl) rfl rfl ?_
  obtain ⟨c1, h⟩ := h
  refine K_cVi (c := 0) (as := []) (st := [(0, a5)]) (kdA dt_MX11_holdsInto 13 rfl) rfl cl_MX0_stages lk11_400 rfl rfl (Nat.le_of_ble_eq_true rfl) c1 (Ci.mono h (fun x2 s1 h => ?_))
  refine K_icmp_ge (tgt := 105) (kdA dt_MX11_holdsInto 14 rfl) rfl (fun c => ?_) (fun c => ?_)
  · have h := h.1 c
    refine K_iload 4 (kdA dt_MX11_holdsInto 49 rfl) rfl ?_
    exact K_ireturn (kdA dt_MX11_holdsInto 50 rfl) rfl ⟨rfl, _, rfl, h⟩
  · have h := h.2 c
    refine K_aload_n 1 (kdA dt_MX11_holdsInto 15 rfl) rfl rfl ?_
    refine K_iload 5 (kdA dt_MX11_holdsInto 16 rfl) rfl ?_
    refine K_iconst (kdA dt_MX11_holdsInto 17 rfl) (by decide) ?_
    obtain ⟨c3, h⟩ := h
    refine K_iadd (kdA dt_MX11_holdsInto 18 rfl) c3 ?_
    refine K_cVi (c := 0) (as := [(0, (a5 + 1))]) (st := []) (kdA dt_MX11_holdsInto 19 rfl) rfl cl_MX0_townAt lk11_286 rfl rfl (Nat.le_of_ble_eq_true rfl) c1 (Ci.mono h (fun x4 s2 h => ?_))
    refine K_iload_n 2 (kdA dt_MX11_holdsInto 20 rfl) rfl rfl ?_
    refine K_icmp_eq (tgt := 45) (kdA dt_MX11_holdsInto 21 rfl) rfl (fun c => ?_) (fun c => ?_)
    · have h := h.1 c
      refine K_aload_n 0 (kdA dt_MX11_holdsInto 23 rfl) rfl rfl ?_
      obtain ⟨c5, h⟩ := h
      refine gf11_64 rfl (kdA dt_MX11_holdsInto 24 rfl) c5 ?_
      refine K_aload_n 0 (kdA dt_MX11_holdsInto 25 rfl) rfl rfl ?_
      refine gf11_48 rfl (kdA dt_MX11_holdsInto 26 rfl) c5 ?_
      refine K_aload_n 1 (kdA dt_MX11_holdsInto 27 rfl) rfl rfl ?_
      refine K_iload 5 (kdA dt_MX11_holdsInto 28 rfl) rfl ?_
      refine K_cVi (c := 0) (as := [(0, a5)]) (st := [(2, (s2 a0 9)), (2, (s2 a0 14))]) (kdA dt_MX11_holdsInto 29 rfl) rfl cl_MX0_townAt lk11_286 rfl rfl (Nat.le_of_ble_eq_true rfl) c1 (Ci.mono h (fun x6 s3 h => ?_))
      obtain ⟨c7, h⟩ := h
      refine K_cVi (c := 8) (as := [(0, x6)]) (st := [(2, (s2 a0 14))]) (kdA dt_MX11_holdsInto 30 rfl) rfl cl_MX8_at lk11_196 rfl rfl (Nat.le_of_ble_eq_true rfl) c7 (Ci.mono h (fun x8 s4 h => ?_))
      refine K_aload_n 0 (kdA dt_MX11_holdsInto 31 rfl) rfl rfl ?_
      refine gf11_48 rfl (kdA dt_MX11_holdsInto 32 rfl) c5 ?_
      refine K_iload_n 2 (kdA dt_MX11_holdsInto 33 rfl) rfl rfl ?_
      obtain ⟨c9, h⟩ := h
      refine K_cVi (c := 8) (as := [(0, a2)]) (st := [(0, x8), (2, (s2 a0 14))]) (kdA dt_MX11_holdsInto 34 rfl) rfl cl_MX8_at lk11_196 rfl rfl (Nat.le_of_ble_eq_true rfl) c9 (Ci.mono h (fun x10 s5 h => ?_))
      obtain ⟨c11, h⟩ := h
      refine K_cVv (c := 10) (as := [(0, x8), (0, x10)]) (st := []) (kdA dt_MX11_holdsInto 35 rfl) rfl cl_MX10_follow lk11_430 rfl rfl (Nat.le_of_ble_eq_true rfl) c11 (Cv.mono h (fun s6 h => ?_))
      refine K_aload_n 1 (kdA dt_MX11_holdsInto 36 rfl) rfl rfl ?_
      refine K_iload 5 (kdA dt_MX11_holdsInto 37 rfl) rfl ?_
      refine K_cVi (c := 0) (as := [(0, a5)]) (st := []) (kdA dt_MX11_holdsInto 38 rfl) rfl cl_MX0_milesTold lk11_283 rfl rfl (Nat.le_of_ble_eq_true rfl) c1 (Ci.mono h (fun x13 s7 h => ?_))
      refine K_aload_n 0 (kdA dt_MX11_holdsInto 39 rfl) rfl rfl ?_
      refine gf11_64 rfl (kdA dt_MX11_holdsInto 40 rfl) c5 ?_
      obtain ⟨c14, h⟩ := h
      refine gf11_193 rfl (kdA dt_MX11_holdsInto 41 rfl) c14 ?_
      obtain ⟨c15, h⟩ := h
      refine K_cVi (c := 8) (as := []) (st := [(0, x13)]) (kdA dt_MX11_holdsInto 42 rfl) rfl cl_MX8_miles lk11_240 rfl rfl (Nat.le_of_ble_eq_true rfl) c15 (Ci.mono h (fun x16 s8 h => ?_))
      refine K_iload_n 3 (kdA dt_MX11_holdsInto 43 rfl) rfl rfl ?_
      refine K_cSi (as := [(0, x13), (0, x16), (0, a3)]) (st := []) (kdA dt_MX11_holdsInto 44 rfl) cl_MX11_slipOf lk11_297 rfl rfl (Nat.le_of_ble_eq_true rfl) (Ci.mono h (fun x17 s9 h => ?_))
      refine K_if_ne (tgt := 99) (kdA dt_MX11_holdsInto 45 rfl) rfl (fun c => ?_) (fun c => ?_)
      · have h := h.1 c
        refine K_iinc (ls' := [(0, (2, a0)), (1, (2, a1)), (2, (0, a2)), (3, (0, a3)), (4, (0, a4)), (5, (0, (a5 + 1)))]) 5 (kdA dt_MX11_holdsInto 47 rfl) rfl c3 (by decide) rfl ?_
        refine K_goto (tgt := 21) (kdA dt_MX11_holdsInto 48 rfl) rfl ?_
        exact h
      · have h := h.2 c
        obtain ⟨c18, h⟩ := h
        refine K_iinc (ls' := [(0, (2, a0)), (1, (2, a1)), (2, (0, a2)), (3, (0, a3)), (4, (0, (a4 + 1))), (5, (0, a5))]) 4 (kdA dt_MX11_holdsInto 46 rfl) rfl c18 (by decide) rfl ?_
        refine K_iinc (ls' := [(0, (2, a0)), (1, (2, a1)), (2, (0, a2)), (3, (0, a3)), (4, (0, (a4 + 1))), (5, (0, (a5 + 1)))]) 5 (kdA dt_MX11_holdsInto 47 rfl) rfl c3 (by decide) rfl ?_
        refine K_goto (tgt := 21) (kdA dt_MX11_holdsInto 48 rfl) rfl ?_
        exact h
    · have h := h.2 c
      refine K_goto (tgt := 99) (kdA dt_MX11_holdsInto 22 rfl) rfl ?_
      refine K_iinc (ls' := [(0, (2, a0)), (1, (2, a1)), (2, (0, a2)), (3, (0, a3)), (4, (0, a4)), (5, (0, (a5 + 1)))]) 5 (kdA dt_MX11_holdsInto 47 rfl) rfl c3 (by decide) rfl ?_
      refine K_goto (tgt := 21) (kdA dt_MX11_holdsInto 48 rfl) rfl ?_
      exact h
theorem EX11_holdsInto {d n : Nat} {Q : Int → kS → Prop} {a0 a1 a2 a3 : Int} {σ : kS} (h : (-2147483648 ≤ a2 ∧ a2 ≤ 2147483647) → (-2147483648 ≤ a3 ∧ a3 ≤ 2147483647) → kokw n σ → LX11_holdsInto_0 d n Q a0 a1 a2 a3 σ) : Ci (d + 1) MX11_holdsInto [(2, a0), (2, a1), (0, a2), (0, a3)] n σ Q := Tri_of (by decide +kernel) (Nat.le_of_ble_eq_true rfl) (fun hk hw => h (hk (0, a2) (List.mem_of_getElem? (i := 2) rfl)) (hk (0, a3) (List.mem_of_getElem? (i := 3) rfl)) hw)

def LX11_isBox_0 (d n : Nat) (Q : Int → kS → Prop) (a0 : Int) (a1 : Int) (a2 : Int) (a3 : Int) (σ : kS) : Prop := K (d + 1) MX11_isBox (kPi n Q) (0, 0) 0 [(0, (0, a0)), (1, (0, a1)), (2, (0, a2)), (3, (0, a3))] [] n σ
theorem SX11_isBox_0 {d n : Nat} {Q : Int → kS → Prop} {a0 a1 a2 a3 : Int} {σ : kS} (h : (a0 < 0 → Q 0 σ) ∧ (¬ a0 < 0 → (a2 < a0 → Q 0 σ) ∧ (¬ a2 < a0 → (12 ≤ a2 → Q 0 σ) ∧ (¬ 12 ≤ a2 → (a1 < 0 → Q 0 σ) ∧ (¬ a1 < 0 → (a3 < a1 → Q 0 σ) ∧ (¬ a3 < a1 → (10 ≤ a3 → Q 0 σ) ∧ (¬ 10 ≤ a3 → Q 1 σ))))))) : LX11_isBox_0 d n Q a0 a1 a2 a3 σ := by
  unfold LX11_isBox_0
  refine K_iload_n 0 (kdA dt_MX11_isBox 0 rfl) rfl rfl ?_
  refine K_if_lt (tgt := 34) (kdA dt_MX11_isBox 1 rfl) rfl (fun c => ?_) (fun c => ?_)
  · have h := h.1 c
    refine K_iconst (kdA dt_MX11_isBox 18 rfl) (by decide) ?_
    exact K_zreturn (kdA dt_MX11_isBox 19 rfl) rfl (Or.inl rfl) ⟨rfl, _, rfl, h⟩
  · have h := h.2 c
    refine K_iload_n 0 (kdA dt_MX11_isBox 2 rfl) rfl rfl ?_
    refine K_iload_n 2 (kdA dt_MX11_isBox 3 rfl) rfl rfl ?_
    refine K_icmp_gt (tgt := 34) (kdA dt_MX11_isBox 4 rfl) rfl (fun c => ?_) (fun c => ?_)
    · have h := h.1 c
      refine K_iconst (kdA dt_MX11_isBox 18 rfl) (by decide) ?_
      exact K_zreturn (kdA dt_MX11_isBox 19 rfl) rfl (Or.inl rfl) ⟨rfl, _, rfl, h⟩
    · have h := h.2 c
      refine K_iload_n 2 (kdA dt_MX11_isBox 5 rfl) rfl rfl ?_
      refine K_bipush (kdA dt_MX11_isBox 6 rfl) (by decide +kernel) ?_
      refine K_icmp_ge (tgt := 34) (kdA dt_MX11_isBox 7 rfl) rfl (fun c => ?_) (fun c => ?_)
      · have h := h.1 c
        refine K_iconst (kdA dt_MX11_isBox 18 rfl) (by decide) ?_
        exact K_zreturn (kdA dt_MX11_isBox 19 rfl) rfl (Or.inl rfl) ⟨rfl, _, rfl, h⟩
      · have h := h.2 c
        refine K_iload_n 1 (kdA dt_MX11_isBox 8 rfl) rfl rfl ?_
        refine K_if_lt (tgt := 34) (kdA dt_MX11_isBox 9 rfl) rfl (fun c => ?_) (fun c => ?_)
        · have h := h.1 c
          refine K_iconst (kdA dt_MX11_isBox 18 rfl) (by decide) ?_
          exact K_zreturn (kdA dt_MX11_isBox 19 rfl) rfl (Or.inl rfl) ⟨rfl, _, rfl, h⟩
        · have h := h.2 c
          refine K_iload_n 1 (kdA dt_MX11_isBox 10 rfl) rfl rfl ?_
          refine K_iload_n 3 (kdA dt_MX11_isBox 11 rfl) rfl rfl ?_
          refine K_icmp_gt (tgt := 34) (kdA dt_MX11_isBox 12 rfl) rfl (fun c => ?_) (fun c => ?_)
          · have h := h.1 c
            refine K_iconst (kdA dt_MX11_isBox 18 rfl) (by decide) ?_
            exact K_zreturn (kdA dt_MX11_isBox 19 rfl) rfl (Or.inl rfl) ⟨rfl, _, rfl, h⟩
          · have h := h.2 c
            refine K_iload_n 3 (kdA dt_MX11_isBox 13 rfl) rfl rfl ?_
            refine K_bipush (kdA dt_MX11_isBox 14 rfl) (by decide +kernel) ?_
            refine K_icmp_ge (tgt := 34) (kdA dt_MX11_isBox 15 rfl) rfl (fun c => ?_) (fun c => ?_)
            · have h := h.1 c
              refine K_iconst (kdA dt_MX11_isBox 18 rfl) (by decide) ?_
              exact K_zreturn (kdA dt_MX11_isBox 19 rfl) rfl (Or.inl rfl) ⟨rfl, _, rfl, h⟩
            · have h := h.2 c
              refine K_iconst (kdA dt_MX11_isBox 16 rfl) (by decide) ?_
              refine K_goto (tgt := 35) (kdA dt_MX11_isBox 17 rfl) rfl ?_
              exact K_zreturn (kdA dt_MX11_isBox 19 rfl) rfl (Or.inr rfl) ⟨rfl, _, rfl, h⟩
theorem EX11_isBox {d n : Nat} {Q : Int → kS → Prop} {a0 a1 a2 a3 : Int} {σ : kS} (h : (-2147483648 ≤ a0 ∧ a0 ≤ 2147483647) → (-2147483648 ≤ a1 ∧ a1 ≤ 2147483647) → (-2147483648 ≤ a2 ∧ a2 ≤ 2147483647) → (-2147483648 ≤ a3 ∧ a3 ≤ 2147483647) → kokw n σ → LX11_isBox_0 d n Q a0 a1 a2 a3 σ) : Ci (d + 1) MX11_isBox [(0, a0), (0, a1), (0, a2), (0, a3)] n σ Q := Tri_of (by decide +kernel) (Nat.le_of_ble_eq_true rfl) (fun hk hw => h (hk (0, a0) (List.mem_of_getElem? (i := 0) rfl)) (hk (0, a1) (List.mem_of_getElem? (i := 1) rfl)) (hk (0, a2) (List.mem_of_getElem? (i := 2) rfl)) (hk (0, a3) (List.mem_of_getElem? (i := 3) rfl)) hw)

def LX11_isBy_0 (d n : Nat) (Q : Int → kS → Prop) (a0 : Int) (σ : kS) : Prop := K (d + 1) MX11_isBy (kPi n Q) (0, 0) 0 [(0, (0, a0))] [] n σ
theorem SX11_isBy_0 {d n : Nat} {Q : Int → kS → Prop} {a0 : Int} {σ : kS} (h : (a0 < 0 → Q 0 σ) ∧ (¬ a0 < 0 → (20 < a0 → Q 0 σ) ∧ (¬ 20 < a0 → Q 1 σ))) : LX11_isBy_0 d n Q a0 σ := by
  unfold LX11_isBy_0
  refine K_iload_n 0 (kdA dt_MX11_isBy 0 rfl) rfl rfl ?_
  refine K_if_lt (tgt := 14) (kdA dt_MX11_isBy 1 rfl) rfl (fun c => ?_) (fun c => ?_)
  · have h := h.1 c
    refine K_iconst (kdA dt_MX11_isBy 7 rfl) (by decide) ?_
    exact K_zreturn (kdA dt_MX11_isBy 8 rfl) rfl (Or.inl rfl) ⟨rfl, _, rfl, h⟩
  · have h := h.2 c
    refine K_iload_n 0 (kdA dt_MX11_isBy 2 rfl) rfl rfl ?_
    refine K_bipush (kdA dt_MX11_isBy 3 rfl) (by decide +kernel) ?_
    refine K_icmp_gt (tgt := 14) (kdA dt_MX11_isBy 4 rfl) rfl (fun c => ?_) (fun c => ?_)
    · have h := h.1 c
      refine K_iconst (kdA dt_MX11_isBy 7 rfl) (by decide) ?_
      exact K_zreturn (kdA dt_MX11_isBy 8 rfl) rfl (Or.inl rfl) ⟨rfl, _, rfl, h⟩
    · have h := h.2 c
      refine K_iconst (kdA dt_MX11_isBy 5 rfl) (by decide) ?_
      refine K_goto (tgt := 15) (kdA dt_MX11_isBy 6 rfl) rfl ?_
      exact K_zreturn (kdA dt_MX11_isBy 8 rfl) rfl (Or.inr rfl) ⟨rfl, _, rfl, h⟩
theorem EX11_isBy {d n : Nat} {Q : Int → kS → Prop} {a0 : Int} {σ : kS} (h : (-2147483648 ≤ a0 ∧ a0 ≤ 2147483647) → kokw n σ → LX11_isBy_0 d n Q a0 σ) : Ci (d + 1) MX11_isBy [(0, a0)] n σ Q := Tri_of (by decide +kernel) (Nat.le_of_ble_eq_true rfl) (fun hk hw => h (hk (0, a0) (List.mem_of_getElem? (i := 0) rfl)) hw)

def LX11_isCell_0 (d n : Nat) (Q : Int → kS → Prop) (a0 : Int) (σ : kS) : Prop := K (d + 1) MX11_isCell (kPi n Q) (0, 0) 0 [(0, (0, a0))] [] n σ
theorem SX11_isCell_0 {d n : Nat} {Q : Int → kS → Prop} {a0 : Int} {σ : kS} (h : (a0 < 0 → Q 0 σ) ∧ (¬ a0 < 0 → (120 ≤ a0 → Q 0 σ) ∧ (¬ 120 ≤ a0 → Q 1 σ))) : LX11_isCell_0 d n Q a0 σ := by
  unfold LX11_isCell_0
  refine K_iload_n 0 (kdA dt_MX11_isCell 0 rfl) rfl rfl ?_
  refine K_if_lt (tgt := 14) (kdA dt_MX11_isCell 1 rfl) rfl (fun c => ?_) (fun c => ?_)
  · have h := h.1 c
    refine K_iconst (kdA dt_MX11_isCell 7 rfl) (by decide) ?_
    exact K_zreturn (kdA dt_MX11_isCell 8 rfl) rfl (Or.inl rfl) ⟨rfl, _, rfl, h⟩
  · have h := h.2 c
    refine K_iload_n 0 (kdA dt_MX11_isCell 2 rfl) rfl rfl ?_
    refine K_bipush (kdA dt_MX11_isCell 3 rfl) (by decide +kernel) ?_
    refine K_icmp_ge (tgt := 14) (kdA dt_MX11_isCell 4 rfl) rfl (fun c => ?_) (fun c => ?_)
    · have h := h.1 c
      refine K_iconst (kdA dt_MX11_isCell 7 rfl) (by decide) ?_
      exact K_zreturn (kdA dt_MX11_isCell 8 rfl) rfl (Or.inl rfl) ⟨rfl, _, rfl, h⟩
    · have h := h.2 c
      refine K_iconst (kdA dt_MX11_isCell 5 rfl) (by decide) ?_
      refine K_goto (tgt := 15) (kdA dt_MX11_isCell 6 rfl) rfl ?_
      exact K_zreturn (kdA dt_MX11_isCell 8 rfl) rfl (Or.inr rfl) ⟨rfl, _, rfl, h⟩
theorem EX11_isCell {d n : Nat} {Q : Int → kS → Prop} {a0 : Int} {σ : kS} (h : (-2147483648 ≤ a0 ∧ a0 ≤ 2147483647) → kokw n σ → LX11_isCell_0 d n Q a0 σ) : Ci (d + 1) MX11_isCell [(0, a0)] n σ Q := Tri_of (by decide +kernel) (Nat.le_of_ble_eq_true rfl) (fun hk hw => h (hk (0, a0) (List.mem_of_getElem? (i := 0) rfl)) hw)

def LX11_isCellOrNone_0 (d n : Nat) (Q : Int → kS → Prop) (a0 : Int) (σ : kS) : Prop := K (d + 1) MX11_isCellOrNone (kPi n Q) (0, 0) 0 [(0, (0, a0))] [] n σ
theorem SX11_isCellOrNone_0 {d n : Nat} {Q : Int → kS → Prop} {a0 : Int} {σ : kS} (h : (a0 = (-1) → Q 1 σ) ∧ (¬ a0 = (-1) → Ci d MX11_isCell [(0, a0)] n σ (fun x1 s1 => (x1 = 0 → Q 0 s1) ∧ (¬ x1 = 0 → Q 1 s1)))) : LX11_isCellOrNone_0 d n Q a0 σ := by
  unfold LX11_isCellOrNone_0
  refine K_iload_n 0 (kdA dt_MX11_isCellOrNone 0 rfl) rfl rfl ?_
  refine K_iconst (kdA dt_MX11_isCellOrNone 1 rfl) (by decide) ?_
  refine K_icmp_eq (tgt := 12) (kdA dt_MX11_isCellOrNone 2 rfl) rfl (fun c => ?_) (fun c => ?_)
  · have h := h.1 c
    refine K_iconst (kdA dt_MX11_isCellOrNone 6 rfl) (by decide) ?_
    refine K_goto (tgt := 17) (kdA dt_MX11_isCellOrNone 7 rfl) rfl ?_
    exact K_zreturn (kdA dt_MX11_isCellOrNone 9 rfl) rfl (Or.inr rfl) ⟨rfl, _, rfl, h⟩
  · have h := h.2 c
    refine K_iload_n 0 (kdA dt_MX11_isCellOrNone 3 rfl) rfl rfl ?_
    refine K_cSi (as := [(0, a0)]) (st := []) (kdA dt_MX11_isCellOrNone 4 rfl) cl_MX11_isCell lk11_117 rfl rfl (Nat.le_of_ble_eq_true rfl) (Ci.mono h (fun x1 s1 h => ?_))
    refine K_if_eq (tgt := 16) (kdA dt_MX11_isCellOrNone 5 rfl) rfl (fun c => ?_) (fun c => ?_)
    · have h := h.1 c
      refine K_iconst (kdA dt_MX11_isCellOrNone 8 rfl) (by decide) ?_
      exact K_zreturn (kdA dt_MX11_isCellOrNone 9 rfl) rfl (Or.inl rfl) ⟨rfl, _, rfl, h⟩
    · have h := h.2 c
      refine K_iconst (kdA dt_MX11_isCellOrNone 6 rfl) (by decide) ?_
      refine K_goto (tgt := 17) (kdA dt_MX11_isCellOrNone 7 rfl) rfl ?_
      exact K_zreturn (kdA dt_MX11_isCellOrNone 9 rfl) rfl (Or.inr rfl) ⟨rfl, _, rfl, h⟩
theorem EX11_isCellOrNone {d n : Nat} {Q : Int → kS → Prop} {a0 : Int} {σ : kS} (h : (-2147483648 ≤ a0 ∧ a0 ≤ 2147483647) → kokw n σ → LX11_isCellOrNone_0 d n Q a0 σ) : Ci (d + 1) MX11_isCellOrNone [(0, a0)] n σ Q := Tri_of (by decide +kernel) (Nat.le_of_ble_eq_true rfl) (fun hk hw => h (hk (0, a0) (List.mem_of_getElem? (i := 0) rfl)) hw)

def LX11_isEra_0 (d n : Nat) (Q : Int → kS → Prop) (a0 : Int) (a1 : Int) (σ : kS) : Prop := K (d + 1) MX11_isEra (kPi n Q) (0, 0) 0 [(0, (2, a0)), (1, (0, a1))] [] n σ
theorem SX11_isEra_0 {d n : Nat} {Q : Int → kS → Prop} {a0 a1 : Int} {σ : kS} (h : (a1 < 0 → Q 0 σ) ∧ (¬ a1 < 0 → isO 11 n a0 ∧ (((σ a0 2) ≤ a1 → Q 0 σ) ∧ (¬ (σ a0 2) ≤ a1 → Q 1 σ)))) : LX11_isEra_0 d n Q a0 a1 σ := by
  unfold LX11_isEra_0
  refine K_iload_n 1 (kdA dt_MX11_isEra 0 rfl) rfl rfl ?_
  refine K_if_lt (tgt := 16) (kdA dt_MX11_isEra 1 rfl) rfl (fun c => ?_) (fun c => ?_)
  · have h := h.1 c
    refine K_iconst (kdA dt_MX11_isEra 8 rfl) (by decide) ?_
    exact K_zreturn (kdA dt_MX11_isEra 9 rfl) rfl (Or.inl rfl) ⟨rfl, _, rfl, h⟩
  · have h := h.2 c
    refine K_iload_n 1 (kdA dt_MX11_isEra 2 rfl) rfl rfl ?_
    refine K_aload_n 0 (kdA dt_MX11_isEra 3 rfl) rfl rfl ?_
    obtain ⟨c1, h⟩ := h
    refine gf11_377 rfl (kdA dt_MX11_isEra 4 rfl) c1 ?_
    refine K_icmp_ge (tgt := 16) (kdA dt_MX11_isEra 5 rfl) rfl (fun c => ?_) (fun c => ?_)
    · have h := h.1 c
      refine K_iconst (kdA dt_MX11_isEra 8 rfl) (by decide) ?_
      exact K_zreturn (kdA dt_MX11_isEra 9 rfl) rfl (Or.inl rfl) ⟨rfl, _, rfl, h⟩
    · have h := h.2 c
      refine K_iconst (kdA dt_MX11_isEra 6 rfl) (by decide) ?_
      refine K_goto (tgt := 17) (kdA dt_MX11_isEra 7 rfl) rfl ?_
      exact K_zreturn (kdA dt_MX11_isEra 9 rfl) rfl (Or.inr rfl) ⟨rfl, _, rfl, h⟩
theorem EX11_isEra {d n : Nat} {Q : Int → kS → Prop} {a0 a1 : Int} {σ : kS} (h : (-2147483648 ≤ a1 ∧ a1 ≤ 2147483647) → kokw n σ → LX11_isEra_0 d n Q a0 a1 σ) : Ci (d + 1) MX11_isEra [(2, a0), (0, a1)] n σ Q := Tri_of (by decide +kernel) (Nat.le_of_ble_eq_true rfl) (fun hk hw => h (hk (0, a1) (List.mem_of_getElem? (i := 1) rfl)) hw)

def LX11_isLayer_0 (d n : Nat) (Q : Int → kS → Prop) (a0 : Int) (σ : kS) : Prop := K (d + 1) MX11_isLayer (kPi n Q) (0, 0) 0 [(0, (0, a0))] [] n σ
theorem SX11_isLayer_0 {d n : Nat} {Q : Int → kS → Prop} {a0 : Int} {σ : kS} (h : (a0 < 0 → Q 0 σ) ∧ (¬ a0 < 0 → (4 ≤ a0 → Q 0 σ) ∧ (¬ 4 ≤ a0 → Q 1 σ))) : LX11_isLayer_0 d n Q a0 σ := by
  unfold LX11_isLayer_0
  refine K_iload_n 0 (kdA dt_MX11_isLayer 0 rfl) rfl rfl ?_
  refine K_if_lt (tgt := 13) (kdA dt_MX11_isLayer 1 rfl) rfl (fun c => ?_) (fun c => ?_)
  · have h := h.1 c
    refine K_iconst (kdA dt_MX11_isLayer 7 rfl) (by decide) ?_
    exact K_zreturn (kdA dt_MX11_isLayer 8 rfl) rfl (Or.inl rfl) ⟨rfl, _, rfl, h⟩
  · have h := h.2 c
    refine K_iload_n 0 (kdA dt_MX11_isLayer 2 rfl) rfl rfl ?_
    refine K_iconst (kdA dt_MX11_isLayer 3 rfl) (by decide) ?_
    refine K_icmp_ge (tgt := 13) (kdA dt_MX11_isLayer 4 rfl) rfl (fun c => ?_) (fun c => ?_)
    · have h := h.1 c
      refine K_iconst (kdA dt_MX11_isLayer 7 rfl) (by decide) ?_
      exact K_zreturn (kdA dt_MX11_isLayer 8 rfl) rfl (Or.inl rfl) ⟨rfl, _, rfl, h⟩
    · have h := h.2 c
      refine K_iconst (kdA dt_MX11_isLayer 5 rfl) (by decide) ?_
      refine K_goto (tgt := 14) (kdA dt_MX11_isLayer 6 rfl) rfl ?_
      exact K_zreturn (kdA dt_MX11_isLayer 8 rfl) rfl (Or.inr rfl) ⟨rfl, _, rfl, h⟩
theorem EX11_isLayer {d n : Nat} {Q : Int → kS → Prop} {a0 : Int} {σ : kS} (h : (-2147483648 ≤ a0 ∧ a0 ≤ 2147483647) → kokw n σ → LX11_isLayer_0 d n Q a0 σ) : Ci (d + 1) MX11_isLayer [(0, a0)] n σ Q := Tri_of (by decide +kernel) (Nat.le_of_ble_eq_true rfl) (fun hk hw => h (hk (0, a0) (List.mem_of_getElem? (i := 0) rfl)) hw)

def LX11_isLine_0 (d n : Nat) (Q : Int → kS → Prop) (a0 : Int) (a1 : Int) (σ : kS) : Prop := K (d + 1) MX11_isLine (kPi n Q) (0, 0) 0 [(0, (2, a0)), (1, (0, a1))] [] n σ
theorem SX11_isLine_0 {d n : Nat} {Q : Int → kS → Prop} {a0 a1 : Int} {σ : kS} (h : (a1 < 0 → Q 0 σ) ∧ (¬ a1 < 0 → isO 11 n a0 ∧ (((σ a0 11) ≤ a1 → Q 0 σ) ∧ (¬ (σ a0 11) ≤ a1 → Q 1 σ)))) : LX11_isLine_0 d n Q a0 a1 σ := by
  unfold LX11_isLine_0
  refine K_iload_n 1 (kdA dt_MX11_isLine 0 rfl) rfl rfl ?_
  refine K_if_lt (tgt := 16) (kdA dt_MX11_isLine 1 rfl) rfl (fun c => ?_) (fun c => ?_)
  · have h := h.1 c
    refine K_iconst (kdA dt_MX11_isLine 8 rfl) (by decide) ?_
    exact K_zreturn (kdA dt_MX11_isLine 9 rfl) rfl (Or.inl rfl) ⟨rfl, _, rfl, h⟩
  · have h := h.2 c
    refine K_iload_n 1 (kdA dt_MX11_isLine 2 rfl) rfl rfl ?_
    refine K_aload_n 0 (kdA dt_MX11_isLine 3 rfl) rfl rfl ?_
    obtain ⟨c1, h⟩ := h
    refine gf11_216 rfl (kdA dt_MX11_isLine 4 rfl) c1 ?_
    refine K_icmp_ge (tgt := 16) (kdA dt_MX11_isLine 5 rfl) rfl (fun c => ?_) (fun c => ?_)
    · have h := h.1 c
      refine K_iconst (kdA dt_MX11_isLine 8 rfl) (by decide) ?_
      exact K_zreturn (kdA dt_MX11_isLine 9 rfl) rfl (Or.inl rfl) ⟨rfl, _, rfl, h⟩
    · have h := h.2 c
      refine K_iconst (kdA dt_MX11_isLine 6 rfl) (by decide) ?_
      refine K_goto (tgt := 17) (kdA dt_MX11_isLine 7 rfl) rfl ?_
      exact K_zreturn (kdA dt_MX11_isLine 9 rfl) rfl (Or.inr rfl) ⟨rfl, _, rfl, h⟩
theorem EX11_isLine {d n : Nat} {Q : Int → kS → Prop} {a0 a1 : Int} {σ : kS} (h : (-2147483648 ≤ a1 ∧ a1 ≤ 2147483647) → kokw n σ → LX11_isLine_0 d n Q a0 a1 σ) : Ci (d + 1) MX11_isLine [(2, a0), (0, a1)] n σ Q := Tri_of (by decide +kernel) (Nat.le_of_ble_eq_true rfl) (fun hk hw => h (hk (0, a1) (List.mem_of_getElem? (i := 1) rfl)) hw)

def LX11_isManner_0 (d n : Nat) (Q : Int → kS → Prop) (a0 : Int) (a1 : Int) (a2 : Int) (σ : kS) : Prop := K (d + 1) MX11_isManner (kPi n Q) (0, 0) 0 [(0, (2, a0)), (1, (0, a1)), (2, (0, a2))] [] n σ
theorem SX11_isManner_0 {d n : Nat} {Q : Int → kS → Prop} {a0 a1 a2 : Int} {σ : kS} (h : (a1 < 0 → Q 0 σ) ∧ (¬ a1 < 0 → isO 11 n a0 ∧ (((σ a0 6) ≤ a1 → Q 0 σ) ∧ (¬ (σ a0 6) ≤ a1 → (a2 < 0 → Q 0 σ) ∧ (¬ a2 < 0 → (99 < a2 → Q 0 σ) ∧ (¬ 99 < a2 → Q 1 σ)))))) : LX11_isManner_0 d n Q a0 a1 a2 σ := by
  unfold LX11_isManner_0
  refine K_iload_n 1 (kdA dt_MX11_isManner 0 rfl) rfl rfl ?_
  refine K_if_lt (tgt := 26) (kdA dt_MX11_isManner 1 rfl) rfl (fun c => ?_) (fun c => ?_)
  · have h := h.1 c
    refine K_iconst (kdA dt_MX11_isManner 13 rfl) (by decide) ?_
    exact K_zreturn (kdA dt_MX11_isManner 14 rfl) rfl (Or.inl rfl) ⟨rfl, _, rfl, h⟩
  · have h := h.2 c
    refine K_iload_n 1 (kdA dt_MX11_isManner 2 rfl) rfl rfl ?_
    refine K_aload_n 0 (kdA dt_MX11_isManner 3 rfl) rfl rfl ?_
    obtain ⟨c1, h⟩ := h
    refine gf11_158 rfl (kdA dt_MX11_isManner 4 rfl) c1 ?_
    refine K_icmp_ge (tgt := 26) (kdA dt_MX11_isManner 5 rfl) rfl (fun c => ?_) (fun c => ?_)
    · have h := h.1 c
      refine K_iconst (kdA dt_MX11_isManner 13 rfl) (by decide) ?_
      exact K_zreturn (kdA dt_MX11_isManner 14 rfl) rfl (Or.inl rfl) ⟨rfl, _, rfl, h⟩
    · have h := h.2 c
      refine K_iload_n 2 (kdA dt_MX11_isManner 6 rfl) rfl rfl ?_
      refine K_if_lt (tgt := 26) (kdA dt_MX11_isManner 7 rfl) rfl (fun c => ?_) (fun c => ?_)
      · have h := h.1 c
        refine K_iconst (kdA dt_MX11_isManner 13 rfl) (by decide) ?_
        exact K_zreturn (kdA dt_MX11_isManner 14 rfl) rfl (Or.inl rfl) ⟨rfl, _, rfl, h⟩
      · have h := h.2 c
        refine K_iload_n 2 (kdA dt_MX11_isManner 8 rfl) rfl rfl ?_
        refine K_bipush (kdA dt_MX11_isManner 9 rfl) (by decide +kernel) ?_
        refine K_icmp_gt (tgt := 26) (kdA dt_MX11_isManner 10 rfl) rfl (fun c => ?_) (fun c => ?_)
        · have h := h.1 c
          refine K_iconst (kdA dt_MX11_isManner 13 rfl) (by decide) ?_
          exact K_zreturn (kdA dt_MX11_isManner 14 rfl) rfl (Or.inl rfl) ⟨rfl, _, rfl, h⟩
        · have h := h.2 c
          refine K_iconst (kdA dt_MX11_isManner 11 rfl) (by decide) ?_
          refine K_goto (tgt := 27) (kdA dt_MX11_isManner 12 rfl) rfl ?_
          exact K_zreturn (kdA dt_MX11_isManner 14 rfl) rfl (Or.inr rfl) ⟨rfl, _, rfl, h⟩
theorem EX11_isManner {d n : Nat} {Q : Int → kS → Prop} {a0 a1 a2 : Int} {σ : kS} (h : (-2147483648 ≤ a1 ∧ a1 ≤ 2147483647) → (-2147483648 ≤ a2 ∧ a2 ≤ 2147483647) → kokw n σ → LX11_isManner_0 d n Q a0 a1 a2 σ) : Ci (d + 1) MX11_isManner [(2, a0), (0, a1), (0, a2)] n σ Q := Tri_of (by decide +kernel) (Nat.le_of_ble_eq_true rfl) (fun hk hw => h (hk (0, a1) (List.mem_of_getElem? (i := 1) rfl)) (hk (0, a2) (List.mem_of_getElem? (i := 2) rfl)) hw)

def LX11_isOften_0 (d n : Nat) (Q : Int → kS → Prop) (a0 : Int) (σ : kS) : Prop := K (d + 1) MX11_isOften (kPi n Q) (0, 0) 0 [(0, (0, a0))] [] n σ
theorem SX11_isOften_0 {d n : Nat} {Q : Int → kS → Prop} {a0 : Int} {σ : kS} (h : (a0 < 1 → Q 0 σ) ∧ (¬ a0 < 1 → (99 < a0 → Q 0 σ) ∧ (¬ 99 < a0 → Q 1 σ))) : LX11_isOften_0 d n Q a0 σ := by
  unfold LX11_isOften_0
  refine K_iload_n 0 (kdA dt_MX11_isOften 0 rfl) rfl rfl ?_
  refine K_iconst (kdA dt_MX11_isOften 1 rfl) (by decide) ?_
  refine K_icmp_lt (tgt := 15) (kdA dt_MX11_isOften 2 rfl) rfl (fun c => ?_) (fun c => ?_)
  · have h := h.1 c
    refine K_iconst (kdA dt_MX11_isOften 8 rfl) (by decide) ?_
    exact K_zreturn (kdA dt_MX11_isOften 9 rfl) rfl (Or.inl rfl) ⟨rfl, _, rfl, h⟩
  · have h := h.2 c
    refine K_iload_n 0 (kdA dt_MX11_isOften 3 rfl) rfl rfl ?_
    refine K_bipush (kdA dt_MX11_isOften 4 rfl) (by decide +kernel) ?_
    refine K_icmp_gt (tgt := 15) (kdA dt_MX11_isOften 5 rfl) rfl (fun c => ?_) (fun c => ?_)
    · have h := h.1 c
      refine K_iconst (kdA dt_MX11_isOften 8 rfl) (by decide) ?_
      exact K_zreturn (kdA dt_MX11_isOften 9 rfl) rfl (Or.inl rfl) ⟨rfl, _, rfl, h⟩
    · have h := h.2 c
      refine K_iconst (kdA dt_MX11_isOften 6 rfl) (by decide) ?_
      refine K_goto (tgt := 16) (kdA dt_MX11_isOften 7 rfl) rfl ?_
      exact K_zreturn (kdA dt_MX11_isOften 9 rfl) rfl (Or.inr rfl) ⟨rfl, _, rfl, h⟩
theorem EX11_isOften {d n : Nat} {Q : Int → kS → Prop} {a0 : Int} {σ : kS} (h : (-2147483648 ≤ a0 ∧ a0 ≤ 2147483647) → kokw n σ → LX11_isOften_0 d n Q a0 σ) : Ci (d + 1) MX11_isOften [(0, a0)] n σ Q := Tri_of (by decide +kernel) (Nat.le_of_ble_eq_true rfl) (fun hk hw => h (hk (0, a0) (List.mem_of_getElem? (i := 0) rfl)) hw)

def LX11_isSearch_0 (d n : Nat) (Q : Int → kS → Prop) (a0 : Int) (a1 : Int) (a2 : Int) (a3 : Int) (σ : kS) : Prop := K (d + 1) MX11_isSearch (kPi n Q) (0, 0) 0 [(0, (2, a0)), (1, (0, a1)), (2, (0, a2)), (3, (0, a3))] [] n σ
theorem SX11_isSearch_0 {d n : Nat} {Q : Int → kS → Prop} {a0 a1 a2 a3 : Int} {σ : kS} (h : isO 11 n a0 ∧ (Ci d MX11_isLine [(2, a0), (0, a1)] n σ (fun x2 s1 => (x2 = 0 → Q 0 s1) ∧ (¬ x2 = 0 → (a2 < 0 → Q 0 s1) ∧ (¬ a2 < 0 → (5 < a2 → Q 0 s1) ∧ (¬ 5 < a2 → (a3 < 0 → Q 0 s1) ∧ (¬ a3 < 0 → (15 < a3 → Q 0 s1) ∧ (¬ 15 < a3 → Q 1 s1)))))))) : LX11_isSearch_0 d n Q a0 a1 a2 a3 σ := by
  unfold LX11_isSearch_0
  refine K_aload_n 0 (kdA dt_MX11_isSearch 0 rfl) rfl rfl ?_
  refine K_iload_n 1 (kdA dt_MX11_isSearch 1 rfl) rfl rfl ?_
  obtain ⟨c1, h⟩ := h
  refine K_cVi (c := 11) (as := [(0, a1)]) (st := []) (kdA dt_MX11_isSearch 2 rfl) rfl cl_MX11_isLine lk11_233 rfl rfl (Nat.le_of_ble_eq_true rfl) c1 (Ci.mono h (fun x2 s1 h => ?_))
  refine K_if_eq (tgt := 31) (kdA dt_MX11_isSearch 3 rfl) rfl (fun c => ?_) (fun c => ?_)
  · have h := h.1 c
    refine K_iconst (kdA dt_MX11_isSearch 16 rfl) (by decide) ?_
    exact K_zreturn (kdA dt_MX11_isSearch 17 rfl) rfl (Or.inl rfl) ⟨rfl, _, rfl, h⟩
  · have h := h.2 c
    refine K_iload_n 2 (kdA dt_MX11_isSearch 4 rfl) rfl rfl ?_
    refine K_if_lt (tgt := 31) (kdA dt_MX11_isSearch 5 rfl) rfl (fun c => ?_) (fun c => ?_)
    · have h := h.1 c
      refine K_iconst (kdA dt_MX11_isSearch 16 rfl) (by decide) ?_
      exact K_zreturn (kdA dt_MX11_isSearch 17 rfl) rfl (Or.inl rfl) ⟨rfl, _, rfl, h⟩
    · have h := h.2 c
      refine K_iload_n 2 (kdA dt_MX11_isSearch 6 rfl) rfl rfl ?_
      refine K_iconst (kdA dt_MX11_isSearch 7 rfl) (by decide) ?_
      refine K_icmp_gt (tgt := 31) (kdA dt_MX11_isSearch 8 rfl) rfl (fun c => ?_) (fun c => ?_)
      · have h := h.1 c
        refine K_iconst (kdA dt_MX11_isSearch 16 rfl) (by decide) ?_
        exact K_zreturn (kdA dt_MX11_isSearch 17 rfl) rfl (Or.inl rfl) ⟨rfl, _, rfl, h⟩
      · have h := h.2 c
        refine K_iload_n 3 (kdA dt_MX11_isSearch 9 rfl) rfl rfl ?_
        refine K_if_lt (tgt := 31) (kdA dt_MX11_isSearch 10 rfl) rfl (fun c => ?_) (fun c => ?_)
        · have h := h.1 c
          refine K_iconst (kdA dt_MX11_isSearch 16 rfl) (by decide) ?_
          exact K_zreturn (kdA dt_MX11_isSearch 17 rfl) rfl (Or.inl rfl) ⟨rfl, _, rfl, h⟩
        · have h := h.2 c
          refine K_iload_n 3 (kdA dt_MX11_isSearch 11 rfl) rfl rfl ?_
          refine K_bipush (kdA dt_MX11_isSearch 12 rfl) (by decide +kernel) ?_
          refine K_icmp_gt (tgt := 31) (kdA dt_MX11_isSearch 13 rfl) rfl (fun c => ?_) (fun c => ?_)
          · have h := h.1 c
            refine K_iconst (kdA dt_MX11_isSearch 16 rfl) (by decide) ?_
            exact K_zreturn (kdA dt_MX11_isSearch 17 rfl) rfl (Or.inl rfl) ⟨rfl, _, rfl, h⟩
          · have h := h.2 c
            refine K_iconst (kdA dt_MX11_isSearch 14 rfl) (by decide) ?_
            refine K_goto (tgt := 32) (kdA dt_MX11_isSearch 15 rfl) rfl ?_
            exact K_zreturn (kdA dt_MX11_isSearch 17 rfl) rfl (Or.inr rfl) ⟨rfl, _, rfl, h⟩
theorem EX11_isSearch {d n : Nat} {Q : Int → kS → Prop} {a0 a1 a2 a3 : Int} {σ : kS} (h : (-2147483648 ≤ a1 ∧ a1 ≤ 2147483647) → (-2147483648 ≤ a2 ∧ a2 ≤ 2147483647) → (-2147483648 ≤ a3 ∧ a3 ≤ 2147483647) → kokw n σ → LX11_isSearch_0 d n Q a0 a1 a2 a3 σ) : Ci (d + 1) MX11_isSearch [(2, a0), (0, a1), (0, a2), (0, a3)] n σ Q := Tri_of (by decide +kernel) (Nat.le_of_ble_eq_true rfl) (fun hk hw => h (hk (0, a1) (List.mem_of_getElem? (i := 1) rfl)) (hk (0, a2) (List.mem_of_getElem? (i := 2) rfl)) (hk (0, a3) (List.mem_of_getElem? (i := 3) rfl)) hw)

def LX11_isStage_0 (d n : Nat) (Q : Int → kS → Prop) (a0 : Int) (a1 : Int) (a2 : Int) (σ : kS) : Prop := K (d + 1) MX11_isStage (kPi n Q) (0, 0) 0 [(0, (2, a0)), (1, (0, a1)), (2, (0, a2))] [] n σ
theorem SX11_isStage_0 {d n : Nat} {Q : Int → kS → Prop} {a0 a1 a2 : Int} {σ : kS} (h : (a1 < 0 → Q 0 σ) ∧ (¬ a1 < 0 → isO 11 n a0 ∧ (((σ a0 8) ≤ a1 → Q 0 σ) ∧ (¬ (σ a0 8) ≤ a1 → (a2 < 0 → Q 0 σ) ∧ (¬ a2 < 0 → isA 27 n (σ a0 7) ∧ (((0 : Int) ≤ a1 ∧ a1 < klen (σ a0 7)) ∧ (isO 0 n (σ (σ a0 7) a1) ∧ (Ci d MX0_stages [(2, (σ (σ a0 7) a1))] n σ (fun x5 s1 => (x5 ≤ a2 → Q 0 s1) ∧ (¬ x5 ≤ a2 → Q 1 s1)))))))))) : LX11_isStage_0 d n Q a0 a1 a2 σ := by
  unfold LX11_isStage_0
  refine K_iload_n 1 (kdA dt_MX11_isStage 0 rfl) rfl rfl ?_
  refine K_if_lt (tgt := 33) (kdA dt_MX11_isStage 1 rfl) rfl (fun c => ?_) (fun c => ?_)
  · have h := h.1 c
    refine K_iconst (kdA dt_MX11_isStage 17 rfl) (by decide) ?_
    exact K_zreturn (kdA dt_MX11_isStage 18 rfl) rfl (Or.inl rfl) ⟨rfl, _, rfl, h⟩
  · have h := h.2 c
    refine K_iload_n 1 (kdA dt_MX11_isStage 2 rfl) rfl rfl ?_
    refine K_aload_n 0 (kdA dt_MX11_isStage 3 rfl) rfl rfl ?_
    obtain ⟨c1, h⟩ := h
    refine gf11_151 rfl (kdA dt_MX11_isStage 4 rfl) c1 ?_
    refine K_icmp_ge (tgt := 33) (kdA dt_MX11_isStage 5 rfl) rfl (fun c => ?_) (fun c => ?_)
    · have h := h.1 c
      refine K_iconst (kdA dt_MX11_isStage 17 rfl) (by decide) ?_
      exact K_zreturn (kdA dt_MX11_isStage 18 rfl) rfl (Or.inl rfl) ⟨rfl, _, rfl, h⟩
    · have h := h.2 c
      refine K_iload_n 2 (kdA dt_MX11_isStage 6 rfl) rfl rfl ?_
      refine K_if_lt (tgt := 33) (kdA dt_MX11_isStage 7 rfl) rfl (fun c => ?_) (fun c => ?_)
      · have h := h.1 c
        refine K_iconst (kdA dt_MX11_isStage 17 rfl) (by decide) ?_
        exact K_zreturn (kdA dt_MX11_isStage 18 rfl) rfl (Or.inl rfl) ⟨rfl, _, rfl, h⟩
      · have h := h.2 c
        refine K_iload_n 2 (kdA dt_MX11_isStage 8 rfl) rfl rfl ?_
        refine K_aload_n 0 (kdA dt_MX11_isStage 9 rfl) rfl rfl ?_
        refine gf11_44 rfl (kdA dt_MX11_isStage 10 rfl) c1 ?_
        refine K_iload_n 1 (kdA dt_MX11_isStage 11 rfl) rfl rfl ?_
        obtain ⟨c2, h⟩ := h
        obtain ⟨c3, h⟩ := h
        refine K_aaload (kdA dt_MX11_isStage 12 rfl) (by decide) c2 c3.1 c3.2 ?_
        obtain ⟨c4, h⟩ := h
        refine K_cVi (c := 0) (as := []) (st := [(0, a2)]) (kdA dt_MX11_isStage 13 rfl) rfl cl_MX0_stages lk11_400 rfl rfl (Nat.le_of_ble_eq_true rfl) c4 (Ci.mono h (fun x5 s1 h => ?_))
        refine K_icmp_ge (tgt := 33) (kdA dt_MX11_isStage 14 rfl) rfl (fun c => ?_) (fun c => ?_)
        · have h := h.1 c
          refine K_iconst (kdA dt_MX11_isStage 17 rfl) (by decide) ?_
          exact K_zreturn (kdA dt_MX11_isStage 18 rfl) rfl (Or.inl rfl) ⟨rfl, _, rfl, h⟩
        · have h := h.2 c
          refine K_iconst (kdA dt_MX11_isStage 15 rfl) (by decide) ?_
          refine K_goto (tgt := 34) (kdA dt_MX11_isStage 16 rfl) rfl ?_
          exact K_zreturn (kdA dt_MX11_isStage 18 rfl) rfl (Or.inr rfl) ⟨rfl, _, rfl, h⟩
theorem EX11_isStage {d n : Nat} {Q : Int → kS → Prop} {a0 a1 a2 : Int} {σ : kS} (h : (-2147483648 ≤ a1 ∧ a1 ≤ 2147483647) → (-2147483648 ≤ a2 ∧ a2 ≤ 2147483647) → kokw n σ → LX11_isStage_0 d n Q a0 a1 a2 σ) : Ci (d + 1) MX11_isStage [(2, a0), (0, a1), (0, a2)] n σ Q := Tri_of (by decide +kernel) (Nat.le_of_ble_eq_true rfl) (fun hk hw => h (hk (0, a1) (List.mem_of_getElem? (i := 1) rfl)) (hk (0, a2) (List.mem_of_getElem? (i := 2) rfl)) hw)

def LX11_keepLine_0 (d n : Nat) (Q : Int → kS → Prop) (a0 : Int) (a1 : Int) (σ : kS) : Prop := K (d + 1) MX11_keepLine (kPi n Q) (0, 0) 0 [(0, (2, a0)), (1, (2, a1))] [] n σ
theorem SX11_keepLine_0 {d n : Nat} {Q : Int → kS → Prop} {a0 a1 : Int} {σ : kS} (h : isO 11 n a0 ∧ (((σ a0 11) < 10 → isA 28 n (σ a0 10) ∧ (((0 : Int) ≤ (σ a0 11) ∧ (σ a0 11) < klen (σ a0 10)) ∧ (isO 8 n (σ (σ a0 10) (σ a0 11)) ∧ (Cv d MX8_take [(2, (σ (σ a0 10) (σ a0 11))), (2, a1)] n σ (fun s1 => (-2147483648 ≤ ((s1 a0 11) + 1) ∧ ((s1 a0 11) + 1) ≤ 2147483647) ∧ (∀ s2, s2 = kst s1 a0 11 ((s1 a0 11) + 1) → (-2147483648 ≤ ((s2 a0 11) - 1) ∧ ((s2 a0 11) - 1) ≤ 2147483647) ∧ (Q ((s2 a0 11) - 1) s2))))))) ∧ (¬ (σ a0 11) < 10 → Q (-1) σ))) : LX11_keepLine_0 d n Q a0 a1 σ := by
  unfold LX11_keepLine_0
  refine K_aload_n 0 (kdA dt_MX11_keepLine 0 rfl) rfl rfl ?_
  obtain ⟨c1, h⟩ := h
  refine gf11_216 rfl (kdA dt_MX11_keepLine 1 rfl) c1 ?_
  refine K_bipush (kdA dt_MX11_keepLine 2 rfl) (by decide +kernel) ?_
  refine K_icmp_lt (tgt := 11) (kdA dt_MX11_keepLine 3 rfl) rfl (fun c => ?_) (fun c => ?_)
  · have h := h.1 c
    refine K_aload_n 0 (kdA dt_MX11_keepLine 6 rfl) rfl rfl ?_
    refine gf11_51 rfl (kdA dt_MX11_keepLine 7 rfl) c1 ?_
    refine K_aload_n 0 (kdA dt_MX11_keepLine 8 rfl) rfl rfl ?_
    refine gf11_216 rfl (kdA dt_MX11_keepLine 9 rfl) c1 ?_
    obtain ⟨c2, h⟩ := h
    obtain ⟨c3, h⟩ := h
    refine K_aaload (kdA dt_MX11_keepLine 10 rfl) (by decide) c2 c3.1 c3.2 ?_
    refine K_aload_n 1 (kdA dt_MX11_keepLine 11 rfl) rfl rfl ?_
    obtain ⟨c4, h⟩ := h
    refine K_cVv (c := 8) (as := [(2, a1)]) (st := []) (kdA dt_MX11_keepLine 12 rfl) rfl cl_MX8_take lk11_393 rfl rfl (Nat.le_of_ble_eq_true rfl) c4 (Cv.mono h (fun s1 h => ?_))
    refine K_aload_n 0 (kdA dt_MX11_keepLine 13 rfl) rfl rfl ?_
    refine K_dup (kdA dt_MX11_keepLine 14 rfl) rfl ?_
    refine gf11_216 rfl (kdA dt_MX11_keepLine 15 rfl) c1 ?_
    refine K_iconst (kdA dt_MX11_keepLine 16 rfl) (by decide) ?_
    obtain ⟨c6, h⟩ := h
    refine K_iadd (kdA dt_MX11_keepLine 17 rfl) c6 ?_
    refine pf11_216 rfl (kdA dt_MX11_keepLine 18 rfl) c1 (fun s2 es2 => ?_)
    have h := h s2 es2
    refine K_aload_n 0 (kdA dt_MX11_keepLine 19 rfl) rfl rfl ?_
    refine gf11_216 rfl (kdA dt_MX11_keepLine 20 rfl) c1 ?_
    refine K_iconst (kdA dt_MX11_keepLine 21 rfl) (by decide) ?_
    obtain ⟨c7, h⟩ := h
    refine K_isub (kdA dt_MX11_keepLine 22 rfl) c7 ?_
    exact K_ireturn (kdA dt_MX11_keepLine 23 rfl) rfl ⟨rfl, _, rfl, h⟩
  · have h := h.2 c
    refine K_iconst (kdA dt_MX11_keepLine 4 rfl) (by decide) ?_
    exact K_ireturn (kdA dt_MX11_keepLine 5 rfl) rfl ⟨rfl, _, rfl, h⟩
theorem EX11_keepLine {d n : Nat} {Q : Int → kS → Prop} {a0 a1 : Int} {σ : kS} (h : kokw n σ → LX11_keepLine_0 d n Q a0 a1 σ) : Ci (d + 1) MX11_keepLine [(2, a0), (2, a1)] n σ Q := Tri_of (by decide +kernel) (Nat.le_of_ble_eq_true rfl) (fun hk hw => h hw)

def LX11_known_0 (d n : Nat) (Q : Int → kS → Prop) (a0 : Int) (a1 : Int) (σ : kS) : Prop := K (d + 1) MX11_known (kPi n Q) (0, 0) 0 [(0, (2, a0)), (1, (0, a1))] [] n σ
theorem SX11_known_0 {d n : Nat} {Q : Int → kS → Prop} {a0 a1 : Int} {σ : kS} (h : isO 11 n a0 ∧ (Ci d MX11_isLine [(2, a0), (0, a1)] n σ (fun x2 s1 => (x2 = 0 → Q (-1) s1) ∧ (¬ x2 = 0 → isO 8 n (s1 a0 12) ∧ (Ci d MX8_has [(2, (s1 a0 12)), (0, a1)] n s1 (fun x4 s2 => (¬ x4 = 0 → Q (-1) s2) ∧ (¬ (¬ x4 = 0) → isO 8 n (s2 a0 12) ∧ (Ci d MX8_add [(2, (s2 a0 12)), (0, a1)] n s2 (fun x6 s3 => (¬ x6 = 0 → isO 8 n (s3 a0 12) ∧ (Q (s3 (s3 a0 12) 1) s3)) ∧ (¬ (¬ x6 = 0) → Q (-1) s3)))))))))) : LX11_known_0 d n Q a0 a1 σ := by
  unfold LX11_known_0
  refine K_aload_n 0 (kdA dt_MX11_known 0 rfl) rfl rfl ?_
  refine K_iload_n 1 (kdA dt_MX11_known 1 rfl) rfl rfl ?_
  obtain ⟨c1, h⟩ := h
  refine K_cVi (c := 11) (as := [(0, a1)]) (st := []) (kdA dt_MX11_known 2 rfl) rfl cl_MX11_isLine lk11_233 rfl rfl (Nat.le_of_ble_eq_true rfl) c1 (Ci.mono h (fun x2 s1 h => ?_))
  refine K_if_eq (tgt := 30) (kdA dt_MX11_known 3 rfl) rfl (fun c => ?_) (fun c => ?_)
  · have h := h.1 c
    refine K_iconst (kdA dt_MX11_known 14 rfl) (by decide) ?_
    exact K_ireturn (kdA dt_MX11_known 15 rfl) rfl ⟨rfl, _, rfl, h⟩
  · have h := h.2 c
    refine K_aload_n 0 (kdA dt_MX11_known 4 rfl) rfl rfl ?_
    refine gf11_55 rfl (kdA dt_MX11_known 5 rfl) c1 ?_
    refine K_iload_n 1 (kdA dt_MX11_known 6 rfl) rfl rfl ?_
    obtain ⟨c3, h⟩ := h
    refine K_cVi (c := 8) (as := [(0, a1)]) (st := []) (kdA dt_MX11_known 7 rfl) rfl cl_MX8_has lk11_124 rfl rfl (Nat.le_of_ble_eq_true rfl) c3 (Ci.mono h (fun x4 s2 h => ?_))
    refine K_if_ne (tgt := 30) (kdA dt_MX11_known 8 rfl) rfl (fun c => ?_) (fun c => ?_)
    · have h := h.1 c
      refine K_iconst (kdA dt_MX11_known 14 rfl) (by decide) ?_
      exact K_ireturn (kdA dt_MX11_known 15 rfl) rfl ⟨rfl, _, rfl, h⟩
    · have h := h.2 c
      refine K_aload_n 0 (kdA dt_MX11_known 9 rfl) rfl rfl ?_
      refine gf11_55 rfl (kdA dt_MX11_known 10 rfl) c1 ?_
      refine K_iload_n 1 (kdA dt_MX11_known 11 rfl) rfl rfl ?_
      obtain ⟨c5, h⟩ := h
      refine K_cVi (c := 8) (as := [(0, a1)]) (st := []) (kdA dt_MX11_known 12 rfl) rfl cl_MX8_add lk11_127 rfl rfl (Nat.le_of_ble_eq_true rfl) c5 (Ci.mono h (fun x6 s3 h => ?_))
      refine K_if_ne (tgt := 32) (kdA dt_MX11_known 13 rfl) rfl (fun c => ?_) (fun c => ?_)
      · have h := h.1 c
        refine K_aload_n 0 (kdA dt_MX11_known 16 rfl) rfl rfl ?_
        refine gf11_55 rfl (kdA dt_MX11_known 17 rfl) c1 ?_
        obtain ⟨c7, h⟩ := h
        refine gf11_130 rfl (kdA dt_MX11_known 18 rfl) c7 ?_
        exact K_ireturn (kdA dt_MX11_known 19 rfl) rfl ⟨rfl, _, rfl, h⟩
      · have h := h.2 c
        refine K_iconst (kdA dt_MX11_known 14 rfl) (by decide) ?_
        exact K_ireturn (kdA dt_MX11_known 15 rfl) rfl ⟨rfl, _, rfl, h⟩
theorem EX11_known {d n : Nat} {Q : Int → kS → Prop} {a0 a1 : Int} {σ : kS} (h : (-2147483648 ≤ a1 ∧ a1 ≤ 2147483647) → kokw n σ → LX11_known_0 d n Q a0 a1 σ) : Ci (d + 1) MX11_known [(2, a0), (0, a1)] n σ Q := Tri_of (by decide +kernel) (Nat.le_of_ble_eq_true rfl) (fun hk hw => h (hk (0, a1) (List.mem_of_getElem? (i := 1) rfl)) hw)

def LX11_lasting_0 (d n : Nat) (Q : Int → kS → Prop) (a0 : Int) (a1 : Int) (a2 : Int) (a3 : Int) (a4 : Int) (a5 : Int) (σ : kS) : Prop := K (d + 1) MX11_lasting (kPi n Q) (0, 0) 0 [(0, (2, a0)), (1, (0, a1)), (2, (0, a2)), (3, (0, a3)), (4, (0, a4)), (5, (0, a5))] [] n σ
def LX11_lasting_49 (d n : Nat) (Q : Int → kS → Prop) (a0 : Int) (a1 : Int) (a2 : Int) (a3 : Int) (a4 : Int) (a5 : Int) (a6 : Int) (σ : kS) : Prop := K (d + 1) MX11_lasting (kPi n Q) (0, 0) 49 [(0, (2, a0)), (1, (0, a1)), (2, (0, a2)), (3, (0, a3)), (4, (0, a4)), (5, (0, a5)), (6, (0, a6))] [] n σ
theorem SX11_lasting_0 {d n : Nat} {Q : Int → kS → Prop} {a0 a1 a2 a3 a4 a5 : Int} {σ : kS} (h : isO 11 n a0 ∧ (Ci d MX11_goes [(2, a0), (2, (σ a0 0)), (0, a1), (0, a2), (0, a3), (0, a4), (0, a5)] n σ (fun x2 s1 => (¬ x2 = 0 → (¬ (s1 a0 2) = 0 → isO 10 n (s1 a0 14) ∧ (isO 8 n (s1 (s1 a0 14) 14) ∧ (Cv d MX8_take [(2, (s1 (s1 a0 14) 14)), (2, (s1 (s1 a0 14) 13))] n s1 (fun s2 => LX11_lasting_49 d n Q a0 a1 a2 a3 a4 a5 0 s2)))) ∧ (¬ (¬ (s1 a0 2) = 0) → Q 0 s1)) ∧ (¬ (¬ x2 = 0) → Q (-1) s1)))) : LX11_lasting_0 d n Q a0 a1 a2 a3 a4 a5 σ := by
  unfold LX11_lasting_0
  refine K_aload_n 0 (kdA dt_MX11_lasting 0 rfl) rfl rfl ?_
  refine K_aload_n 0 (kdA dt_MX11_lasting 1 rfl) rfl rfl ?_
  obtain ⟨c1, h⟩ := h
  refine gf11_10 rfl (kdA dt_MX11_lasting 2 rfl) c1 ?_
  refine K_iload_n 1 (kdA dt_MX11_lasting 3 rfl) rfl rfl ?_
  refine K_iload_n 2 (kdA dt_MX11_lasting 4 rfl) rfl rfl ?_
  refine K_iload_n 3 (kdA dt_MX11_lasting 5 rfl) rfl rfl ?_
  refine K_iload 4 (kdA dt_MX11_lasting 6 rfl) rfl ?_
  refine K_iload 5 (kdA dt_MX11_lasting 7 rfl) rfl ?_
  refine K_cVi (c := 11) (as := [(2, (σ a0 0)), (0, a1), (0, a2), (0, a3), (0, a4), (0, a5)]) (st := []) (kdA dt_MX11_lasting 8 rfl) rfl cl_MX11_goes lk11_186 rfl rfl (Nat.le_of_ble_eq_true rfl) c1 (Ci.mono h (fun x2 s1 h => ?_))
  refine K_if_ne (tgt := 20) (kdA dt_MX11_lasting 9 rfl) rfl (fun c => ?_) (fun c => ?_)
  · have h := h.1 c
    refine K_aload_n 0 (kdA dt_MX11_lasting 12 rfl) rfl rfl ?_
    refine gf11_377 rfl (kdA dt_MX11_lasting 13 rfl) c1 ?_
    refine K_if_ne (tgt := 29) (kdA dt_MX11_lasting 14 rfl) rfl (fun c => ?_) (fun c => ?_)
    · have h := h.1 c
      refine K_aload_n 0 (kdA dt_MX11_lasting 17 rfl) rfl rfl ?_
      refine gf11_64 rfl (kdA dt_MX11_lasting 18 rfl) c1 ?_
      obtain ⟨c3, h⟩ := h
      refine gf11_390 rfl (kdA dt_MX11_lasting 19 rfl) c3 ?_
      refine K_aload_n 0 (kdA dt_MX11_lasting 20 rfl) rfl rfl ?_
      refine gf11_64 rfl (kdA dt_MX11_lasting 21 rfl) c1 ?_
      refine gf11_193 rfl (kdA dt_MX11_lasting 22 rfl) c3 ?_
      obtain ⟨c4, h⟩ := h
      refine K_cVv (c := 8) (as := [(2, (s1 (s1 a0 14) 13))]) (st := []) (kdA dt_MX11_lasting 23 rfl) rfl cl_MX8_take lk11_393 rfl rfl (Nat.le_of_ble_eq_true rfl) c4 (Cv.mono h (fun s2 h => ?_))
      refine K_iconst (kdA dt_MX11_lasting 24 rfl) (by decide) ?_
      refine K_istore (ls' := [(0, (2, a0)), (1, (0, a1)), (2, (0, a2)), (3, (0, a3)), (4, (0, a4)), (5, (0, a5)), (6, (0, 0))]) (kdA dt_MX11_lasting 25 rfl) (by decide) rfl ?_
      exact h
    · have h := h.2 c
      refine K_iconst (kdA dt_MX11_lasting 15 rfl) (by decide) ?_
      exact K_ireturn (kdA dt_MX11_lasting 16 rfl) rfl ⟨rfl, _, rfl, h⟩
  · have h := h.2 c
    refine K_iconst (kdA dt_MX11_lasting 10 rfl) (by decide) ?_
    exact K_ireturn (kdA dt_MX11_lasting 11 rfl) rfl ⟨rfl, _, rfl, h⟩
theorem SX11_lasting_49 {d n : Nat} {Q : Int → kS → Prop} {a0 a1 a2 a3 a4 a5 a6 : Int} {σ : kS} (h : isO 11 n a0 ∧ (((σ a0 2) ≤ a6 → isO 10 n (σ a0 14) ∧ (isO 8 n (σ (σ a0 14) 14) ∧ (Q (σ (σ (σ a0 14) 14) 1) σ))) ∧ (¬ (σ a0 2) ≤ a6 → isA 25 n (σ a0 1) ∧ (((0 : Int) ≤ a6 ∧ a6 < klen (σ a0 1)) ∧ (Ci d MX11_goes [(2, a0), (2, (σ (σ a0 1) a6)), (0, a1), (0, a2), (0, a3), (0, a4), (0, a5)] n σ (fun x4 s1 => isO 10 n (s1 a0 14) ∧ (isO 8 n (s1 (s1 a0 14) 14) ∧ (Cv d MX8_keepThoseIn [(2, (s1 (s1 a0 14) 14)), (2, (s1 (s1 a0 14) 13))] n s1 (fun s2 => (-2147483648 ≤ (a6 + 1) ∧ (a6 + 1) ≤ 2147483647) ∧ (LX11_lasting_49 d n Q a0 a1 a2 a3 a4 a5 (a6 + 1) s2)))))))))) : LX11_lasting_49 d n Q a0 a1 a2 a3 a4 a5 a6 σ := by
  unfold LX11_lasting_49
  refine K_iload 6 (kdA dt_MX11_lasting 26 rfl) rfl ?_
  refine K_aload_n 0 (kdA dt_MX11_lasting 27 rfl) rfl rfl ?_
  obtain ⟨c1, h⟩ := h
  refine gf11_377 rfl (kdA dt_MX11_lasting 28 rfl) c1 ?_
  refine K_icmp_ge (tgt := 100) (kdA dt_MX11_lasting 29 rfl) rfl (fun c => ?_) (fun c => ?_)
  · have h := h.1 c
    refine K_aload_n 0 (kdA dt_MX11_lasting 51 rfl) rfl rfl ?_
    refine gf11_64 rfl (kdA dt_MX11_lasting 52 rfl) c1 ?_
    obtain ⟨c2, h⟩ := h
    refine gf11_390 rfl (kdA dt_MX11_lasting 53 rfl) c2 ?_
    obtain ⟨c3, h⟩ := h
    refine gf11_130 rfl (kdA dt_MX11_lasting 54 rfl) c3 ?_
    exact K_ireturn (kdA dt_MX11_lasting 55 rfl) rfl ⟨rfl, _, rfl, h⟩
  · have h := h.2 c
    refine K_aload_n 0 (kdA dt_MX11_lasting 30 rfl) rfl rfl ?_
    refine K_aload_n 0 (kdA dt_MX11_lasting 31 rfl) rfl rfl ?_
    refine gf11_16 rfl (kdA dt_MX11_lasting 32 rfl) c1 ?_
    refine K_iload 6 (kdA dt_MX11_lasting 33 rfl) rfl ?_
    obtain ⟨c2, h⟩ := h
    obtain ⟨c3, h⟩ := h
    refine K_aaload (kdA dt_MX11_lasting 34 rfl) (by decide) c2 c3.1 c3.2 ?_
    refine K_iload_n 1 (kdA dt_MX11_lasting 35 rfl) rfl rfl ?_
    refine K_iload_n 2 (kdA dt_MX11_lasting 36 rfl) rfl rfl ?_
    refine K_iload_n 3 (kdA dt_MX11_lasting 37 rfl) rfl rfl ?_
    refine K_iload 4 (kdA dt_MX11_lasting 38 rfl) rfl ?_
    refine K_iload 5 (kdA dt_MX11_lasting 39 rfl) rfl ?_
    refine K_cVi (c := 11) (as := [(2, (σ (σ a0 1) a6)), (0, a1), (0, a2), (0, a3), (0, a4), (0, a5)]) (st := []) (kdA dt_MX11_lasting 40 rfl) rfl cl_MX11_goes lk11_186 rfl rfl (Nat.le_of_ble_eq_true rfl) c1 (Ci.mono h (fun x4 s1 h => ?_))
    refine K_pop (kdA dt_MX11_lasting 41 rfl) rfl ?_
    refine K_aload_n 0 (kdA dt_MX11_lasting 42 rfl) rfl rfl ?_
    refine gf11_64 rfl (kdA dt_MX11_lasting 43 rfl) c1 ?_
    obtain ⟨c5, h⟩ := h
    refine gf11_390 rfl (kdA dt_MX11_lasting 44 rfl) c5 ?_
    refine K_aload_n 0 (kdA dt_MX11_lasting 45 rfl) rfl rfl ?_
    refine gf11_64 rfl (kdA dt_MX11_lasting 46 rfl) c1 ?_
    refine gf11_193 rfl (kdA dt_MX11_lasting 47 rfl) c5 ?_
    obtain ⟨c6, h⟩ := h
    refine K_cVv (c := 8) (as := [(2, (s1 (s1 a0 14) 13))]) (st := []) (kdA dt_MX11_lasting 48 rfl) rfl cl_MX8_keepThoseIn lk11_396 rfl rfl (Nat.le_of_ble_eq_true rfl) c6 (Cv.mono h (fun s2 h => ?_))
    obtain ⟨c8, h⟩ := h
    refine K_iinc (ls' := [(0, (2, a0)), (1, (0, a1)), (2, (0, a2)), (3, (0, a3)), (4, (0, a4)), (5, (0, a5)), (6, (0, (a6 + 1)))]) 6 (kdA dt_MX11_lasting 49 rfl) rfl c8 (by decide) rfl ?_
    refine K_goto (tgt := 49) (kdA dt_MX11_lasting 50 rfl) rfl ?_
    exact h
theorem EX11_lasting {d n : Nat} {Q : Int → kS → Prop} {a0 a1 a2 a3 a4 a5 : Int} {σ : kS} (h : (-2147483648 ≤ a1 ∧ a1 ≤ 2147483647) → (-2147483648 ≤ a2 ∧ a2 ≤ 2147483647) → (-2147483648 ≤ a3 ∧ a3 ≤ 2147483647) → (-2147483648 ≤ a4 ∧ a4 ≤ 2147483647) → (-2147483648 ≤ a5 ∧ a5 ≤ 2147483647) → kokw n σ → LX11_lasting_0 d n Q a0 a1 a2 a3 a4 a5 σ) : Ci (d + 1) MX11_lasting [(2, a0), (0, a1), (0, a2), (0, a3), (0, a4), (0, a5)] n σ Q := Tri_of (by decide +kernel) (Nat.le_of_ble_eq_true rfl) (fun hk hw => h (hk (0, a1) (List.mem_of_getElem? (i := 1) rfl)) (hk (0, a2) (List.mem_of_getElem? (i := 2) rfl)) (hk (0, a3) (List.mem_of_getElem? (i := 3) rfl)) (hk (0, a4) (List.mem_of_getElem? (i := 4) rfl)) (hk (0, a5) (List.mem_of_getElem? (i := 5) rfl)) hw)

def LX11_lies_0 (d n : Nat) (Q : Int → kS → Prop) (a0 : Int) (a1 : Int) (a2 : Int) (a3 : Int) (σ : kS) : Prop := K (d + 1) MX11_lies (kPi n Q) (0, 0) 0 [(0, (2, a0)), (1, (0, a1)), (2, (0, a2)), (3, (0, a3))] [] n σ
def LX11_lies_19 (d n : Nat) (Q : Int → kS → Prop) (a0 : Int) (a1 : Int) (a3 : Int) (a4 : Int) (a5 : Int) (σ : kS) : Prop := K (d + 1) MX11_lies (kPi n Q) (0, 0) 19 [(0, (2, a0)), (1, (0, a1)), (3, (0, a3)), (4, (0, a4)), (5, (0, a5))] [] n σ
theorem SX11_lies_0 {d n : Nat} {Q : Int → kS → Prop} {a0 a1 a2 a3 : Int} {σ : kS} (h : ((0 : Int) ≤ a2 ∧ a2 < 8) ∧ ((-2147483648 ≤ ((kSouth.getD (Int.toNat a2) 0) * 12) ∧ ((kSouth.getD (Int.toNat a2) 0) * 12) ≤ 2147483647) ∧ ((-2147483648 ≤ (((kSouth.getD (Int.toNat a2) 0) * 12) + (kEast.getD (Int.toNat a2) 0)) ∧ (((kSouth.getD (Int.toNat a2) 0) * 12) + (kEast.getD (Int.toNat a2) 0)) ≤ 2147483647) ∧ (LX11_lies_19 d n Q a0 a1 a3 (((kSouth.getD (Int.toNat a2) 0) * 12) + (kEast.getD (Int.toNat a2) 0)) 0 σ)))) : LX11_lies_0 d n Q a0 a1 a2 a3 σ := by
  unfold LX11_lies_0
  refine K_gsS (kdA dt_MX11_lies 0 rfl) (tb1 141 rfl rfl) ?_
  refine K_iload_n 2 (kdA dt_MX11_lies 1 rfl) rfl rfl ?_
  obtain ⟨c1, h⟩ := h
  refine K_ialS (kdA dt_MX11_lies 2 rfl) c1.1 c1.2 ?_
  refine K_bipush (kdA dt_MX11_lies 3 rfl) (by decide +kernel) ?_
  obtain ⟨c2, h⟩ := h
  refine K_imul (kdA dt_MX11_lies 4 rfl) c2 ?_
  refine K_gsE (kdA dt_MX11_lies 5 rfl) (tb1 139 rfl rfl) ?_
  refine K_iload_n 2 (kdA dt_MX11_lies 6 rfl) rfl rfl ?_
  refine K_ialE (kdA dt_MX11_lies 7 rfl) c1.1 c1.2 ?_
  obtain ⟨c3, h⟩ := h
  refine K_iadd (kdA dt_MX11_lies 8 rfl) c3 ?_
  refine K_istore (ls' := [(0, (2, a0)), (1, (0, a1)), (2, (0, a2)), (3, (0, a3)), (4, (0, (((kSouth.getD (Int.toNat a2) 0) * 12) + (kEast.getD (Int.toNat a2) 0))))]) (kdA dt_MX11_lies 9 rfl) (by decide) rfl ?_
  refine K_iconst (kdA dt_MX11_lies 10 rfl) (by decide) ?_
  refine K_istore (ls' := [(0, (2, a0)), (1, (0, a1)), (2, (0, a2)), (3, (0, a3)), (4, (0, (((kSouth.getD (Int.toNat a2) 0) * 12) + (kEast.getD (Int.toNat a2) 0)))), (5, (0, 0))]) (kdA dt_MX11_lies 11 rfl) (by decide) rfl ?_
  refine K_pick [0, 1, 3, 4, 5] (ls' := [(0, (2, a0)), (1, (0, a1)), (3, (0, a3)), (4, (0, (((kSouth.getD (Int.toNat a2) 0) * 12) + (kEast.getD (Int.toNat a2) 0)))), (5, (0, 0))]) rfl ?_
  exact h
theorem SX11_lies_19 {d n : Nat} {Q : Int → kS → Prop} {a0 a1 a3 a4 a5 : Int} {σ : kS} (h : (a3 ≤ a5 → Q 1 σ) ∧ (¬ a3 ≤ a5 → (-2147483648 ≤ (a4 * a5) ∧ (a4 * a5) ≤ 2147483647) ∧ ((-2147483648 ≤ (a1 + (a4 * a5)) ∧ (a1 + (a4 * a5)) ≤ 2147483647) ∧ (isO 8 n a0 ∧ (Ci d MX8_has [(2, a0), (0, (a1 + (a4 * a5)))] n σ (fun x4 s1 => (¬ x4 = 0 → (-2147483648 ≤ (a5 + 1) ∧ (a5 + 1) ≤ 2147483647) ∧ (LX11_lies_19 d n Q a0 a1 a3 a4 (a5 + 1) s1)) ∧ (¬ (¬ x4 = 0) → Q 0 s1))))))) : LX11_lies_19 d n Q a0 a1 a3 a4 a5 σ := by
  unfold LX11_lies_19
  refine K_iload 4 (kdA dt_MX11_lies 12 rfl) rfl ?_
  refine K_iload_n 2 (kdA dt_MX11_lies 13 rfl) rfl rfl ?_
  refine K_icmp_ge (tgt := 47) (kdA dt_MX11_lies 14 rfl) rfl (fun c => ?_) (fun c => ?_)
  · have h := h.1 c
    refine K_iconst (kdA dt_MX11_lies 27 rfl) (by decide) ?_
    exact K_zreturn (kdA dt_MX11_lies 28 rfl) rfl (Or.inr rfl) ⟨rfl, _, rfl, h⟩
  · have h := h.2 c
    refine K_aload_n 0 (kdA dt_MX11_lies 15 rfl) rfl rfl ?_
    refine K_iload_n 1 (kdA dt_MX11_lies 16 rfl) rfl rfl ?_
    refine K_iload 3 (kdA dt_MX11_lies 17 rfl) rfl ?_
    refine K_iload 4 (kdA dt_MX11_lies 18 rfl) rfl ?_
    obtain ⟨c1, h⟩ := h
    refine K_imul (kdA dt_MX11_lies 19 rfl) c1 ?_
    obtain ⟨c2, h⟩ := h
    refine K_iadd (kdA dt_MX11_lies 20 rfl) c2 ?_
    obtain ⟨c3, h⟩ := h
    refine K_cVi (c := 8) (as := [(0, (a1 + (a4 * a5)))]) (st := []) (kdA dt_MX11_lies 21 rfl) rfl cl_MX8_has lk11_124 rfl rfl (Nat.le_of_ble_eq_true rfl) c3 (Ci.mono h (fun x4 s1 h => ?_))
    refine K_if_ne (tgt := 41) (kdA dt_MX11_lies 22 rfl) rfl (fun c => ?_) (fun c => ?_)
    · have h := h.1 c
      obtain ⟨c5, h⟩ := h
      refine K_iinc (ls' := [(0, (2, a0)), (1, (0, a1)), (3, (0, a3)), (4, (0, a4)), (5, (0, (a5 + 1)))]) 4 (kdA dt_MX11_lies 25 rfl) rfl c5 (by decide) rfl ?_
      refine K_goto (tgt := 19) (kdA dt_MX11_lies 26 rfl) rfl ?_
      exact h
    · have h := h.2 c
      refine K_iconst (kdA dt_MX11_lies 23 rfl) (by decide) ?_
      exact K_zreturn (kdA dt_MX11_lies 24 rfl) rfl (Or.inl rfl) ⟨rfl, _, rfl, h⟩
theorem EX11_lies {d n : Nat} {Q : Int → kS → Prop} {a0 a1 a2 a3 : Int} {σ : kS} (h : (-2147483648 ≤ a1 ∧ a1 ≤ 2147483647) → (-2147483648 ≤ a2 ∧ a2 ≤ 2147483647) → (-2147483648 ≤ a3 ∧ a3 ≤ 2147483647) → kokw n σ → LX11_lies_0 d n Q a0 a1 a2 a3 σ) : Ci (d + 1) MX11_lies [(2, a0), (0, a1), (0, a2), (0, a3)] n σ Q := Tri_of (by decide +kernel) (Nat.le_of_ble_eq_true rfl) (fun hk hw => h (hk (0, a1) (List.mem_of_getElem? (i := 1) rfl)) (hk (0, a2) (List.mem_of_getElem? (i := 2) rfl)) (hk (0, a3) (List.mem_of_getElem? (i := 3) rfl)) hw)

def LX11_line_0 (d n : Nat) (Q : Int → kS → Prop) (a0 : Int) (a1 : Int) (a2 : Int) (σ : kS) : Prop := K (d + 1) MX11_line (kPi n Q) (0, 0) 0 [(0, (2, a0)), (1, (0, a1)), (2, (0, a2))] [] n σ
theorem SX11_line_0 {d n : Nat} {Q : Int → kS → Prop} {a0 a1 a2 : Int} {σ : kS} (h : isO 11 n a0 ∧ (Ci d MX11_isLine [(2, a0), (0, a1)] n σ (fun x2 s1 => (¬ x2 = 0 → (¬ a2 = (-1) → isA 28 n (s1 a0 10) ∧ (((0 : Int) ≤ a1 ∧ a1 < klen (s1 a0 10)) ∧ (isO 8 n (s1 (s1 a0 10) a1) ∧ (Ci d MX8_at [(2, (s1 (s1 a0 10) a1)), (0, a2)] n s1 (fun x6 s2 => Q x6 s2))))) ∧ (¬ (¬ a2 = (-1)) → isA 28 n (s1 a0 10) ∧ (((0 : Int) ≤ a1 ∧ a1 < klen (s1 a0 10)) ∧ (isO 8 n (s1 (s1 a0 10) a1) ∧ (Q (s1 (s1 (s1 a0 10) a1) 1) s1))))) ∧ (¬ (¬ x2 = 0) → Q (-1) s1)))) : LX11_line_0 d n Q a0 a1 a2 σ := by
  unfold LX11_line_0
  refine K_aload_n 0 (kdA dt_MX11_line 0 rfl) rfl rfl ?_
  refine K_iload_n 1 (kdA dt_MX11_line 1 rfl) rfl rfl ?_
  obtain ⟨c1, h⟩ := h
  refine K_cVi (c := 11) (as := [(0, a1)]) (st := []) (kdA dt_MX11_line 2 rfl) rfl cl_MX11_isLine lk11_233 rfl rfl (Nat.le_of_ble_eq_true rfl) c1 (Ci.mono h (fun x2 s1 h => ?_))
  refine K_if_ne (tgt := 10) (kdA dt_MX11_line 3 rfl) rfl (fun c => ?_) (fun c => ?_)
  · have h := h.1 c
    refine K_iload_n 2 (kdA dt_MX11_line 6 rfl) rfl rfl ?_
    refine K_iconst (kdA dt_MX11_line 7 rfl) (by decide) ?_
    refine K_icmp_ne (tgt := 27) (kdA dt_MX11_line 8 rfl) rfl (fun c => ?_) (fun c => ?_)
    · have h := h.1 c
      refine K_aload_n 0 (kdA dt_MX11_line 15 rfl) rfl rfl ?_
      refine gf11_51 rfl (kdA dt_MX11_line 16 rfl) c1 ?_
      refine K_iload_n 1 (kdA dt_MX11_line 17 rfl) rfl rfl ?_
      obtain ⟨c3, h⟩ := h
      obtain ⟨c4, h⟩ := h
      refine K_aaload (kdA dt_MX11_line 18 rfl) (by decide) c3 c4.1 c4.2 ?_
      refine K_iload_n 2 (kdA dt_MX11_line 19 rfl) rfl rfl ?_
      obtain ⟨c5, h⟩ := h
      refine K_cVi (c := 8) (as := [(0, a2)]) (st := []) (kdA dt_MX11_line 20 rfl) rfl cl_MX8_at lk11_196 rfl rfl (Nat.le_of_ble_eq_true rfl) c5 (Ci.mono h (fun x6 s2 h => ?_))
      exact K_ireturn (kdA dt_MX11_line 21 rfl) rfl ⟨rfl, _, rfl, h⟩
    · have h := h.2 c
      refine K_aload_n 0 (kdA dt_MX11_line 9 rfl) rfl rfl ?_
      refine gf11_51 rfl (kdA dt_MX11_line 10 rfl) c1 ?_
      refine K_iload_n 1 (kdA dt_MX11_line 11 rfl) rfl rfl ?_
      obtain ⟨c3, h⟩ := h
      obtain ⟨c4, h⟩ := h
      refine K_aaload (kdA dt_MX11_line 12 rfl) (by decide) c3 c4.1 c4.2 ?_
      obtain ⟨c5, h⟩ := h
      refine gf11_130 rfl (kdA dt_MX11_line 13 rfl) c5 ?_
      refine K_goto (tgt := 37) (kdA dt_MX11_line 14 rfl) rfl ?_
      exact K_ireturn (kdA dt_MX11_line 21 rfl) rfl ⟨rfl, _, rfl, h⟩
  · have h := h.2 c
    refine K_iconst (kdA dt_MX11_line 4 rfl) (by decide) ?_
    exact K_ireturn (kdA dt_MX11_line 5 rfl) rfl ⟨rfl, _, rfl, h⟩
theorem EX11_line {d n : Nat} {Q : Int → kS → Prop} {a0 a1 a2 : Int} {σ : kS} (h : (-2147483648 ≤ a1 ∧ a1 ≤ 2147483647) → (-2147483648 ≤ a2 ∧ a2 ≤ 2147483647) → kokw n σ → LX11_line_0 d n Q a0 a1 a2 σ) : Ci (d + 1) MX11_line [(2, a0), (0, a1), (0, a2)] n σ Q := Tri_of (by decide +kernel) (Nat.le_of_ble_eq_true rfl) (fun hk hw => h (hk (0, a1) (List.mem_of_getElem? (i := 1) rfl)) (hk (0, a2) (List.mem_of_getElem? (i := 2) rfl)) hw)

def LX11_lineAt_0 (d n : Nat) (Q : Int → kS → Prop) (a0 : Int) (a1 : Int) (σ : kS) : Prop := K (d + 1) MX11_lineAt (kPi n Q) (0, 0) 0 [(0, (2, a0)), (1, (0, a1))] [] n σ
theorem SX11_lineAt_0 {d n : Nat} {Q : Int → kS → Prop} {a0 a1 : Int} {σ : kS} (h : isO 11 n a0 ∧ ((10 ≤ (σ a0 11) → Q (-1) σ) ∧ (¬ 10 ≤ (σ a0 11) → Ci d MX11_isCell [(0, a1)] n σ (fun x2 s1 => (¬ x2 = 0 → isO 9 n (s1 a0 15) ∧ (Cv d MX9_hopStraight [(2, (s1 a0 15)), (0, a1), (0, a1)] n s1 (fun s2 => isO 9 n (s2 a0 15) ∧ (Ci d MX11_keepLine [(2, a0), (2, (s2 (s2 a0 15) 2))] n s2 (fun x6 s3 => Q x6 s3))))) ∧ (¬ (¬ x2 = 0) → Q (-1) s1))))) : LX11_lineAt_0 d n Q a0 a1 σ := by
  unfold LX11_lineAt_0
  refine K_aload_n 0 (kdA dt_MX11_lineAt 0 rfl) rfl rfl ?_
  obtain ⟨c1, h⟩ := h
  refine gf11_216 rfl (kdA dt_MX11_lineAt 1 rfl) c1 ?_
  refine K_bipush (kdA dt_MX11_lineAt 2 rfl) (by decide +kernel) ?_
  refine K_icmp_ge (tgt := 16) (kdA dt_MX11_lineAt 3 rfl) rfl (fun c => ?_) (fun c => ?_)
  · have h := h.1 c
    refine K_iconst (kdA dt_MX11_lineAt 7 rfl) (by decide) ?_
    exact K_ireturn (kdA dt_MX11_lineAt 8 rfl) rfl ⟨rfl, _, rfl, h⟩
  · have h := h.2 c
    refine K_iload_n 1 (kdA dt_MX11_lineAt 4 rfl) rfl rfl ?_
    refine K_cSi (as := [(0, a1)]) (st := []) (kdA dt_MX11_lineAt 5 rfl) cl_MX11_isCell lk11_117 rfl rfl (Nat.le_of_ble_eq_true rfl) (Ci.mono h (fun x2 s1 h => ?_))
    refine K_if_ne (tgt := 18) (kdA dt_MX11_lineAt 6 rfl) rfl (fun c => ?_) (fun c => ?_)
    · have h := h.1 c
      refine K_aload_n 0 (kdA dt_MX11_lineAt 9 rfl) rfl rfl ?_
      refine gf11_71 rfl (kdA dt_MX11_lineAt 10 rfl) c1 ?_
      refine K_iload_n 1 (kdA dt_MX11_lineAt 11 rfl) rfl rfl ?_
      refine K_iload_n 1 (kdA dt_MX11_lineAt 12 rfl) rfl rfl ?_
      obtain ⟨c3, h⟩ := h
      refine K_cVv (c := 9) (as := [(0, a1), (0, a1)]) (st := []) (kdA dt_MX11_lineAt 13 rfl) rfl cl_MX9_hopStraight lk11_223 rfl rfl (Nat.le_of_ble_eq_true rfl) c3 (Cv.mono h (fun s2 h => ?_))
      refine K_aload_n 0 (kdA dt_MX11_lineAt 14 rfl) rfl rfl ?_
      refine K_aload_n 0 (kdA dt_MX11_lineAt 15 rfl) rfl rfl ?_
      refine gf11_71 rfl (kdA dt_MX11_lineAt 16 rfl) c1 ?_
      obtain ⟨c5, h⟩ := h
      refine gf11_215 rfl (kdA dt_MX11_lineAt 17 rfl) c5 ?_
      refine K_cVi (c := 11) (as := [(2, (s2 (s2 a0 15) 2))]) (st := []) (kdA dt_MX11_lineAt 18 rfl) rfl cl_MX11_keepLine lk11_219 rfl rfl (Nat.le_of_ble_eq_true rfl) c1 (Ci.mono h (fun x6 s3 h => ?_))
      exact K_ireturn (kdA dt_MX11_lineAt 19 rfl) rfl ⟨rfl, _, rfl, h⟩
    · have h := h.2 c
      refine K_iconst (kdA dt_MX11_lineAt 7 rfl) (by decide) ?_
      exact K_ireturn (kdA dt_MX11_lineAt 8 rfl) rfl ⟨rfl, _, rfl, h⟩
theorem EX11_lineAt {d n : Nat} {Q : Int → kS → Prop} {a0 a1 : Int} {σ : kS} (h : (-2147483648 ≤ a1 ∧ a1 ≤ 2147483647) → kokw n σ → LX11_lineAt_0 d n Q a0 a1 σ) : Ci (d + 1) MX11_lineAt [(2, a0), (0, a1)] n σ Q := Tri_of (by decide +kernel) (Nat.le_of_ble_eq_true rfl) (fun hk hw => h (hk (0, a1) (List.mem_of_getElem? (i := 1) rfl)) hw)

def LX11_lineOfSight_0 (d n : Nat) (Q : Int → kS → Prop) (a0 : Int) (a1 : Int) (a2 : Int) (a3 : Int) (σ : kS) : Prop := K (d + 1) MX11_lineOfSight (kPi n Q) (0, 0) 0 [(0, (2, a0)), (1, (0, a1)), (2, (0, a2)), (3, (0, a3))] [] n σ
theorem SX11_lineOfSight_0 {d n : Nat} {Q : Int → kS → Prop} {a0 a1 a2 a3 : Int} {σ : kS} (h : isO 11 n a0 ∧ ((10 ≤ (σ a0 11) → Q (-1) σ) ∧ (¬ 10 ≤ (σ a0 11) → Ci d MX11_isCell [(0, a1)] n σ (fun x2 s1 => (x2 = 0 → Q (-1) s1) ∧ (¬ x2 = 0 → Ci d MX11_isCell [(0, a2)] n s1 (fun x3 s2 => (¬ x3 = 0 → (¬ a3 = 0 → Ci d MX11_looks [(2, a0), (0, a1), (0, a2), (0, a3)] n s2 (fun x4 s3 => (¬ x4 = 0 → isO 9 n (s3 a0 15) ∧ (Cv d MX9_trace [(2, (s3 a0 15))] n s3 (fun s4 => isO 9 n (s4 a0 15) ∧ (Ci d MX11_keepLine [(2, a0), (2, (s4 (s4 a0 15) 3))] n s4 (fun x8 s5 => Q x8 s5))))) ∧ (¬ (¬ x4 = 0) → Q (-1) s3))) ∧ (¬ (¬ a3 = 0) → isO 9 n (s2 a0 15) ∧ (Cv d MX9_hopStraight [(2, (s2 a0 15)), (0, a1), (0, a2)] n s2 (fun s3 => isO 9 n (s3 a0 15) ∧ (Cv d MX9_trace [(2, (s3 a0 15))] n s3 (fun s4 => isO 9 n (s4 a0 15) ∧ (Ci d MX11_keepLine [(2, a0), (2, (s4 (s4 a0 15) 3))] n s4 (fun x9 s5 => Q x9 s5)))))))) ∧ (¬ (¬ x3 = 0) → Q (-1) s2))))))) : LX11_lineOfSight_0 d n Q a0 a1 a2 a3 σ := by
  unfold LX11_lineOfSight_0
  refine K_aload_n 0 (kdA dt_MX11_lineOfSight 0 rfl) rfl rfl ?_
  obtain ⟨c1, h⟩ := h
  refine gf11_216 rfl (kdA dt_MX11_lineOfSight 1 rfl) c1 ?_
  refine K_bipush (kdA dt_MX11_lineOfSight 2 rfl) (by decide +kernel) ?_
  refine K_icmp_ge (tgt := 23) (kdA dt_MX11_lineOfSight 3 rfl) rfl (fun c => ?_) (fun c => ?_)
  · have h := h.1 c
    refine K_iconst (kdA dt_MX11_lineOfSight 10 rfl) (by decide) ?_
    exact K_ireturn (kdA dt_MX11_lineOfSight 11 rfl) rfl ⟨rfl, _, rfl, h⟩
  · have h := h.2 c
    refine K_iload_n 1 (kdA dt_MX11_lineOfSight 4 rfl) rfl rfl ?_
    refine K_cSi (as := [(0, a1)]) (st := []) (kdA dt_MX11_lineOfSight 5 rfl) cl_MX11_isCell lk11_117 rfl rfl (Nat.le_of_ble_eq_true rfl) (Ci.mono h (fun x2 s1 h => ?_))
    refine K_if_eq (tgt := 23) (kdA dt_MX11_lineOfSight 6 rfl) rfl (fun c => ?_) (fun c => ?_)
    · have h := h.1 c
      refine K_iconst (kdA dt_MX11_lineOfSight 10 rfl) (by decide) ?_
      exact K_ireturn (kdA dt_MX11_lineOfSight 11 rfl) rfl ⟨rfl, _, rfl, h⟩
    · have h := h.2 c
      refine K_iload_n 2 (kdA dt_MX11_lineOfSight 7 rfl) rfl rfl ?_
      refine K_cSi (as := [(0, a2)]) (st := []) (kdA dt_MX11_lineOfSight 8 rfl) cl_MX11_isCell lk11_117 rfl rfl (Nat.le_of_ble_eq_true rfl) (Ci.mono h (fun x3 s2 h => ?_))
      refine K_if_ne (tgt := 25) (kdA dt_MX11_lineOfSight 9 rfl) rfl (fun c => ?_) (fun c => ?_)
      · have h := h.1 c
        refine K_iload_n 3 (kdA dt_MX11_lineOfSight 12 rfl) rfl rfl ?_
        refine K_if_ne (tgt := 41) (kdA dt_MX11_lineOfSight 13 rfl) rfl (fun c => ?_) (fun c => ?_)
        · have h := h.1 c
          refine K_aload_n 0 (kdA dt_MX11_lineOfSight 20 rfl) rfl rfl ?_
          refine K_iload_n 1 (kdA dt_MX11_lineOfSight 21 rfl) rfl rfl ?_
          refine K_iload_n 2 (kdA dt_MX11_lineOfSight 22 rfl) rfl rfl ?_
          refine K_iload_n 3 (kdA dt_MX11_lineOfSight 23 rfl) rfl rfl ?_
          refine K_cVi (c := 11) (as := [(0, a1), (0, a2), (0, a3)]) (st := []) (kdA dt_MX11_lineOfSight 24 rfl) rfl cl_MX11_looks lk11_211 rfl rfl (Nat.le_of_ble_eq_true rfl) c1 (Ci.mono h (fun x4 s3 h => ?_))
          refine K_if_ne (tgt := 53) (kdA dt_MX11_lineOfSight 25 rfl) rfl (fun c => ?_) (fun c => ?_)
          · have h := h.1 c
            refine K_aload_n 0 (kdA dt_MX11_lineOfSight 28 rfl) rfl rfl ?_
            refine gf11_71 rfl (kdA dt_MX11_lineOfSight 29 rfl) c1 ?_
            obtain ⟨c5, h⟩ := h
            refine K_cVv (c := 9) (as := []) (st := []) (kdA dt_MX11_lineOfSight 30 rfl) rfl cl_MX9_trace lk11_227 rfl rfl (Nat.le_of_ble_eq_true rfl) c5 (Cv.mono h (fun s4 h => ?_))
            refine K_aload_n 0 (kdA dt_MX11_lineOfSight 31 rfl) rfl rfl ?_
            refine K_aload_n 0 (kdA dt_MX11_lineOfSight 32 rfl) rfl rfl ?_
            refine gf11_71 rfl (kdA dt_MX11_lineOfSight 33 rfl) c1 ?_
            obtain ⟨c7, h⟩ := h
            refine gf11_230 rfl (kdA dt_MX11_lineOfSight 34 rfl) c7 ?_
            refine K_cVi (c := 11) (as := [(2, (s4 (s4 a0 15) 3))]) (st := []) (kdA dt_MX11_lineOfSight 35 rfl) rfl cl_MX11_keepLine lk11_219 rfl rfl (Nat.le_of_ble_eq_true rfl) c1 (Ci.mono h (fun x8 s5 h => ?_))
            exact K_ireturn (kdA dt_MX11_lineOfSight 36 rfl) rfl ⟨rfl, _, rfl, h⟩
          · have h := h.2 c
            refine K_iconst (kdA dt_MX11_lineOfSight 26 rfl) (by decide) ?_
            exact K_ireturn (kdA dt_MX11_lineOfSight 27 rfl) rfl ⟨rfl, _, rfl, h⟩
        · have h := h.2 c
          refine K_aload_n 0 (kdA dt_MX11_lineOfSight 14 rfl) rfl rfl ?_
          refine gf11_71 rfl (kdA dt_MX11_lineOfSight 15 rfl) c1 ?_
          refine K_iload_n 1 (kdA dt_MX11_lineOfSight 16 rfl) rfl rfl ?_
          refine K_iload_n 2 (kdA dt_MX11_lineOfSight 17 rfl) rfl rfl ?_
          obtain ⟨c4, h⟩ := h
          refine K_cVv (c := 9) (as := [(0, a1), (0, a2)]) (st := []) (kdA dt_MX11_lineOfSight 18 rfl) rfl cl_MX9_hopStraight lk11_223 rfl rfl (Nat.le_of_ble_eq_true rfl) c4 (Cv.mono h (fun s3 h => ?_))
          refine K_goto (tgt := 53) (kdA dt_MX11_lineOfSight 19 rfl) rfl ?_
          refine K_aload_n 0 (kdA dt_MX11_lineOfSight 28 rfl) rfl rfl ?_
          refine gf11_71 rfl (kdA dt_MX11_lineOfSight 29 rfl) c1 ?_
          obtain ⟨c6, h⟩ := h
          refine K_cVv (c := 9) (as := []) (st := []) (kdA dt_MX11_lineOfSight 30 rfl) rfl cl_MX9_trace lk11_227 rfl rfl (Nat.le_of_ble_eq_true rfl) c6 (Cv.mono h (fun s4 h => ?_))
          refine K_aload_n 0 (kdA dt_MX11_lineOfSight 31 rfl) rfl rfl ?_
          refine K_aload_n 0 (kdA dt_MX11_lineOfSight 32 rfl) rfl rfl ?_
          refine gf11_71 rfl (kdA dt_MX11_lineOfSight 33 rfl) c1 ?_
          obtain ⟨c8, h⟩ := h
          refine gf11_230 rfl (kdA dt_MX11_lineOfSight 34 rfl) c8 ?_
          refine K_cVi (c := 11) (as := [(2, (s4 (s4 a0 15) 3))]) (st := []) (kdA dt_MX11_lineOfSight 35 rfl) rfl cl_MX11_keepLine lk11_219 rfl rfl (Nat.le_of_ble_eq_true rfl) c1 (Ci.mono h (fun x9 s5 h => ?_))
          exact K_ireturn (kdA dt_MX11_lineOfSight 36 rfl) rfl ⟨rfl, _, rfl, h⟩
      · have h := h.2 c
        refine K_iconst (kdA dt_MX11_lineOfSight 10 rfl) (by decide) ?_
        exact K_ireturn (kdA dt_MX11_lineOfSight 11 rfl) rfl ⟨rfl, _, rfl, h⟩
theorem EX11_lineOfSight {d n : Nat} {Q : Int → kS → Prop} {a0 a1 a2 a3 : Int} {σ : kS} (h : (-2147483648 ≤ a1 ∧ a1 ≤ 2147483647) → (-2147483648 ≤ a2 ∧ a2 ≤ 2147483647) → (-2147483648 ≤ a3 ∧ a3 ≤ 2147483647) → kokw n σ → LX11_lineOfSight_0 d n Q a0 a1 a2 a3 σ) : Ci (d + 1) MX11_lineOfSight [(2, a0), (0, a1), (0, a2), (0, a3)] n σ Q := Tri_of (by decide +kernel) (Nat.le_of_ble_eq_true rfl) (fun hk hw => h (hk (0, a1) (List.mem_of_getElem? (i := 1) rfl)) (hk (0, a2) (List.mem_of_getElem? (i := 2) rfl)) (hk (0, a3) (List.mem_of_getElem? (i := 3) rfl)) hw)

def LX11_lineOfWay_0 (d n : Nat) (Q : Int → kS → Prop) (a0 : Int) (a1 : Int) (a2 : Int) (a3 : Int) (a4 : Int) (a5 : Int) (σ : kS) : Prop := K (d + 1) MX11_lineOfWay (kPi n Q) (0, 0) 0 [(0, (2, a0)), (1, (0, a1)), (2, (0, a2)), (3, (0, a3)), (4, (0, a4)), (5, (0, a5))] [] n σ
theorem SX11_lineOfWay_0 {d n : Nat} {Q : Int → kS → Prop} {a0 a1 a2 a3 a4 a5 : Int} {σ : kS} (h : isO 11 n a0 ∧ ((10 ≤ (σ a0 11) → Q (-1) σ) ∧ (¬ 10 ≤ (σ a0 11) → Ci d MX11_goes [(2, a0), (2, (σ a0 0)), (0, a1), (0, a2), (0, a3), (0, a4), (0, a5)] n σ (fun x2 s1 => (¬ x2 = 0 → isO 10 n (s1 a0 14) ∧ (Ci d MX11_keepLine [(2, a0), (2, (s1 (s1 a0 14) 13))] n s1 (fun x4 s2 => Q x4 s2))) ∧ (¬ (¬ x2 = 0) → Q (-1) s1))))) : LX11_lineOfWay_0 d n Q a0 a1 a2 a3 a4 a5 σ := by
  unfold LX11_lineOfWay_0
  refine K_aload_n 0 (kdA dt_MX11_lineOfWay 0 rfl) rfl rfl ?_
  obtain ⟨c1, h⟩ := h
  refine gf11_216 rfl (kdA dt_MX11_lineOfWay 1 rfl) c1 ?_
  refine K_bipush (kdA dt_MX11_lineOfWay 2 rfl) (by decide +kernel) ?_
  refine K_icmp_ge (tgt := 27) (kdA dt_MX11_lineOfWay 3 rfl) rfl (fun c => ?_) (fun c => ?_)
  · have h := h.1 c
    refine K_iconst (kdA dt_MX11_lineOfWay 14 rfl) (by decide) ?_
    exact K_ireturn (kdA dt_MX11_lineOfWay 15 rfl) rfl ⟨rfl, _, rfl, h⟩
  · have h := h.2 c
    refine K_aload_n 0 (kdA dt_MX11_lineOfWay 4 rfl) rfl rfl ?_
    refine K_aload_n 0 (kdA dt_MX11_lineOfWay 5 rfl) rfl rfl ?_
    refine gf11_10 rfl (kdA dt_MX11_lineOfWay 6 rfl) c1 ?_
    refine K_iload_n 1 (kdA dt_MX11_lineOfWay 7 rfl) rfl rfl ?_
    refine K_iload_n 2 (kdA dt_MX11_lineOfWay 8 rfl) rfl rfl ?_
    refine K_iload_n 3 (kdA dt_MX11_lineOfWay 9 rfl) rfl rfl ?_
    refine K_iload 4 (kdA dt_MX11_lineOfWay 10 rfl) rfl ?_
    refine K_iload 5 (kdA dt_MX11_lineOfWay 11 rfl) rfl ?_
    refine K_cVi (c := 11) (as := [(2, (σ a0 0)), (0, a1), (0, a2), (0, a3), (0, a4), (0, a5)]) (st := []) (kdA dt_MX11_lineOfWay 12 rfl) rfl cl_MX11_goes lk11_186 rfl rfl (Nat.le_of_ble_eq_true rfl) c1 (Ci.mono h (fun x2 s1 h => ?_))
    refine K_if_ne (tgt := 29) (kdA dt_MX11_lineOfWay 13 rfl) rfl (fun c => ?_) (fun c => ?_)
    · have h := h.1 c
      refine K_aload_n 0 (kdA dt_MX11_lineOfWay 16 rfl) rfl rfl ?_
      refine K_aload_n 0 (kdA dt_MX11_lineOfWay 17 rfl) rfl rfl ?_
      refine gf11_64 rfl (kdA dt_MX11_lineOfWay 18 rfl) c1 ?_
      obtain ⟨c3, h⟩ := h
      refine gf11_193 rfl (kdA dt_MX11_lineOfWay 19 rfl) c3 ?_
      refine K_cVi (c := 11) (as := [(2, (s1 (s1 a0 14) 13))]) (st := []) (kdA dt_MX11_lineOfWay 20 rfl) rfl cl_MX11_keepLine lk11_219 rfl rfl (Nat.le_of_ble_eq_true rfl) c1 (Ci.mono h (fun x4 s2 h => ?_))
      exact K_ireturn (kdA dt_MX11_lineOfWay 21 rfl) rfl ⟨rfl, _, rfl, h⟩
    · have h := h.2 c
      refine K_iconst (kdA dt_MX11_lineOfWay 14 rfl) (by decide) ?_
      exact K_ireturn (kdA dt_MX11_lineOfWay 15 rfl) rfl ⟨rfl, _, rfl, h⟩
theorem EX11_lineOfWay {d n : Nat} {Q : Int → kS → Prop} {a0 a1 a2 a3 a4 a5 : Int} {σ : kS} (h : (-2147483648 ≤ a1 ∧ a1 ≤ 2147483647) → (-2147483648 ≤ a2 ∧ a2 ≤ 2147483647) → (-2147483648 ≤ a3 ∧ a3 ≤ 2147483647) → (-2147483648 ≤ a4 ∧ a4 ≤ 2147483647) → (-2147483648 ≤ a5 ∧ a5 ≤ 2147483647) → kokw n σ → LX11_lineOfWay_0 d n Q a0 a1 a2 a3 a4 a5 σ) : Ci (d + 1) MX11_lineOfWay [(2, a0), (0, a1), (0, a2), (0, a3), (0, a4), (0, a5)] n σ Q := Tri_of (by decide +kernel) (Nat.le_of_ble_eq_true rfl) (fun hk hw => h (hk (0, a1) (List.mem_of_getElem? (i := 1) rfl)) (hk (0, a2) (List.mem_of_getElem? (i := 2) rfl)) (hk (0, a3) (List.mem_of_getElem? (i := 3) rfl)) (hk (0, a4) (List.mem_of_getElem? (i := 4) rfl)) (hk (0, a5) (List.mem_of_getElem? (i := 5) rfl)) hw)

def LX11_looks_0 (d n : Nat) (Q : Int → kS → Prop) (a0 : Int) (a1 : Int) (a2 : Int) (a3 : Int) (σ : kS) : Prop := K (d + 1) MX11_looks (kPi n Q) (0, 0) 0 [(0, (2, a0)), (1, (0, a1)), (2, (0, a2)), (3, (0, a3))] [] n σ
theorem SX11_looks_0 {d n : Nat} {Q : Int → kS → Prop} {a0 a1 a2 a3 : Int} {σ : kS} (h : Ci d MX11_isCell [(0, a1)] n σ (fun x1 s1 => (x1 = 0 → Q 0 s1) ∧ (¬ x1 = 0 → Ci d MX11_isCell [(0, a2)] n s1 (fun x2 s2 => (x2 = 0 → Q 0 s2) ∧ (¬ x2 = 0 → (a3 < 1 → Q 0 s2) ∧ (¬ a3 < 1 → (a3 ≤ 11 → isO 11 n a0 ∧ (isO 9 n (s2 a0 15) ∧ (Ci d MX9_countHops [(2, (s2 a0 15)), (2, (s2 a0 0)), (0, a1), (0, a2), (0, a3)] n s2 (fun x5 s3 => (x5 = 0 → Q 0 s3) ∧ (¬ x5 = 0 → isO 9 n (s3 a0 15) ∧ (Ci d MX9_layHops [(2, (s3 a0 15)), (2, (s3 a0 0)), (0, a1), (0, a2), (0, a3)] n s3 (fun x7 s4 => (x7 = 0 → Q 0 s4) ∧ (¬ x7 = 0 → Q 1 s4)))))))) ∧ (¬ a3 ≤ 11 → Q 0 s2))))))) : LX11_looks_0 d n Q a0 a1 a2 a3 σ := by
  unfold LX11_looks_0
  refine K_iload_n 1 (kdA dt_MX11_looks 0 rfl) rfl rfl ?_
  refine K_cSi (as := [(0, a1)]) (st := []) (kdA dt_MX11_looks 1 rfl) cl_MX11_isCell lk11_117 rfl rfl (Nat.le_of_ble_eq_true rfl) (Ci.mono h (fun x1 s1 h => ?_))
  refine K_if_eq (tgt := 25) (kdA dt_MX11_looks 2 rfl) rfl (fun c => ?_) (fun c => ?_)
  · have h := h.1 c
    refine K_iconst (kdA dt_MX11_looks 12 rfl) (by decide) ?_
    exact K_zreturn (kdA dt_MX11_looks 13 rfl) rfl (Or.inl rfl) ⟨rfl, _, rfl, h⟩
  · have h := h.2 c
    refine K_iload_n 2 (kdA dt_MX11_looks 3 rfl) rfl rfl ?_
    refine K_cSi (as := [(0, a2)]) (st := []) (kdA dt_MX11_looks 4 rfl) cl_MX11_isCell lk11_117 rfl rfl (Nat.le_of_ble_eq_true rfl) (Ci.mono h (fun x2 s2 h => ?_))
    refine K_if_eq (tgt := 25) (kdA dt_MX11_looks 5 rfl) rfl (fun c => ?_) (fun c => ?_)
    · have h := h.1 c
      refine K_iconst (kdA dt_MX11_looks 12 rfl) (by decide) ?_
      exact K_zreturn (kdA dt_MX11_looks 13 rfl) rfl (Or.inl rfl) ⟨rfl, _, rfl, h⟩
    · have h := h.2 c
      refine K_iload_n 3 (kdA dt_MX11_looks 6 rfl) rfl rfl ?_
      refine K_iconst (kdA dt_MX11_looks 7 rfl) (by decide) ?_
      refine K_icmp_lt (tgt := 25) (kdA dt_MX11_looks 8 rfl) rfl (fun c => ?_) (fun c => ?_)
      · have h := h.1 c
        refine K_iconst (kdA dt_MX11_looks 12 rfl) (by decide) ?_
        exact K_zreturn (kdA dt_MX11_looks 13 rfl) rfl (Or.inl rfl) ⟨rfl, _, rfl, h⟩
      · have h := h.2 c
        refine K_iload_n 3 (kdA dt_MX11_looks 9 rfl) rfl rfl ?_
        refine K_bipush (kdA dt_MX11_looks 10 rfl) (by decide +kernel) ?_
        refine K_icmp_le (tgt := 27) (kdA dt_MX11_looks 11 rfl) rfl (fun c => ?_) (fun c => ?_)
        · have h := h.1 c
          refine K_aload_n 0 (kdA dt_MX11_looks 14 rfl) rfl rfl ?_
          obtain ⟨c3, h⟩ := h
          refine gf11_71 rfl (kdA dt_MX11_looks 15 rfl) c3 ?_
          refine K_aload_n 0 (kdA dt_MX11_looks 16 rfl) rfl rfl ?_
          refine gf11_10 rfl (kdA dt_MX11_looks 17 rfl) c3 ?_
          refine K_iload_n 1 (kdA dt_MX11_looks 18 rfl) rfl rfl ?_
          refine K_iload_n 2 (kdA dt_MX11_looks 19 rfl) rfl rfl ?_
          refine K_iload_n 3 (kdA dt_MX11_looks 20 rfl) rfl rfl ?_
          obtain ⟨c4, h⟩ := h
          refine K_cVi (c := 9) (as := [(2, (s2 a0 0)), (0, a1), (0, a2), (0, a3)]) (st := []) (kdA dt_MX11_looks 21 rfl) rfl cl_MX9_countHops lk11_420 rfl rfl (Nat.le_of_ble_eq_true rfl) c4 (Ci.mono h (fun x5 s3 h => ?_))
          refine K_if_eq (tgt := 65) (kdA dt_MX11_looks 22 rfl) rfl (fun c => ?_) (fun c => ?_)
          · have h := h.1 c
            refine K_iconst (kdA dt_MX11_looks 34 rfl) (by decide) ?_
            exact K_zreturn (kdA dt_MX11_looks 35 rfl) rfl (Or.inl rfl) ⟨rfl, _, rfl, h⟩
          · have h := h.2 c
            refine K_aload_n 0 (kdA dt_MX11_looks 23 rfl) rfl rfl ?_
            refine gf11_71 rfl (kdA dt_MX11_looks 24 rfl) c3 ?_
            refine K_aload_n 0 (kdA dt_MX11_looks 25 rfl) rfl rfl ?_
            refine gf11_10 rfl (kdA dt_MX11_looks 26 rfl) c3 ?_
            refine K_iload_n 1 (kdA dt_MX11_looks 27 rfl) rfl rfl ?_
            refine K_iload_n 2 (kdA dt_MX11_looks 28 rfl) rfl rfl ?_
            refine K_iload_n 3 (kdA dt_MX11_looks 29 rfl) rfl rfl ?_
            obtain ⟨c6, h⟩ := h
            refine K_cVi (c := 9) (as := [(2, (s3 a0 0)), (0, a1), (0, a2), (0, a3)]) (st := []) (kdA dt_MX11_looks 30 rfl) rfl cl_MX9_layHops lk11_424 rfl rfl (Nat.le_of_ble_eq_true rfl) c6 (Ci.mono h (fun x7 s4 h => ?_))
            refine K_if_eq (tgt := 65) (kdA dt_MX11_looks 31 rfl) rfl (fun c => ?_) (fun c => ?_)
            · have h := h.1 c
              refine K_iconst (kdA dt_MX11_looks 34 rfl) (by decide) ?_
              exact K_zreturn (kdA dt_MX11_looks 35 rfl) rfl (Or.inl rfl) ⟨rfl, _, rfl, h⟩
            · have h := h.2 c
              refine K_iconst (kdA dt_MX11_looks 32 rfl) (by decide) ?_
              refine K_goto (tgt := 66) (kdA dt_MX11_looks 33 rfl) rfl ?_
              exact K_zreturn (kdA dt_MX11_looks 35 rfl) rfl (Or.inr rfl) ⟨rfl, _, rfl, h⟩
        · have h := h.2 c
          refine K_iconst (kdA dt_MX11_looks 12 rfl) (by decide) ?_
          exact K_zreturn (kdA dt_MX11_looks 13 rfl) rfl (Or.inl rfl) ⟨rfl, _, rfl, h⟩
theorem EX11_looks {d n : Nat} {Q : Int → kS → Prop} {a0 a1 a2 a3 : Int} {σ : kS} (h : (-2147483648 ≤ a1 ∧ a1 ≤ 2147483647) → (-2147483648 ≤ a2 ∧ a2 ≤ 2147483647) → (-2147483648 ≤ a3 ∧ a3 ≤ 2147483647) → kokw n σ → LX11_looks_0 d n Q a0 a1 a2 a3 σ) : Ci (d + 1) MX11_looks [(2, a0), (0, a1), (0, a2), (0, a3)] n σ Q := Tri_of (by decide +kernel) (Nat.le_of_ble_eq_true rfl) (fun hk hw => h (hk (0, a1) (List.mem_of_getElem? (i := 1) rfl)) (hk (0, a2) (List.mem_of_getElem? (i := 2) rfl)) (hk (0, a3) (List.mem_of_getElem? (i := 3) rfl)) hw)

def LX11_meeting_0 (d n : Nat) (Q : Int → kS → Prop) (a0 : Int) (a1 : Int) (a2 : Int) (σ : kS) : Prop := K (d + 1) MX11_meeting (kPi n Q) (0, 0) 0 [(0, (2, a0)), (1, (2, a1)), (2, (0, a2))] [] n σ
def LX11_meeting_8 (d n : Nat) (Q : Int → kS → Prop) (a0 : Int) (a1 : Int) (a2 : Int) (a3 : Int) (a4 : Int) (a5 : Int) (σ : kS) : Prop := K (d + 1) MX11_meeting (kPi n Q) (0, 0) 8 [(0, (2, a0)), (1, (2, a1)), (2, (0, a2)), (3, (0, a3)), (4, (0, a4)), (5, (0, a5))] [] n σ
theorem SX11_meeting_0 {d n : Nat} {Q : Int → kS → Prop} {a0 a1 a2 : Int} {σ : kS} (h : LX11_meeting_8 d n Q a0 a1 a2 0 0 0 σ) : LX11_meeting_0 d n Q a0 a1 a2 σ := by
  unfold LX11_meeting_0
  refine K_iconst (kdA dt_MX11_meeting 0 rfl) (by decide) ?_
  refine K_istore_n (ls' := [(0, (2, a0)), (1, (2, a1)), (2, (0, a2)), (3, (0, 0))]) (kdA dt_MX11_meeting 1 rfl) rfl (by decide) rfl ?_
  refine K_iconst (kdA dt_MX11_meeting 2 rfl) (by decide) ?_
  refine K_istore (ls' := [(0, (2, a0)), (1, (2, a1)), (2, (0, a2)), (3, (0, 0)), (4, (0, 0))]) (kdA dt_MX11_meeting 3 rfl) (by decide) rfl ?_
  refine K_iconst (kdA dt_MX11_meeting 4 rfl) (by decide) ?_
  refine K_istore (ls' := [(0, (2, a0)), (1, (2, a1)), (2, (0, a2)), (3, (0, 0)), (4, (0, 0)), (5, (0, 0))]) (kdA dt_MX11_meeting 5 rfl) (by decide) rfl ?_
  exact h
theorem SX11_meeting_8 {d n : Nat} {Q : Int → kS → Prop} {a0 a1 a2 a3 a4 a5 : Int} {σ : kS} (h : isO 8 n a1 ∧ (((σ a1 1) ≤ a5 → Q a3 σ) ∧ (¬ (σ a1 1) ≤ a5 → Ci d MX8_at [(2, a1), (0, a5)] n σ (fun x2 s1 => isO 11 n a0 ∧ (Ci d MX11_placeIn [(2, a0), (0, a2), (0, x2)] n s1 (fun x4 s2 => (¬ x4 = 1 → (¬ x4 = 2 → (-2147483648 ≤ (a5 + 1) ∧ (a5 + 1) ≤ 2147483647) ∧ (LX11_meeting_8 d n Q a0 a1 a2 a3 0 (a5 + 1) s2)) ∧ (¬ (¬ x4 = 2) → (-2147483648 ≤ (a4 + 1) ∧ (a4 + 1) ≤ 2147483647) ∧ (((a4 + 1) < 3 → (-2147483648 ≤ (a5 + 1) ∧ (a5 + 1) ≤ 2147483647) ∧ (LX11_meeting_8 d n Q a0 a1 a2 a3 (a4 + 1) (a5 + 1) s2)) ∧ (¬ (a4 + 1) < 3 → (-2147483648 ≤ (a5 + 1) ∧ (a5 + 1) ≤ 2147483647) ∧ (LX11_meeting_8 d n Q a0 a1 a2 (kor a3 2) (a4 + 1) (a5 + 1) s2))))) ∧ (¬ (¬ x4 = 1) → (¬ x4 = 2 → (-2147483648 ≤ (a5 + 1) ∧ (a5 + 1) ≤ 2147483647) ∧ (LX11_meeting_8 d n Q a0 a1 a2 (kor a3 1) 0 (a5 + 1) s2)) ∧ (¬ (¬ x4 = 2) → (-2147483648 ≤ (a4 + 1) ∧ (a4 + 1) ≤ 2147483647) ∧ (((a4 + 1) < 3 → (-2147483648 ≤ (a5 + 1) ∧ (a5 + 1) ≤ 2147483647) ∧ (LX11_meeting_8 d n Q a0 a1 a2 (kor a3 1) (a4 + 1) (a5 + 1) s2)) ∧ (¬ (a4 + 1) < 3 → (-2147483648 ≤ (a5 + 1) ∧ (a5 + 1) ≤ 2147483647) ∧ (LX11_meeting_8 d n Q a0 a1 a2 (kor (kor a3 1) 2) (a4 + 1) (a5 + 1) s2))))))))))) : LX11_meeting_8 d n Q a0 a1 a2 a3 a4 a5 σ := by
  unfold LX11_meeting_8
  refine K_iload 5 (kdA dt_MX11_meeting 6 rfl) rfl ?_
  refine K_aload_n 1 (kdA dt_MX11_meeting 7 rfl) rfl rfl ?_
  obtain ⟨c1, h⟩ := h
  refine gf11_130 rfl (kdA dt_MX11_meeting 8 rfl) c1 ?_
  refine K_icmp_ge (tgt := 72) (kdA dt_MX11_meeting 9 rfl) rfl (fun c => ?_) (fun c => ?_)
  · have h := h.1 c
    refine K_iload_n 3 (kdA dt_MX11_meeting 42 rfl) rfl rfl ?_
    exact K_ireturn (kdA dt_MX11_meeting 43 rfl) rfl ⟨rfl, _, rfl, h⟩
  · have h := h.2 c
    refine K_aload_n 0 (kdA dt_MX11_meeting 10 rfl) rfl rfl ?_
    refine K_iload_n 2 (kdA dt_MX11_meeting 11 rfl) rfl rfl ?_
    refine K_aload_n 1 (kdA dt_MX11_meeting 12 rfl) rfl rfl ?_
    refine K_iload 5 (kdA dt_MX11_meeting 13 rfl) rfl ?_
    refine K_cVi (c := 8) (as := [(0, a5)]) (st := [(0, a2), (2, a0)]) (kdA dt_MX11_meeting 14 rfl) rfl cl_MX8_at lk11_196 rfl rfl (Nat.le_of_ble_eq_true rfl) c1 (Ci.mono h (fun x2 s1 h => ?_))
    obtain ⟨c3, h⟩ := h
    refine K_cVi (c := 11) (as := [(0, a2), (0, x2)]) (st := []) (kdA dt_MX11_meeting 15 rfl) rfl cl_MX11_placeIn lk11_436 rfl rfl (Nat.le_of_ble_eq_true rfl) c3 (Ci.mono h (fun x4 s2 h => ?_))
    refine K_istore (ls' := [(0, (2, a0)), (1, (2, a1)), (2, (0, a2)), (3, (0, a3)), (4, (0, a4)), (5, (0, a5)), (6, (0, x4))]) (kdA dt_MX11_meeting 16 rfl) (by decide) rfl ?_
    refine K_iload 6 (kdA dt_MX11_meeting 17 rfl) rfl ?_
    refine K_iconst (kdA dt_MX11_meeting 18 rfl) (by decide) ?_
    refine K_icmp_ne (tgt := 40) (kdA dt_MX11_meeting 19 rfl) rfl (fun c => ?_) (fun c => ?_)
    · have h := h.1 c
      refine K_iload 6 (kdA dt_MX11_meeting 24 rfl) rfl ?_
      refine K_iconst (kdA dt_MX11_meeting 25 rfl) (by decide) ?_
      refine K_icmp_ne (tgt := 53) (kdA dt_MX11_meeting 26 rfl) rfl (fun c => ?_) (fun c => ?_)
      · have h := h.1 c
        refine K_iconst (kdA dt_MX11_meeting 31 rfl) (by decide) ?_
        refine K_istore (ls' := [(0, (2, a0)), (1, (2, a1)), (2, (0, a2)), (3, (0, a3)), (4, (0, 0)), (5, (0, a5)), (6, (0, x4))]) (kdA dt_MX11_meeting 32 rfl) (by decide) rfl ?_
        refine K_iload 4 (kdA dt_MX11_meeting 33 rfl) rfl ?_
        refine K_iconst (kdA dt_MX11_meeting 34 rfl) (by decide) ?_
        refine K_icmp_lt (tgt := 66) (kdA dt_MX11_meeting 35 rfl) rfl (fun _ => ?_) (fun c => absurd (by decide) c)
        obtain ⟨c5, h⟩ := h
        refine K_iinc (ls' := [(0, (2, a0)), (1, (2, a1)), (2, (0, a2)), (3, (0, a3)), (4, (0, 0)), (5, (0, (a5 + 1))), (6, (0, x4))]) 5 (kdA dt_MX11_meeting 40 rfl) rfl c5 (by decide) rfl ?_
        refine K_goto (tgt := 8) (kdA dt_MX11_meeting 41 rfl) rfl ?_
        refine K_pick [0, 1, 2, 3, 4, 5] (ls' := [(0, (2, a0)), (1, (2, a1)), (2, (0, a2)), (3, (0, a3)), (4, (0, 0)), (5, (0, (a5 + 1)))]) rfl ?_
        exact h
      · have h := h.2 c
        refine K_iload 4 (kdA dt_MX11_meeting 27 rfl) rfl ?_
        refine K_iconst (kdA dt_MX11_meeting 28 rfl) (by decide) ?_
        obtain ⟨c5, h⟩ := h
        refine K_iadd (kdA dt_MX11_meeting 29 rfl) c5 ?_
        refine K_goto (tgt := 54) (kdA dt_MX11_meeting 30 rfl) rfl ?_
        refine K_istore (ls' := [(0, (2, a0)), (1, (2, a1)), (2, (0, a2)), (3, (0, a3)), (4, (0, (a4 + 1))), (5, (0, a5)), (6, (0, x4))]) (kdA dt_MX11_meeting 32 rfl) (by decide) rfl ?_
        refine K_iload 4 (kdA dt_MX11_meeting 33 rfl) rfl ?_
        refine K_iconst (kdA dt_MX11_meeting 34 rfl) (by decide) ?_
        refine K_icmp_lt (tgt := 66) (kdA dt_MX11_meeting 35 rfl) rfl (fun c => ?_) (fun c => ?_)
        · have h := h.1 c
          obtain ⟨c6, h⟩ := h
          refine K_iinc (ls' := [(0, (2, a0)), (1, (2, a1)), (2, (0, a2)), (3, (0, a3)), (4, (0, (a4 + 1))), (5, (0, (a5 + 1))), (6, (0, x4))]) 5 (kdA dt_MX11_meeting 40 rfl) rfl c6 (by decide) rfl ?_
          refine K_goto (tgt := 8) (kdA dt_MX11_meeting 41 rfl) rfl ?_
          refine K_pick [0, 1, 2, 3, 4, 5] (ls' := [(0, (2, a0)), (1, (2, a1)), (2, (0, a2)), (3, (0, a3)), (4, (0, (a4 + 1))), (5, (0, (a5 + 1)))]) rfl ?_
          exact h
        · have h := h.2 c
          refine K_iload_n 3 (kdA dt_MX11_meeting 36 rfl) rfl rfl ?_
          refine K_iconst (kdA dt_MX11_meeting 37 rfl) (by decide) ?_
          refine K_ior (kdA dt_MX11_meeting 38 rfl) ?_
          refine K_istore_n (ls' := [(0, (2, a0)), (1, (2, a1)), (2, (0, a2)), (3, (0, (kor a3 2))), (4, (0, (a4 + 1))), (5, (0, a5)), (6, (0, x4))]) (kdA dt_MX11_meeting 39 rfl) rfl (by decide) rfl ?_
          obtain ⟨c6, h⟩ := h
          refine K_iinc (ls' := [(0, (2, a0)), (1, (2, a1)), (2, (0, a2)), (3, (0, (kor a3 2))), (4, (0, (a4 + 1))), (5, (0, (a5 + 1))), (6, (0, x4))]) 5 (kdA dt_MX11_meeting 40 rfl) rfl c6 (by decide) rfl ?_
          refine K_goto (tgt := 8) (kdA dt_MX11_meeting 41 rfl) rfl ?_
          refine K_pick [0, 1, 2, 3, 4, 5] (ls' := [(0, (2, a0)), (1, (2, a1)), (2, (0, a2)), (3, (0, (kor a3 2))), (4, (0, (a4 + 1))), (5, (0, (a5 + 1)))]) rfl ?_
          exact h
    · have h := h.2 c
      refine K_iload_n 3 (kdA dt_MX11_meeting 20 rfl) rfl rfl ?_
      refine K_iconst (kdA dt_MX11_meeting 21 rfl) (by decide) ?_
      refine K_ior (kdA dt_MX11_meeting 22 rfl) ?_
      refine K_istore_n (ls' := [(0, (2, a0)), (1, (2, a1)), (2, (0, a2)), (3, (0, (kor a3 1))), (4, (0, a4)), (5, (0, a5)), (6, (0, x4))]) (kdA dt_MX11_meeting 23 rfl) rfl (by decide) rfl ?_
      refine K_iload 6 (kdA dt_MX11_meeting 24 rfl) rfl ?_
      refine K_iconst (kdA dt_MX11_meeting 25 rfl) (by decide) ?_
      refine K_icmp_ne (tgt := 53) (kdA dt_MX11_meeting 26 rfl) rfl (fun c => ?_) (fun c => ?_)
      · have h := h.1 c
        refine K_iconst (kdA dt_MX11_meeting 31 rfl) (by decide) ?_
        refine K_istore (ls' := [(0, (2, a0)), (1, (2, a1)), (2, (0, a2)), (3, (0, (kor a3 1))), (4, (0, 0)), (5, (0, a5)), (6, (0, x4))]) (kdA dt_MX11_meeting 32 rfl) (by decide) rfl ?_
        refine K_iload 4 (kdA dt_MX11_meeting 33 rfl) rfl ?_
        refine K_iconst (kdA dt_MX11_meeting 34 rfl) (by decide) ?_
        refine K_icmp_lt (tgt := 66) (kdA dt_MX11_meeting 35 rfl) rfl (fun _ => ?_) (fun c => absurd (by decide) c)
        obtain ⟨c5, h⟩ := h
        refine K_iinc (ls' := [(0, (2, a0)), (1, (2, a1)), (2, (0, a2)), (3, (0, (kor a3 1))), (4, (0, 0)), (5, (0, (a5 + 1))), (6, (0, x4))]) 5 (kdA dt_MX11_meeting 40 rfl) rfl c5 (by decide) rfl ?_
        refine K_goto (tgt := 8) (kdA dt_MX11_meeting 41 rfl) rfl ?_
        refine K_pick [0, 1, 2, 3, 4, 5] (ls' := [(0, (2, a0)), (1, (2, a1)), (2, (0, a2)), (3, (0, (kor a3 1))), (4, (0, 0)), (5, (0, (a5 + 1)))]) rfl ?_
        exact h
      · have h := h.2 c
        refine K_iload 4 (kdA dt_MX11_meeting 27 rfl) rfl ?_
        refine K_iconst (kdA dt_MX11_meeting 28 rfl) (by decide) ?_
        obtain ⟨c5, h⟩ := h
        refine K_iadd (kdA dt_MX11_meeting 29 rfl) c5 ?_
        refine K_goto (tgt := 54) (kdA dt_MX11_meeting 30 rfl) rfl ?_
        refine K_istore (ls' := [(0, (2, a0)), (1, (2, a1)), (2, (0, a2)), (3, (0, (kor a3 1))), (4, (0, (a4 + 1))), (5, (0, a5)), (6, (0, x4))]) (kdA dt_MX11_meeting 32 rfl) (by decide) rfl ?_
        refine K_iload 4 (kdA dt_MX11_meeting 33 rfl) rfl ?_
        refine K_iconst (kdA dt_MX11_meeting 34 rfl) (by decide) ?_
        refine K_icmp_lt (tgt := 66) (kdA dt_MX11_meeting 35 rfl) rfl (fun c => ?_) (fun c => ?_)
        · have h := h.1 c
          obtain ⟨c6, h⟩ := h
          refine K_iinc (ls' := [(0, (2, a0)), (1, (2, a1)), (2, (0, a2)), (3, (0, (kor a3 1))), (4, (0, (a4 + 1))), (5, (0, (a5 + 1))), (6, (0, x4))]) 5 (kdA dt_MX11_meeting 40 rfl) rfl c6 (by decide) rfl ?_
          refine K_goto (tgt := 8) (kdA dt_MX11_meeting 41 rfl) rfl ?_
          refine K_pick [0, 1, 2, 3, 4, 5] (ls' := [(0, (2, a0)), (1, (2, a1)), (2, (0, a2)), (3, (0, (kor a3 1))), (4, (0, (a4 + 1))), (5, (0, (a5 + 1)))]) rfl ?_
          exact h
        · have h := h.2 c
          refine K_iload_n 3 (kdA dt_MX11_meeting 36 rfl) rfl rfl ?_
          refine K_iconst (kdA dt_MX11_meeting 37 rfl) (by decide) ?_
          refine K_ior (kdA dt_MX11_meeting 38 rfl) ?_
          refine K_istore_n (ls' := [(0, (2, a0)), (1, (2, a1)), (2, (0, a2)), (3, (0, (kor (kor a3 1) 2))), (4, (0, (a4 + 1))), (5, (0, a5)), (6, (0, x4))]) (kdA dt_MX11_meeting 39 rfl) rfl (by decide) rfl ?_
          obtain ⟨c6, h⟩ := h
          refine K_iinc (ls' := [(0, (2, a0)), (1, (2, a1)), (2, (0, a2)), (3, (0, (kor (kor a3 1) 2))), (4, (0, (a4 + 1))), (5, (0, (a5 + 1))), (6, (0, x4))]) 5 (kdA dt_MX11_meeting 40 rfl) rfl c6 (by decide) rfl ?_
          refine K_goto (tgt := 8) (kdA dt_MX11_meeting 41 rfl) rfl ?_
          refine K_pick [0, 1, 2, 3, 4, 5] (ls' := [(0, (2, a0)), (1, (2, a1)), (2, (0, a2)), (3, (0, (kor (kor a3 1) 2))), (4, (0, (a4 + 1))), (5, (0, (a5 + 1)))]) rfl ?_
          exact h
theorem EX11_meeting {d n : Nat} {Q : Int → kS → Prop} {a0 a1 a2 : Int} {σ : kS} (h : (-2147483648 ≤ a2 ∧ a2 ≤ 2147483647) → kokw n σ → LX11_meeting_0 d n Q a0 a1 a2 σ) : Ci (d + 1) MX11_meeting [(2, a0), (2, a1), (0, a2)] n σ Q := Tri_of (by decide +kernel) (Nat.le_of_ble_eq_true rfl) (fun hk hw => h (hk (0, a2) (List.mem_of_getElem? (i := 2) rfl)) hw)

def LX11_meets_0 (d n : Nat) (Q : Int → kS → Prop) (a0 : Int) (a1 : Int) (a2 : Int) (σ : kS) : Prop := K (d + 1) MX11_meets (kPi n Q) (0, 0) 0 [(0, (2, a0)), (1, (0, a1)), (2, (0, a2))] [] n σ
theorem SX11_meets_0 {d n : Nat} {Q : Int → kS → Prop} {a0 a1 a2 : Int} {σ : kS} (h : isO 11 n a0 ∧ (Ci d MX11_isLine [(2, a0), (0, a1)] n σ (fun x2 s1 => (x2 = 0 → Q (-1) s1) ∧ (¬ x2 = 0 → (a2 < 0 → Q (-1) s1) ∧ (¬ a2 < 0 → isO 8 n (s1 a0 13) ∧ (((0 : Int) ≤ (s1 (s1 a0 13) 1)) ∧ ((a2 < ((s1 (s1 a0 13) 1) / 4) → isA 28 n (s1 a0 10) ∧ (((0 : Int) ≤ a1 ∧ a1 < klen (s1 a0 10)) ∧ (Ci d MX11_meeting [(2, a0), (2, (s1 (s1 a0 10) a1)), (0, a2)] n s1 (fun x7 s2 => Q x7 s2)))) ∧ (¬ a2 < ((s1 (s1 a0 13) 1) / 4) → Q (-1) s1)))))))) : LX11_meets_0 d n Q a0 a1 a2 σ := by
  unfold LX11_meets_0
  refine K_aload_n 0 (kdA dt_MX11_meets 0 rfl) rfl rfl ?_
  refine K_iload_n 1 (kdA dt_MX11_meets 1 rfl) rfl rfl ?_
  obtain ⟨c1, h⟩ := h
  refine K_cVi (c := 11) (as := [(0, a1)]) (st := []) (kdA dt_MX11_meets 2 rfl) rfl cl_MX11_isLine lk11_233 rfl rfl (Nat.le_of_ble_eq_true rfl) c1 (Ci.mono h (fun x2 s1 h => ?_))
  refine K_if_eq (tgt := 25) (kdA dt_MX11_meets 3 rfl) rfl (fun c => ?_) (fun c => ?_)
  · have h := h.1 c
    refine K_iconst (kdA dt_MX11_meets 13 rfl) (by decide) ?_
    exact K_ireturn (kdA dt_MX11_meets 14 rfl) rfl ⟨rfl, _, rfl, h⟩
  · have h := h.2 c
    refine K_iload_n 2 (kdA dt_MX11_meets 4 rfl) rfl rfl ?_
    refine K_if_lt (tgt := 25) (kdA dt_MX11_meets 5 rfl) rfl (fun c => ?_) (fun c => ?_)
    · have h := h.1 c
      refine K_iconst (kdA dt_MX11_meets 13 rfl) (by decide) ?_
      exact K_ireturn (kdA dt_MX11_meets 14 rfl) rfl ⟨rfl, _, rfl, h⟩
    · have h := h.2 c
      refine K_iload_n 2 (kdA dt_MX11_meets 6 rfl) rfl rfl ?_
      refine K_aload_n 0 (kdA dt_MX11_meets 7 rfl) rfl rfl ?_
      refine gf11_58 rfl (kdA dt_MX11_meets 8 rfl) c1 ?_
      obtain ⟨c3, h⟩ := h
      refine gf11_130 rfl (kdA dt_MX11_meets 9 rfl) c3 ?_
      refine K_iconst (kdA dt_MX11_meets 10 rfl) (by decide) ?_
      obtain ⟨c4, h⟩ := h
      refine K_idiv (kdA dt_MX11_meets 11 rfl) c4 (by decide) ?_
      refine K_icmp_lt (tgt := 27) (kdA dt_MX11_meets 12 rfl) rfl (fun c => ?_) (fun c => ?_)
      · have h := h.1 c
        refine K_aload_n 0 (kdA dt_MX11_meets 15 rfl) rfl rfl ?_
        refine K_aload_n 0 (kdA dt_MX11_meets 16 rfl) rfl rfl ?_
        refine gf11_51 rfl (kdA dt_MX11_meets 17 rfl) c1 ?_
        refine K_iload_n 1 (kdA dt_MX11_meets 18 rfl) rfl rfl ?_
        obtain ⟨c5, h⟩ := h
        obtain ⟨c6, h⟩ := h
        refine K_aaload (kdA dt_MX11_meets 19 rfl) (by decide) c5 c6.1 c6.2 ?_
        refine K_iload_n 2 (kdA dt_MX11_meets 20 rfl) rfl rfl ?_
        refine K_cVi (c := 11) (as := [(2, (s1 (s1 a0 10) a1)), (0, a2)]) (st := []) (kdA dt_MX11_meets 21 rfl) rfl cl_MX11_meeting lk11_326 rfl rfl (Nat.le_of_ble_eq_true rfl) c1 (Ci.mono h (fun x7 s2 h => ?_))
        exact K_ireturn (kdA dt_MX11_meets 22 rfl) rfl ⟨rfl, _, rfl, h⟩
      · have h := h.2 c
        refine K_iconst (kdA dt_MX11_meets 13 rfl) (by decide) ?_
        exact K_ireturn (kdA dt_MX11_meets 14 rfl) rfl ⟨rfl, _, rfl, h⟩
theorem EX11_meets {d n : Nat} {Q : Int → kS → Prop} {a0 a1 a2 : Int} {σ : kS} (h : (-2147483648 ≤ a1 ∧ a1 ≤ 2147483647) → (-2147483648 ≤ a2 ∧ a2 ≤ 2147483647) → kokw n σ → LX11_meets_0 d n Q a0 a1 a2 σ) : Ci (d + 1) MX11_meets [(2, a0), (0, a1), (0, a2)] n σ Q := Tri_of (by decide +kernel) (Nat.le_of_ble_eq_true rfl) (fun hk hw => h (hk (0, a1) (List.mem_of_getElem? (i := 1) rfl)) (hk (0, a2) (List.mem_of_getElem? (i := 2) rfl)) hw)

def LX11_milesOfStage_0 (d n : Nat) (Q : Int → kS → Prop) (a0 : Int) (a1 : Int) (a2 : Int) (σ : kS) : Prop := K (d + 1) MX11_milesOfStage (kPi n Q) (0, 0) 0 [(0, (2, a0)), (1, (2, a1)), (2, (0, a2))] [] n σ
theorem SX11_milesOfStage_0 {d n : Nat} {Q : Int → kS → Prop} {a0 a1 a2 : Int} {σ : kS} (h : isO 11 n a0 ∧ (isO 0 n a1 ∧ (Ci d MX0_townAt [(2, a1), (0, a2)] n σ (fun x3 s1 => isO 8 n (σ a0 9) ∧ (Ci d MX8_at [(2, (σ a0 9)), (0, x3)] n s1 (fun x5 s2 => (-2147483648 ≤ (a2 + 1) ∧ (a2 + 1) ≤ 2147483647) ∧ (Ci d MX0_townAt [(2, a1), (0, (a2 + 1))] n s2 (fun x7 s3 => isO 8 n (s2 a0 9) ∧ (Ci d MX8_at [(2, (s2 a0 9)), (0, x7)] n s3 (fun x9 s4 => isO 10 n (σ a0 14) ∧ (Cv d MX10_lay [(2, (σ a0 14)), (0, x5), (0, x9)] n s4 (fun s5 => isO 10 n (s5 a0 14) ∧ (isO 8 n (s5 (s5 a0 14) 13) ∧ (Ci d MX8_miles [(2, (s5 (s5 a0 14) 13))] n s5 (fun x14 s6 => Q x14 s6))))))))))))))) : LX11_milesOfStage_0 d n Q a0 a1 a2 σ := by
  unfold LX11_milesOfStage_0
  refine K_aload_n 0 (kdA dt_MX11_milesOfStage 0 rfl) rfl rfl ?_
  obtain ⟨c1, h⟩ := h
  refine gf11_64 rfl (kdA dt_MX11_milesOfStage 1 rfl) c1 ?_
  refine K_aload_n 0 (kdA dt_MX11_milesOfStage 2 rfl) rfl rfl ?_
  refine gf11_48 rfl (kdA dt_MX11_milesOfStage 3 rfl) c1 ?_
  refine K_aload_n 1 (kdA dt_MX11_milesOfStage 4 rfl) rfl rfl ?_
  refine K_iload_n 2 (kdA dt_MX11_milesOfStage 5 rfl) rfl rfl ?_
  obtain ⟨c2, h⟩ := h
  refine K_cVi (c := 0) (as := [(0, a2)]) (st := [(2, (σ a0 9)), (2, (σ a0 14))]) (kdA dt_MX11_milesOfStage 6 rfl) rfl cl_MX0_townAt lk11_286 rfl rfl (Nat.le_of_ble_eq_true rfl) c2 (Ci.mono h (fun x3 s1 h => ?_))
  obtain ⟨c4, h⟩ := h
  refine K_cVi (c := 8) (as := [(0, x3)]) (st := [(2, (σ a0 14))]) (kdA dt_MX11_milesOfStage 7 rfl) rfl cl_MX8_at lk11_196 rfl rfl (Nat.le_of_ble_eq_true rfl) c4 (Ci.mono h (fun x5 s2 h => ?_))
  refine K_aload_n 0 (kdA dt_MX11_milesOfStage 8 rfl) rfl rfl ?_
  refine gf11_48 rfl (kdA dt_MX11_milesOfStage 9 rfl) c1 ?_
  refine K_aload_n 1 (kdA dt_MX11_milesOfStage 10 rfl) rfl rfl ?_
  refine K_iload_n 2 (kdA dt_MX11_milesOfStage 11 rfl) rfl rfl ?_
  refine K_iconst (kdA dt_MX11_milesOfStage 12 rfl) (by decide) ?_
  obtain ⟨c6, h⟩ := h
  refine K_iadd (kdA dt_MX11_milesOfStage 13 rfl) c6 ?_
  refine K_cVi (c := 0) (as := [(0, (a2 + 1))]) (st := [(2, (s2 a0 9)), (0, x5), (2, (σ a0 14))]) (kdA dt_MX11_milesOfStage 14 rfl) rfl cl_MX0_townAt lk11_286 rfl rfl (Nat.le_of_ble_eq_true rfl) c2 (Ci.mono h (fun x7 s3 h => ?_))
  obtain ⟨c8, h⟩ := h
  refine K_cVi (c := 8) (as := [(0, x7)]) (st := [(0, x5), (2, (σ a0 14))]) (kdA dt_MX11_milesOfStage 15 rfl) rfl cl_MX8_at lk11_196 rfl rfl (Nat.le_of_ble_eq_true rfl) c8 (Ci.mono h (fun x9 s4 h => ?_))
  obtain ⟨c10, h⟩ := h
  refine K_cVv (c := 10) (as := [(0, x5), (0, x9)]) (st := []) (kdA dt_MX11_milesOfStage 16 rfl) rfl cl_MX10_lay lk11_417 rfl rfl (Nat.le_of_ble_eq_true rfl) c10 (Cv.mono h (fun s5 h => ?_))
  refine K_aload_n 0 (kdA dt_MX11_milesOfStage 17 rfl) rfl rfl ?_
  refine gf11_64 rfl (kdA dt_MX11_milesOfStage 18 rfl) c1 ?_
  obtain ⟨c12, h⟩ := h
  refine gf11_193 rfl (kdA dt_MX11_milesOfStage 19 rfl) c12 ?_
  obtain ⟨c13, h⟩ := h
  refine K_cVi (c := 8) (as := []) (st := []) (kdA dt_MX11_milesOfStage 20 rfl) rfl cl_MX8_miles lk11_240 rfl rfl (Nat.le_of_ble_eq_true rfl) c13 (Ci.mono h (fun x14 s6 h => ?_))
  exact K_ireturn (kdA dt_MX11_milesOfStage 21 rfl) rfl ⟨rfl, _, rfl, h⟩
theorem EX11_milesOfStage {d n : Nat} {Q : Int → kS → Prop} {a0 a1 a2 : Int} {σ : kS} (h : (-2147483648 ≤ a2 ∧ a2 ≤ 2147483647) → kokw n σ → LX11_milesOfStage_0 d n Q a0 a1 a2 σ) : Ci (d + 1) MX11_milesOfStage [(2, a0), (2, a1), (0, a2)] n σ Q := Tri_of (by decide +kernel) (Nat.le_of_ble_eq_true rfl) (fun hk hw => h (hk (0, a2) (List.mem_of_getElem? (i := 2) rfl)) hw)

def LX11_miss_0 (d n : Nat) (Q : Int → kS → Prop) (a0 : Int) (a1 : Int) (a2 : Int) (a3 : Int) (a4 : Int) (σ : kS) : Prop := K (d + 1) MX11_miss (kPi n Q) (0, 0) 0 [(0, (2, a0)), (1, (0, a1)), (2, (0, a2)), (3, (0, a3)), (4, (0, a4))] [] n σ
theorem SX11_miss_0 {d n : Nat} {Q : Int → kS → Prop} {a0 a1 a2 a3 a4 : Int} {σ : kS} (h : isO 11 n a0 ∧ (Ci d MX11_isManner [(2, a0), (0, a1), (0, a2)] n σ (fun x2 s1 => (x2 = 0 → Q (-1) s1) ∧ (¬ x2 = 0 → (a4 < 0 → Q (-1) s1) ∧ (¬ a4 < 0 → isO 8 n (s1 a0 12) ∧ ((a4 < (s1 (s1 a0 12) 1) → isA 26 n (s1 a0 5) ∧ (((0 : Int) ≤ a1 ∧ a1 < klen (s1 a0 5)) ∧ (isO 10 n (s1 a0 14) ∧ (Cv d MX10_fit [(2, (s1 a0 14)), (2, (s1 (s1 a0 5) a1)), (0, a2), (0, a3), (2, (s1 a0 0))] n s1 (fun s2 => Ci d MX11_missOf [(2, a0), (0, a4)] n s2 (fun x8 s3 => Q x8 s3)))))) ∧ (¬ a4 < (s1 (s1 a0 12) 1) → Q (-1) s1))))))) : LX11_miss_0 d n Q a0 a1 a2 a3 a4 σ := by
  unfold LX11_miss_0
  refine K_aload_n 0 (kdA dt_MX11_miss 0 rfl) rfl rfl ?_
  refine K_iload_n 1 (kdA dt_MX11_miss 1 rfl) rfl rfl ?_
  refine K_iload_n 2 (kdA dt_MX11_miss 2 rfl) rfl rfl ?_
  obtain ⟨c1, h⟩ := h
  refine K_cVi (c := 11) (as := [(0, a1), (0, a2)]) (st := []) (kdA dt_MX11_miss 3 rfl) rfl cl_MX11_isManner lk11_169 rfl rfl (Nat.le_of_ble_eq_true rfl) c1 (Ci.mono h (fun x2 s1 h => ?_))
  refine K_if_eq (tgt := 26) (kdA dt_MX11_miss 4 rfl) rfl (fun c => ?_) (fun c => ?_)
  · have h := h.1 c
    refine K_iconst (kdA dt_MX11_miss 12 rfl) (by decide) ?_
    exact K_ireturn (kdA dt_MX11_miss 13 rfl) rfl ⟨rfl, _, rfl, h⟩
  · have h := h.2 c
    refine K_iload 4 (kdA dt_MX11_miss 5 rfl) rfl ?_
    refine K_if_lt (tgt := 26) (kdA dt_MX11_miss 6 rfl) rfl (fun c => ?_) (fun c => ?_)
    · have h := h.1 c
      refine K_iconst (kdA dt_MX11_miss 12 rfl) (by decide) ?_
      exact K_ireturn (kdA dt_MX11_miss 13 rfl) rfl ⟨rfl, _, rfl, h⟩
    · have h := h.2 c
      refine K_iload 4 (kdA dt_MX11_miss 7 rfl) rfl ?_
      refine K_aload_n 0 (kdA dt_MX11_miss 8 rfl) rfl rfl ?_
      refine gf11_55 rfl (kdA dt_MX11_miss 9 rfl) c1 ?_
      obtain ⟨c3, h⟩ := h
      refine gf11_130 rfl (kdA dt_MX11_miss 10 rfl) c3 ?_
      refine K_icmp_lt (tgt := 28) (kdA dt_MX11_miss 11 rfl) rfl (fun c => ?_) (fun c => ?_)
      · have h := h.1 c
        refine K_aload_n 0 (kdA dt_MX11_miss 14 rfl) rfl rfl ?_
        refine gf11_64 rfl (kdA dt_MX11_miss 15 rfl) c1 ?_
        refine K_aload_n 0 (kdA dt_MX11_miss 16 rfl) rfl rfl ?_
        refine gf11_38 rfl (kdA dt_MX11_miss 17 rfl) c1 ?_
        refine K_iload_n 1 (kdA dt_MX11_miss 18 rfl) rfl rfl ?_
        obtain ⟨c4, h⟩ := h
        obtain ⟨c5, h⟩ := h
        refine K_aaload (kdA dt_MX11_miss 19 rfl) (by decide) c4 c5.1 c5.2 ?_
        refine K_iload_n 2 (kdA dt_MX11_miss 20 rfl) rfl rfl ?_
        refine K_iload_n 3 (kdA dt_MX11_miss 21 rfl) rfl rfl ?_
        refine K_aload_n 0 (kdA dt_MX11_miss 22 rfl) rfl rfl ?_
        refine gf11_10 rfl (kdA dt_MX11_miss 23 rfl) c1 ?_
        obtain ⟨c6, h⟩ := h
        refine K_cVv (c := 10) (as := [(2, (s1 (s1 a0 5) a1)), (0, a2), (0, a3), (2, (s1 a0 0))]) (st := []) (kdA dt_MX11_miss 24 rfl) rfl cl_MX10_fit lk11_179 rfl rfl (Nat.le_of_ble_eq_true rfl) c6 (Cv.mono h (fun s2 h => ?_))
        refine K_aload_n 0 (kdA dt_MX11_miss 25 rfl) rfl rfl ?_
        refine K_iload 4 (kdA dt_MX11_miss 26 rfl) rfl ?_
        refine K_cVi (c := 11) (as := [(0, a4)]) (st := []) (kdA dt_MX11_miss 27 rfl) rfl cl_MX11_missOf lk11_263 rfl rfl (Nat.le_of_ble_eq_true rfl) c1 (Ci.mono h (fun x8 s3 h => ?_))
        exact K_ireturn (kdA dt_MX11_miss 28 rfl) rfl ⟨rfl, _, rfl, h⟩
      · have h := h.2 c
        refine K_iconst (kdA dt_MX11_miss 12 rfl) (by decide) ?_
        exact K_ireturn (kdA dt_MX11_miss 13 rfl) rfl ⟨rfl, _, rfl, h⟩
theorem EX11_miss {d n : Nat} {Q : Int → kS → Prop} {a0 a1 a2 a3 a4 : Int} {σ : kS} (h : (-2147483648 ≤ a1 ∧ a1 ≤ 2147483647) → (-2147483648 ≤ a2 ∧ a2 ≤ 2147483647) → (-2147483648 ≤ a3 ∧ a3 ≤ 2147483647) → (-2147483648 ≤ a4 ∧ a4 ≤ 2147483647) → kokw n σ → LX11_miss_0 d n Q a0 a1 a2 a3 a4 σ) : Ci (d + 1) MX11_miss [(2, a0), (0, a1), (0, a2), (0, a3), (0, a4)] n σ Q := Tri_of (by decide +kernel) (Nat.le_of_ble_eq_true rfl) (fun hk hw => h (hk (0, a1) (List.mem_of_getElem? (i := 1) rfl)) (hk (0, a2) (List.mem_of_getElem? (i := 2) rfl)) (hk (0, a3) (List.mem_of_getElem? (i := 3) rfl)) (hk (0, a4) (List.mem_of_getElem? (i := 4) rfl)) hw)

def LX11_missOf_0 (d n : Nat) (Q : Int → kS → Prop) (a0 : Int) (a1 : Int) (σ : kS) : Prop := K (d + 1) MX11_missOf (kPi n Q) (0, 0) 0 [(0, (2, a0)), (1, (0, a1))] [] n σ
def LX11_missOf_48 (d n : Nat) (Q : Int → kS → Prop) (a0 : Int) (a3 : Int) (a4 : Int) (a5 : Int) (σ : kS) : Prop := K (d + 1) MX11_missOf (kPi n Q) (0, 0) 48 [(0, (2, a0)), (3, (2, a3)), (4, (0, a4)), (5, (0, a5))] [] n σ
theorem SX11_missOf_0 {d n : Nat} {Q : Int → kS → Prop} {a0 a1 : Int} {σ : kS} (h : isO 11 n a0 ∧ (isO 8 n (σ a0 12) ∧ (Ci d MX8_at [(2, (σ a0 12)), (0, a1)] n σ (fun x3 s1 => Ci d MX11_isLine [(2, a0), (0, x3)] n s1 (fun x4 s2 => (¬ x4 = 0 → isA 28 n (s2 a0 10) ∧ (((0 : Int) ≤ x3 ∧ x3 < klen (s2 a0 10)) ∧ (isO 8 n (s2 (s2 a0 10) x3) ∧ (Ci d MX8_at [(2, (s2 (s2 a0 10) x3)), (0, 0)] n s2 (fun x8 s3 => Ci d MX8_last [(2, (s2 (s2 a0 10) x3))] n s3 (fun x9 s4 => isO 10 n (s2 a0 14) ∧ (Cv d MX10_lay [(2, (s2 a0 14)), (0, x8), (0, x9)] n s4 (fun s5 => LX11_missOf_48 d n Q a0 (s2 (s2 a0 10) x3) 0 0 s5)))))))) ∧ (¬ (¬ x4 = 0) → Q 0 s2)))))) : LX11_missOf_0 d n Q a0 a1 σ := by
  unfold LX11_missOf_0
  refine K_aload_n 0 (kdA dt_MX11_missOf 0 rfl) rfl rfl ?_
  obtain ⟨c1, h⟩ := h
  refine gf11_55 rfl (kdA dt_MX11_missOf 1 rfl) c1 ?_
  refine K_iload_n 1 (kdA dt_MX11_missOf 2 rfl) rfl rfl ?_
  obtain ⟨c2, h⟩ := h
  refine K_cVi (c := 8) (as := [(0, a1)]) (st := []) (kdA dt_MX11_missOf 3 rfl) rfl cl_MX8_at lk11_196 rfl rfl (Nat.le_of_ble_eq_true rfl) c2 (Ci.mono h (fun x3 s1 h => ?_))
  refine K_istore_n (ls' := [(0, (2, a0)), (1, (0, a1)), (2, (0, x3))]) (kdA dt_MX11_missOf 4 rfl) rfl (by decide) rfl ?_
  refine K_aload_n 0 (kdA dt_MX11_missOf 5 rfl) rfl rfl ?_
  refine K_iload_n 2 (kdA dt_MX11_missOf 6 rfl) rfl rfl ?_
  refine K_cVi (c := 11) (as := [(0, x3)]) (st := []) (kdA dt_MX11_missOf 7 rfl) rfl cl_MX11_isLine lk11_233 rfl rfl (Nat.le_of_ble_eq_true rfl) c1 (Ci.mono h (fun x4 s2 h => ?_))
  refine K_if_ne (tgt := 19) (kdA dt_MX11_missOf 8 rfl) rfl (fun c => ?_) (fun c => ?_)
  · have h := h.1 c
    refine K_aload_n 0 (kdA dt_MX11_missOf 11 rfl) rfl rfl ?_
    refine gf11_51 rfl (kdA dt_MX11_missOf 12 rfl) c1 ?_
    refine K_iload_n 2 (kdA dt_MX11_missOf 13 rfl) rfl rfl ?_
    obtain ⟨c5, h⟩ := h
    obtain ⟨c6, h⟩ := h
    refine K_aaload (kdA dt_MX11_missOf 14 rfl) (by decide) c5 c6.1 c6.2 ?_
    refine K_astore_n (ls' := [(0, (2, a0)), (1, (0, a1)), (2, (0, x3)), (3, (2, (s2 (s2 a0 10) x3)))]) (kdA dt_MX11_missOf 15 rfl) rfl (by decide) rfl ?_
    refine K_aload_n 0 (kdA dt_MX11_missOf 16 rfl) rfl rfl ?_
    refine gf11_64 rfl (kdA dt_MX11_missOf 17 rfl) c1 ?_
    refine K_aload_n 3 (kdA dt_MX11_missOf 18 rfl) rfl rfl ?_
    refine K_iconst (kdA dt_MX11_missOf 19 rfl) (by decide) ?_
    obtain ⟨c7, h⟩ := h
    refine K_cVi (c := 8) (as := [(0, 0)]) (st := [(2, (s2 a0 14))]) (kdA dt_MX11_missOf 20 rfl) rfl cl_MX8_at lk11_196 rfl rfl (Nat.le_of_ble_eq_true rfl) c7 (Ci.mono h (fun x8 s3 h => ?_))
    refine K_aload_n 3 (kdA dt_MX11_missOf 21 rfl) rfl rfl ?_
    refine K_cVi (c := 8) (as := []) (st := [(0, x8), (2, (s2 a0 14))]) (kdA dt_MX11_missOf 22 rfl) rfl cl_MX8_last lk11_236 rfl rfl (Nat.le_of_ble_eq_true rfl) c7 (Ci.mono h (fun x9 s4 h => ?_))
    obtain ⟨c10, h⟩ := h
    refine K_cVv (c := 10) (as := [(0, x8), (0, x9)]) (st := []) (kdA dt_MX11_missOf 23 rfl) rfl cl_MX10_lay lk11_417 rfl rfl (Nat.le_of_ble_eq_true rfl) c10 (Cv.mono h (fun s5 h => ?_))
    refine K_iconst (kdA dt_MX11_missOf 24 rfl) (by decide) ?_
    refine K_istore (ls' := [(0, (2, a0)), (1, (0, a1)), (2, (0, x3)), (3, (2, (s2 (s2 a0 10) x3))), (4, (0, 0))]) (kdA dt_MX11_missOf 25 rfl) (by decide) rfl ?_
    refine K_iconst (kdA dt_MX11_missOf 26 rfl) (by decide) ?_
    refine K_istore (ls' := [(0, (2, a0)), (1, (0, a1)), (2, (0, x3)), (3, (2, (s2 (s2 a0 10) x3))), (4, (0, 0)), (5, (0, 0))]) (kdA dt_MX11_missOf 27 rfl) (by decide) rfl ?_
    refine K_pick [0, 3, 4, 5] (ls' := [(0, (2, a0)), (3, (2, (s2 (s2 a0 10) x3))), (4, (0, 0)), (5, (0, 0))]) rfl ?_
    exact h
  · have h := h.2 c
    refine K_iconst (kdA dt_MX11_missOf 9 rfl) (by decide) ?_
    exact K_ireturn (kdA dt_MX11_missOf 10 rfl) rfl ⟨rfl, _, rfl, h⟩
theorem SX11_missOf_48 {d n : Nat} {Q : Int → kS → Prop} {a0 a3 a4 a5 : Int} {σ : kS} (h : isO 11 n a0 ∧ (isO 10 n (σ a0 14) ∧ (isO 8 n (σ (σ a0 14) 13) ∧ (((σ (σ (σ a0 14) 13) 1) ≤ a5 → Q a4 σ) ∧ (¬ (σ (σ (σ a0 14) 13) 1) ≤ a5 → Ci d MX8_at [(2, (σ (σ a0 14) 13)), (0, a5)] n σ (fun x4 s1 => ((0 : Int) ≤ x4) ∧ (isO 8 n a3 ∧ (Ci d MX8_isNear [(2, a3), (0, (x4 % 12)), (0, (x4 / 12)), (0, 1)] n s1 (fun x7 s2 => (¬ x7 = 0 → (-2147483648 ≤ (a5 + 1) ∧ (a5 + 1) ≤ 2147483647) ∧ (LX11_missOf_48 d n Q a0 a3 a4 (a5 + 1) s2)) ∧ (¬ (¬ x7 = 0) → (-2147483648 ≤ (a4 + 1) ∧ (a4 + 1) ≤ 2147483647) ∧ ((-2147483648 ≤ (a5 + 1) ∧ (a5 + 1) ≤ 2147483647) ∧ (LX11_missOf_48 d n Q a0 a3 (a4 + 1) (a5 + 1) s2)))))))))))) : LX11_missOf_48 d n Q a0 a3 a4 a5 σ := by
  unfold LX11_missOf_48
  refine K_iload 3 (kdA dt_MX11_missOf 28 rfl) rfl ?_
  refine K_aload_n 0 (kdA dt_MX11_missOf 29 rfl) rfl rfl ?_
  obtain ⟨c1, h⟩ := h
  refine gf11_64 rfl (kdA dt_MX11_missOf 30 rfl) c1 ?_
  obtain ⟨c2, h⟩ := h
  refine gf11_193 rfl (kdA dt_MX11_missOf 31 rfl) c2 ?_
  obtain ⟨c3, h⟩ := h
  refine gf11_130 rfl (kdA dt_MX11_missOf 32 rfl) c3 ?_
  refine K_icmp_ge (tgt := 104) (kdA dt_MX11_missOf 33 rfl) rfl (fun c => ?_) (fun c => ?_)
  · have h := h.1 c
    refine K_iload 2 (kdA dt_MX11_missOf 53 rfl) rfl ?_
    exact K_ireturn (kdA dt_MX11_missOf 54 rfl) rfl ⟨rfl, _, rfl, h⟩
  · have h := h.2 c
    refine K_aload_n 0 (kdA dt_MX11_missOf 34 rfl) rfl rfl ?_
    refine gf11_64 rfl (kdA dt_MX11_missOf 35 rfl) c1 ?_
    refine gf11_193 rfl (kdA dt_MX11_missOf 36 rfl) c2 ?_
    refine K_iload 3 (kdA dt_MX11_missOf 37 rfl) rfl ?_
    refine K_cVi (c := 8) (as := [(0, a5)]) (st := []) (kdA dt_MX11_missOf 38 rfl) rfl cl_MX8_at lk11_196 rfl rfl (Nat.le_of_ble_eq_true rfl) c3 (Ci.mono h (fun x4 s1 h => ?_))
    refine K_istore (ls' := [(0, (2, a0)), (3, (2, a3)), (4, (0, a4)), (5, (0, a5)), (6, (0, x4))]) (kdA dt_MX11_missOf 39 rfl) (by decide) rfl ?_
    refine K_aload_n 1 (kdA dt_MX11_missOf 40 rfl) rfl rfl ?_
    refine K_iload 4 (kdA dt_MX11_missOf 41 rfl) rfl ?_
    refine K_bipush (kdA dt_MX11_missOf 42 rfl) (by decide +kernel) ?_
    obtain ⟨c5, h⟩ := h
    refine K_irem (kdA dt_MX11_missOf 43 rfl) c5 (by decide) ?_
    refine K_iload 4 (kdA dt_MX11_missOf 44 rfl) rfl ?_
    refine K_bipush (kdA dt_MX11_missOf 45 rfl) (by decide +kernel) ?_
    refine K_idiv (kdA dt_MX11_missOf 46 rfl) c5 (by decide) ?_
    refine K_iconst (kdA dt_MX11_missOf 47 rfl) (by decide) ?_
    obtain ⟨c6, h⟩ := h
    refine K_cVi (c := 8) (as := [(0, (x4 % 12)), (0, (x4 / 12)), (0, 1)]) (st := []) (kdA dt_MX11_missOf 48 rfl) rfl cl_MX8_isNear lk11_427 rfl rfl (Nat.le_of_ble_eq_true rfl) c6 (Ci.mono h (fun x7 s2 h => ?_))
    refine K_if_ne (tgt := 98) (kdA dt_MX11_missOf 49 rfl) rfl (fun c => ?_) (fun c => ?_)
    · have h := h.1 c
      obtain ⟨c8, h⟩ := h
      refine K_iinc (ls' := [(0, (2, a0)), (3, (2, a3)), (4, (0, a4)), (5, (0, (a5 + 1))), (6, (0, x4))]) 3 (kdA dt_MX11_missOf 51 rfl) rfl c8 (by decide) rfl ?_
      refine K_goto (tgt := 48) (kdA dt_MX11_missOf 52 rfl) rfl ?_
      refine K_pick [0, 1, 2, 3] (ls' := [(0, (2, a0)), (3, (2, a3)), (4, (0, a4)), (5, (0, (a5 + 1)))]) rfl ?_
      exact h
    · have h := h.2 c
      obtain ⟨c8, h⟩ := h
      refine K_iinc (ls' := [(0, (2, a0)), (3, (2, a3)), (4, (0, (a4 + 1))), (5, (0, a5)), (6, (0, x4))]) 2 (kdA dt_MX11_missOf 50 rfl) rfl c8 (by decide) rfl ?_
      obtain ⟨c9, h⟩ := h
      refine K_iinc (ls' := [(0, (2, a0)), (3, (2, a3)), (4, (0, (a4 + 1))), (5, (0, (a5 + 1))), (6, (0, x4))]) 3 (kdA dt_MX11_missOf 51 rfl) rfl c9 (by decide) rfl ?_
      refine K_goto (tgt := 48) (kdA dt_MX11_missOf 52 rfl) rfl ?_
      refine K_pick [0, 1, 2, 3] (ls' := [(0, (2, a0)), (3, (2, a3)), (4, (0, (a4 + 1))), (5, (0, (a5 + 1)))]) rfl ?_
      exact h
theorem EX11_missOf {d n : Nat} {Q : Int → kS → Prop} {a0 a1 : Int} {σ : kS} (h : (-2147483648 ≤ a1 ∧ a1 ≤ 2147483647) → kokw n σ → LX11_missOf_0 d n Q a0 a1 σ) : Ci (d + 1) MX11_missOf [(2, a0), (0, a1)] n σ Q := Tri_of (by decide +kernel) (Nat.le_of_ble_eq_true rfl) (fun hk hw => h (hk (0, a1) (List.mem_of_getElem? (i := 1) rfl)) hw)

def LX11_near_0 (d n : Nat) (Q : Int → kS → Prop) (a0 : Int) (a1 : Int) (a2 : Int) (a3 : Int) (σ : kS) : Prop := K (d + 1) MX11_near (kPi n Q) (0, 0) 0 [(0, (2, a0)), (1, (0, a1)), (2, (0, a2)), (3, (0, a3))] [] n σ
theorem SX11_near_0 {d n : Nat} {Q : Int → kS → Prop} {a0 a1 a2 a3 : Int} {σ : kS} (h : isO 11 n a0 ∧ (Ci d MX11_isSearch [(2, a0), (0, a1), (0, a2), (0, a3)] n σ (fun x2 s1 => (x2 = 0 → Q (-1) s1) ∧ (¬ x2 = 0 → isA 28 n (s1 a0 10) ∧ (((0 : Int) ≤ a1 ∧ a1 < klen (s1 a0 10)) ∧ (isO 2 n (s1 a0 16) ∧ (Ci d MX2_nearMoved [(2, (s1 a0 16)), (2, (s1 (s1 a0 10) a1)), (0, 0), (0, 0), (0, a2), (0, a3)] n s1 (fun x6 s2 => Q x6 s2)))))))) : LX11_near_0 d n Q a0 a1 a2 a3 σ := by
  unfold LX11_near_0
  refine K_aload_n 0 (kdA dt_MX11_near 0 rfl) rfl rfl ?_
  refine K_iload_n 1 (kdA dt_MX11_near 1 rfl) rfl rfl ?_
  refine K_iload_n 2 (kdA dt_MX11_near 2 rfl) rfl rfl ?_
  refine K_iload_n 3 (kdA dt_MX11_near 3 rfl) rfl rfl ?_
  obtain ⟨c1, h⟩ := h
  refine K_cVi (c := 11) (as := [(0, a1), (0, a2), (0, a3)]) (st := []) (kdA dt_MX11_near 4 rfl) rfl cl_MX11_isSearch lk11_252 rfl rfl (Nat.le_of_ble_eq_true rfl) c1 (Ci.mono h (fun x2 s1 h => ?_))
  refine K_if_eq (tgt := 30) (kdA dt_MX11_near 5 rfl) rfl (fun c => ?_) (fun c => ?_)
  · have h := h.1 c
    refine K_iconst (kdA dt_MX11_near 18 rfl) (by decide) ?_
    exact K_ireturn (kdA dt_MX11_near 19 rfl) rfl ⟨rfl, _, rfl, h⟩
  · have h := h.2 c
    refine K_aload_n 0 (kdA dt_MX11_near 6 rfl) rfl rfl ?_
    refine gf11_78 rfl (kdA dt_MX11_near 7 rfl) c1 ?_
    refine K_aload_n 0 (kdA dt_MX11_near 8 rfl) rfl rfl ?_
    refine gf11_51 rfl (kdA dt_MX11_near 9 rfl) c1 ?_
    refine K_iload_n 1 (kdA dt_MX11_near 10 rfl) rfl rfl ?_
    obtain ⟨c3, h⟩ := h
    obtain ⟨c4, h⟩ := h
    refine K_aaload (kdA dt_MX11_near 11 rfl) (by decide) c3 c4.1 c4.2 ?_
    refine K_iconst (kdA dt_MX11_near 12 rfl) (by decide) ?_
    refine K_iconst (kdA dt_MX11_near 13 rfl) (by decide) ?_
    refine K_iload_n 2 (kdA dt_MX11_near 14 rfl) rfl rfl ?_
    refine K_iload_n 3 (kdA dt_MX11_near 15 rfl) rfl rfl ?_
    obtain ⟨c5, h⟩ := h
    refine K_cVi (c := 2) (as := [(2, (s1 (s1 a0 10) a1)), (0, 0), (0, 0), (0, a2), (0, a3)]) (st := []) (kdA dt_MX11_near 16 rfl) rfl cl_MX2_nearMoved lk11_255 rfl rfl (Nat.le_of_ble_eq_true rfl) c5 (Ci.mono h (fun x6 s2 h => ?_))
    refine K_goto (tgt := 31) (kdA dt_MX11_near 17 rfl) rfl ?_
    exact K_ireturn (kdA dt_MX11_near 19 rfl) rfl ⟨rfl, _, rfl, h⟩
theorem EX11_near {d n : Nat} {Q : Int → kS → Prop} {a0 a1 a2 a3 : Int} {σ : kS} (h : (-2147483648 ≤ a1 ∧ a1 ≤ 2147483647) → (-2147483648 ≤ a2 ∧ a2 ≤ 2147483647) → (-2147483648 ≤ a3 ∧ a3 ≤ 2147483647) → kokw n σ → LX11_near_0 d n Q a0 a1 a2 a3 σ) : Ci (d + 1) MX11_near [(2, a0), (0, a1), (0, a2), (0, a3)] n σ Q := Tri_of (by decide +kernel) (Nat.le_of_ble_eq_true rfl) (fun hk hw => h (hk (0, a1) (List.mem_of_getElem? (i := 1) rfl)) (hk (0, a2) (List.mem_of_getElem? (i := 2) rfl)) (hk (0, a3) (List.mem_of_getElem? (i := 3) rfl)) hw)

def LX11_nearly_0 (d n : Nat) (Q : Int → kS → Prop) (a0 : Int) (a1 : Int) (a2 : Int) (a3 : Int) (a4 : Int) (a5 : Int) (a6 : Int) (a7 : Int) (σ : kS) : Prop := K (d + 1) MX11_nearly (kPi n Q) (0, 0) 0 [(0, (2, a0)), (1, (0, a1)), (2, (0, a2)), (3, (0, a3)), (4, (0, a4)), (5, (0, a5)), (6, (0, a6)), (7, (0, a7))] [] n σ
def LX11_nearly_107 (d n : Nat) (Q : Int → kS → Prop) (a0 : Int) (a9 : Int) (a10 : Int) (a11 : Int) (σ : kS) : Prop := K (d + 1) MX11_nearly (kPi n Q) (0, 0) 107 [(0, (2, a0)), (9, (0, a9)), (10, (0, a10)), (11, (0, a11))] [] n σ
theorem SX11_nearly_0 {d n : Nat} {Q : Int → kS → Prop} {a0 a1 a2 a3 a4 a5 a6 a7 : Int} {σ : kS} (h : (a6 < 0 → Q (-1) σ) ∧ (¬ a6 < 0 → (100 < a6 → Q (-1) σ) ∧ (¬ 100 < a6 → Ci d MX11_isCellOrNone [(0, a7)] n σ (fun x1 s1 => (¬ x1 = 0 → isO 11 n a0 ∧ (Ci d MX11_goes [(2, a0), (2, (s1 a0 0)), (0, a1), (0, a2), (0, a3), (0, a4), (0, a5)] n s1 (fun x3 s2 => (¬ x3 = 0 → isO 10 n (s2 a0 14) ∧ (Ci d MX10_least [(2, (s2 a0 14)), (0, a4)] n s2 (fun x5 s3 => (-2147483648 ≤ (x5 * a6) ∧ (x5 * a6) ≤ 2147483647) ∧ (((0 : Int) ≤ (x5 * a6)) ∧ ((-2147483648 ≤ (x5 + ((x5 * a6) / 100)) ∧ (x5 + ((x5 * a6) / 100)) ≤ 2147483647) ∧ (isO 10 n (s3 a0 14) ∧ (Cv d MX10_spreadFrom [(2, (s3 a0 14)), (0, a4)] n s3 (fun s4 => (a7 = (-1) → LX11_nearly_107 d n Q a0 (x5 + ((x5 * a6) / 100)) 0 0 s4) ∧ (¬ a7 = (-1) → isO 10 n (s4 a0 14) ∧ (Ci d MX10_through [(2, (s4 a0 14)), (0, a7)] n s4 (fun x12 s5 => ((x5 + ((x5 * a6) / 100)) < x12 → Q 0 s5) ∧ (¬ (x5 + ((x5 * a6) / 100)) < x12 → Q 1 s5)))))))))))) ∧ (¬ (¬ x3 = 0) → Q (-1) s2)))) ∧ (¬ (¬ x1 = 0) → Q (-1) s1))))) : LX11_nearly_0 d n Q a0 a1 a2 a3 a4 a5 a6 a7 σ := by
  unfold LX11_nearly_0
  refine K_iload 6 (kdA dt_MX11_nearly 0 rfl) rfl ?_
  refine K_if_lt (tgt := 20) (kdA dt_MX11_nearly 1 rfl) rfl (fun c => ?_) (fun c => ?_)
  · have h := h.1 c
    refine K_iconst (kdA dt_MX11_nearly 8 rfl) (by decide) ?_
    exact K_ireturn (kdA dt_MX11_nearly 9 rfl) rfl ⟨rfl, _, rfl, h⟩
  · have h := h.2 c
    refine K_iload 6 (kdA dt_MX11_nearly 2 rfl) rfl ?_
    refine K_bipush (kdA dt_MX11_nearly 3 rfl) (by decide +kernel) ?_
    refine K_icmp_gt (tgt := 20) (kdA dt_MX11_nearly 4 rfl) rfl (fun c => ?_) (fun c => ?_)
    · have h := h.1 c
      refine K_iconst (kdA dt_MX11_nearly 8 rfl) (by decide) ?_
      exact K_ireturn (kdA dt_MX11_nearly 9 rfl) rfl ⟨rfl, _, rfl, h⟩
    · have h := h.2 c
      refine K_iload 7 (kdA dt_MX11_nearly 5 rfl) rfl ?_
      refine K_cSi (as := [(0, a7)]) (st := []) (kdA dt_MX11_nearly 6 rfl) cl_MX11_isCellOrNone lk11_198 rfl rfl (Nat.le_of_ble_eq_true rfl) (Ci.mono h (fun x1 s1 h => ?_))
      refine K_if_ne (tgt := 22) (kdA dt_MX11_nearly 7 rfl) rfl (fun c => ?_) (fun c => ?_)
      · have h := h.1 c
        refine K_aload_n 0 (kdA dt_MX11_nearly 10 rfl) rfl rfl ?_
        refine K_aload_n 0 (kdA dt_MX11_nearly 11 rfl) rfl rfl ?_
        obtain ⟨c2, h⟩ := h
        refine gf11_10 rfl (kdA dt_MX11_nearly 12 rfl) c2 ?_
        refine K_iload_n 1 (kdA dt_MX11_nearly 13 rfl) rfl rfl ?_
        refine K_iload_n 2 (kdA dt_MX11_nearly 14 rfl) rfl rfl ?_
        refine K_iload_n 3 (kdA dt_MX11_nearly 15 rfl) rfl rfl ?_
        refine K_iload 4 (kdA dt_MX11_nearly 16 rfl) rfl ?_
        refine K_iload 5 (kdA dt_MX11_nearly 17 rfl) rfl ?_
        refine K_cVi (c := 11) (as := [(2, (s1 a0 0)), (0, a1), (0, a2), (0, a3), (0, a4), (0, a5)]) (st := []) (kdA dt_MX11_nearly 18 rfl) rfl cl_MX11_goes lk11_186 rfl rfl (Nat.le_of_ble_eq_true rfl) c2 (Ci.mono h (fun x3 s2 h => ?_))
        refine K_if_ne (tgt := 42) (kdA dt_MX11_nearly 19 rfl) rfl (fun c => ?_) (fun c => ?_)
        · have h := h.1 c
          refine K_aload_n 0 (kdA dt_MX11_nearly 22 rfl) rfl rfl ?_
          refine gf11_64 rfl (kdA dt_MX11_nearly 23 rfl) c2 ?_
          refine K_iload 4 (kdA dt_MX11_nearly 24 rfl) rfl ?_
          obtain ⟨c4, h⟩ := h
          refine K_cVi (c := 10) (as := [(0, a4)]) (st := []) (kdA dt_MX11_nearly 25 rfl) rfl cl_MX10_least lk11_190 rfl rfl (Nat.le_of_ble_eq_true rfl) c4 (Ci.mono h (fun x5 s3 h => ?_))
          refine K_istore (ls' := [(0, (2, a0)), (1, (0, a1)), (2, (0, a2)), (3, (0, a3)), (4, (0, a4)), (5, (0, a5)), (6, (0, a6)), (7, (0, a7)), (8, (0, x5))]) (kdA dt_MX11_nearly 26 rfl) (by decide) rfl ?_
          refine K_iload 8 (kdA dt_MX11_nearly 27 rfl) rfl ?_
          refine K_iload 8 (kdA dt_MX11_nearly 28 rfl) rfl ?_
          refine K_iload 6 (kdA dt_MX11_nearly 29 rfl) rfl ?_
          obtain ⟨c6, h⟩ := h
          refine K_imul (kdA dt_MX11_nearly 30 rfl) c6 ?_
          refine K_bipush (kdA dt_MX11_nearly 31 rfl) (by decide +kernel) ?_
          obtain ⟨c7, h⟩ := h
          refine K_idiv (kdA dt_MX11_nearly 32 rfl) c7 (by decide) ?_
          obtain ⟨c8, h⟩ := h
          refine K_iadd (kdA dt_MX11_nearly 33 rfl) c8 ?_
          refine K_istore (ls' := [(0, (2, a0)), (1, (0, a1)), (2, (0, a2)), (3, (0, a3)), (4, (0, a4)), (5, (0, a5)), (6, (0, a6)), (7, (0, a7)), (8, (0, x5)), (9, (0, (x5 + ((x5 * a6) / 100))))]) (kdA dt_MX11_nearly 34 rfl) (by decide) rfl ?_
          refine K_aload_n 0 (kdA dt_MX11_nearly 35 rfl) rfl rfl ?_
          refine gf11_64 rfl (kdA dt_MX11_nearly 36 rfl) c2 ?_
          refine K_iload 4 (kdA dt_MX11_nearly 37 rfl) rfl ?_
          obtain ⟨c9, h⟩ := h
          refine K_cVv (c := 10) (as := [(0, a4)]) (st := []) (kdA dt_MX11_nearly 38 rfl) rfl cl_MX10_spreadFrom lk11_201 rfl rfl (Nat.le_of_ble_eq_true rfl) c9 (Cv.mono h (fun s4 h => ?_))
          refine K_iload 7 (kdA dt_MX11_nearly 39 rfl) rfl ?_
          refine K_iconst (kdA dt_MX11_nearly 40 rfl) (by decide) ?_
          refine K_icmp_eq (tgt := 101) (kdA dt_MX11_nearly 41 rfl) rfl (fun c => ?_) (fun c => ?_)
          · have h := h.1 c
            refine K_iconst (kdA dt_MX11_nearly 52 rfl) (by decide) ?_
            refine K_istore (ls' := [(0, (2, a0)), (1, (0, a1)), (2, (0, a2)), (3, (0, a3)), (4, (0, a4)), (5, (0, a5)), (6, (0, a6)), (7, (0, a7)), (8, (0, x5)), (9, (0, (x5 + ((x5 * a6) / 100)))), (10, (0, 0))]) (kdA dt_MX11_nearly 53 rfl) (by decide) rfl ?_
            refine K_iconst (kdA dt_MX11_nearly 54 rfl) (by decide) ?_
            refine K_istore (ls' := [(0, (2, a0)), (1, (0, a1)), (2, (0, a2)), (3, (0, a3)), (4, (0, a4)), (5, (0, a5)), (6, (0, a6)), (7, (0, a7)), (8, (0, x5)), (9, (0, (x5 + ((x5 * a6) / 100)))), (10, (0, 0)), (11, (0, 0))]) (kdA dt_MX11_nearly 55 rfl) (by decide) rfl ?_
            refine K_pick [0, 9, 10, 11] (ls' := [(0, (2, a0)), (9, (0, (x5 + ((x5 * a6) / 100)))), (10, (0, 0)), (11, (0, 0))]) rfl ?_
            exact h
          · have h := h.2 c
            refine K_aload_n 0 (kdA dt_MX11_nearly 42 rfl) rfl rfl ?_
            refine gf11_64 rfl (kdA dt_MX11_nearly 43 rfl) c2 ?_
            refine K_iload 7 (kdA dt_MX11_nearly 44 rfl) rfl ?_
            obtain ⟨c11, h⟩ := h
            refine K_cVi (c := 10) (as := [(0, a7)]) (st := []) (kdA dt_MX11_nearly 45 rfl) rfl cl_MX10_through lk11_204 rfl rfl (Nat.le_of_ble_eq_true rfl) c11 (Ci.mono h (fun x12 s5 h => ?_))
            refine K_iload 9 (kdA dt_MX11_nearly 46 rfl) rfl ?_
            refine K_icmp_gt (tgt := 99) (kdA dt_MX11_nearly 47 rfl) rfl (fun c => ?_) (fun c => ?_)
            · have h := h.1 c
              refine K_iconst (kdA dt_MX11_nearly 50 rfl) (by decide) ?_
              exact K_ireturn (kdA dt_MX11_nearly 51 rfl) rfl ⟨rfl, _, rfl, h⟩
            · have h := h.2 c
              refine K_iconst (kdA dt_MX11_nearly 48 rfl) (by decide) ?_
              refine K_goto (tgt := 100) (kdA dt_MX11_nearly 49 rfl) rfl ?_
              exact K_ireturn (kdA dt_MX11_nearly 51 rfl) rfl ⟨rfl, _, rfl, h⟩
        · have h := h.2 c
          refine K_iconst (kdA dt_MX11_nearly 20 rfl) (by decide) ?_
          exact K_ireturn (kdA dt_MX11_nearly 21 rfl) rfl ⟨rfl, _, rfl, h⟩
      · have h := h.2 c
        refine K_iconst (kdA dt_MX11_nearly 8 rfl) (by decide) ?_
        exact K_ireturn (kdA dt_MX11_nearly 9 rfl) rfl ⟨rfl, _, rfl, h⟩
theorem SX11_nearly_107 {d n : Nat} {Q : Int → kS → Prop} {a0 a9 a10 a11 : Int} {σ : kS} (h : (120 ≤ a11 → Q a10 σ) ∧ (¬ 120 ≤ a11 → isO 11 n a0 ∧ (isO 10 n (σ a0 14) ∧ (Ci d MX10_through [(2, (σ a0 14)), (0, a11)] n σ (fun x3 s1 => (a9 < x3 → (-2147483648 ≤ (a11 + 1) ∧ (a11 + 1) ≤ 2147483647) ∧ (LX11_nearly_107 d n Q a0 a9 a10 (a11 + 1) s1)) ∧ (¬ a9 < x3 → (-2147483648 ≤ (a10 + 1) ∧ (a10 + 1) ≤ 2147483647) ∧ ((-2147483648 ≤ (a11 + 1) ∧ (a11 + 1) ≤ 2147483647) ∧ (LX11_nearly_107 d n Q a0 a9 (a10 + 1) (a11 + 1) s1)))))))) : LX11_nearly_107 d n Q a0 a9 a10 a11 σ := by
  unfold LX11_nearly_107
  refine K_iload 3 (kdA dt_MX11_nearly 56 rfl) rfl ?_
  refine K_bipush (kdA dt_MX11_nearly 57 rfl) (by decide +kernel) ?_
  refine K_icmp_ge (tgt := 137) (kdA dt_MX11_nearly 58 rfl) rfl (fun c => ?_) (fun c => ?_)
  · have h := h.1 c
    refine K_iload 2 (kdA dt_MX11_nearly 68 rfl) rfl ?_
    exact K_ireturn (kdA dt_MX11_nearly 69 rfl) rfl ⟨rfl, _, rfl, h⟩
  · have h := h.2 c
    refine K_aload_n 0 (kdA dt_MX11_nearly 59 rfl) rfl rfl ?_
    obtain ⟨c1, h⟩ := h
    refine gf11_64 rfl (kdA dt_MX11_nearly 60 rfl) c1 ?_
    refine K_iload 3 (kdA dt_MX11_nearly 61 rfl) rfl ?_
    obtain ⟨c2, h⟩ := h
    refine K_cVi (c := 10) (as := [(0, a11)]) (st := []) (kdA dt_MX11_nearly 62 rfl) rfl cl_MX10_through lk11_204 rfl rfl (Nat.le_of_ble_eq_true rfl) c2 (Ci.mono h (fun x3 s1 h => ?_))
    refine K_iload 1 (kdA dt_MX11_nearly 63 rfl) rfl ?_
    refine K_icmp_gt (tgt := 131) (kdA dt_MX11_nearly 64 rfl) rfl (fun c => ?_) (fun c => ?_)
    · have h := h.1 c
      obtain ⟨c4, h⟩ := h
      refine K_iinc (ls' := [(0, (2, a0)), (9, (0, a9)), (10, (0, a10)), (11, (0, (a11 + 1)))]) 3 (kdA dt_MX11_nearly 66 rfl) rfl c4 (by decide) rfl ?_
      refine K_goto (tgt := 107) (kdA dt_MX11_nearly 67 rfl) rfl ?_
      exact h
    · have h := h.2 c
      obtain ⟨c4, h⟩ := h
      refine K_iinc (ls' := [(0, (2, a0)), (9, (0, a9)), (10, (0, (a10 + 1))), (11, (0, a11))]) 2 (kdA dt_MX11_nearly 65 rfl) rfl c4 (by decide) rfl ?_
      obtain ⟨c5, h⟩ := h
      refine K_iinc (ls' := [(0, (2, a0)), (9, (0, a9)), (10, (0, (a10 + 1))), (11, (0, (a11 + 1)))]) 3 (kdA dt_MX11_nearly 66 rfl) rfl c5 (by decide) rfl ?_
      refine K_goto (tgt := 107) (kdA dt_MX11_nearly 67 rfl) rfl ?_
      exact h
theorem EX11_nearly {d n : Nat} {Q : Int → kS → Prop} {a0 a1 a2 a3 a4 a5 a6 a7 : Int} {σ : kS} (h : (-2147483648 ≤ a1 ∧ a1 ≤ 2147483647) → (-2147483648 ≤ a2 ∧ a2 ≤ 2147483647) → (-2147483648 ≤ a3 ∧ a3 ≤ 2147483647) → (-2147483648 ≤ a4 ∧ a4 ≤ 2147483647) → (-2147483648 ≤ a5 ∧ a5 ≤ 2147483647) → (-2147483648 ≤ a6 ∧ a6 ≤ 2147483647) → (-2147483648 ≤ a7 ∧ a7 ≤ 2147483647) → kokw n σ → LX11_nearly_0 d n Q a0 a1 a2 a3 a4 a5 a6 a7 σ) : Ci (d + 1) MX11_nearly [(2, a0), (0, a1), (0, a2), (0, a3), (0, a4), (0, a5), (0, a6), (0, a7)] n σ Q := Tri_of (by decide +kernel) (Nat.le_of_ble_eq_true rfl) (fun hk hw => h (hk (0, a1) (List.mem_of_getElem? (i := 1) rfl)) (hk (0, a2) (List.mem_of_getElem? (i := 2) rfl)) (hk (0, a3) (List.mem_of_getElem? (i := 3) rfl)) (hk (0, a4) (List.mem_of_getElem? (i := 4) rfl)) (hk (0, a5) (List.mem_of_getElem? (i := 5) rfl)) (hk (0, a6) (List.mem_of_getElem? (i := 6) rfl)) (hk (0, a7) (List.mem_of_getElem? (i := 7) rfl)) hw)

def LX11_net_0 (d n : Nat) (Q : Int → kS → Prop) (a0 : Int) (a1 : Int) (a2 : Int) (a3 : Int) (a4 : Int) (σ : kS) : Prop := K (d + 1) MX11_net (kPi n Q) (0, 0) 0 [(0, (2, a0)), (1, (0, a1)), (2, (0, a2)), (3, (0, a3)), (4, (0, a4))] [] n σ
def LX11_net_69 (d n : Nat) (Q : Int → kS → Prop) (a0 : Int) (a4 : Int) (a5 : Int) (σ : kS) : Prop := K (d + 1) MX11_net (kPi n Q) (0, 0) 69 [(0, (2, a0)), (4, (0, a4)), (5, (0, a5))] [] n σ
def LX11_net_100 (d n : Nat) (Q : Int → kS → Prop) (a0 : Int) (a4 : Int) (a5 : Int) (a6 : Int) (σ : kS) : Prop := K (d + 1) MX11_net (kPi n Q) (0, 0) 100 [(0, (2, a0)), (4, (0, a4)), (5, (0, a5)), (6, (0, a6))] [] n σ
theorem SX11_net_0 {d n : Nat} {Q : Int → kS → Prop} {a0 a1 a2 a3 a4 : Int} {σ : kS} (h : isO 11 n a0 ∧ (Ci d MX11_isManner [(2, a0), (0, a1), (0, a2)] n σ (fun x2 s1 => (x2 = 0 → Q (-1) s1) ∧ (¬ x2 = 0 → isO 8 n (s1 a0 9) ∧ (((s1 (s1 a0 9) 1) < 2 → Q (-1) s1) ∧ (¬ (s1 (s1 a0 9) 1) < 2 → (a4 < 0 → Q (-1) s1) ∧ (¬ a4 < 0 → (a4 ≤ 2 → isA 26 n (s1 a0 5) ∧ (((0 : Int) ≤ a1 ∧ a1 < klen (s1 a0 5)) ∧ (isO 10 n (s1 a0 14) ∧ (Cv d MX10_fit [(2, (s1 a0 14)), (2, (s1 (s1 a0 5) a1)), (0, a2), (0, a3), (2, (s1 a0 0))] n s1 (fun s2 => isO 8 n (s2 a0 9) ∧ (isO 6 n (s2 a0 19) ∧ (Cv d MX6_begin [(2, (s2 a0 19)), (0, (s2 (s2 a0 9) 1))] n s2 (fun s3 => LX11_net_69 d n Q a0 a4 1 s3)))))))) ∧ (¬ a4 ≤ 2 → Q (-1) s1)))))))) : LX11_net_0 d n Q a0 a1 a2 a3 a4 σ := by
  unfold LX11_net_0
  refine K_aload_n 0 (kdA dt_MX11_net 0 rfl) rfl rfl ?_
  refine K_iload_n 1 (kdA dt_MX11_net 1 rfl) rfl rfl ?_
  refine K_iload_n 2 (kdA dt_MX11_net 2 rfl) rfl rfl ?_
  obtain ⟨c1, h⟩ := h
  refine K_cVi (c := 11) (as := [(0, a1), (0, a2)]) (st := []) (kdA dt_MX11_net 3 rfl) rfl cl_MX11_isManner lk11_169 rfl rfl (Nat.le_of_ble_eq_true rfl) c1 (Ci.mono h (fun x2 s1 h => ?_))
  refine K_if_eq (tgt := 31) (kdA dt_MX11_net 4 rfl) rfl (fun c => ?_) (fun c => ?_)
  · have h := h.1 c
    refine K_iconst (kdA dt_MX11_net 15 rfl) (by decide) ?_
    exact K_ireturn (kdA dt_MX11_net 16 rfl) rfl ⟨rfl, _, rfl, h⟩
  · have h := h.2 c
    refine K_aload_n 0 (kdA dt_MX11_net 5 rfl) rfl rfl ?_
    refine gf11_48 rfl (kdA dt_MX11_net 6 rfl) c1 ?_
    obtain ⟨c3, h⟩ := h
    refine gf11_130 rfl (kdA dt_MX11_net 7 rfl) c3 ?_
    refine K_iconst (kdA dt_MX11_net 8 rfl) (by decide) ?_
    refine K_icmp_lt (tgt := 31) (kdA dt_MX11_net 9 rfl) rfl (fun c => ?_) (fun c => ?_)
    · have h := h.1 c
      refine K_iconst (kdA dt_MX11_net 15 rfl) (by decide) ?_
      exact K_ireturn (kdA dt_MX11_net 16 rfl) rfl ⟨rfl, _, rfl, h⟩
    · have h := h.2 c
      refine K_iload 4 (kdA dt_MX11_net 10 rfl) rfl ?_
      refine K_if_lt (tgt := 31) (kdA dt_MX11_net 11 rfl) rfl (fun c => ?_) (fun c => ?_)
      · have h := h.1 c
        refine K_iconst (kdA dt_MX11_net 15 rfl) (by decide) ?_
        exact K_ireturn (kdA dt_MX11_net 16 rfl) rfl ⟨rfl, _, rfl, h⟩
      · have h := h.2 c
        refine K_iload 4 (kdA dt_MX11_net 12 rfl) rfl ?_
        refine K_iconst (kdA dt_MX11_net 13 rfl) (by decide) ?_
        refine K_icmp_le (tgt := 33) (kdA dt_MX11_net 14 rfl) rfl (fun c => ?_) (fun c => ?_)
        · have h := h.1 c
          refine K_aload_n 0 (kdA dt_MX11_net 17 rfl) rfl rfl ?_
          refine gf11_64 rfl (kdA dt_MX11_net 18 rfl) c1 ?_
          refine K_aload_n 0 (kdA dt_MX11_net 19 rfl) rfl rfl ?_
          refine gf11_38 rfl (kdA dt_MX11_net 20 rfl) c1 ?_
          refine K_iload_n 1 (kdA dt_MX11_net 21 rfl) rfl rfl ?_
          obtain ⟨c4, h⟩ := h
          obtain ⟨c5, h⟩ := h
          refine K_aaload (kdA dt_MX11_net 22 rfl) (by decide) c4 c5.1 c5.2 ?_
          refine K_iload_n 2 (kdA dt_MX11_net 23 rfl) rfl rfl ?_
          refine K_iload_n 3 (kdA dt_MX11_net 24 rfl) rfl rfl ?_
          refine K_aload_n 0 (kdA dt_MX11_net 25 rfl) rfl rfl ?_
          refine gf11_10 rfl (kdA dt_MX11_net 26 rfl) c1 ?_
          obtain ⟨c6, h⟩ := h
          refine K_cVv (c := 10) (as := [(2, (s1 (s1 a0 5) a1)), (0, a2), (0, a3), (2, (s1 a0 0))]) (st := []) (kdA dt_MX11_net 27 rfl) rfl cl_MX10_fit lk11_179 rfl rfl (Nat.le_of_ble_eq_true rfl) c6 (Cv.mono h (fun s2 h => ?_))
          refine K_aload_n 0 (kdA dt_MX11_net 28 rfl) rfl rfl ?_
          refine gf11_99 rfl (kdA dt_MX11_net 29 rfl) c1 ?_
          refine K_aload_n 0 (kdA dt_MX11_net 30 rfl) rfl rfl ?_
          refine gf11_48 rfl (kdA dt_MX11_net 31 rfl) c1 ?_
          obtain ⟨c8, h⟩ := h
          refine gf11_130 rfl (kdA dt_MX11_net 32 rfl) c8 ?_
          obtain ⟨c9, h⟩ := h
          refine K_cVv (c := 6) (as := [(0, (s2 (s2 a0 9) 1))]) (st := []) (kdA dt_MX11_net 33 rfl) rfl cl_MX6_begin lk11_337 rfl rfl (Nat.le_of_ble_eq_true rfl) c9 (Cv.mono h (fun s3 h => ?_))
          refine K_iconst (kdA dt_MX11_net 34 rfl) (by decide) ?_
          refine K_istore (ls' := [(0, (2, a0)), (1, (0, a1)), (2, (0, a2)), (3, (0, a3)), (4, (0, a4)), (5, (0, 1))]) (kdA dt_MX11_net 35 rfl) (by decide) rfl ?_
          refine K_pick [0, 4, 5] (ls' := [(0, (2, a0)), (4, (0, a4)), (5, (0, 1))]) rfl ?_
          exact h
        · have h := h.2 c
          refine K_iconst (kdA dt_MX11_net 15 rfl) (by decide) ?_
          exact K_ireturn (kdA dt_MX11_net 16 rfl) rfl ⟨rfl, _, rfl, h⟩
theorem SX11_net_69 {d n : Nat} {Q : Int → kS → Prop} {a0 a4 a5 : Int} {σ : kS} (h : isO 11 n a0 ∧ (isO 8 n (σ a0 9) ∧ (((σ (σ a0 9) 1) ≤ a5 → (¬ a4 = 0 → (¬ a4 = 1 → isO 6 n (σ a0 19) ∧ (Ci d MX6_needed [(2, (σ a0 19)), (0, 0)] n σ (fun x4 s1 => Q x4 s1))) ∧ (¬ (¬ a4 = 1) → isO 6 n (σ a0 19) ∧ (Ci d MX6_needed [(2, (σ a0 19)), (0, 1)] n σ (fun x4 s1 => Q x4 s1)))) ∧ (¬ (¬ a4 = 0) → isO 6 n (σ a0 19) ∧ (Ci d MX6_cost [(2, (σ a0 19))] n σ (fun x4 s1 => Q x4 s1)))) ∧ (¬ (σ (σ a0 9) 1) ≤ a5 → Ci d MX8_at [(2, (σ a0 9)), (0, a5)] n σ (fun x3 s1 => isO 10 n (σ a0 14) ∧ (Cv d MX10_spreadTo [(2, (σ a0 14)), (0, x3)] n s1 (fun s2 => LX11_net_100 d n Q a0 a4 a5 0 s2))))))) : LX11_net_69 d n Q a0 a4 a5 σ := by
  unfold LX11_net_69
  refine K_iload 2 (kdA dt_MX11_net 36 rfl) rfl ?_
  refine K_aload_n 0 (kdA dt_MX11_net 37 rfl) rfl rfl ?_
  obtain ⟨c1, h⟩ := h
  refine gf11_48 rfl (kdA dt_MX11_net 38 rfl) c1 ?_
  obtain ⟨c2, h⟩ := h
  refine gf11_130 rfl (kdA dt_MX11_net 39 rfl) c2 ?_
  refine K_icmp_ge (tgt := 146) (kdA dt_MX11_net 40 rfl) rfl (fun c => ?_) (fun c => ?_)
  · have h := h.1 c
    refine K_iload 1 (kdA dt_MX11_net 69 rfl) rfl ?_
    refine K_if_ne (tgt := 159) (kdA dt_MX11_net 70 rfl) rfl (fun c => ?_) (fun c => ?_)
    · have h := h.1 c
      refine K_aload_n 0 (kdA dt_MX11_net 75 rfl) rfl rfl ?_
      refine gf11_99 rfl (kdA dt_MX11_net 76 rfl) c1 ?_
      refine K_iload 1 (kdA dt_MX11_net 77 rfl) rfl ?_
      refine K_iconst (kdA dt_MX11_net 78 rfl) (by decide) ?_
      refine K_icmp_ne (tgt := 173) (kdA dt_MX11_net 79 rfl) rfl (fun c => ?_) (fun c => ?_)
      · have h := h.1 c
        refine K_iconst (kdA dt_MX11_net 82 rfl) (by decide) ?_
        obtain ⟨c3, h⟩ := h
        refine K_cVi (c := 6) (as := [(0, 0)]) (st := []) (kdA dt_MX11_net 83 rfl) rfl cl_MX6_needed lk11_347 rfl rfl (Nat.le_of_ble_eq_true rfl) c3 (Ci.mono h (fun x4 s1 h => ?_))
        exact K_ireturn (kdA dt_MX11_net 84 rfl) rfl ⟨rfl, _, rfl, h⟩
      · have h := h.2 c
        refine K_iconst (kdA dt_MX11_net 80 rfl) (by decide) ?_
        refine K_goto (tgt := 174) (kdA dt_MX11_net 81 rfl) rfl ?_
        obtain ⟨c3, h⟩ := h
        refine K_cVi (c := 6) (as := [(0, 1)]) (st := []) (kdA dt_MX11_net 83 rfl) rfl cl_MX6_needed lk11_347 rfl rfl (Nat.le_of_ble_eq_true rfl) c3 (Ci.mono h (fun x4 s1 h => ?_))
        exact K_ireturn (kdA dt_MX11_net 84 rfl) rfl ⟨rfl, _, rfl, h⟩
    · have h := h.2 c
      refine K_aload_n 0 (kdA dt_MX11_net 71 rfl) rfl rfl ?_
      refine gf11_99 rfl (kdA dt_MX11_net 72 rfl) c1 ?_
      obtain ⟨c3, h⟩ := h
      refine K_cVi (c := 6) (as := []) (st := []) (kdA dt_MX11_net 73 rfl) rfl cl_MX6_cost lk11_344 rfl rfl (Nat.le_of_ble_eq_true rfl) c3 (Ci.mono h (fun x4 s1 h => ?_))
      exact K_ireturn (kdA dt_MX11_net 74 rfl) rfl ⟨rfl, _, rfl, h⟩
  · have h := h.2 c
    refine K_aload_n 0 (kdA dt_MX11_net 41 rfl) rfl rfl ?_
    refine gf11_64 rfl (kdA dt_MX11_net 42 rfl) c1 ?_
    refine K_aload_n 0 (kdA dt_MX11_net 43 rfl) rfl rfl ?_
    refine gf11_48 rfl (kdA dt_MX11_net 44 rfl) c1 ?_
    refine K_iload 2 (kdA dt_MX11_net 45 rfl) rfl ?_
    refine K_cVi (c := 8) (as := [(0, a5)]) (st := [(2, (σ a0 14))]) (kdA dt_MX11_net 46 rfl) rfl cl_MX8_at lk11_196 rfl rfl (Nat.le_of_ble_eq_true rfl) c2 (Ci.mono h (fun x3 s1 h => ?_))
    obtain ⟨c4, h⟩ := h
    refine K_cVv (c := 10) (as := [(0, x3)]) (st := []) (kdA dt_MX11_net 47 rfl) rfl cl_MX10_spreadTo lk11_340 rfl rfl (Nat.le_of_ble_eq_true rfl) c4 (Cv.mono h (fun s2 h => ?_))
    refine K_iconst (kdA dt_MX11_net 48 rfl) (by decide) ?_
    refine K_istore (ls' := [(0, (2, a0)), (4, (0, a4)), (5, (0, a5)), (6, (0, 0))]) (kdA dt_MX11_net 49 rfl) (by decide) rfl ?_
    exact h
theorem SX11_net_100 {d n : Nat} {Q : Int → kS → Prop} {a0 a4 a5 a6 : Int} {σ : kS} (h : (a5 ≤ a6 → (-2147483648 ≤ (a5 + 1) ∧ (a5 + 1) ≤ 2147483647) ∧ (LX11_net_69 d n Q a0 a4 (a5 + 1) σ)) ∧ (¬ a5 ≤ a6 → isO 11 n a0 ∧ (isO 8 n (σ a0 9) ∧ (Ci d MX8_at [(2, (σ a0 9)), (0, a6)] n σ (fun x3 s1 => isO 10 n (σ a0 14) ∧ (Ci d MX10_least [(2, (σ a0 14)), (0, x3)] n s1 (fun x5 s2 => isO 6 n (σ a0 19) ∧ (Cv d MX6_put [(2, (σ a0 19)), (0, a6), (0, a5), (0, x5)] n s2 (fun s3 => (-2147483648 ≤ (a6 + 1) ∧ (a6 + 1) ≤ 2147483647) ∧ (LX11_net_100 d n Q a0 a4 a5 (a6 + 1) s3)))))))))) : LX11_net_100 d n Q a0 a4 a5 a6 σ := by
  unfold LX11_net_100
  refine K_iload 3 (kdA dt_MX11_net 50 rfl) rfl ?_
  refine K_iload 2 (kdA dt_MX11_net 51 rfl) rfl ?_
  refine K_icmp_ge (tgt := 140) (kdA dt_MX11_net 52 rfl) rfl (fun c => ?_) (fun c => ?_)
  · have h := h.1 c
    obtain ⟨c1, h⟩ := h
    refine K_iinc (ls' := [(0, (2, a0)), (4, (0, a4)), (5, (0, (a5 + 1))), (6, (0, a6))]) 2 (kdA dt_MX11_net 67 rfl) rfl c1 (by decide) rfl ?_
    refine K_goto (tgt := 69) (kdA dt_MX11_net 68 rfl) rfl ?_
    refine K_pick [0, 1, 2] (ls' := [(0, (2, a0)), (4, (0, a4)), (5, (0, (a5 + 1)))]) rfl ?_
    exact h
  · have h := h.2 c
    refine K_aload_n 0 (kdA dt_MX11_net 53 rfl) rfl rfl ?_
    obtain ⟨c1, h⟩ := h
    refine gf11_99 rfl (kdA dt_MX11_net 54 rfl) c1 ?_
    refine K_iload 3 (kdA dt_MX11_net 55 rfl) rfl ?_
    refine K_iload 2 (kdA dt_MX11_net 56 rfl) rfl ?_
    refine K_aload_n 0 (kdA dt_MX11_net 57 rfl) rfl rfl ?_
    refine gf11_64 rfl (kdA dt_MX11_net 58 rfl) c1 ?_
    refine K_aload_n 0 (kdA dt_MX11_net 59 rfl) rfl rfl ?_
    refine gf11_48 rfl (kdA dt_MX11_net 60 rfl) c1 ?_
    refine K_iload 3 (kdA dt_MX11_net 61 rfl) rfl ?_
    obtain ⟨c2, h⟩ := h
    refine K_cVi (c := 8) (as := [(0, a6)]) (st := [(2, (σ a0 14)), (0, a5), (0, a6), (2, (σ a0 19))]) (kdA dt_MX11_net 62 rfl) rfl cl_MX8_at lk11_196 rfl rfl (Nat.le_of_ble_eq_true rfl) c2 (Ci.mono h (fun x3 s1 h => ?_))
    obtain ⟨c4, h⟩ := h
    refine K_cVi (c := 10) (as := [(0, x3)]) (st := [(0, a5), (0, a6), (2, (σ a0 19))]) (kdA dt_MX11_net 63 rfl) rfl cl_MX10_least lk11_190 rfl rfl (Nat.le_of_ble_eq_true rfl) c4 (Ci.mono h (fun x5 s2 h => ?_))
    obtain ⟨c6, h⟩ := h
    refine K_cVv (c := 6) (as := [(0, a6), (0, a5), (0, x5)]) (st := []) (kdA dt_MX11_net 64 rfl) rfl cl_MX6_put lk11_343 rfl rfl (Nat.le_of_ble_eq_true rfl) c6 (Cv.mono h (fun s3 h => ?_))
    obtain ⟨c8, h⟩ := h
    refine K_iinc (ls' := [(0, (2, a0)), (4, (0, a4)), (5, (0, a5)), (6, (0, (a6 + 1)))]) 3 (kdA dt_MX11_net 65 rfl) rfl c8 (by decide) rfl ?_
    refine K_goto (tgt := 100) (kdA dt_MX11_net 66 rfl) rfl ?_
    exact h
theorem EX11_net {d n : Nat} {Q : Int → kS → Prop} {a0 a1 a2 a3 a4 : Int} {σ : kS} (h : (-2147483648 ≤ a1 ∧ a1 ≤ 2147483647) → (-2147483648 ≤ a2 ∧ a2 ≤ 2147483647) → (-2147483648 ≤ a3 ∧ a3 ≤ 2147483647) → (-2147483648 ≤ a4 ∧ a4 ≤ 2147483647) → kokw n σ → LX11_net_0 d n Q a0 a1 a2 a3 a4 σ) : Ci (d + 1) MX11_net [(2, a0), (0, a1), (0, a2), (0, a3), (0, a4)] n σ Q := Tri_of (by decide +kernel) (Nat.le_of_ble_eq_true rfl) (fun hk hw => h (hk (0, a1) (List.mem_of_getElem? (i := 1) rfl)) (hk (0, a2) (List.mem_of_getElem? (i := 2) rfl)) (hk (0, a3) (List.mem_of_getElem? (i := 3) rfl)) (hk (0, a4) (List.mem_of_getElem? (i := 4) rfl)) hw)

def LX11_odds_0 (d n : Nat) (Q : Int → kS → Prop) (a0 : Int) (a1 : Int) (a2 : Int) (a3 : Int) (σ : kS) : Prop := K (d + 1) MX11_odds (kPi n Q) (0, 0) 0 [(0, (2, a0)), (1, (0, a1)), (2, (0, a2)), (3, (0, a3))] [] n σ
def LX11_odds_24 (d n : Nat) (Q : Int → kS → Prop) (a0 : Int) (a1 : Int) (a2 : Int) (a3 : Int) (a4 : Int) (a5 : Int) (σ : kS) : Prop := K (d + 1) MX11_odds (kPi n Q) (0, 0) 24 [(0, (2, a0)), (1, (0, a1)), (2, (0, a2)), (3, (0, a3)), (4, (0, a4)), (5, (0, a5))] [] n σ
theorem SX11_odds_0 {d n : Nat} {Q : Int → kS → Prop} {a0 a1 a2 a3 : Int} {σ : kS} (h : isO 11 n a0 ∧ (Ci d MX11_areTwoTowns [(2, a0), (0, a1), (0, a2)] n σ (fun x2 s1 => (x2 = 0 → Q (-1) s1) ∧ (¬ x2 = 0 → Ci d MX11_isCellOrNone [(0, a3)] n s1 (fun x3 s2 => (¬ x3 = 0 → LX11_odds_24 d n Q a0 a1 a2 a3 0 0 s2) ∧ (¬ (¬ x3 = 0) → Q (-1) s2)))))) : LX11_odds_0 d n Q a0 a1 a2 a3 σ := by
  unfold LX11_odds_0
  refine K_aload_n 0 (kdA dt_MX11_odds 0 rfl) rfl rfl ?_
  refine K_iload_n 1 (kdA dt_MX11_odds 1 rfl) rfl rfl ?_
  refine K_iload_n 2 (kdA dt_MX11_odds 2 rfl) rfl rfl ?_
  obtain ⟨c1, h⟩ := h
  refine K_cVi (c := 11) (as := [(0, a1), (0, a2)]) (st := []) (kdA dt_MX11_odds 3 rfl) rfl cl_MX11_areTwoTowns lk11_307 rfl rfl (Nat.le_of_ble_eq_true rfl) c1 (Ci.mono h (fun x2 s1 h => ?_))
  refine K_if_eq (tgt := 16) (kdA dt_MX11_odds 4 rfl) rfl (fun c => ?_) (fun c => ?_)
  · have h := h.1 c
    refine K_iconst (kdA dt_MX11_odds 8 rfl) (by decide) ?_
    exact K_ireturn (kdA dt_MX11_odds 9 rfl) rfl ⟨rfl, _, rfl, h⟩
  · have h := h.2 c
    refine K_iload_n 3 (kdA dt_MX11_odds 5 rfl) rfl rfl ?_
    refine K_cSi (as := [(0, a3)]) (st := []) (kdA dt_MX11_odds 6 rfl) cl_MX11_isCellOrNone lk11_198 rfl rfl (Nat.le_of_ble_eq_true rfl) (Ci.mono h (fun x3 s2 h => ?_))
    refine K_if_ne (tgt := 18) (kdA dt_MX11_odds 7 rfl) rfl (fun c => ?_) (fun c => ?_)
    · have h := h.1 c
      refine K_iconst (kdA dt_MX11_odds 10 rfl) (by decide) ?_
      refine K_istore (ls' := [(0, (2, a0)), (1, (0, a1)), (2, (0, a2)), (3, (0, a3)), (4, (0, 0))]) (kdA dt_MX11_odds 11 rfl) (by decide) rfl ?_
      refine K_iconst (kdA dt_MX11_odds 12 rfl) (by decide) ?_
      refine K_istore (ls' := [(0, (2, a0)), (1, (0, a1)), (2, (0, a2)), (3, (0, a3)), (4, (0, 0)), (5, (0, 0))]) (kdA dt_MX11_odds 13 rfl) (by decide) rfl ?_
      exact h
    · have h := h.2 c
      refine K_iconst (kdA dt_MX11_odds 8 rfl) (by decide) ?_
      exact K_ireturn (kdA dt_MX11_odds 9 rfl) rfl ⟨rfl, _, rfl, h⟩
theorem SX11_odds_24 {d n : Nat} {Q : Int → kS → Prop} {a0 a1 a2 a3 a4 a5 : Int} {σ : kS} (h : isO 11 n a0 ∧ (((σ a0 6) ≤ a5 → Q a4 σ) ∧ (¬ (σ a0 6) ≤ a5 → Ci d MX11_evidenceOf [(2, a0), (0, a5), (0, a1), (0, a2)] n σ (fun x2 s1 => (a3 = (-1) → (-2147483648 ≤ (a4 + x2) ∧ (a4 + x2) ≤ 2147483647) ∧ ((-2147483648 ≤ (a5 + 1) ∧ (a5 + 1) ≤ 2147483647) ∧ (LX11_odds_24 d n Q a0 a1 a2 a3 (a4 + x2) (a5 + 1) s1))) ∧ (¬ a3 = (-1) → isO 10 n (s1 a0 14) ∧ (isO 8 n (s1 (s1 a0 14) 13) ∧ (Ci d MX8_has [(2, (s1 (s1 a0 14) 13)), (0, a3)] n s1 (fun x5 s2 => (x5 = 0 → (-2147483648 ≤ (a5 + 1) ∧ (a5 + 1) ≤ 2147483647) ∧ (LX11_odds_24 d n Q a0 a1 a2 a3 a4 (a5 + 1) s2)) ∧ (¬ x5 = 0 → (-2147483648 ≤ (a4 + x2) ∧ (a4 + x2) ≤ 2147483647) ∧ ((-2147483648 ≤ (a5 + 1) ∧ (a5 + 1) ≤ 2147483647) ∧ (LX11_odds_24 d n Q a0 a1 a2 a3 (a4 + x2) (a5 + 1) s2))))))))))) : LX11_odds_24 d n Q a0 a1 a2 a3 a4 a5 σ := by
  unfold LX11_odds_24
  refine K_iload 5 (kdA dt_MX11_odds 14 rfl) rfl ?_
  refine K_aload_n 0 (kdA dt_MX11_odds 15 rfl) rfl rfl ?_
  obtain ⟨c1, h⟩ := h
  refine gf11_158 rfl (kdA dt_MX11_odds 16 rfl) c1 ?_
  refine K_icmp_ge (tgt := 75) (kdA dt_MX11_odds 17 rfl) rfl (fun c => ?_) (fun c => ?_)
  · have h := h.1 c
    refine K_iload 4 (kdA dt_MX11_odds 39 rfl) rfl ?_
    exact K_ireturn (kdA dt_MX11_odds 40 rfl) rfl ⟨rfl, _, rfl, h⟩
  · have h := h.2 c
    refine K_aload_n 0 (kdA dt_MX11_odds 18 rfl) rfl rfl ?_
    refine K_iload 5 (kdA dt_MX11_odds 19 rfl) rfl ?_
    refine K_iload_n 1 (kdA dt_MX11_odds 20 rfl) rfl rfl ?_
    refine K_iload_n 2 (kdA dt_MX11_odds 21 rfl) rfl rfl ?_
    refine K_cVi (c := 11) (as := [(0, a5), (0, a1), (0, a2)]) (st := []) (kdA dt_MX11_odds 22 rfl) rfl cl_MX11_evidenceOf lk11_310 rfl rfl (Nat.le_of_ble_eq_true rfl) c1 (Ci.mono h (fun x2 s1 h => ?_))
    refine K_istore (ls' := [(0, (2, a0)), (1, (0, a1)), (2, (0, a2)), (3, (0, a3)), (4, (0, a4)), (5, (0, a5)), (6, (0, x2))]) (kdA dt_MX11_odds 23 rfl) (by decide) rfl ?_
    refine K_iload_n 3 (kdA dt_MX11_odds 24 rfl) rfl rfl ?_
    refine K_iconst (kdA dt_MX11_odds 25 rfl) (by decide) ?_
    refine K_icmp_eq (tgt := 62) (kdA dt_MX11_odds 26 rfl) rfl (fun c => ?_) (fun c => ?_)
    · have h := h.1 c
      refine K_iload 4 (kdA dt_MX11_odds 33 rfl) rfl ?_
      refine K_iload 6 (kdA dt_MX11_odds 34 rfl) rfl ?_
      obtain ⟨c3, h⟩ := h
      refine K_iadd (kdA dt_MX11_odds 35 rfl) c3 ?_
      refine K_istore (ls' := [(0, (2, a0)), (1, (0, a1)), (2, (0, a2)), (3, (0, a3)), (4, (0, (a4 + x2))), (5, (0, a5)), (6, (0, x2))]) (kdA dt_MX11_odds 36 rfl) (by decide) rfl ?_
      obtain ⟨c4, h⟩ := h
      refine K_iinc (ls' := [(0, (2, a0)), (1, (0, a1)), (2, (0, a2)), (3, (0, a3)), (4, (0, (a4 + x2))), (5, (0, (a5 + 1))), (6, (0, x2))]) 5 (kdA dt_MX11_odds 37 rfl) rfl c4 (by decide) rfl ?_
      refine K_goto (tgt := 24) (kdA dt_MX11_odds 38 rfl) rfl ?_
      refine K_pick [0, 1, 2, 3, 4, 5] (ls' := [(0, (2, a0)), (1, (0, a1)), (2, (0, a2)), (3, (0, a3)), (4, (0, (a4 + x2))), (5, (0, (a5 + 1)))]) rfl ?_
      exact h
    · have h := h.2 c
      refine K_aload_n 0 (kdA dt_MX11_odds 27 rfl) rfl rfl ?_
      refine gf11_64 rfl (kdA dt_MX11_odds 28 rfl) c1 ?_
      obtain ⟨c3, h⟩ := h
      refine gf11_193 rfl (kdA dt_MX11_odds 29 rfl) c3 ?_
      refine K_iload_n 3 (kdA dt_MX11_odds 30 rfl) rfl rfl ?_
      obtain ⟨c4, h⟩ := h
      refine K_cVi (c := 8) (as := [(0, a3)]) (st := []) (kdA dt_MX11_odds 31 rfl) rfl cl_MX8_has lk11_124 rfl rfl (Nat.le_of_ble_eq_true rfl) c4 (Ci.mono h (fun x5 s2 h => ?_))
      refine K_if_eq (tgt := 69) (kdA dt_MX11_odds 32 rfl) rfl (fun c => ?_) (fun c => ?_)
      · have h := h.1 c
        obtain ⟨c6, h⟩ := h
        refine K_iinc (ls' := [(0, (2, a0)), (1, (0, a1)), (2, (0, a2)), (3, (0, a3)), (4, (0, a4)), (5, (0, (a5 + 1))), (6, (0, x2))]) 5 (kdA dt_MX11_odds 37 rfl) rfl c6 (by decide) rfl ?_
        refine K_goto (tgt := 24) (kdA dt_MX11_odds 38 rfl) rfl ?_
        refine K_pick [0, 1, 2, 3, 4, 5] (ls' := [(0, (2, a0)), (1, (0, a1)), (2, (0, a2)), (3, (0, a3)), (4, (0, a4)), (5, (0, (a5 + 1)))]) rfl ?_
        exact h
      · have h := h.2 c
        refine K_iload 4 (kdA dt_MX11_odds 33 rfl) rfl ?_
        refine K_iload 6 (kdA dt_MX11_odds 34 rfl) rfl ?_
        obtain ⟨c6, h⟩ := h
        refine K_iadd (kdA dt_MX11_odds 35 rfl) c6 ?_
        refine K_istore (ls' := [(0, (2, a0)), (1, (0, a1)), (2, (0, a2)), (3, (0, a3)), (4, (0, (a4 + x2))), (5, (0, a5)), (6, (0, x2))]) (kdA dt_MX11_odds 36 rfl) (by decide) rfl ?_
        obtain ⟨c7, h⟩ := h
        refine K_iinc (ls' := [(0, (2, a0)), (1, (0, a1)), (2, (0, a2)), (3, (0, a3)), (4, (0, (a4 + x2))), (5, (0, (a5 + 1))), (6, (0, x2))]) 5 (kdA dt_MX11_odds 37 rfl) rfl c7 (by decide) rfl ?_
        refine K_goto (tgt := 24) (kdA dt_MX11_odds 38 rfl) rfl ?_
        refine K_pick [0, 1, 2, 3, 4, 5] (ls' := [(0, (2, a0)), (1, (0, a1)), (2, (0, a2)), (3, (0, a3)), (4, (0, (a4 + x2))), (5, (0, (a5 + 1)))]) rfl ?_
        exact h
theorem EX11_odds {d n : Nat} {Q : Int → kS → Prop} {a0 a1 a2 a3 : Int} {σ : kS} (h : (-2147483648 ≤ a1 ∧ a1 ≤ 2147483647) → (-2147483648 ≤ a2 ∧ a2 ≤ 2147483647) → (-2147483648 ≤ a3 ∧ a3 ≤ 2147483647) → kokw n σ → LX11_odds_0 d n Q a0 a1 a2 a3 σ) : Ci (d + 1) MX11_odds [(2, a0), (0, a1), (0, a2), (0, a3)] n σ Q := Tri_of (by decide +kernel) (Nat.le_of_ble_eq_true rfl) (fun hk hw => h (hk (0, a1) (List.mem_of_getElem? (i := 1) rfl)) (hk (0, a2) (List.mem_of_getElem? (i := 2) rfl)) (hk (0, a3) (List.mem_of_getElem? (i := 3) rfl)) hw)

def LX11_off_0 (d n : Nat) (Q : Int → kS → Prop) (a0 : Int) (a1 : Int) (a2 : Int) (a3 : Int) (a4 : Int) (a5 : Int) (σ : kS) : Prop := K (d + 1) MX11_off (kPi n Q) (0, 0) 0 [(0, (2, a0)), (1, (0, a1)), (2, (0, a2)), (3, (0, a3)), (4, (0, a4)), (5, (0, a5))] [] n σ
theorem SX11_off_0 {d n : Nat} {Q : Int → kS → Prop} {a0 a1 a2 a3 a4 a5 : Int} {σ : kS} (h : isO 11 n a0 ∧ (Ci d MX11_isStage [(2, a0), (0, a1), (0, a2)] n σ (fun x2 s1 => (x2 = 0 → Q (-100000) s1) ∧ (¬ x2 = 0 → Ci d MX11_isManner [(2, a0), (0, a3), (0, a4)] n s1 (fun x3 s2 => (¬ x3 = 0 → isA 26 n (s2 a0 5) ∧ (((0 : Int) ≤ a3 ∧ a3 < klen (s2 a0 5)) ∧ (isO 10 n (s2 a0 14) ∧ (Cv d MX10_fit [(2, (s2 a0 14)), (2, (s2 (s2 a0 5) a3)), (0, a4), (0, a5), (2, (s2 a0 0))] n s2 (fun s3 => isA 27 n (s3 a0 7) ∧ (((0 : Int) ≤ a1 ∧ a1 < klen (s3 a0 7)) ∧ (isO 0 n (s3 (s3 a0 7) a1) ∧ (Ci d MX0_milesTold [(2, (s3 (s3 a0 7) a1)), (0, a2)] n s3 (fun x11 s4 => isA 27 n (s4 a0 7) ∧ (((0 : Int) ≤ a1 ∧ a1 < klen (s4 a0 7)) ∧ (Ci d MX11_milesOfStage [(2, a0), (2, (s4 (s4 a0 7) a1)), (0, a2)] n s4 (fun x14 s5 => (-2147483648 ≤ (x11 - x14) ∧ (x11 - x14) ≤ 2147483647) ∧ (Q (x11 - x14) s5))))))))))))) ∧ (¬ (¬ x3 = 0) → Q (-100000) s2)))))) : LX11_off_0 d n Q a0 a1 a2 a3 a4 a5 σ := by
  unfold LX11_off_0
  refine K_aload_n 0 (kdA dt_MX11_off 0 rfl) rfl rfl ?_
  refine K_iload_n 1 (kdA dt_MX11_off 1 rfl) rfl rfl ?_
  refine K_iload_n 2 (kdA dt_MX11_off 2 rfl) rfl rfl ?_
  obtain ⟨c1, h⟩ := h
  refine K_cVi (c := 11) (as := [(0, a1), (0, a2)]) (st := []) (kdA dt_MX11_off 3 rfl) rfl cl_MX11_isStage lk11_280 rfl rfl (Nat.le_of_ble_eq_true rfl) c1 (Ci.mono h (fun x2 s1 h => ?_))
  refine K_if_eq (tgt := 19) (kdA dt_MX11_off 4 rfl) rfl (fun c => ?_) (fun c => ?_)
  · have h := h.1 c
    refine K_ldcw (x := (-100000)) (kdA dt_MX11_off 10 rfl) (tb4 114 rfl rfl) (by decide +kernel) ?_
    exact K_ireturn (kdA dt_MX11_off 11 rfl) rfl ⟨rfl, _, rfl, h⟩
  · have h := h.2 c
    refine K_aload_n 0 (kdA dt_MX11_off 5 rfl) rfl rfl ?_
    refine K_iload_n 3 (kdA dt_MX11_off 6 rfl) rfl rfl ?_
    refine K_iload 4 (kdA dt_MX11_off 7 rfl) rfl ?_
    refine K_cVi (c := 11) (as := [(0, a3), (0, a4)]) (st := []) (kdA dt_MX11_off 8 rfl) rfl cl_MX11_isManner lk11_169 rfl rfl (Nat.le_of_ble_eq_true rfl) c1 (Ci.mono h (fun x3 s2 h => ?_))
    refine K_if_ne (tgt := 23) (kdA dt_MX11_off 9 rfl) rfl (fun c => ?_) (fun c => ?_)
    · have h := h.1 c
      refine K_aload_n 0 (kdA dt_MX11_off 12 rfl) rfl rfl ?_
      refine gf11_64 rfl (kdA dt_MX11_off 13 rfl) c1 ?_
      refine K_aload_n 0 (kdA dt_MX11_off 14 rfl) rfl rfl ?_
      refine gf11_38 rfl (kdA dt_MX11_off 15 rfl) c1 ?_
      refine K_iload_n 3 (kdA dt_MX11_off 16 rfl) rfl rfl ?_
      obtain ⟨c4, h⟩ := h
      obtain ⟨c5, h⟩ := h
      refine K_aaload (kdA dt_MX11_off 17 rfl) (by decide) c4 c5.1 c5.2 ?_
      refine K_iload 4 (kdA dt_MX11_off 18 rfl) rfl ?_
      refine K_iload 5 (kdA dt_MX11_off 19 rfl) rfl ?_
      refine K_aload_n 0 (kdA dt_MX11_off 20 rfl) rfl rfl ?_
      refine gf11_10 rfl (kdA dt_MX11_off 21 rfl) c1 ?_
      obtain ⟨c6, h⟩ := h
      refine K_cVv (c := 10) (as := [(2, (s2 (s2 a0 5) a3)), (0, a4), (0, a5), (2, (s2 a0 0))]) (st := []) (kdA dt_MX11_off 22 rfl) rfl cl_MX10_fit lk11_179 rfl rfl (Nat.le_of_ble_eq_true rfl) c6 (Cv.mono h (fun s3 h => ?_))
      refine K_aload_n 0 (kdA dt_MX11_off 23 rfl) rfl rfl ?_
      refine gf11_44 rfl (kdA dt_MX11_off 24 rfl) c1 ?_
      refine K_iload_n 1 (kdA dt_MX11_off 25 rfl) rfl rfl ?_
      obtain ⟨c8, h⟩ := h
      obtain ⟨c9, h⟩ := h
      refine K_aaload (kdA dt_MX11_off 26 rfl) (by decide) c8 c9.1 c9.2 ?_
      refine K_iload_n 2 (kdA dt_MX11_off 27 rfl) rfl rfl ?_
      obtain ⟨c10, h⟩ := h
      refine K_cVi (c := 0) (as := [(0, a2)]) (st := []) (kdA dt_MX11_off 28 rfl) rfl cl_MX0_milesTold lk11_283 rfl rfl (Nat.le_of_ble_eq_true rfl) c10 (Ci.mono h (fun x11 s4 h => ?_))
      refine K_aload_n 0 (kdA dt_MX11_off 29 rfl) rfl rfl ?_
      refine K_aload_n 0 (kdA dt_MX11_off 30 rfl) rfl rfl ?_
      refine gf11_44 rfl (kdA dt_MX11_off 31 rfl) c1 ?_
      refine K_iload_n 1 (kdA dt_MX11_off 32 rfl) rfl rfl ?_
      obtain ⟨c12, h⟩ := h
      obtain ⟨c13, h⟩ := h
      refine K_aaload (kdA dt_MX11_off 33 rfl) (by decide) c12 c13.1 c13.2 ?_
      refine K_iload_n 2 (kdA dt_MX11_off 34 rfl) rfl rfl ?_
      refine K_cVi (c := 11) (as := [(2, (s4 (s4 a0 7) a1)), (0, a2)]) (st := [(0, x11)]) (kdA dt_MX11_off 35 rfl) rfl cl_MX11_milesOfStage lk11_290 rfl rfl (Nat.le_of_ble_eq_true rfl) c1 (Ci.mono h (fun x14 s5 h => ?_))
      obtain ⟨c15, h⟩ := h
      refine K_isub (kdA dt_MX11_off 36 rfl) c15 ?_
      exact K_ireturn (kdA dt_MX11_off 37 rfl) rfl ⟨rfl, _, rfl, h⟩
    · have h := h.2 c
      refine K_ldcw (x := (-100000)) (kdA dt_MX11_off 10 rfl) (tb4 114 rfl rfl) (by decide +kernel) ?_
      exact K_ireturn (kdA dt_MX11_off 11 rfl) rfl ⟨rfl, _, rfl, h⟩
theorem EX11_off {d n : Nat} {Q : Int → kS → Prop} {a0 a1 a2 a3 a4 a5 : Int} {σ : kS} (h : (-2147483648 ≤ a1 ∧ a1 ≤ 2147483647) → (-2147483648 ≤ a2 ∧ a2 ≤ 2147483647) → (-2147483648 ≤ a3 ∧ a3 ≤ 2147483647) → (-2147483648 ≤ a4 ∧ a4 ≤ 2147483647) → (-2147483648 ≤ a5 ∧ a5 ≤ 2147483647) → kokw n σ → LX11_off_0 d n Q a0 a1 a2 a3 a4 a5 σ) : Ci (d + 1) MX11_off [(2, a0), (0, a1), (0, a2), (0, a3), (0, a4), (0, a5)] n σ Q := Tri_of (by decide +kernel) (Nat.le_of_ble_eq_true rfl) (fun hk hw => h (hk (0, a1) (List.mem_of_getElem? (i := 1) rfl)) (hk (0, a2) (List.mem_of_getElem? (i := 2) rfl)) (hk (0, a3) (List.mem_of_getElem? (i := 3) rfl)) (hk (0, a4) (List.mem_of_getElem? (i := 4) rfl)) (hk (0, a5) (List.mem_of_getElem? (i := 5) rfl)) hw)

def LX11_older_0 (d n : Nat) (Q : Int → kS → Prop) (a0 : Int) (a1 : Int) (σ : kS) : Prop := K (d + 1) MX11_older (kPi n Q) (0, 0) 0 [(0, (2, a0)), (1, (0, a1))] [] n σ
def LX11_older_16 (d n : Nat) (Q : Int → kS → Prop) (a0 : Int) (a1 : Int) (a2 : Int) (a3 : Int) (σ : kS) : Prop := K (d + 1) MX11_older (kPi n Q) (0, 0) 16 [(0, (2, a0)), (1, (0, a1)), (2, (0, a2)), (3, (0, a3))] [] n σ
theorem SX11_older_0 {d n : Nat} {Q : Int → kS → Prop} {a0 a1 : Int} {σ : kS} (h : isO 11 n a0 ∧ (Ci d MX11_isLine [(2, a0), (0, a1)] n σ (fun x2 s1 => (¬ x2 = 0 → LX11_older_16 d n Q a0 a1 0 0 s1) ∧ (¬ (¬ x2 = 0) → Q (-100000) s1)))) : LX11_older_0 d n Q a0 a1 σ := by
  unfold LX11_older_0
  refine K_aload_n 0 (kdA dt_MX11_older 0 rfl) rfl rfl ?_
  refine K_iload_n 1 (kdA dt_MX11_older 1 rfl) rfl rfl ?_
  obtain ⟨c1, h⟩ := h
  refine K_cVi (c := 11) (as := [(0, a1)]) (st := []) (kdA dt_MX11_older 2 rfl) rfl cl_MX11_isLine lk11_233 rfl rfl (Nat.le_of_ble_eq_true rfl) c1 (Ci.mono h (fun x2 s1 h => ?_))
  refine K_if_ne (tgt := 12) (kdA dt_MX11_older 3 rfl) rfl (fun c => ?_) (fun c => ?_)
  · have h := h.1 c
    refine K_iconst (kdA dt_MX11_older 6 rfl) (by decide) ?_
    refine K_istore_n (ls' := [(0, (2, a0)), (1, (0, a1)), (2, (0, 0))]) (kdA dt_MX11_older 7 rfl) rfl (by decide) rfl ?_
    refine K_iconst (kdA dt_MX11_older 8 rfl) (by decide) ?_
    refine K_istore_n (ls' := [(0, (2, a0)), (1, (0, a1)), (2, (0, 0)), (3, (0, 0))]) (kdA dt_MX11_older 9 rfl) rfl (by decide) rfl ?_
    exact h
  · have h := h.2 c
    refine K_ldcw (x := (-100000)) (kdA dt_MX11_older 4 rfl) (tb4 114 rfl rfl) (by decide +kernel) ?_
    exact K_ireturn (kdA dt_MX11_older 5 rfl) rfl ⟨rfl, _, rfl, h⟩
theorem SX11_older_16 {d n : Nat} {Q : Int → kS → Prop} {a0 a1 a2 a3 : Int} {σ : kS} (h : isO 11 n a0 ∧ (isO 8 n (σ a0 13) ∧ (((0 : Int) ≤ (σ (σ a0 13) 1)) ∧ ((((σ (σ a0 13) 1) / 4) ≤ a3 → Q a2 σ) ∧ (¬ ((σ (σ a0 13) 1) / 4) ≤ a3 → isA 28 n (σ a0 10) ∧ (((0 : Int) ≤ a1 ∧ a1 < klen (σ a0 10)) ∧ (Ci d MX11_meeting [(2, a0), (2, (σ (σ a0 10) a1)), (0, a3)] n σ (fun x6 s1 => ((kand x6 1) = 0 → ((kand x6 2) = 0 → (-2147483648 ≤ (a3 + 1) ∧ (a3 + 1) ≤ 2147483647) ∧ (LX11_older_16 d n Q a0 a1 a2 (a3 + 1) s1)) ∧ (¬ (kand x6 2) = 0 → (-2147483648 ≤ (a2 + (-1)) ∧ (a2 + (-1)) ≤ 2147483647) ∧ ((-2147483648 ≤ (a3 + 1) ∧ (a3 + 1) ≤ 2147483647) ∧ (LX11_older_16 d n Q a0 a1 (a2 + (-1)) (a3 + 1) s1)))) ∧ (¬ (kand x6 1) = 0 → (-2147483648 ≤ (a2 + 1) ∧ (a2 + 1) ≤ 2147483647) ∧ ((-2147483648 ≤ (a3 + 1) ∧ (a3 + 1) ≤ 2147483647) ∧ (LX11_older_16 d n Q a0 a1 (a2 + 1) (a3 + 1) s1))))))))))) : LX11_older_16 d n Q a0 a1 a2 a3 σ := by
  unfold LX11_older_16
  refine K_iload_n 3 (kdA dt_MX11_older 10 rfl) rfl rfl ?_
  refine K_aload_n 0 (kdA dt_MX11_older 11 rfl) rfl rfl ?_
  obtain ⟨c1, h⟩ := h
  refine gf11_58 rfl (kdA dt_MX11_older 12 rfl) c1 ?_
  obtain ⟨c2, h⟩ := h
  refine gf11_130 rfl (kdA dt_MX11_older 13 rfl) c2 ?_
  refine K_iconst (kdA dt_MX11_older 14 rfl) (by decide) ?_
  obtain ⟨c3, h⟩ := h
  refine K_idiv (kdA dt_MX11_older 15 rfl) c3 (by decide) ?_
  refine K_icmp_ge (tgt := 71) (kdA dt_MX11_older 16 rfl) rfl (fun c => ?_) (fun c => ?_)
  · have h := h.1 c
    refine K_iload_n 2 (kdA dt_MX11_older 38 rfl) rfl rfl ?_
    exact K_ireturn (kdA dt_MX11_older 39 rfl) rfl ⟨rfl, _, rfl, h⟩
  · have h := h.2 c
    refine K_aload_n 0 (kdA dt_MX11_older 17 rfl) rfl rfl ?_
    refine K_aload_n 0 (kdA dt_MX11_older 18 rfl) rfl rfl ?_
    refine gf11_51 rfl (kdA dt_MX11_older 19 rfl) c1 ?_
    refine K_iload_n 1 (kdA dt_MX11_older 20 rfl) rfl rfl ?_
    obtain ⟨c4, h⟩ := h
    obtain ⟨c5, h⟩ := h
    refine K_aaload (kdA dt_MX11_older 21 rfl) (by decide) c4 c5.1 c5.2 ?_
    refine K_iload_n 3 (kdA dt_MX11_older 22 rfl) rfl rfl ?_
    refine K_cVi (c := 11) (as := [(2, (σ (σ a0 10) a1)), (0, a3)]) (st := []) (kdA dt_MX11_older 23 rfl) rfl cl_MX11_meeting lk11_326 rfl rfl (Nat.le_of_ble_eq_true rfl) c1 (Ci.mono h (fun x6 s1 h => ?_))
    refine K_istore (ls' := [(0, (2, a0)), (1, (0, a1)), (2, (0, a2)), (3, (0, a3)), (4, (0, x6))]) (kdA dt_MX11_older 24 rfl) (by decide) rfl ?_
    refine K_iload 4 (kdA dt_MX11_older 25 rfl) rfl ?_
    refine K_iconst (kdA dt_MX11_older 26 rfl) (by decide) ?_
    refine K_iand (kdA dt_MX11_older 27 rfl) ?_
    refine K_if_eq (tgt := 55) (kdA dt_MX11_older 28 rfl) rfl (fun c => ?_) (fun c => ?_)
    · have h := h.1 c
      refine K_iload 4 (kdA dt_MX11_older 31 rfl) rfl ?_
      refine K_iconst (kdA dt_MX11_older 32 rfl) (by decide) ?_
      refine K_iand (kdA dt_MX11_older 33 rfl) ?_
      refine K_if_eq (tgt := 65) (kdA dt_MX11_older 34 rfl) rfl (fun c => ?_) (fun c => ?_)
      · have h := h.1 c
        obtain ⟨c7, h⟩ := h
        refine K_iinc (ls' := [(0, (2, a0)), (1, (0, a1)), (2, (0, a2)), (3, (0, (a3 + 1))), (4, (0, x6))]) 3 (kdA dt_MX11_older 36 rfl) rfl c7 (by decide) rfl ?_
        refine K_goto (tgt := 16) (kdA dt_MX11_older 37 rfl) rfl ?_
        refine K_pick [0, 1, 2, 3] (ls' := [(0, (2, a0)), (1, (0, a1)), (2, (0, a2)), (3, (0, (a3 + 1)))]) rfl ?_
        exact h
      · have h := h.2 c
        obtain ⟨c7, h⟩ := h
        refine K_iinc (ls' := [(0, (2, a0)), (1, (0, a1)), (2, (0, (a2 + (-1)))), (3, (0, a3)), (4, (0, x6))]) 2 (kdA dt_MX11_older 35 rfl) rfl c7 (by decide) rfl ?_
        obtain ⟨c8, h⟩ := h
        refine K_iinc (ls' := [(0, (2, a0)), (1, (0, a1)), (2, (0, (a2 + (-1)))), (3, (0, (a3 + 1))), (4, (0, x6))]) 3 (kdA dt_MX11_older 36 rfl) rfl c8 (by decide) rfl ?_
        refine K_goto (tgt := 16) (kdA dt_MX11_older 37 rfl) rfl ?_
        refine K_pick [0, 1, 2, 3] (ls' := [(0, (2, a0)), (1, (0, a1)), (2, (0, (a2 + (-1)))), (3, (0, (a3 + 1)))]) rfl ?_
        exact h
    · have h := h.2 c
      obtain ⟨c7, h⟩ := h
      refine K_iinc (ls' := [(0, (2, a0)), (1, (0, a1)), (2, (0, (a2 + 1))), (3, (0, a3)), (4, (0, x6))]) 2 (kdA dt_MX11_older 29 rfl) rfl c7 (by decide) rfl ?_
      refine K_goto (tgt := 65) (kdA dt_MX11_older 30 rfl) rfl ?_
      obtain ⟨c8, h⟩ := h
      refine K_iinc (ls' := [(0, (2, a0)), (1, (0, a1)), (2, (0, (a2 + 1))), (3, (0, (a3 + 1))), (4, (0, x6))]) 3 (kdA dt_MX11_older 36 rfl) rfl c8 (by decide) rfl ?_
      refine K_goto (tgt := 16) (kdA dt_MX11_older 37 rfl) rfl ?_
      refine K_pick [0, 1, 2, 3] (ls' := [(0, (2, a0)), (1, (0, a1)), (2, (0, (a2 + 1))), (3, (0, (a3 + 1)))]) rfl ?_
      exact h
theorem EX11_older {d n : Nat} {Q : Int → kS → Prop} {a0 a1 : Int} {σ : kS} (h : (-2147483648 ≤ a1 ∧ a1 ≤ 2147483647) → kokw n σ → LX11_older_0 d n Q a0 a1 σ) : Ci (d + 1) MX11_older [(2, a0), (0, a1)] n σ Q := Tri_of (by decide +kernel) (Nat.le_of_ble_eq_true rfl) (fun hk hw => h (hk (0, a1) (List.mem_of_getElem? (i := 1) rfl)) hw)

def LX11_pains_0 (d n : Nat) (Q : Int → kS → Prop) (a0 : Int) (a1 : Int) (a2 : Int) (a3 : Int) (a4 : Int) (a5 : Int) (σ : kS) : Prop := K (d + 1) MX11_pains (kPi n Q) (0, 0) 0 [(0, (2, a0)), (1, (0, a1)), (2, (0, a2)), (3, (0, a3)), (4, (0, a4)), (5, (0, a5))] [] n σ
theorem SX11_pains_0 {d n : Nat} {Q : Int → kS → Prop} {a0 a1 a2 a3 a4 a5 : Int} {σ : kS} (h : isO 11 n a0 ∧ (Ci d MX11_goes [(2, a0), (2, (σ a0 0)), (0, a1), (0, a2), (0, a3), (0, a4), (0, a5)] n σ (fun x2 s1 => (x2 = 0 → Q (-1) s1) ∧ (¬ x2 = 0 → isO 10 n (s1 a0 14) ∧ (Ci d MX10_least [(2, (s1 a0 14)), (0, a4)] n s1 (fun x4 s2 => Q x4 s2)))))) : LX11_pains_0 d n Q a0 a1 a2 a3 a4 a5 σ := by
  unfold LX11_pains_0
  refine K_aload_n 0 (kdA dt_MX11_pains 0 rfl) rfl rfl ?_
  refine K_aload_n 0 (kdA dt_MX11_pains 1 rfl) rfl rfl ?_
  obtain ⟨c1, h⟩ := h
  refine gf11_10 rfl (kdA dt_MX11_pains 2 rfl) c1 ?_
  refine K_iload_n 1 (kdA dt_MX11_pains 3 rfl) rfl rfl ?_
  refine K_iload_n 2 (kdA dt_MX11_pains 4 rfl) rfl rfl ?_
  refine K_iload_n 3 (kdA dt_MX11_pains 5 rfl) rfl rfl ?_
  refine K_iload 4 (kdA dt_MX11_pains 6 rfl) rfl ?_
  refine K_iload 5 (kdA dt_MX11_pains 7 rfl) rfl ?_
  refine K_cVi (c := 11) (as := [(2, (σ a0 0)), (0, a1), (0, a2), (0, a3), (0, a4), (0, a5)]) (st := []) (kdA dt_MX11_pains 8 rfl) rfl cl_MX11_goes lk11_186 rfl rfl (Nat.le_of_ble_eq_true rfl) c1 (Ci.mono h (fun x2 s1 h => ?_))
  refine K_if_eq (tgt := 30) (kdA dt_MX11_pains 9 rfl) rfl (fun c => ?_) (fun c => ?_)
  · have h := h.1 c
    refine K_iconst (kdA dt_MX11_pains 15 rfl) (by decide) ?_
    exact K_ireturn (kdA dt_MX11_pains 16 rfl) rfl ⟨rfl, _, rfl, h⟩
  · have h := h.2 c
    refine K_aload_n 0 (kdA dt_MX11_pains 10 rfl) rfl rfl ?_
    refine gf11_64 rfl (kdA dt_MX11_pains 11 rfl) c1 ?_
    refine K_iload 4 (kdA dt_MX11_pains 12 rfl) rfl ?_
    obtain ⟨c3, h⟩ := h
    refine K_cVi (c := 10) (as := [(0, a4)]) (st := []) (kdA dt_MX11_pains 13 rfl) rfl cl_MX10_least lk11_190 rfl rfl (Nat.le_of_ble_eq_true rfl) c3 (Ci.mono h (fun x4 s2 h => ?_))
    refine K_goto (tgt := 31) (kdA dt_MX11_pains 14 rfl) rfl ?_
    exact K_ireturn (kdA dt_MX11_pains 16 rfl) rfl ⟨rfl, _, rfl, h⟩
theorem EX11_pains {d n : Nat} {Q : Int → kS → Prop} {a0 a1 a2 a3 a4 a5 : Int} {σ : kS} (h : (-2147483648 ≤ a1 ∧ a1 ≤ 2147483647) → (-2147483648 ≤ a2 ∧ a2 ≤ 2147483647) → (-2147483648 ≤ a3 ∧ a3 ≤ 2147483647) → (-2147483648 ≤ a4 ∧ a4 ≤ 2147483647) → (-2147483648 ≤ a5 ∧ a5 ≤ 2147483647) → kokw n σ → LX11_pains_0 d n Q a0 a1 a2 a3 a4 a5 σ) : Ci (d + 1) MX11_pains [(2, a0), (0, a1), (0, a2), (0, a3), (0, a4), (0, a5)] n σ Q := Tri_of (by decide +kernel) (Nat.le_of_ble_eq_true rfl) (fun hk hw => h (hk (0, a1) (List.mem_of_getElem? (i := 1) rfl)) (hk (0, a2) (List.mem_of_getElem? (i := 2) rfl)) (hk (0, a3) (List.mem_of_getElem? (i := 3) rfl)) (hk (0, a4) (List.mem_of_getElem? (i := 4) rfl)) (hk (0, a5) (List.mem_of_getElem? (i := 5) rfl)) hw)

def LX11_pit_0 (d n : Nat) (Q : Int → kS → Prop) (a0 : Int) (a1 : Int) (σ : kS) : Prop := K (d + 1) MX11_pit (kPi n Q) (0, 0) 0 [(0, (2, a0)), (1, (0, a1))] [] n σ
theorem SX11_pit_0 {d n : Nat} {Q : Int → kS → Prop} {a0 a1 : Int} {σ : kS} (h : Ci d MX11_isCell [(0, a1)] n σ (fun x1 s1 => (x1 = 0 → Q (-1) s1) ∧ (¬ x1 = 0 → isO 11 n a0 ∧ (isO 7 n (s1 a0 17) ∧ (isO 8 n (s1 (s1 a0 17) 0) ∧ (Ci d MX8_add [(2, (s1 (s1 a0 17) 0)), (0, a1)] n s1 (fun x5 s2 => (¬ x5 = 0 → isO 7 n (s2 a0 17) ∧ (isO 8 n (s2 (s2 a0 17) 0) ∧ ((-2147483648 ≤ ((s2 (s2 (s2 a0 17) 0) 1) - 1) ∧ ((s2 (s2 (s2 a0 17) 0) 1) - 1) ≤ 2147483647) ∧ (Q ((s2 (s2 (s2 a0 17) 0) 1) - 1) s2)))) ∧ (¬ (¬ x5 = 0) → Q (-1) s2)))))))) : LX11_pit_0 d n Q a0 a1 σ := by
  unfold LX11_pit_0
  refine K_iload_n 1 (kdA dt_MX11_pit 0 rfl) rfl rfl ?_
  refine K_cSi (as := [(0, a1)]) (st := []) (kdA dt_MX11_pit 1 rfl) cl_MX11_isCell lk11_117 rfl rfl (Nat.le_of_ble_eq_true rfl) (Ci.mono h (fun x1 s1 h => ?_))
  refine K_if_eq (tgt := 21) (kdA dt_MX11_pit 2 rfl) rfl (fun c => ?_) (fun c => ?_)
  · have h := h.1 c
    refine K_iconst (kdA dt_MX11_pit 9 rfl) (by decide) ?_
    exact K_ireturn (kdA dt_MX11_pit 10 rfl) rfl ⟨rfl, _, rfl, h⟩
  · have h := h.2 c
    refine K_aload_n 0 (kdA dt_MX11_pit 3 rfl) rfl rfl ?_
    obtain ⟨c2, h⟩ := h
    refine gf11_85 rfl (kdA dt_MX11_pit 4 rfl) c2 ?_
    obtain ⟨c3, h⟩ := h
    refine gf11_313 rfl (kdA dt_MX11_pit 5 rfl) c3 ?_
    refine K_iload_n 1 (kdA dt_MX11_pit 6 rfl) rfl rfl ?_
    obtain ⟨c4, h⟩ := h
    refine K_cVi (c := 8) (as := [(0, a1)]) (st := []) (kdA dt_MX11_pit 7 rfl) rfl cl_MX8_add lk11_127 rfl rfl (Nat.le_of_ble_eq_true rfl) c4 (Ci.mono h (fun x5 s2 h => ?_))
    refine K_if_ne (tgt := 23) (kdA dt_MX11_pit 8 rfl) rfl (fun c => ?_) (fun c => ?_)
    · have h := h.1 c
      refine K_aload_n 0 (kdA dt_MX11_pit 11 rfl) rfl rfl ?_
      refine gf11_85 rfl (kdA dt_MX11_pit 12 rfl) c2 ?_
      obtain ⟨c6, h⟩ := h
      refine gf11_313 rfl (kdA dt_MX11_pit 13 rfl) c6 ?_
      obtain ⟨c7, h⟩ := h
      refine gf11_130 rfl (kdA dt_MX11_pit 14 rfl) c7 ?_
      refine K_iconst (kdA dt_MX11_pit 15 rfl) (by decide) ?_
      obtain ⟨c8, h⟩ := h
      refine K_isub (kdA dt_MX11_pit 16 rfl) c8 ?_
      exact K_ireturn (kdA dt_MX11_pit 17 rfl) rfl ⟨rfl, _, rfl, h⟩
    · have h := h.2 c
      refine K_iconst (kdA dt_MX11_pit 9 rfl) (by decide) ?_
      exact K_ireturn (kdA dt_MX11_pit 10 rfl) rfl ⟨rfl, _, rfl, h⟩
theorem EX11_pit {d n : Nat} {Q : Int → kS → Prop} {a0 a1 : Int} {σ : kS} (h : (-2147483648 ≤ a1 ∧ a1 ≤ 2147483647) → kokw n σ → LX11_pit_0 d n Q a0 a1 σ) : Ci (d + 1) MX11_pit [(2, a0), (0, a1)] n σ Q := Tri_of (by decide +kernel) (Nat.le_of_ble_eq_true rfl) (fun hk hw => h (hk (0, a1) (List.mem_of_getElem? (i := 1) rfl)) hw)

def LX11_placeIn_0 (d n : Nat) (Q : Int → kS → Prop) (a0 : Int) (a1 : Int) (a2 : Int) (σ : kS) : Prop := K (d + 1) MX11_placeIn (kPi n Q) (0, 0) 0 [(0, (2, a0)), (1, (0, a1)), (2, (0, a2))] [] n σ
theorem SX11_placeIn_0 {d n : Nat} {Q : Int → kS → Prop} {a0 a1 a2 : Int} {σ : kS} (h : ((0 : Int) ≤ a2) ∧ (isO 11 n a0 ∧ ((-2147483648 ≤ (a1 * 4) ∧ (a1 * 4) ≤ 2147483647) ∧ (isO 8 n (σ a0 13) ∧ (Ci d MX8_at [(2, (σ a0 13)), (0, (a1 * 4))] n σ (fun x5 s1 => (-2147483648 ≤ ((a1 * 4) + 1) ∧ ((a1 * 4) + 1) ≤ 2147483647) ∧ (isO 8 n (s1 a0 13) ∧ (Ci d MX8_at [(2, (s1 a0 13)), (0, ((a1 * 4) + 1))] n s1 (fun x8 s2 => (-2147483648 ≤ ((a1 * 4) + 2) ∧ ((a1 * 4) + 2) ≤ 2147483647) ∧ (isO 8 n (s2 a0 13) ∧ (Ci d MX8_at [(2, (s2 a0 13)), (0, ((a1 * 4) + 2))] n s2 (fun x11 s3 => (-2147483648 ≤ ((a1 * 4) + 3) ∧ ((a1 * 4) + 3) ≤ 2147483647) ∧ (isO 8 n (s3 a0 13) ∧ (Ci d MX8_at [(2, (s3 a0 13)), (0, ((a1 * 4) + 3))] n s3 (fun x14 s4 => ((a2 % 12) < x5 → Q 0 s4) ∧ (¬ (a2 % 12) < x5 → (x11 < (a2 % 12) → Q 0 s4) ∧ (¬ x11 < (a2 % 12) → ((a2 / 12) < x8 → Q 0 s4) ∧ (¬ (a2 / 12) < x8 → ((a2 / 12) ≤ x14 → ((a2 % 12) = x5 → Q 2 s4) ∧ (¬ (a2 % 12) = x5 → ((a2 % 12) = x11 → Q 2 s4) ∧ (¬ (a2 % 12) = x11 → ((a2 / 12) = x8 → Q 2 s4) ∧ (¬ (a2 / 12) = x8 → (¬ (a2 / 12) = x14 → Q 1 s4) ∧ (¬ (¬ (a2 / 12) = x14) → Q 2 s4))))) ∧ (¬ (a2 / 12) ≤ x14 → Q 0 s4))))))))))))))))))) : LX11_placeIn_0 d n Q a0 a1 a2 σ := by
  unfold LX11_placeIn_0
  refine K_iload_n 2 (kdA dt_MX11_placeIn 0 rfl) rfl rfl ?_
  refine K_bipush (kdA dt_MX11_placeIn 1 rfl) (by decide +kernel) ?_
  obtain ⟨c1, h⟩ := h
  refine K_irem (kdA dt_MX11_placeIn 2 rfl) c1 (by decide) ?_
  refine K_istore_n (ls' := [(0, (2, a0)), (1, (0, a1)), (2, (0, a2)), (3, (0, (a2 % 12)))]) (kdA dt_MX11_placeIn 3 rfl) rfl (by decide) rfl ?_
  refine K_iload_n 2 (kdA dt_MX11_placeIn 4 rfl) rfl rfl ?_
  refine K_bipush (kdA dt_MX11_placeIn 5 rfl) (by decide +kernel) ?_
  refine K_idiv (kdA dt_MX11_placeIn 6 rfl) c1 (by decide) ?_
  refine K_istore (ls' := [(0, (2, a0)), (1, (0, a1)), (2, (0, a2)), (3, (0, (a2 % 12))), (4, (0, (a2 / 12)))]) (kdA dt_MX11_placeIn 7 rfl) (by decide) rfl ?_
  refine K_aload_n 0 (kdA dt_MX11_placeIn 8 rfl) rfl rfl ?_
  obtain ⟨c2, h⟩ := h
  refine gf11_58 rfl (kdA dt_MX11_placeIn 9 rfl) c2 ?_
  refine K_iload_n 1 (kdA dt_MX11_placeIn 10 rfl) rfl rfl ?_
  refine K_iconst (kdA dt_MX11_placeIn 11 rfl) (by decide) ?_
  obtain ⟨c3, h⟩ := h
  refine K_imul (kdA dt_MX11_placeIn 12 rfl) c3 ?_
  obtain ⟨c4, h⟩ := h
  refine K_cVi (c := 8) (as := [(0, (a1 * 4))]) (st := []) (kdA dt_MX11_placeIn 13 rfl) rfl cl_MX8_at lk11_196 rfl rfl (Nat.le_of_ble_eq_true rfl) c4 (Ci.mono h (fun x5 s1 h => ?_))
  refine K_istore (ls' := [(0, (2, a0)), (1, (0, a1)), (2, (0, a2)), (3, (0, (a2 % 12))), (4, (0, (a2 / 12))), (5, (0, x5))]) (kdA dt_MX11_placeIn 14 rfl) (by decide) rfl ?_
  refine K_aload_n 0 (kdA dt_MX11_placeIn 15 rfl) rfl rfl ?_
  refine gf11_58 rfl (kdA dt_MX11_placeIn 16 rfl) c2 ?_
  refine K_iload_n 1 (kdA dt_MX11_placeIn 17 rfl) rfl rfl ?_
  refine K_iconst (kdA dt_MX11_placeIn 18 rfl) (by decide) ?_
  refine K_imul (kdA dt_MX11_placeIn 19 rfl) c3 ?_
  refine K_iconst (kdA dt_MX11_placeIn 20 rfl) (by decide) ?_
  obtain ⟨c6, h⟩ := h
  refine K_iadd (kdA dt_MX11_placeIn 21 rfl) c6 ?_
  obtain ⟨c7, h⟩ := h
  refine K_cVi (c := 8) (as := [(0, ((a1 * 4) + 1))]) (st := []) (kdA dt_MX11_placeIn 22 rfl) rfl cl_MX8_at lk11_196 rfl rfl (Nat.le_of_ble_eq_true rfl) c7 (Ci.mono h (fun x8 s2 h => ?_))
  refine K_istore (ls' := [(0, (2, a0)), (1, (0, a1)), (2, (0, a2)), (3, (0, (a2 % 12))), (4, (0, (a2 / 12))), (5, (0, x5)), (6, (0, x8))]) (kdA dt_MX11_placeIn 23 rfl) (by decide) rfl ?_
  refine K_aload_n 0 (kdA dt_MX11_placeIn 24 rfl) rfl rfl ?_
  refine gf11_58 rfl (kdA dt_MX11_placeIn 25 rfl) c2 ?_
  refine K_iload_n 1 (kdA dt_MX11_placeIn 26 rfl) rfl rfl ?_
  refine K_iconst (kdA dt_MX11_placeIn 27 rfl) (by decide) ?_
  refine K_imul (kdA dt_MX11_placeIn 28 rfl) c3 ?_
  refine K_iconst (kdA dt_MX11_placeIn 29 rfl) (by decide) ?_
  obtain ⟨c9, h⟩ := h
  refine K_iadd (kdA dt_MX11_placeIn 30 rfl) c9 ?_
  obtain ⟨c10, h⟩ := h
  refine K_cVi (c := 8) (as := [(0, ((a1 * 4) + 2))]) (st := []) (kdA dt_MX11_placeIn 31 rfl) rfl cl_MX8_at lk11_196 rfl rfl (Nat.le_of_ble_eq_true rfl) c10 (Ci.mono h (fun x11 s3 h => ?_))
  refine K_istore (ls' := [(0, (2, a0)), (1, (0, a1)), (2, (0, a2)), (3, (0, (a2 % 12))), (4, (0, (a2 / 12))), (5, (0, x5)), (6, (0, x8)), (7, (0, x11))]) (kdA dt_MX11_placeIn 32 rfl) (by decide) rfl ?_
  refine K_aload_n 0 (kdA dt_MX11_placeIn 33 rfl) rfl rfl ?_
  refine gf11_58 rfl (kdA dt_MX11_placeIn 34 rfl) c2 ?_
  refine K_iload_n 1 (kdA dt_MX11_placeIn 35 rfl) rfl rfl ?_
  refine K_iconst (kdA dt_MX11_placeIn 36 rfl) (by decide) ?_
  refine K_imul (kdA dt_MX11_placeIn 37 rfl) c3 ?_
  refine K_iconst (kdA dt_MX11_placeIn 38 rfl) (by decide) ?_
  obtain ⟨c12, h⟩ := h
  refine K_iadd (kdA dt_MX11_placeIn 39 rfl) c12 ?_
  obtain ⟨c13, h⟩ := h
  refine K_cVi (c := 8) (as := [(0, ((a1 * 4) + 3))]) (st := []) (kdA dt_MX11_placeIn 40 rfl) rfl cl_MX8_at lk11_196 rfl rfl (Nat.le_of_ble_eq_true rfl) c13 (Ci.mono h (fun x14 s4 h => ?_))
  refine K_istore (ls' := [(0, (2, a0)), (1, (0, a1)), (2, (0, a2)), (3, (0, (a2 % 12))), (4, (0, (a2 / 12))), (5, (0, x5)), (6, (0, x8)), (7, (0, x11)), (8, (0, x14))]) (kdA dt_MX11_placeIn 41 rfl) (by decide) rfl ?_
  refine K_iload_n 3 (kdA dt_MX11_placeIn 42 rfl) rfl rfl ?_
  refine K_iload 5 (kdA dt_MX11_placeIn 43 rfl) rfl ?_
  refine K_icmp_lt (tgt := 91) (kdA dt_MX11_placeIn 44 rfl) rfl (fun c => ?_) (fun c => ?_)
  · have h := h.1 c
    refine K_iconst (kdA dt_MX11_placeIn 54 rfl) (by decide) ?_
    exact K_ireturn (kdA dt_MX11_placeIn 55 rfl) rfl ⟨rfl, _, rfl, h⟩
  · have h := h.2 c
    refine K_iload_n 3 (kdA dt_MX11_placeIn 45 rfl) rfl rfl ?_
    refine K_iload 7 (kdA dt_MX11_placeIn 46 rfl) rfl ?_
    refine K_icmp_gt (tgt := 91) (kdA dt_MX11_placeIn 47 rfl) rfl (fun c => ?_) (fun c => ?_)
    · have h := h.1 c
      refine K_iconst (kdA dt_MX11_placeIn 54 rfl) (by decide) ?_
      exact K_ireturn (kdA dt_MX11_placeIn 55 rfl) rfl ⟨rfl, _, rfl, h⟩
    · have h := h.2 c
      refine K_iload 4 (kdA dt_MX11_placeIn 48 rfl) rfl ?_
      refine K_iload 6 (kdA dt_MX11_placeIn 49 rfl) rfl ?_
      refine K_icmp_lt (tgt := 91) (kdA dt_MX11_placeIn 50 rfl) rfl (fun c => ?_) (fun c => ?_)
      · have h := h.1 c
        refine K_iconst (kdA dt_MX11_placeIn 54 rfl) (by decide) ?_
        exact K_ireturn (kdA dt_MX11_placeIn 55 rfl) rfl ⟨rfl, _, rfl, h⟩
      · have h := h.2 c
        refine K_iload 4 (kdA dt_MX11_placeIn 51 rfl) rfl ?_
        refine K_iload 8 (kdA dt_MX11_placeIn 52 rfl) rfl ?_
        refine K_icmp_le (tgt := 93) (kdA dt_MX11_placeIn 53 rfl) rfl (fun c => ?_) (fun c => ?_)
        · have h := h.1 c
          refine K_iload_n 3 (kdA dt_MX11_placeIn 56 rfl) rfl rfl ?_
          refine K_iload 5 (kdA dt_MX11_placeIn 57 rfl) rfl ?_
          refine K_icmp_eq (tgt := 119) (kdA dt_MX11_placeIn 58 rfl) rfl (fun c => ?_) (fun c => ?_)
          · have h := h.1 c
            refine K_iconst (kdA dt_MX11_placeIn 68 rfl) (by decide) ?_
            refine K_goto (tgt := 124) (kdA dt_MX11_placeIn 69 rfl) rfl ?_
            exact K_ireturn (kdA dt_MX11_placeIn 71 rfl) rfl ⟨rfl, _, rfl, h⟩
          · have h := h.2 c
            refine K_iload_n 3 (kdA dt_MX11_placeIn 59 rfl) rfl rfl ?_
            refine K_iload 7 (kdA dt_MX11_placeIn 60 rfl) rfl ?_
            refine K_icmp_eq (tgt := 119) (kdA dt_MX11_placeIn 61 rfl) rfl (fun c => ?_) (fun c => ?_)
            · have h := h.1 c
              refine K_iconst (kdA dt_MX11_placeIn 68 rfl) (by decide) ?_
              refine K_goto (tgt := 124) (kdA dt_MX11_placeIn 69 rfl) rfl ?_
              exact K_ireturn (kdA dt_MX11_placeIn 71 rfl) rfl ⟨rfl, _, rfl, h⟩
            · have h := h.2 c
              refine K_iload 4 (kdA dt_MX11_placeIn 62 rfl) rfl ?_
              refine K_iload 6 (kdA dt_MX11_placeIn 63 rfl) rfl ?_
              refine K_icmp_eq (tgt := 119) (kdA dt_MX11_placeIn 64 rfl) rfl (fun c => ?_) (fun c => ?_)
              · have h := h.1 c
                refine K_iconst (kdA dt_MX11_placeIn 68 rfl) (by decide) ?_
                refine K_goto (tgt := 124) (kdA dt_MX11_placeIn 69 rfl) rfl ?_
                exact K_ireturn (kdA dt_MX11_placeIn 71 rfl) rfl ⟨rfl, _, rfl, h⟩
              · have h := h.2 c
                refine K_iload 4 (kdA dt_MX11_placeIn 65 rfl) rfl ?_
                refine K_iload 8 (kdA dt_MX11_placeIn 66 rfl) rfl ?_
                refine K_icmp_ne (tgt := 123) (kdA dt_MX11_placeIn 67 rfl) rfl (fun c => ?_) (fun c => ?_)
                · have h := h.1 c
                  refine K_iconst (kdA dt_MX11_placeIn 70 rfl) (by decide) ?_
                  exact K_ireturn (kdA dt_MX11_placeIn 71 rfl) rfl ⟨rfl, _, rfl, h⟩
                · have h := h.2 c
                  refine K_iconst (kdA dt_MX11_placeIn 68 rfl) (by decide) ?_
                  refine K_goto (tgt := 124) (kdA dt_MX11_placeIn 69 rfl) rfl ?_
                  exact K_ireturn (kdA dt_MX11_placeIn 71 rfl) rfl ⟨rfl, _, rfl, h⟩
        · have h := h.2 c
          refine K_iconst (kdA dt_MX11_placeIn 54 rfl) (by decide) ?_
          exact K_ireturn (kdA dt_MX11_placeIn 55 rfl) rfl ⟨rfl, _, rfl, h⟩
theorem EX11_placeIn {d n : Nat} {Q : Int → kS → Prop} {a0 a1 a2 : Int} {σ : kS} (h : (-2147483648 ≤ a1 ∧ a1 ≤ 2147483647) → (-2147483648 ≤ a2 ∧ a2 ≤ 2147483647) → kokw n σ → LX11_placeIn_0 d n Q a0 a1 a2 σ) : Ci (d + 1) MX11_placeIn [(2, a0), (0, a1), (0, a2)] n σ Q := Tri_of (by decide +kernel) (Nat.le_of_ble_eq_true rfl) (fun hk hw => h (hk (0, a1) (List.mem_of_getElem? (i := 1) rfl)) (hk (0, a2) (List.mem_of_getElem? (i := 2) rfl)) hw)

def LX11_sees_0 (d n : Nat) (Q : Int → kS → Prop) (a0 : Int) (a1 : Int) (a2 : Int) (σ : kS) : Prop := K (d + 1) MX11_sees (kPi n Q) (0, 0) 0 [(0, (2, a0)), (1, (0, a1)), (2, (0, a2))] [] n σ
theorem SX11_sees_0 {d n : Nat} {Q : Int → kS → Prop} {a0 a1 a2 : Int} {σ : kS} (h : Ci d MX11_isCell [(0, a1)] n σ (fun x1 s1 => (x1 = 0 → Q (-1) s1) ∧ (¬ x1 = 0 → Ci d MX11_isCell [(0, a2)] n s1 (fun x2 s2 => (x2 = 0 → Q (-1) s2) ∧ (¬ x2 = 0 → (¬ a1 = a2 → isO 11 n a0 ∧ (isO 9 n (s2 a0 15) ∧ (Ci d MX9_isSeen [(2, (s2 a0 15)), (2, (s2 a0 0)), (0, a1), (0, a2)] n s2 (fun x5 s3 => (x5 = 0 → Q 0 s3) ∧ (¬ x5 = 0 → Q 1 s3))))) ∧ (¬ (¬ a1 = a2) → Q (-1) s2)))))) : LX11_sees_0 d n Q a0 a1 a2 σ := by
  unfold LX11_sees_0
  refine K_iload_n 1 (kdA dt_MX11_sees 0 rfl) rfl rfl ?_
  refine K_cSi (as := [(0, a1)]) (st := []) (kdA dt_MX11_sees 1 rfl) cl_MX11_isCell lk11_117 rfl rfl (Nat.le_of_ble_eq_true rfl) (Ci.mono h (fun x1 s1 h => ?_))
  refine K_if_eq (tgt := 19) (kdA dt_MX11_sees 2 rfl) rfl (fun c => ?_) (fun c => ?_)
  · have h := h.1 c
    refine K_iconst (kdA dt_MX11_sees 9 rfl) (by decide) ?_
    exact K_ireturn (kdA dt_MX11_sees 10 rfl) rfl ⟨rfl, _, rfl, h⟩
  · have h := h.2 c
    refine K_iload_n 2 (kdA dt_MX11_sees 3 rfl) rfl rfl ?_
    refine K_cSi (as := [(0, a2)]) (st := []) (kdA dt_MX11_sees 4 rfl) cl_MX11_isCell lk11_117 rfl rfl (Nat.le_of_ble_eq_true rfl) (Ci.mono h (fun x2 s2 h => ?_))
    refine K_if_eq (tgt := 19) (kdA dt_MX11_sees 5 rfl) rfl (fun c => ?_) (fun c => ?_)
    · have h := h.1 c
      refine K_iconst (kdA dt_MX11_sees 9 rfl) (by decide) ?_
      exact K_ireturn (kdA dt_MX11_sees 10 rfl) rfl ⟨rfl, _, rfl, h⟩
    · have h := h.2 c
      refine K_iload_n 1 (kdA dt_MX11_sees 6 rfl) rfl rfl ?_
      refine K_iload_n 2 (kdA dt_MX11_sees 7 rfl) rfl rfl ?_
      refine K_icmp_ne (tgt := 21) (kdA dt_MX11_sees 8 rfl) rfl (fun c => ?_) (fun c => ?_)
      · have h := h.1 c
        refine K_aload_n 0 (kdA dt_MX11_sees 11 rfl) rfl rfl ?_
        obtain ⟨c3, h⟩ := h
        refine gf11_71 rfl (kdA dt_MX11_sees 12 rfl) c3 ?_
        refine K_aload_n 0 (kdA dt_MX11_sees 13 rfl) rfl rfl ?_
        refine gf11_10 rfl (kdA dt_MX11_sees 14 rfl) c3 ?_
        refine K_iload_n 1 (kdA dt_MX11_sees 15 rfl) rfl rfl ?_
        refine K_iload_n 2 (kdA dt_MX11_sees 16 rfl) rfl rfl ?_
        obtain ⟨c4, h⟩ := h
        refine K_cVi (c := 9) (as := [(2, (s2 a0 0)), (0, a1), (0, a2)]) (st := []) (kdA dt_MX11_sees 17 rfl) rfl cl_MX9_isSeen lk11_207 rfl rfl (Nat.le_of_ble_eq_true rfl) c4 (Ci.mono h (fun x5 s3 h => ?_))
        refine K_if_eq (tgt := 41) (kdA dt_MX11_sees 18 rfl) rfl (fun c => ?_) (fun c => ?_)
        · have h := h.1 c
          refine K_iconst (kdA dt_MX11_sees 21 rfl) (by decide) ?_
          exact K_ireturn (kdA dt_MX11_sees 22 rfl) rfl ⟨rfl, _, rfl, h⟩
        · have h := h.2 c
          refine K_iconst (kdA dt_MX11_sees 19 rfl) (by decide) ?_
          refine K_goto (tgt := 42) (kdA dt_MX11_sees 20 rfl) rfl ?_
          exact K_ireturn (kdA dt_MX11_sees 22 rfl) rfl ⟨rfl, _, rfl, h⟩
      · have h := h.2 c
        refine K_iconst (kdA dt_MX11_sees 9 rfl) (by decide) ?_
        exact K_ireturn (kdA dt_MX11_sees 10 rfl) rfl ⟨rfl, _, rfl, h⟩
theorem EX11_sees {d n : Nat} {Q : Int → kS → Prop} {a0 a1 a2 : Int} {σ : kS} (h : (-2147483648 ≤ a1 ∧ a1 ≤ 2147483647) → (-2147483648 ≤ a2 ∧ a2 ≤ 2147483647) → kokw n σ → LX11_sees_0 d n Q a0 a1 a2 σ) : Ci (d + 1) MX11_sees [(2, a0), (0, a1), (0, a2)] n σ Q := Tri_of (by decide +kernel) (Nat.le_of_ble_eq_true rfl) (fun hk hw => h (hk (0, a1) (List.mem_of_getElem? (i := 1) rfl)) (hk (0, a2) (List.mem_of_getElem? (i := 2) rfl)) hw)

def LX11_sights_0 (d n : Nat) (Q : Int → kS → Prop) (a0 : Int) (a1 : Int) (a2 : Int) (a3 : Int) (a4 : Int) (σ : kS) : Prop := K (d + 1) MX11_sights (kPi n Q) (0, 0) 0 [(0, (2, a0)), (1, (0, a1)), (2, (0, a2)), (3, (0, a3)), (4, (0, a4))] [] n σ
theorem SX11_sights_0 {d n : Nat} {Q : Int → kS → Prop} {a0 a1 a2 a3 a4 : Int} {σ : kS} (h : isO 11 n a0 ∧ (Ci d MX11_looks [(2, a0), (0, a1), (0, a2), (0, a3)] n σ (fun x2 s1 => (¬ x2 = 0 → (¬ a4 = (-1) → isO 9 n (s1 a0 15) ∧ (isO 8 n (s1 (s1 a0 15) 2) ∧ (Ci d MX8_at [(2, (s1 (s1 a0 15) 2)), (0, a4)] n s1 (fun x5 s2 => Q x5 s2)))) ∧ (¬ (¬ a4 = (-1)) → isO 9 n (s1 a0 15) ∧ (isO 8 n (s1 (s1 a0 15) 2) ∧ ((-2147483648 ≤ ((s1 (s1 (s1 a0 15) 2) 1) - 1) ∧ ((s1 (s1 (s1 a0 15) 2) 1) - 1) ≤ 2147483647) ∧ (Q ((s1 (s1 (s1 a0 15) 2) 1) - 1) s1))))) ∧ (¬ (¬ x2 = 0) → Q (-1) s1)))) : LX11_sights_0 d n Q a0 a1 a2 a3 a4 σ := by
  unfold LX11_sights_0
  refine K_aload_n 0 (kdA dt_MX11_sights 0 rfl) rfl rfl ?_
  refine K_iload_n 1 (kdA dt_MX11_sights 1 rfl) rfl rfl ?_
  refine K_iload_n 2 (kdA dt_MX11_sights 2 rfl) rfl rfl ?_
  refine K_iload_n 3 (kdA dt_MX11_sights 3 rfl) rfl rfl ?_
  obtain ⟨c1, h⟩ := h
  refine K_cVi (c := 11) (as := [(0, a1), (0, a2), (0, a3)]) (st := []) (kdA dt_MX11_sights 4 rfl) rfl cl_MX11_looks lk11_211 rfl rfl (Nat.le_of_ble_eq_true rfl) c1 (Ci.mono h (fun x2 s1 h => ?_))
  refine K_if_ne (tgt := 12) (kdA dt_MX11_sights 5 rfl) rfl (fun c => ?_) (fun c => ?_)
  · have h := h.1 c
    refine K_iload 4 (kdA dt_MX11_sights 8 rfl) rfl ?_
    refine K_iconst (kdA dt_MX11_sights 9 rfl) (by decide) ?_
    refine K_icmp_ne (tgt := 33) (kdA dt_MX11_sights 10 rfl) rfl (fun c => ?_) (fun c => ?_)
    · have h := h.1 c
      refine K_aload_n 0 (kdA dt_MX11_sights 18 rfl) rfl rfl ?_
      refine gf11_71 rfl (kdA dt_MX11_sights 19 rfl) c1 ?_
      obtain ⟨c3, h⟩ := h
      refine gf11_215 rfl (kdA dt_MX11_sights 20 rfl) c3 ?_
      refine K_iload 4 (kdA dt_MX11_sights 21 rfl) rfl ?_
      obtain ⟨c4, h⟩ := h
      refine K_cVi (c := 8) (as := [(0, a4)]) (st := []) (kdA dt_MX11_sights 22 rfl) rfl cl_MX8_at lk11_196 rfl rfl (Nat.le_of_ble_eq_true rfl) c4 (Ci.mono h (fun x5 s2 h => ?_))
      exact K_ireturn (kdA dt_MX11_sights 23 rfl) rfl ⟨rfl, _, rfl, h⟩
    · have h := h.2 c
      refine K_aload_n 0 (kdA dt_MX11_sights 11 rfl) rfl rfl ?_
      refine gf11_71 rfl (kdA dt_MX11_sights 12 rfl) c1 ?_
      obtain ⟨c3, h⟩ := h
      refine gf11_215 rfl (kdA dt_MX11_sights 13 rfl) c3 ?_
      obtain ⟨c4, h⟩ := h
      refine gf11_130 rfl (kdA dt_MX11_sights 14 rfl) c4 ?_
      refine K_iconst (kdA dt_MX11_sights 15 rfl) (by decide) ?_
      obtain ⟨c5, h⟩ := h
      refine K_isub (kdA dt_MX11_sights 16 rfl) c5 ?_
      refine K_goto (tgt := 45) (kdA dt_MX11_sights 17 rfl) rfl ?_
      exact K_ireturn (kdA dt_MX11_sights 23 rfl) rfl ⟨rfl, _, rfl, h⟩
  · have h := h.2 c
    refine K_iconst (kdA dt_MX11_sights 6 rfl) (by decide) ?_
    exact K_ireturn (kdA dt_MX11_sights 7 rfl) rfl ⟨rfl, _, rfl, h⟩
theorem EX11_sights {d n : Nat} {Q : Int → kS → Prop} {a0 a1 a2 a3 a4 : Int} {σ : kS} (h : (-2147483648 ≤ a1 ∧ a1 ≤ 2147483647) → (-2147483648 ≤ a2 ∧ a2 ≤ 2147483647) → (-2147483648 ≤ a3 ∧ a3 ≤ 2147483647) → (-2147483648 ≤ a4 ∧ a4 ≤ 2147483647) → kokw n σ → LX11_sights_0 d n Q a0 a1 a2 a3 a4 σ) : Ci (d + 1) MX11_sights [(2, a0), (0, a1), (0, a2), (0, a3), (0, a4)] n σ Q := Tri_of (by decide +kernel) (Nat.le_of_ble_eq_true rfl) (fun hk hw => h (hk (0, a1) (List.mem_of_getElem? (i := 1) rfl)) (hk (0, a2) (List.mem_of_getElem? (i := 2) rfl)) (hk (0, a3) (List.mem_of_getElem? (i := 3) rfl)) (hk (0, a4) (List.mem_of_getElem? (i := 4) rfl)) hw)

def LX11_slip_0 (d n : Nat) (Q : Int → kS → Prop) (a0 : Int) (a1 : Int) (a2 : Int) (a3 : Int) (a4 : Int) (a5 : Int) (a6 : Int) (σ : kS) : Prop := K (d + 1) MX11_slip (kPi n Q) (0, 0) 0 [(0, (2, a0)), (1, (0, a1)), (2, (0, a2)), (3, (0, a3)), (4, (0, a4)), (5, (0, a5)), (6, (0, a6))] [] n σ
theorem SX11_slip_0 {d n : Nat} {Q : Int → kS → Prop} {a0 a1 a2 a3 a4 a5 a6 : Int} {σ : kS} (h : isO 11 n a0 ∧ (Ci d MX11_isStage [(2, a0), (0, a1), (0, a2)] n σ (fun x2 s1 => (x2 = 0 → Q (-1) s1) ∧ (¬ x2 = 0 → Ci d MX11_isManner [(2, a0), (0, a3), (0, a4)] n s1 (fun x3 s2 => (x3 = 0 → Q (-1) s2) ∧ (¬ x3 = 0 → Ci d MX11_isBy [(0, a6)] n s2 (fun x4 s3 => (¬ x4 = 0 → isA 26 n (s3 a0 5) ∧ (((0 : Int) ≤ a3 ∧ a3 < klen (s3 a0 5)) ∧ (isO 10 n (s3 a0 14) ∧ (Cv d MX10_fit [(2, (s3 a0 14)), (2, (s3 (s3 a0 5) a3)), (0, a4), (0, a5), (2, (s3 a0 0))] n s3 (fun s4 => isA 27 n (s4 a0 7) ∧ (((0 : Int) ≤ a1 ∧ a1 < klen (s4 a0 7)) ∧ (isO 0 n (s4 (s4 a0 7) a1) ∧ (Ci d MX0_milesTold [(2, (s4 (s4 a0 7) a1)), (0, a2)] n s4 (fun x12 s5 => isA 27 n (s5 a0 7) ∧ (((0 : Int) ≤ a1 ∧ a1 < klen (s5 a0 7)) ∧ (Ci d MX11_milesOfStage [(2, a0), (2, (s5 (s5 a0 7) a1)), (0, a2)] n s5 (fun x15 s6 => Ci d MX11_slipOf [(0, x12), (0, x15), (0, a6)] n s6 (fun x16 s7 => Q x16 s7))))))))))))) ∧ (¬ (¬ x4 = 0) → Q (-1) s3)))))))) : LX11_slip_0 d n Q a0 a1 a2 a3 a4 a5 a6 σ := by
  unfold LX11_slip_0
  refine K_aload_n 0 (kdA dt_MX11_slip 0 rfl) rfl rfl ?_
  refine K_iload_n 1 (kdA dt_MX11_slip 1 rfl) rfl rfl ?_
  refine K_iload_n 2 (kdA dt_MX11_slip 2 rfl) rfl rfl ?_
  obtain ⟨c1, h⟩ := h
  refine K_cVi (c := 11) (as := [(0, a1), (0, a2)]) (st := []) (kdA dt_MX11_slip 3 rfl) rfl cl_MX11_isStage lk11_280 rfl rfl (Nat.le_of_ble_eq_true rfl) c1 (Ci.mono h (fun x2 s1 h => ?_))
  refine K_if_eq (tgt := 27) (kdA dt_MX11_slip 4 rfl) rfl (fun c => ?_) (fun c => ?_)
  · have h := h.1 c
    refine K_iconst (kdA dt_MX11_slip 13 rfl) (by decide) ?_
    exact K_ireturn (kdA dt_MX11_slip 14 rfl) rfl ⟨rfl, _, rfl, h⟩
  · have h := h.2 c
    refine K_aload_n 0 (kdA dt_MX11_slip 5 rfl) rfl rfl ?_
    refine K_iload_n 3 (kdA dt_MX11_slip 6 rfl) rfl rfl ?_
    refine K_iload 4 (kdA dt_MX11_slip 7 rfl) rfl ?_
    refine K_cVi (c := 11) (as := [(0, a3), (0, a4)]) (st := []) (kdA dt_MX11_slip 8 rfl) rfl cl_MX11_isManner lk11_169 rfl rfl (Nat.le_of_ble_eq_true rfl) c1 (Ci.mono h (fun x3 s2 h => ?_))
    refine K_if_eq (tgt := 27) (kdA dt_MX11_slip 9 rfl) rfl (fun c => ?_) (fun c => ?_)
    · have h := h.1 c
      refine K_iconst (kdA dt_MX11_slip 13 rfl) (by decide) ?_
      exact K_ireturn (kdA dt_MX11_slip 14 rfl) rfl ⟨rfl, _, rfl, h⟩
    · have h := h.2 c
      refine K_iload 6 (kdA dt_MX11_slip 10 rfl) rfl ?_
      refine K_cSi (as := [(0, a6)]) (st := []) (kdA dt_MX11_slip 11 rfl) cl_MX11_isBy lk11_294 rfl rfl (Nat.le_of_ble_eq_true rfl) (Ci.mono h (fun x4 s3 h => ?_))
      refine K_if_ne (tgt := 29) (kdA dt_MX11_slip 12 rfl) rfl (fun c => ?_) (fun c => ?_)
      · have h := h.1 c
        refine K_aload_n 0 (kdA dt_MX11_slip 15 rfl) rfl rfl ?_
        refine gf11_64 rfl (kdA dt_MX11_slip 16 rfl) c1 ?_
        refine K_aload_n 0 (kdA dt_MX11_slip 17 rfl) rfl rfl ?_
        refine gf11_38 rfl (kdA dt_MX11_slip 18 rfl) c1 ?_
        refine K_iload_n 3 (kdA dt_MX11_slip 19 rfl) rfl rfl ?_
        obtain ⟨c5, h⟩ := h
        obtain ⟨c6, h⟩ := h
        refine K_aaload (kdA dt_MX11_slip 20 rfl) (by decide) c5 c6.1 c6.2 ?_
        refine K_iload 4 (kdA dt_MX11_slip 21 rfl) rfl ?_
        refine K_iload 5 (kdA dt_MX11_slip 22 rfl) rfl ?_
        refine K_aload_n 0 (kdA dt_MX11_slip 23 rfl) rfl rfl ?_
        refine gf11_10 rfl (kdA dt_MX11_slip 24 rfl) c1 ?_
        obtain ⟨c7, h⟩ := h
        refine K_cVv (c := 10) (as := [(2, (s3 (s3 a0 5) a3)), (0, a4), (0, a5), (2, (s3 a0 0))]) (st := []) (kdA dt_MX11_slip 25 rfl) rfl cl_MX10_fit lk11_179 rfl rfl (Nat.le_of_ble_eq_true rfl) c7 (Cv.mono h (fun s4 h => ?_))
        refine K_aload_n 0 (kdA dt_MX11_slip 26 rfl) rfl rfl ?_
        refine gf11_44 rfl (kdA dt_MX11_slip 27 rfl) c1 ?_
        refine K_iload_n 1 (kdA dt_MX11_slip 28 rfl) rfl rfl ?_
        obtain ⟨c9, h⟩ := h
        obtain ⟨c10, h⟩ := h
        refine K_aaload (kdA dt_MX11_slip 29 rfl) (by decide) c9 c10.1 c10.2 ?_
        refine K_iload_n 2 (kdA dt_MX11_slip 30 rfl) rfl rfl ?_
        obtain ⟨c11, h⟩ := h
        refine K_cVi (c := 0) (as := [(0, a2)]) (st := []) (kdA dt_MX11_slip 31 rfl) rfl cl_MX0_milesTold lk11_283 rfl rfl (Nat.le_of_ble_eq_true rfl) c11 (Ci.mono h (fun x12 s5 h => ?_))
        refine K_aload_n 0 (kdA dt_MX11_slip 32 rfl) rfl rfl ?_
        refine K_aload_n 0 (kdA dt_MX11_slip 33 rfl) rfl rfl ?_
        refine gf11_44 rfl (kdA dt_MX11_slip 34 rfl) c1 ?_
        refine K_iload_n 1 (kdA dt_MX11_slip 35 rfl) rfl rfl ?_
        obtain ⟨c13, h⟩ := h
        obtain ⟨c14, h⟩ := h
        refine K_aaload (kdA dt_MX11_slip 36 rfl) (by decide) c13 c14.1 c14.2 ?_
        refine K_iload_n 2 (kdA dt_MX11_slip 37 rfl) rfl rfl ?_
        refine K_cVi (c := 11) (as := [(2, (s5 (s5 a0 7) a1)), (0, a2)]) (st := [(0, x12)]) (kdA dt_MX11_slip 38 rfl) rfl cl_MX11_milesOfStage lk11_290 rfl rfl (Nat.le_of_ble_eq_true rfl) c1 (Ci.mono h (fun x15 s6 h => ?_))
        refine K_iload 6 (kdA dt_MX11_slip 39 rfl) rfl ?_
        refine K_cSi (as := [(0, x12), (0, x15), (0, a6)]) (st := []) (kdA dt_MX11_slip 40 rfl) cl_MX11_slipOf lk11_297 rfl rfl (Nat.le_of_ble_eq_true rfl) (Ci.mono h (fun x16 s7 h => ?_))
        exact K_ireturn (kdA dt_MX11_slip 41 rfl) rfl ⟨rfl, _, rfl, h⟩
      · have h := h.2 c
        refine K_iconst (kdA dt_MX11_slip 13 rfl) (by decide) ?_
        exact K_ireturn (kdA dt_MX11_slip 14 rfl) rfl ⟨rfl, _, rfl, h⟩
theorem EX11_slip {d n : Nat} {Q : Int → kS → Prop} {a0 a1 a2 a3 a4 a5 a6 : Int} {σ : kS} (h : (-2147483648 ≤ a1 ∧ a1 ≤ 2147483647) → (-2147483648 ≤ a2 ∧ a2 ≤ 2147483647) → (-2147483648 ≤ a3 ∧ a3 ≤ 2147483647) → (-2147483648 ≤ a4 ∧ a4 ≤ 2147483647) → (-2147483648 ≤ a5 ∧ a5 ≤ 2147483647) → (-2147483648 ≤ a6 ∧ a6 ≤ 2147483647) → kokw n σ → LX11_slip_0 d n Q a0 a1 a2 a3 a4 a5 a6 σ) : Ci (d + 1) MX11_slip [(2, a0), (0, a1), (0, a2), (0, a3), (0, a4), (0, a5), (0, a6)] n σ Q := Tri_of (by decide +kernel) (Nat.le_of_ble_eq_true rfl) (fun hk hw => h (hk (0, a1) (List.mem_of_getElem? (i := 1) rfl)) (hk (0, a2) (List.mem_of_getElem? (i := 2) rfl)) (hk (0, a3) (List.mem_of_getElem? (i := 3) rfl)) (hk (0, a4) (List.mem_of_getElem? (i := 4) rfl)) (hk (0, a5) (List.mem_of_getElem? (i := 5) rfl)) (hk (0, a6) (List.mem_of_getElem? (i := 6) rfl)) hw)

def LX11_slipOf_0 (d n : Nat) (Q : Int → kS → Prop) (a0 : Int) (a1 : Int) (a2 : Int) (σ : kS) : Prop := K (d + 1) MX11_slipOf (kPi n Q) (0, 0) 0 [(0, (0, a0)), (1, (0, a1)), (2, (0, a2))] [] n σ
theorem SX11_slipOf_0 {d n : Nat} {Q : Int → kS → Prop} {a0 a1 a2 : Int} {σ : kS} (h : (-2147483648 ≤ (a0 - a1) ∧ (a0 - a1) ≤ 2147483647) ∧ (Ci d MJm_abs [(0, (a0 - a1))] n σ (fun x2 s1 => (a2 < x2 → (a1 ≤ 99 → ((0 : Int) ≤ a0) ∧ (((0 : Int) ≤ a1) ∧ ((¬ (a0 / 10) = (a1 % 10) → ((a0 / 10) = (a1 / 10) → Q 2 s1) ∧ (¬ (a0 / 10) = (a1 / 10) → (¬ (a0 % 10) = (a1 % 10) → Q 3 s1) ∧ (¬ (¬ (a0 % 10) = (a1 % 10)) → Q 2 s1))) ∧ (¬ (¬ (a0 / 10) = (a1 % 10)) → (¬ (a0 % 10) = (a1 / 10) → ((a0 / 10) = (a1 / 10) → Q 2 s1) ∧ (¬ (a0 / 10) = (a1 / 10) → (¬ (a0 % 10) = (a1 % 10) → Q 3 s1) ∧ (¬ (¬ (a0 % 10) = (a1 % 10)) → Q 2 s1))) ∧ (¬ (¬ (a0 % 10) = (a1 / 10)) → Q 1 s1))))) ∧ (¬ a1 ≤ 99 → Q 3 s1)) ∧ (¬ a2 < x2 → Q 0 s1)))) : LX11_slipOf_0 d n Q a0 a1 a2 σ := by
  unfold LX11_slipOf_0
  refine K_iload_n 0 (kdA dt_MX11_slipOf 0 rfl) rfl rfl ?_
  refine K_iload_n 1 (kdA dt_MX11_slipOf 1 rfl) rfl rfl ?_
  obtain ⟨c1, h⟩ := h
  refine K_isub (kdA dt_MX11_slipOf 2 rfl) c1 ?_
  refine K_cSi (as := [(0, (a0 - a1))]) (st := []) (kdA dt_MX11_slipOf 3 rfl) cl_MJm_abs lk11_403 rfl rfl (Nat.le_of_ble_eq_true rfl) (Ci.mono h (fun x2 s1 h => ?_))
  refine K_iload_n 2 (kdA dt_MX11_slipOf 4 rfl) rfl rfl ?_
  refine K_icmp_gt (tgt := 12) (kdA dt_MX11_slipOf 5 rfl) rfl (fun c => ?_) (fun c => ?_)
  · have h := h.1 c
    refine K_iload_n 1 (kdA dt_MX11_slipOf 8 rfl) rfl rfl ?_
    refine K_bipush (kdA dt_MX11_slipOf 9 rfl) (by decide +kernel) ?_
    refine K_icmp_le (tgt := 20) (kdA dt_MX11_slipOf 10 rfl) rfl (fun c => ?_) (fun c => ?_)
    · have h := h.1 c
      refine K_iload_n 0 (kdA dt_MX11_slipOf 13 rfl) rfl rfl ?_
      refine K_bipush (kdA dt_MX11_slipOf 14 rfl) (by decide +kernel) ?_
      obtain ⟨c3, h⟩ := h
      refine K_idiv (kdA dt_MX11_slipOf 15 rfl) c3 (by decide) ?_
      refine K_iload_n 1 (kdA dt_MX11_slipOf 16 rfl) rfl rfl ?_
      refine K_bipush (kdA dt_MX11_slipOf 17 rfl) (by decide +kernel) ?_
      obtain ⟨c4, h⟩ := h
      refine K_irem (kdA dt_MX11_slipOf 18 rfl) c4 (by decide) ?_
      refine K_icmp_ne (tgt := 44) (kdA dt_MX11_slipOf 19 rfl) rfl (fun c => ?_) (fun c => ?_)
      · have h := h.1 c
        refine K_iload_n 0 (kdA dt_MX11_slipOf 29 rfl) rfl rfl ?_
        refine K_bipush (kdA dt_MX11_slipOf 30 rfl) (by decide +kernel) ?_
        refine K_idiv (kdA dt_MX11_slipOf 31 rfl) c3 (by decide) ?_
        refine K_iload_n 1 (kdA dt_MX11_slipOf 32 rfl) rfl rfl ?_
        refine K_bipush (kdA dt_MX11_slipOf 33 rfl) (by decide +kernel) ?_
        refine K_idiv (kdA dt_MX11_slipOf 34 rfl) c4 (by decide) ?_
        refine K_icmp_eq (tgt := 66) (kdA dt_MX11_slipOf 35 rfl) rfl (fun c => ?_) (fun c => ?_)
        · have h := h.1 c
          refine K_iconst (kdA dt_MX11_slipOf 43 rfl) (by decide) ?_
          refine K_goto (tgt := 71) (kdA dt_MX11_slipOf 44 rfl) rfl ?_
          exact K_ireturn (kdA dt_MX11_slipOf 46 rfl) rfl ⟨rfl, _, rfl, h⟩
        · have h := h.2 c
          refine K_iload_n 0 (kdA dt_MX11_slipOf 36 rfl) rfl rfl ?_
          refine K_bipush (kdA dt_MX11_slipOf 37 rfl) (by decide +kernel) ?_
          refine K_irem (kdA dt_MX11_slipOf 38 rfl) c3 (by decide) ?_
          refine K_iload_n 1 (kdA dt_MX11_slipOf 39 rfl) rfl rfl ?_
          refine K_bipush (kdA dt_MX11_slipOf 40 rfl) (by decide +kernel) ?_
          refine K_irem (kdA dt_MX11_slipOf 41 rfl) c4 (by decide) ?_
          refine K_icmp_ne (tgt := 70) (kdA dt_MX11_slipOf 42 rfl) rfl (fun c => ?_) (fun c => ?_)
          · have h := h.1 c
            refine K_iconst (kdA dt_MX11_slipOf 45 rfl) (by decide) ?_
            exact K_ireturn (kdA dt_MX11_slipOf 46 rfl) rfl ⟨rfl, _, rfl, h⟩
          · have h := h.2 c
            refine K_iconst (kdA dt_MX11_slipOf 43 rfl) (by decide) ?_
            refine K_goto (tgt := 71) (kdA dt_MX11_slipOf 44 rfl) rfl ?_
            exact K_ireturn (kdA dt_MX11_slipOf 46 rfl) rfl ⟨rfl, _, rfl, h⟩
      · have h := h.2 c
        refine K_iload_n 0 (kdA dt_MX11_slipOf 20 rfl) rfl rfl ?_
        refine K_bipush (kdA dt_MX11_slipOf 21 rfl) (by decide +kernel) ?_
        refine K_irem (kdA dt_MX11_slipOf 22 rfl) c3 (by decide) ?_
        refine K_iload_n 1 (kdA dt_MX11_slipOf 23 rfl) rfl rfl ?_
        refine K_bipush (kdA dt_MX11_slipOf 24 rfl) (by decide +kernel) ?_
        refine K_idiv (kdA dt_MX11_slipOf 25 rfl) c4 (by decide) ?_
        refine K_icmp_ne (tgt := 44) (kdA dt_MX11_slipOf 26 rfl) rfl (fun c => ?_) (fun c => ?_)
        · have h := h.1 c
          refine K_iload_n 0 (kdA dt_MX11_slipOf 29 rfl) rfl rfl ?_
          refine K_bipush (kdA dt_MX11_slipOf 30 rfl) (by decide +kernel) ?_
          refine K_idiv (kdA dt_MX11_slipOf 31 rfl) c3 (by decide) ?_
          refine K_iload_n 1 (kdA dt_MX11_slipOf 32 rfl) rfl rfl ?_
          refine K_bipush (kdA dt_MX11_slipOf 33 rfl) (by decide +kernel) ?_
          refine K_idiv (kdA dt_MX11_slipOf 34 rfl) c4 (by decide) ?_
          refine K_icmp_eq (tgt := 66) (kdA dt_MX11_slipOf 35 rfl) rfl (fun c => ?_) (fun c => ?_)
          · have h := h.1 c
            refine K_iconst (kdA dt_MX11_slipOf 43 rfl) (by decide) ?_
            refine K_goto (tgt := 71) (kdA dt_MX11_slipOf 44 rfl) rfl ?_
            exact K_ireturn (kdA dt_MX11_slipOf 46 rfl) rfl ⟨rfl, _, rfl, h⟩
          · have h := h.2 c
            refine K_iload_n 0 (kdA dt_MX11_slipOf 36 rfl) rfl rfl ?_
            refine K_bipush (kdA dt_MX11_slipOf 37 rfl) (by decide +kernel) ?_
            refine K_irem (kdA dt_MX11_slipOf 38 rfl) c3 (by decide) ?_
            refine K_iload_n 1 (kdA dt_MX11_slipOf 39 rfl) rfl rfl ?_
            refine K_bipush (kdA dt_MX11_slipOf 40 rfl) (by decide +kernel) ?_
            refine K_irem (kdA dt_MX11_slipOf 41 rfl) c4 (by decide) ?_
            refine K_icmp_ne (tgt := 70) (kdA dt_MX11_slipOf 42 rfl) rfl (fun c => ?_) (fun c => ?_)
            · have h := h.1 c
              refine K_iconst (kdA dt_MX11_slipOf 45 rfl) (by decide) ?_
              exact K_ireturn (kdA dt_MX11_slipOf 46 rfl) rfl ⟨rfl, _, rfl, h⟩
            · have h := h.2 c
              refine K_iconst (kdA dt_MX11_slipOf 43 rfl) (by decide) ?_
              refine K_goto (tgt := 71) (kdA dt_MX11_slipOf 44 rfl) rfl ?_
              exact K_ireturn (kdA dt_MX11_slipOf 46 rfl) rfl ⟨rfl, _, rfl, h⟩
        · have h := h.2 c
          refine K_iconst (kdA dt_MX11_slipOf 27 rfl) (by decide) ?_
          exact K_ireturn (kdA dt_MX11_slipOf 28 rfl) rfl ⟨rfl, _, rfl, h⟩
    · have h := h.2 c
      refine K_iconst (kdA dt_MX11_slipOf 11 rfl) (by decide) ?_
      exact K_ireturn (kdA dt_MX11_slipOf 12 rfl) rfl ⟨rfl, _, rfl, h⟩
  · have h := h.2 c
    refine K_iconst (kdA dt_MX11_slipOf 6 rfl) (by decide) ?_
    exact K_ireturn (kdA dt_MX11_slipOf 7 rfl) rfl ⟨rfl, _, rfl, h⟩
theorem EX11_slipOf {d n : Nat} {Q : Int → kS → Prop} {a0 a1 a2 : Int} {σ : kS} (h : (-2147483648 ≤ a0 ∧ a0 ≤ 2147483647) → (-2147483648 ≤ a1 ∧ a1 ≤ 2147483647) → (-2147483648 ≤ a2 ∧ a2 ≤ 2147483647) → kokw n σ → LX11_slipOf_0 d n Q a0 a1 a2 σ) : Ci (d + 1) MX11_slipOf [(0, a0), (0, a1), (0, a2)] n σ Q := Tri_of (by decide +kernel) (Nat.le_of_ble_eq_true rfl) (fun hk hw => h (hk (0, a0) (List.mem_of_getElem? (i := 0) rfl)) (hk (0, a1) (List.mem_of_getElem? (i := 1) rfl)) (hk (0, a2) (List.mem_of_getElem? (i := 2) rfl)) hw)

def LX11_staysInLand_0 (d n : Nat) (Q : Int → kS → Prop) (a0 : Int) (a1 : Int) (a2 : Int) (σ : kS) : Prop := K (d + 1) MX11_staysInLand (kPi n Q) (0, 0) 0 [(0, (0, a0)), (1, (0, a1)), (2, (0, a2))] [] n σ
theorem SX11_staysInLand_0 {d n : Nat} {Q : Int → kS → Prop} {a0 a1 a2 : Int} {σ : kS} (h : ((0 : Int) ≤ a0) ∧ (((0 : Int) ≤ a1 ∧ a1 < 8) ∧ ((-2147483648 ≤ ((kEast.getD (Int.toNat a1) 0) * a2) ∧ ((kEast.getD (Int.toNat a1) 0) * a2) ≤ 2147483647) ∧ ((-2147483648 ≤ ((a0 % 12) + ((kEast.getD (Int.toNat a1) 0) * a2)) ∧ ((a0 % 12) + ((kEast.getD (Int.toNat a1) 0) * a2)) ≤ 2147483647) ∧ ((-2147483648 ≤ ((kSouth.getD (Int.toNat a1) 0) * a2) ∧ ((kSouth.getD (Int.toNat a1) 0) * a2) ≤ 2147483647) ∧ ((-2147483648 ≤ ((a0 / 12) + ((kSouth.getD (Int.toNat a1) 0) * a2)) ∧ ((a0 / 12) + ((kSouth.getD (Int.toNat a1) 0) * a2)) ≤ 2147483647) ∧ ((((a0 % 12) + ((kEast.getD (Int.toNat a1) 0) * a2)) < 0 → Q 0 σ) ∧ (¬ ((a0 % 12) + ((kEast.getD (Int.toNat a1) 0) * a2)) < 0 → (12 ≤ ((a0 % 12) + ((kEast.getD (Int.toNat a1) 0) * a2)) → Q 0 σ) ∧ (¬ 12 ≤ ((a0 % 12) + ((kEast.getD (Int.toNat a1) 0) * a2)) → (((a0 / 12) + ((kSouth.getD (Int.toNat a1) 0) * a2)) < 0 → Q 0 σ) ∧ (¬ ((a0 / 12) + ((kSouth.getD (Int.toNat a1) 0) * a2)) < 0 → (10 ≤ ((a0 / 12) + ((kSouth.getD (Int.toNat a1) 0) * a2)) → Q 0 σ) ∧ (¬ 10 ≤ ((a0 / 12) + ((kSouth.getD (Int.toNat a1) 0) * a2)) → Q 1 σ))))))))))) : LX11_staysInLand_0 d n Q a0 a1 a2 σ := by
  unfold LX11_staysInLand_0
  refine K_iload_n 0 (kdA dt_MX11_staysInLand 0 rfl) rfl rfl ?_
  refine K_bipush (kdA dt_MX11_staysInLand 1 rfl) (by decide +kernel) ?_
  obtain ⟨c1, h⟩ := h
  refine K_irem (kdA dt_MX11_staysInLand 2 rfl) c1 (by decide) ?_
  refine K_gsE (kdA dt_MX11_staysInLand 3 rfl) (tb1 139 rfl rfl) ?_
  refine K_iload_n 1 (kdA dt_MX11_staysInLand 4 rfl) rfl rfl ?_
  obtain ⟨c2, h⟩ := h
  refine K_ialE (kdA dt_MX11_staysInLand 5 rfl) c2.1 c2.2 ?_
  refine K_iload_n 2 (kdA dt_MX11_staysInLand 6 rfl) rfl rfl ?_
  obtain ⟨c3, h⟩ := h
  refine K_imul (kdA dt_MX11_staysInLand 7 rfl) c3 ?_
  obtain ⟨c4, h⟩ := h
  refine K_iadd (kdA dt_MX11_staysInLand 8 rfl) c4 ?_
  refine K_istore_n (ls' := [(0, (0, a0)), (1, (0, a1)), (2, (0, a2)), (3, (0, ((a0 % 12) + ((kEast.getD (Int.toNat a1) 0) * a2))))]) (kdA dt_MX11_staysInLand 9 rfl) rfl (by decide) rfl ?_
  refine K_iload_n 0 (kdA dt_MX11_staysInLand 10 rfl) rfl rfl ?_
  refine K_bipush (kdA dt_MX11_staysInLand 11 rfl) (by decide +kernel) ?_
  refine K_idiv (kdA dt_MX11_staysInLand 12 rfl) c1 (by decide) ?_
  refine K_gsS (kdA dt_MX11_staysInLand 13 rfl) (tb1 141 rfl rfl) ?_
  refine K_iload_n 1 (kdA dt_MX11_staysInLand 14 rfl) rfl rfl ?_
  refine K_ialS (kdA dt_MX11_staysInLand 15 rfl) c2.1 c2.2 ?_
  refine K_iload_n 2 (kdA dt_MX11_staysInLand 16 rfl) rfl rfl ?_
  obtain ⟨c5, h⟩ := h
  refine K_imul (kdA dt_MX11_staysInLand 17 rfl) c5 ?_
  obtain ⟨c6, h⟩ := h
  refine K_iadd (kdA dt_MX11_staysInLand 18 rfl) c6 ?_
  refine K_istore (ls' := [(0, (0, a0)), (1, (0, a1)), (2, (0, a2)), (3, (0, ((a0 % 12) + ((kEast.getD (Int.toNat a1) 0) * a2)))), (4, (0, ((a0 / 12) + ((kSouth.getD (Int.toNat a1) 0) * a2))))]) (kdA dt_MX11_staysInLand 19 rfl) (by decide) rfl ?_
  refine K_iload_n 3 (kdA dt_MX11_staysInLand 20 rfl) rfl rfl ?_
  refine K_if_lt (tgt := 53) (kdA dt_MX11_staysInLand 21 rfl) rfl (fun c => ?_) (fun c => ?_)
  · have h := h.1 c
    refine K_iconst (kdA dt_MX11_staysInLand 32 rfl) (by decide) ?_
    exact K_zreturn (kdA dt_MX11_staysInLand 33 rfl) rfl (Or.inl rfl) ⟨rfl, _, rfl, h⟩
  · have h := h.2 c
    refine K_iload_n 3 (kdA dt_MX11_staysInLand 22 rfl) rfl rfl ?_
    refine K_bipush (kdA dt_MX11_staysInLand 23 rfl) (by decide +kernel) ?_
    refine K_icmp_ge (tgt := 53) (kdA dt_MX11_staysInLand 24 rfl) rfl (fun c => ?_) (fun c => ?_)
    · have h := h.1 c
      refine K_iconst (kdA dt_MX11_staysInLand 32 rfl) (by decide) ?_
      exact K_zreturn (kdA dt_MX11_staysInLand 33 rfl) rfl (Or.inl rfl) ⟨rfl, _, rfl, h⟩
    · have h := h.2 c
      refine K_iload 4 (kdA dt_MX11_staysInLand 25 rfl) rfl ?_
      refine K_if_lt (tgt := 53) (kdA dt_MX11_staysInLand 26 rfl) rfl (fun c => ?_) (fun c => ?_)
      · have h := h.1 c
        refine K_iconst (kdA dt_MX11_staysInLand 32 rfl) (by decide) ?_
        exact K_zreturn (kdA dt_MX11_staysInLand 33 rfl) rfl (Or.inl rfl) ⟨rfl, _, rfl, h⟩
      · have h := h.2 c
        refine K_iload 4 (kdA dt_MX11_staysInLand 27 rfl) rfl ?_
        refine K_bipush (kdA dt_MX11_staysInLand 28 rfl) (by decide +kernel) ?_
        refine K_icmp_ge (tgt := 53) (kdA dt_MX11_staysInLand 29 rfl) rfl (fun c => ?_) (fun c => ?_)
        · have h := h.1 c
          refine K_iconst (kdA dt_MX11_staysInLand 32 rfl) (by decide) ?_
          exact K_zreturn (kdA dt_MX11_staysInLand 33 rfl) rfl (Or.inl rfl) ⟨rfl, _, rfl, h⟩
        · have h := h.2 c
          refine K_iconst (kdA dt_MX11_staysInLand 30 rfl) (by decide) ?_
          refine K_goto (tgt := 54) (kdA dt_MX11_staysInLand 31 rfl) rfl ?_
          exact K_zreturn (kdA dt_MX11_staysInLand 33 rfl) rfl (Or.inr rfl) ⟨rfl, _, rfl, h⟩
theorem EX11_staysInLand {d n : Nat} {Q : Int → kS → Prop} {a0 a1 a2 : Int} {σ : kS} (h : (-2147483648 ≤ a0 ∧ a0 ≤ 2147483647) → (-2147483648 ≤ a1 ∧ a1 ≤ 2147483647) → (-2147483648 ≤ a2 ∧ a2 ≤ 2147483647) → kokw n σ → LX11_staysInLand_0 d n Q a0 a1 a2 σ) : Ci (d + 1) MX11_staysInLand [(0, a0), (0, a1), (0, a2)] n σ Q := Tri_of (by decide +kernel) (Nat.le_of_ble_eq_true rfl) (fun hk hw => h (hk (0, a0) (List.mem_of_getElem? (i := 0) rfl)) (hk (0, a1) (List.mem_of_getElem? (i := 1) rfl)) (hk (0, a2) (List.mem_of_getElem? (i := 2) rfl)) hw)

def LX11_stepFrom_0 (d n : Nat) (Q : Int → kS → Prop) (a0 : Int) (a1 : Int) (σ : kS) : Prop := K (d + 1) MX11_stepFrom (kPi n Q) (0, 0) 0 [(0, (0, a0)), (1, (0, a1))] [] n σ
theorem SX11_stepFrom_0 {d n : Nat} {Q : Int → kS → Prop} {a0 a1 : Int} {σ : kS} (h : Ci d MX11_isCell [(0, a0)] n σ (fun x1 s1 => (x1 = 0 → Q (-1) s1) ∧ (¬ x1 = 0 → (a1 < 0 → Q (-1) s1) ∧ (¬ a1 < 0 → (a1 < 8 → Ci d MX11_staysInLand [(0, a0), (0, a1), (0, 1)] n s1 (fun x2 s2 => (¬ x2 = 0 → ((0 : Int) ≤ a1 ∧ a1 < 8) ∧ ((-2147483648 ≤ ((kSouth.getD (Int.toNat a1) 0) * 12) ∧ ((kSouth.getD (Int.toNat a1) 0) * 12) ≤ 2147483647) ∧ ((-2147483648 ≤ (a0 + ((kSouth.getD (Int.toNat a1) 0) * 12)) ∧ (a0 + ((kSouth.getD (Int.toNat a1) 0) * 12)) ≤ 2147483647) ∧ ((-2147483648 ≤ ((a0 + ((kSouth.getD (Int.toNat a1) 0) * 12)) + (kEast.getD (Int.toNat a1) 0)) ∧ ((a0 + ((kSouth.getD (Int.toNat a1) 0) * 12)) + (kEast.getD (Int.toNat a1) 0)) ≤ 2147483647) ∧ (Q ((a0 + ((kSouth.getD (Int.toNat a1) 0) * 12)) + (kEast.getD (Int.toNat a1) 0)) s2))))) ∧ (¬ (¬ x2 = 0) → Q (-1) s2))) ∧ (¬ a1 < 8 → Q (-1) s1))))) : LX11_stepFrom_0 d n Q a0 a1 σ := by
  unfold LX11_stepFrom_0
  refine K_iload_n 0 (kdA dt_MX11_stepFrom 0 rfl) rfl rfl ?_
  refine K_cSi (as := [(0, a0)]) (st := []) (kdA dt_MX11_stepFrom 1 rfl) cl_MX11_isCell lk11_117 rfl rfl (Nat.le_of_ble_eq_true rfl) (Ci.mono h (fun x1 s1 h => ?_))
  refine K_if_eq (tgt := 17) (kdA dt_MX11_stepFrom 2 rfl) rfl (fun c => ?_) (fun c => ?_)
  · have h := h.1 c
    refine K_iconst (kdA dt_MX11_stepFrom 8 rfl) (by decide) ?_
    exact K_ireturn (kdA dt_MX11_stepFrom 9 rfl) rfl ⟨rfl, _, rfl, h⟩
  · have h := h.2 c
    refine K_iload_n 1 (kdA dt_MX11_stepFrom 3 rfl) rfl rfl ?_
    refine K_if_lt (tgt := 17) (kdA dt_MX11_stepFrom 4 rfl) rfl (fun c => ?_) (fun c => ?_)
    · have h := h.1 c
      refine K_iconst (kdA dt_MX11_stepFrom 8 rfl) (by decide) ?_
      exact K_ireturn (kdA dt_MX11_stepFrom 9 rfl) rfl ⟨rfl, _, rfl, h⟩
    · have h := h.2 c
      refine K_iload_n 1 (kdA dt_MX11_stepFrom 5 rfl) rfl rfl ?_
      refine K_bipush (kdA dt_MX11_stepFrom 6 rfl) (by decide +kernel) ?_
      refine K_icmp_lt (tgt := 19) (kdA dt_MX11_stepFrom 7 rfl) rfl (fun c => ?_) (fun c => ?_)
      · have h := h.1 c
        refine K_iload_n 0 (kdA dt_MX11_stepFrom 10 rfl) rfl rfl ?_
        refine K_iload_n 1 (kdA dt_MX11_stepFrom 11 rfl) rfl rfl ?_
        refine K_iconst (kdA dt_MX11_stepFrom 12 rfl) (by decide) ?_
        refine K_cSi (as := [(0, a0), (0, a1), (0, 1)]) (st := []) (kdA dt_MX11_stepFrom 13 rfl) cl_MX11_staysInLand lk11_330 rfl rfl (Nat.le_of_ble_eq_true rfl) (Ci.mono h (fun x2 s2 h => ?_))
        refine K_if_ne (tgt := 30) (kdA dt_MX11_stepFrom 14 rfl) rfl (fun c => ?_) (fun c => ?_)
        · have h := h.1 c
          refine K_iload_n 0 (kdA dt_MX11_stepFrom 17 rfl) rfl rfl ?_
          refine K_gsS (kdA dt_MX11_stepFrom 18 rfl) (tb1 141 rfl rfl) ?_
          refine K_iload_n 1 (kdA dt_MX11_stepFrom 19 rfl) rfl rfl ?_
          obtain ⟨c3, h⟩ := h
          refine K_ialS (kdA dt_MX11_stepFrom 20 rfl) c3.1 c3.2 ?_
          refine K_bipush (kdA dt_MX11_stepFrom 21 rfl) (by decide +kernel) ?_
          obtain ⟨c4, h⟩ := h
          refine K_imul (kdA dt_MX11_stepFrom 22 rfl) c4 ?_
          obtain ⟨c5, h⟩ := h
          refine K_iadd (kdA dt_MX11_stepFrom 23 rfl) c5 ?_
          refine K_gsE (kdA dt_MX11_stepFrom 24 rfl) (tb1 139 rfl rfl) ?_
          refine K_iload_n 1 (kdA dt_MX11_stepFrom 25 rfl) rfl rfl ?_
          refine K_ialE (kdA dt_MX11_stepFrom 26 rfl) c3.1 c3.2 ?_
          obtain ⟨c6, h⟩ := h
          refine K_iadd (kdA dt_MX11_stepFrom 27 rfl) c6 ?_
          exact K_ireturn (kdA dt_MX11_stepFrom 28 rfl) rfl ⟨rfl, _, rfl, h⟩
        · have h := h.2 c
          refine K_iconst (kdA dt_MX11_stepFrom 15 rfl) (by decide) ?_
          exact K_ireturn (kdA dt_MX11_stepFrom 16 rfl) rfl ⟨rfl, _, rfl, h⟩
      · have h := h.2 c
        refine K_iconst (kdA dt_MX11_stepFrom 8 rfl) (by decide) ?_
        exact K_ireturn (kdA dt_MX11_stepFrom 9 rfl) rfl ⟨rfl, _, rfl, h⟩
theorem EX11_stepFrom {d n : Nat} {Q : Int → kS → Prop} {a0 a1 : Int} {σ : kS} (h : (-2147483648 ≤ a0 ∧ a0 ≤ 2147483647) → (-2147483648 ≤ a1 ∧ a1 ≤ 2147483647) → kokw n σ → LX11_stepFrom_0 d n Q a0 a1 σ) : Ci (d + 1) MX11_stepFrom [(0, a0), (0, a1)] n σ Q := Tri_of (by decide +kernel) (Nat.le_of_ble_eq_true rfl) (fun hk hw => h (hk (0, a0) (List.mem_of_getElem? (i := 0) rfl)) (hk (0, a1) (List.mem_of_getElem? (i := 1) rfl)) hw)

def LX11_text_0 (d n : Nat) (Q : Int → kS → Prop) (a0 : Int) (a1 : Int) (σ : kS) : Prop := K (d + 1) MX11_text (kPi n Q) (0, 0) 0 [(0, (2, a0)), (1, (0, a1))] [] n σ
theorem SX11_text_0 {d n : Nat} {Q : Int → kS → Prop} {a0 a1 : Int} {σ : kS} (h : (¬ a1 = 0 → (¬ a1 = 1 → Q (-1) σ) ∧ (¬ (¬ a1 = 1) → isO 11 n a0 ∧ ((4 ≤ (σ a0 8) → Q (-1) σ) ∧ (¬ 4 ≤ (σ a0 8) → isA 27 n (σ a0 7) ∧ (((0 : Int) ≤ (σ a0 8) ∧ (σ a0 8) < klen (σ a0 7)) ∧ (isO 8 n (σ a0 9) ∧ (isO 0 n (σ (σ a0 7) (σ a0 8)) ∧ (Ci d MX0_reads [(2, (σ (σ a0 7) (σ a0 8))), (2, (σ a0 3)), (0, (σ (σ a0 9) 1))] n σ (fun x6 s1 => (x6 = 0 → Q (-1) s1) ∧ (¬ x6 = 0 → (-2147483648 ≤ ((s1 a0 8) + 1) ∧ ((s1 a0 8) + 1) ≤ 2147483647) ∧ (∀ s2, s2 = kst s1 a0 8 ((s1 a0 8) + 1) → isO 8 n (s2 a0 3) ∧ (Ci d MX8_cut [(2, (s2 a0 3)), (0, 0)] n s2 (fun x9 s3 => (-2147483648 ≤ ((s3 a0 8) - 1) ∧ ((s3 a0 8) - 1) ≤ 2147483647) ∧ (Q ((s3 a0 8) - 1) s3)))))))))))))) ∧ (¬ (¬ a1 = 0) → isO 11 n a0 ∧ ((6 ≤ (σ a0 6) → (¬ a1 = 1 → Q (-1) σ) ∧ (¬ (¬ a1 = 1) → (4 ≤ (σ a0 8) → Q (-1) σ) ∧ (¬ 4 ≤ (σ a0 8) → isA 27 n (σ a0 7) ∧ (((0 : Int) ≤ (σ a0 8) ∧ (σ a0 8) < klen (σ a0 7)) ∧ (isO 8 n (σ a0 9) ∧ (isO 0 n (σ (σ a0 7) (σ a0 8)) ∧ (Ci d MX0_reads [(2, (σ (σ a0 7) (σ a0 8))), (2, (σ a0 3)), (0, (σ (σ a0 9) 1))] n σ (fun x6 s1 => (x6 = 0 → Q (-1) s1) ∧ (¬ x6 = 0 → (-2147483648 ≤ ((s1 a0 8) + 1) ∧ ((s1 a0 8) + 1) ≤ 2147483647) ∧ (∀ s2, s2 = kst s1 a0 8 ((s1 a0 8) + 1) → isO 8 n (s2 a0 3) ∧ (Ci d MX8_cut [(2, (s2 a0 3)), (0, 0)] n s2 (fun x9 s3 => (-2147483648 ≤ ((s3 a0 8) - 1) ∧ ((s3 a0 8) - 1) ≤ 2147483647) ∧ (Q ((s3 a0 8) - 1) s3))))))))))))) ∧ (¬ 6 ≤ (σ a0 6) → isO 4 n (σ a0 4) ∧ (Ci d MX4_reads [(2, (σ a0 4)), (2, (σ a0 3))] n σ (fun x3 s1 => (x3 = 0 → (¬ a1 = 1 → Q (-1) s1) ∧ (¬ (¬ a1 = 1) → (4 ≤ (s1 a0 8) → Q (-1) s1) ∧ (¬ 4 ≤ (s1 a0 8) → isA 27 n (s1 a0 7) ∧ (((0 : Int) ≤ (s1 a0 8) ∧ (s1 a0 8) < klen (s1 a0 7)) ∧ (isO 8 n (s1 a0 9) ∧ (isO 0 n (s1 (s1 a0 7) (s1 a0 8)) ∧ (Ci d MX0_reads [(2, (s1 (s1 a0 7) (s1 a0 8))), (2, (s1 a0 3)), (0, (s1 (s1 a0 9) 1))] n s1 (fun x8 s2 => (x8 = 0 → Q (-1) s2) ∧ (¬ x8 = 0 → (-2147483648 ≤ ((s2 a0 8) + 1) ∧ ((s2 a0 8) + 1) ≤ 2147483647) ∧ (∀ s3, s3 = kst s2 a0 8 ((s2 a0 8) + 1) → isO 8 n (s3 a0 3) ∧ (Ci d MX8_cut [(2, (s3 a0 3)), (0, 0)] n s3 (fun x11 s4 => (-2147483648 ≤ ((s4 a0 8) - 1) ∧ ((s4 a0 8) - 1) ≤ 2147483647) ∧ (Q ((s4 a0 8) - 1) s4))))))))))))) ∧ (¬ x3 = 0 → isA 26 n (s1 a0 5) ∧ (((0 : Int) ≤ (s1 a0 6) ∧ (s1 a0 6) < klen (s1 a0 5)) ∧ (isO 4 n (s1 a0 4) ∧ (isO 3 n (s1 (s1 a0 5) (s1 a0 6)) ∧ (Cv d MX3_take [(2, (s1 (s1 a0 5) (s1 a0 6))), (2, (s1 (s1 a0 4) 0))] n s1 (fun s2 => (-2147483648 ≤ ((s2 a0 6) + 1) ∧ ((s2 a0 6) + 1) ≤ 2147483647) ∧ (∀ s3, s3 = kst s2 a0 6 ((s2 a0 6) + 1) → isO 8 n (s3 a0 3) ∧ (Ci d MX8_cut [(2, (s3 a0 3)), (0, 0)] n s3 (fun x11 s4 => (-2147483648 ≤ ((s4 a0 6) - 1) ∧ ((s4 a0 6) - 1) ≤ 2147483647) ∧ (Q ((s4 a0 6) - 1) s4)))))))))))))))) : LX11_text_0 d n Q a0 a1 σ := by
  unfold LX11_text_0
  refine K_iload_n 1 (kdA dt_MX11_text 0 rfl) rfl rfl ?_
  refine K_if_ne (tgt := 72) (kdA dt_MX11_text 1 rfl) rfl (fun c => ?_) (fun c => ?_)
  · have h := h.1 c
    refine K_iload_n 1 (kdA dt_MX11_text 37 rfl) rfl rfl ?_
    refine K_iconst (kdA dt_MX11_text 38 rfl) (by decide) ?_
    refine K_icmp_ne (tgt := 137) (kdA dt_MX11_text 39 rfl) rfl (fun c => ?_) (fun c => ?_)
    · have h := h.1 c
      refine K_iconst (kdA dt_MX11_text 72 rfl) (by decide) ?_
      exact K_ireturn (kdA dt_MX11_text 73 rfl) rfl ⟨rfl, _, rfl, h⟩
    · have h := h.2 c
      refine K_aload_n 0 (kdA dt_MX11_text 40 rfl) rfl rfl ?_
      obtain ⟨c1, h⟩ := h
      refine gf11_151 rfl (kdA dt_MX11_text 41 rfl) c1 ?_
      refine K_iconst (kdA dt_MX11_text 42 rfl) (by decide) ?_
      refine K_icmp_ge (tgt := 137) (kdA dt_MX11_text 43 rfl) rfl (fun c => ?_) (fun c => ?_)
      · have h := h.1 c
        refine K_iconst (kdA dt_MX11_text 72 rfl) (by decide) ?_
        exact K_ireturn (kdA dt_MX11_text 73 rfl) rfl ⟨rfl, _, rfl, h⟩
      · have h := h.2 c
        refine K_aload_n 0 (kdA dt_MX11_text 44 rfl) rfl rfl ?_
        refine gf11_44 rfl (kdA dt_MX11_text 45 rfl) c1 ?_
        refine K_aload_n 0 (kdA dt_MX11_text 46 rfl) rfl rfl ?_
        refine gf11_151 rfl (kdA dt_MX11_text 47 rfl) c1 ?_
        obtain ⟨c2, h⟩ := h
        obtain ⟨c3, h⟩ := h
        refine K_aaload (kdA dt_MX11_text 48 rfl) (by decide) c2 c3.1 c3.2 ?_
        refine K_aload_n 0 (kdA dt_MX11_text 49 rfl) rfl rfl ?_
        refine gf11_25 rfl (kdA dt_MX11_text 50 rfl) c1 ?_
        refine K_aload_n 0 (kdA dt_MX11_text 51 rfl) rfl rfl ?_
        refine gf11_48 rfl (kdA dt_MX11_text 52 rfl) c1 ?_
        obtain ⟨c4, h⟩ := h
        refine gf11_130 rfl (kdA dt_MX11_text 53 rfl) c4 ?_
        obtain ⟨c5, h⟩ := h
        refine K_cVi (c := 0) (as := [(2, (σ a0 3)), (0, (σ (σ a0 9) 1))]) (st := []) (kdA dt_MX11_text 54 rfl) rfl cl_MX0_reads lk11_154 rfl rfl (Nat.le_of_ble_eq_true rfl) c5 (Ci.mono h (fun x6 s1 h => ?_))
        refine K_if_eq (tgt := 137) (kdA dt_MX11_text 55 rfl) rfl (fun c => ?_) (fun c => ?_)
        · have h := h.1 c
          refine K_iconst (kdA dt_MX11_text 72 rfl) (by decide) ?_
          exact K_ireturn (kdA dt_MX11_text 73 rfl) rfl ⟨rfl, _, rfl, h⟩
        · have h := h.2 c
          refine K_aload_n 0 (kdA dt_MX11_text 56 rfl) rfl rfl ?_
          refine K_dup (kdA dt_MX11_text 57 rfl) rfl ?_
          refine gf11_151 rfl (kdA dt_MX11_text 58 rfl) c1 ?_
          refine K_iconst (kdA dt_MX11_text 59 rfl) (by decide) ?_
          obtain ⟨c7, h⟩ := h
          refine K_iadd (kdA dt_MX11_text 60 rfl) c7 ?_
          refine pf11_151 rfl (kdA dt_MX11_text 61 rfl) c1 (fun s2 es2 => ?_)
          have h := h s2 es2
          refine K_aload_n 0 (kdA dt_MX11_text 62 rfl) rfl rfl ?_
          refine gf11_25 rfl (kdA dt_MX11_text 63 rfl) c1 ?_
          refine K_iconst (kdA dt_MX11_text 64 rfl) (by decide) ?_
          obtain ⟨c8, h⟩ := h
          refine K_cVi (c := 8) (as := [(0, 0)]) (st := []) (kdA dt_MX11_text 65 rfl) rfl cl_MX8_cut lk11_141 rfl rfl (Nat.le_of_ble_eq_true rfl) c8 (Ci.mono h (fun x9 s3 h => ?_))
          refine K_pop (kdA dt_MX11_text 66 rfl) rfl ?_
          refine K_aload_n 0 (kdA dt_MX11_text 67 rfl) rfl rfl ?_
          refine gf11_151 rfl (kdA dt_MX11_text 68 rfl) c1 ?_
          refine K_iconst (kdA dt_MX11_text 69 rfl) (by decide) ?_
          obtain ⟨c10, h⟩ := h
          refine K_isub (kdA dt_MX11_text 70 rfl) c10 ?_
          exact K_ireturn (kdA dt_MX11_text 71 rfl) rfl ⟨rfl, _, rfl, h⟩
  · have h := h.2 c
    refine K_aload_n 0 (kdA dt_MX11_text 2 rfl) rfl rfl ?_
    obtain ⟨c1, h⟩ := h
    refine gf11_158 rfl (kdA dt_MX11_text 3 rfl) c1 ?_
    refine K_bipush (kdA dt_MX11_text 4 rfl) (by decide +kernel) ?_
    refine K_icmp_ge (tgt := 72) (kdA dt_MX11_text 5 rfl) rfl (fun c => ?_) (fun c => ?_)
    · have h := h.1 c
      refine K_iload_n 1 (kdA dt_MX11_text 37 rfl) rfl rfl ?_
      refine K_iconst (kdA dt_MX11_text 38 rfl) (by decide) ?_
      refine K_icmp_ne (tgt := 137) (kdA dt_MX11_text 39 rfl) rfl (fun c => ?_) (fun c => ?_)
      · have h := h.1 c
        refine K_iconst (kdA dt_MX11_text 72 rfl) (by decide) ?_
        exact K_ireturn (kdA dt_MX11_text 73 rfl) rfl ⟨rfl, _, rfl, h⟩
      · have h := h.2 c
        refine K_aload_n 0 (kdA dt_MX11_text 40 rfl) rfl rfl ?_
        refine gf11_151 rfl (kdA dt_MX11_text 41 rfl) c1 ?_
        refine K_iconst (kdA dt_MX11_text 42 rfl) (by decide) ?_
        refine K_icmp_ge (tgt := 137) (kdA dt_MX11_text 43 rfl) rfl (fun c => ?_) (fun c => ?_)
        · have h := h.1 c
          refine K_iconst (kdA dt_MX11_text 72 rfl) (by decide) ?_
          exact K_ireturn (kdA dt_MX11_text 73 rfl) rfl ⟨rfl, _, rfl, h⟩
        · have h := h.2 c
          refine K_aload_n 0 (kdA dt_MX11_text 44 rfl) rfl rfl ?_
          refine gf11_44 rfl (kdA dt_MX11_text 45 rfl) c1 ?_
          refine K_aload_n 0 (kdA dt_MX11_text 46 rfl) rfl rfl ?_
          refine gf11_151 rfl (kdA dt_MX11_text 47 rfl) c1 ?_
          obtain ⟨c2, h⟩ := h
          obtain ⟨c3, h⟩ := h
          refine K_aaload (kdA dt_MX11_text 48 rfl) (by decide) c2 c3.1 c3.2 ?_
          refine K_aload_n 0 (kdA dt_MX11_text 49 rfl) rfl rfl ?_
          refine gf11_25 rfl (kdA dt_MX11_text 50 rfl) c1 ?_
          refine K_aload_n 0 (kdA dt_MX11_text 51 rfl) rfl rfl ?_
          refine gf11_48 rfl (kdA dt_MX11_text 52 rfl) c1 ?_
          obtain ⟨c4, h⟩ := h
          refine gf11_130 rfl (kdA dt_MX11_text 53 rfl) c4 ?_
          obtain ⟨c5, h⟩ := h
          refine K_cVi (c := 0) (as := [(2, (σ a0 3)), (0, (σ (σ a0 9) 1))]) (st := []) (kdA dt_MX11_text 54 rfl) rfl cl_MX0_reads lk11_154 rfl rfl (Nat.le_of_ble_eq_true rfl) c5 (Ci.mono h (fun x6 s1 h => ?_))
          refine K_if_eq (tgt := 137) (kdA dt_MX11_text 55 rfl) rfl (fun c => ?_) (fun c => ?_)
          · have h := h.1 c
            refine K_iconst (kdA dt_MX11_text 72 rfl) (by decide) ?_
            exact K_ireturn (kdA dt_MX11_text 73 rfl) rfl ⟨rfl, _, rfl, h⟩
          · have h := h.2 c
            refine K_aload_n 0 (kdA dt_MX11_text 56 rfl) rfl rfl ?_
            refine K_dup (kdA dt_MX11_text 57 rfl) rfl ?_
            refine gf11_151 rfl (kdA dt_MX11_text 58 rfl) c1 ?_
            refine K_iconst (kdA dt_MX11_text 59 rfl) (by decide) ?_
            obtain ⟨c7, h⟩ := h
            refine K_iadd (kdA dt_MX11_text 60 rfl) c7 ?_
            refine pf11_151 rfl (kdA dt_MX11_text 61 rfl) c1 (fun s2 es2 => ?_)
            have h := h s2 es2
            refine K_aload_n 0 (kdA dt_MX11_text 62 rfl) rfl rfl ?_
            refine gf11_25 rfl (kdA dt_MX11_text 63 rfl) c1 ?_
            refine K_iconst (kdA dt_MX11_text 64 rfl) (by decide) ?_
            obtain ⟨c8, h⟩ := h
            refine K_cVi (c := 8) (as := [(0, 0)]) (st := []) (kdA dt_MX11_text 65 rfl) rfl cl_MX8_cut lk11_141 rfl rfl (Nat.le_of_ble_eq_true rfl) c8 (Ci.mono h (fun x9 s3 h => ?_))
            refine K_pop (kdA dt_MX11_text 66 rfl) rfl ?_
            refine K_aload_n 0 (kdA dt_MX11_text 67 rfl) rfl rfl ?_
            refine gf11_151 rfl (kdA dt_MX11_text 68 rfl) c1 ?_
            refine K_iconst (kdA dt_MX11_text 69 rfl) (by decide) ?_
            obtain ⟨c10, h⟩ := h
            refine K_isub (kdA dt_MX11_text 70 rfl) c10 ?_
            exact K_ireturn (kdA dt_MX11_text 71 rfl) rfl ⟨rfl, _, rfl, h⟩
    · have h := h.2 c
      refine K_aload_n 0 (kdA dt_MX11_text 6 rfl) rfl rfl ?_
      refine gf11_32 rfl (kdA dt_MX11_text 7 rfl) c1 ?_
      refine K_aload_n 0 (kdA dt_MX11_text 8 rfl) rfl rfl ?_
      refine gf11_25 rfl (kdA dt_MX11_text 9 rfl) c1 ?_
      obtain ⟨c2, h⟩ := h
      refine K_cVi (c := 4) (as := [(2, (σ a0 3))]) (st := []) (kdA dt_MX11_text 10 rfl) rfl cl_MX4_reads lk11_144 rfl rfl (Nat.le_of_ble_eq_true rfl) c2 (Ci.mono h (fun x3 s1 h => ?_))
      refine K_if_eq (tgt := 72) (kdA dt_MX11_text 11 rfl) rfl (fun c => ?_) (fun c => ?_)
      · have h := h.1 c
        refine K_iload_n 1 (kdA dt_MX11_text 37 rfl) rfl rfl ?_
        refine K_iconst (kdA dt_MX11_text 38 rfl) (by decide) ?_
        refine K_icmp_ne (tgt := 137) (kdA dt_MX11_text 39 rfl) rfl (fun c => ?_) (fun c => ?_)
        · have h := h.1 c
          refine K_iconst (kdA dt_MX11_text 72 rfl) (by decide) ?_
          exact K_ireturn (kdA dt_MX11_text 73 rfl) rfl ⟨rfl, _, rfl, h⟩
        · have h := h.2 c
          refine K_aload_n 0 (kdA dt_MX11_text 40 rfl) rfl rfl ?_
          refine gf11_151 rfl (kdA dt_MX11_text 41 rfl) c1 ?_
          refine K_iconst (kdA dt_MX11_text 42 rfl) (by decide) ?_
          refine K_icmp_ge (tgt := 137) (kdA dt_MX11_text 43 rfl) rfl (fun c => ?_) (fun c => ?_)
          · have h := h.1 c
            refine K_iconst (kdA dt_MX11_text 72 rfl) (by decide) ?_
            exact K_ireturn (kdA dt_MX11_text 73 rfl) rfl ⟨rfl, _, rfl, h⟩
          · have h := h.2 c
            refine K_aload_n 0 (kdA dt_MX11_text 44 rfl) rfl rfl ?_
            refine gf11_44 rfl (kdA dt_MX11_text 45 rfl) c1 ?_
            refine K_aload_n 0 (kdA dt_MX11_text 46 rfl) rfl rfl ?_
            refine gf11_151 rfl (kdA dt_MX11_text 47 rfl) c1 ?_
            obtain ⟨c4, h⟩ := h
            obtain ⟨c5, h⟩ := h
            refine K_aaload (kdA dt_MX11_text 48 rfl) (by decide) c4 c5.1 c5.2 ?_
            refine K_aload_n 0 (kdA dt_MX11_text 49 rfl) rfl rfl ?_
            refine gf11_25 rfl (kdA dt_MX11_text 50 rfl) c1 ?_
            refine K_aload_n 0 (kdA dt_MX11_text 51 rfl) rfl rfl ?_
            refine gf11_48 rfl (kdA dt_MX11_text 52 rfl) c1 ?_
            obtain ⟨c6, h⟩ := h
            refine gf11_130 rfl (kdA dt_MX11_text 53 rfl) c6 ?_
            obtain ⟨c7, h⟩ := h
            refine K_cVi (c := 0) (as := [(2, (s1 a0 3)), (0, (s1 (s1 a0 9) 1))]) (st := []) (kdA dt_MX11_text 54 rfl) rfl cl_MX0_reads lk11_154 rfl rfl (Nat.le_of_ble_eq_true rfl) c7 (Ci.mono h (fun x8 s2 h => ?_))
            refine K_if_eq (tgt := 137) (kdA dt_MX11_text 55 rfl) rfl (fun c => ?_) (fun c => ?_)
            · have h := h.1 c
              refine K_iconst (kdA dt_MX11_text 72 rfl) (by decide) ?_
              exact K_ireturn (kdA dt_MX11_text 73 rfl) rfl ⟨rfl, _, rfl, h⟩
            · have h := h.2 c
              refine K_aload_n 0 (kdA dt_MX11_text 56 rfl) rfl rfl ?_
              refine K_dup (kdA dt_MX11_text 57 rfl) rfl ?_
              refine gf11_151 rfl (kdA dt_MX11_text 58 rfl) c1 ?_
              refine K_iconst (kdA dt_MX11_text 59 rfl) (by decide) ?_
              obtain ⟨c9, h⟩ := h
              refine K_iadd (kdA dt_MX11_text 60 rfl) c9 ?_
              refine pf11_151 rfl (kdA dt_MX11_text 61 rfl) c1 (fun s3 es3 => ?_)
              have h := h s3 es3
              refine K_aload_n 0 (kdA dt_MX11_text 62 rfl) rfl rfl ?_
              refine gf11_25 rfl (kdA dt_MX11_text 63 rfl) c1 ?_
              refine K_iconst (kdA dt_MX11_text 64 rfl) (by decide) ?_
              obtain ⟨c10, h⟩ := h
              refine K_cVi (c := 8) (as := [(0, 0)]) (st := []) (kdA dt_MX11_text 65 rfl) rfl cl_MX8_cut lk11_141 rfl rfl (Nat.le_of_ble_eq_true rfl) c10 (Ci.mono h (fun x11 s4 h => ?_))
              refine K_pop (kdA dt_MX11_text 66 rfl) rfl ?_
              refine K_aload_n 0 (kdA dt_MX11_text 67 rfl) rfl rfl ?_
              refine gf11_151 rfl (kdA dt_MX11_text 68 rfl) c1 ?_
              refine K_iconst (kdA dt_MX11_text 69 rfl) (by decide) ?_
              obtain ⟨c12, h⟩ := h
              refine K_isub (kdA dt_MX11_text 70 rfl) c12 ?_
              exact K_ireturn (kdA dt_MX11_text 71 rfl) rfl ⟨rfl, _, rfl, h⟩
      · have h := h.2 c
        refine K_aload_n 0 (kdA dt_MX11_text 12 rfl) rfl rfl ?_
        refine gf11_38 rfl (kdA dt_MX11_text 13 rfl) c1 ?_
        refine K_aload_n 0 (kdA dt_MX11_text 14 rfl) rfl rfl ?_
        refine gf11_158 rfl (kdA dt_MX11_text 15 rfl) c1 ?_
        obtain ⟨c4, h⟩ := h
        obtain ⟨c5, h⟩ := h
        refine K_aaload (kdA dt_MX11_text 16 rfl) (by decide) c4 c5.1 c5.2 ?_
        refine K_aload_n 0 (kdA dt_MX11_text 17 rfl) rfl rfl ?_
        refine gf11_32 rfl (kdA dt_MX11_text 18 rfl) c1 ?_
        obtain ⟨c6, h⟩ := h
        refine gf11_161 rfl (kdA dt_MX11_text 19 rfl) c6 ?_
        obtain ⟨c7, h⟩ := h
        refine K_cVv (c := 3) (as := [(2, (s1 (s1 a0 4) 0))]) (st := []) (kdA dt_MX11_text 20 rfl) rfl cl_MX3_take lk11_165 rfl rfl (Nat.le_of_ble_eq_true rfl) c7 (Cv.mono h (fun s2 h => ?_))
        refine K_aload_n 0 (kdA dt_MX11_text 21 rfl) rfl rfl ?_
        refine K_dup (kdA dt_MX11_text 22 rfl) rfl ?_
        refine gf11_158 rfl (kdA dt_MX11_text 23 rfl) c1 ?_
        refine K_iconst (kdA dt_MX11_text 24 rfl) (by decide) ?_
        obtain ⟨c9, h⟩ := h
        refine K_iadd (kdA dt_MX11_text 25 rfl) c9 ?_
        refine pf11_158 rfl (kdA dt_MX11_text 26 rfl) c1 (fun s3 es3 => ?_)
        have h := h s3 es3
        refine K_aload_n 0 (kdA dt_MX11_text 27 rfl) rfl rfl ?_
        refine gf11_25 rfl (kdA dt_MX11_text 28 rfl) c1 ?_
        refine K_iconst (kdA dt_MX11_text 29 rfl) (by decide) ?_
        obtain ⟨c10, h⟩ := h
        refine K_cVi (c := 8) (as := [(0, 0)]) (st := []) (kdA dt_MX11_text 30 rfl) rfl cl_MX8_cut lk11_141 rfl rfl (Nat.le_of_ble_eq_true rfl) c10 (Ci.mono h (fun x11 s4 h => ?_))
        refine K_pop (kdA dt_MX11_text 31 rfl) rfl ?_
        refine K_aload_n 0 (kdA dt_MX11_text 32 rfl) rfl rfl ?_
        refine gf11_158 rfl (kdA dt_MX11_text 33 rfl) c1 ?_
        refine K_iconst (kdA dt_MX11_text 34 rfl) (by decide) ?_
        obtain ⟨c12, h⟩ := h
        refine K_isub (kdA dt_MX11_text 35 rfl) c12 ?_
        exact K_ireturn (kdA dt_MX11_text 36 rfl) rfl ⟨rfl, _, rfl, h⟩
theorem EX11_text {d n : Nat} {Q : Int → kS → Prop} {a0 a1 : Int} {σ : kS} (h : (-2147483648 ≤ a1 ∧ a1 ≤ 2147483647) → kokw n σ → LX11_text_0 d n Q a0 a1 σ) : Ci (d + 1) MX11_text [(2, a0), (0, a1)] n σ Q := Tri_of (by decide +kernel) (Nat.le_of_ble_eq_true rfl) (fun hk hw => h (hk (0, a1) (List.mem_of_getElem? (i := 1) rfl)) hw)

def LX11_then_0 (d n : Nat) (Q : Int → kS → Prop) (a0 : Int) (a1 : Int) (a2 : Int) (a3 : Int) (a4 : Int) (a5 : Int) (a6 : Int) (a7 : Int) (σ : kS) : Prop := K (d + 1) MX11_then (kPi n Q) (0, 0) 0 [(0, (2, a0)), (1, (0, a1)), (2, (0, a2)), (3, (0, a3)), (4, (0, a4)), (5, (0, a5)), (6, (0, a6)), (7, (0, a7))] [] n σ
theorem SX11_then_0 {d n : Nat} {Q : Int → kS → Prop} {a0 a1 a2 a3 a4 a5 a6 a7 : Int} {σ : kS} (h : isO 11 n a0 ∧ (Ci d MX11_isEra [(2, a0), (0, a1)] n σ (fun x2 s1 => (x2 = 0 → Q (-1) s1) ∧ (¬ x2 = 0 → isA 25 n (s1 a0 1) ∧ (((0 : Int) ≤ a1 ∧ a1 < klen (s1 a0 1)) ∧ (Ci d MX11_goes [(2, a0), (2, (s1 (s1 a0 1) a1)), (0, a2), (0, a3), (0, a4), (0, a5), (0, a6)] n s1 (fun x5 s2 => (¬ x5 = 0 → (¬ a7 = (-1) → isO 10 n (s2 a0 14) ∧ (isO 8 n (s2 (s2 a0 14) 13) ∧ (Ci d MX8_at [(2, (s2 (s2 a0 14) 13)), (0, a7)] n s2 (fun x8 s3 => Q x8 s3)))) ∧ (¬ (¬ a7 = (-1)) → isO 10 n (s2 a0 14) ∧ (Ci d MX10_least [(2, (s2 a0 14)), (0, a5)] n s2 (fun x7 s3 => Q x7 s3)))) ∧ (¬ (¬ x5 = 0) → Q (-1) s2)))))))) : LX11_then_0 d n Q a0 a1 a2 a3 a4 a5 a6 a7 σ := by
  unfold LX11_then_0
  refine K_aload_n 0 (kdA dt_MX11_then 0 rfl) rfl rfl ?_
  refine K_iload_n 1 (kdA dt_MX11_then 1 rfl) rfl rfl ?_
  obtain ⟨c1, h⟩ := h
  refine K_cVi (c := 11) (as := [(0, a1)]) (st := []) (kdA dt_MX11_then 2 rfl) rfl cl_MX11_isEra lk11_383 rfl rfl (Nat.le_of_ble_eq_true rfl) c1 (Ci.mono h (fun x2 s1 h => ?_))
  refine K_if_eq (tgt := 29) (kdA dt_MX11_then 3 rfl) rfl (fun c => ?_) (fun c => ?_)
  · have h := h.1 c
    refine K_iconst (kdA dt_MX11_then 16 rfl) (by decide) ?_
    exact K_ireturn (kdA dt_MX11_then 17 rfl) rfl ⟨rfl, _, rfl, h⟩
  · have h := h.2 c
    refine K_aload_n 0 (kdA dt_MX11_then 4 rfl) rfl rfl ?_
    refine K_aload_n 0 (kdA dt_MX11_then 5 rfl) rfl rfl ?_
    refine gf11_16 rfl (kdA dt_MX11_then 6 rfl) c1 ?_
    refine K_iload_n 1 (kdA dt_MX11_then 7 rfl) rfl rfl ?_
    obtain ⟨c3, h⟩ := h
    obtain ⟨c4, h⟩ := h
    refine K_aaload (kdA dt_MX11_then 8 rfl) (by decide) c3 c4.1 c4.2 ?_
    refine K_iload_n 2 (kdA dt_MX11_then 9 rfl) rfl rfl ?_
    refine K_iload_n 3 (kdA dt_MX11_then 10 rfl) rfl rfl ?_
    refine K_iload 4 (kdA dt_MX11_then 11 rfl) rfl ?_
    refine K_iload 5 (kdA dt_MX11_then 12 rfl) rfl ?_
    refine K_iload 6 (kdA dt_MX11_then 13 rfl) rfl ?_
    refine K_cVi (c := 11) (as := [(2, (s1 (s1 a0 1) a1)), (0, a2), (0, a3), (0, a4), (0, a5), (0, a6)]) (st := []) (kdA dt_MX11_then 14 rfl) rfl cl_MX11_goes lk11_186 rfl rfl (Nat.le_of_ble_eq_true rfl) c1 (Ci.mono h (fun x5 s2 h => ?_))
    refine K_if_ne (tgt := 31) (kdA dt_MX11_then 15 rfl) rfl (fun c => ?_) (fun c => ?_)
    · have h := h.1 c
      refine K_iload 7 (kdA dt_MX11_then 18 rfl) rfl ?_
      refine K_iconst (kdA dt_MX11_then 19 rfl) (by decide) ?_
      refine K_icmp_ne (tgt := 49) (kdA dt_MX11_then 20 rfl) rfl (fun c => ?_) (fun c => ?_)
      · have h := h.1 c
        refine K_aload_n 0 (kdA dt_MX11_then 26 rfl) rfl rfl ?_
        refine gf11_64 rfl (kdA dt_MX11_then 27 rfl) c1 ?_
        obtain ⟨c6, h⟩ := h
        refine gf11_193 rfl (kdA dt_MX11_then 28 rfl) c6 ?_
        refine K_iload 7 (kdA dt_MX11_then 29 rfl) rfl ?_
        obtain ⟨c7, h⟩ := h
        refine K_cVi (c := 8) (as := [(0, a7)]) (st := []) (kdA dt_MX11_then 30 rfl) rfl cl_MX8_at lk11_196 rfl rfl (Nat.le_of_ble_eq_true rfl) c7 (Ci.mono h (fun x8 s3 h => ?_))
        exact K_ireturn (kdA dt_MX11_then 31 rfl) rfl ⟨rfl, _, rfl, h⟩
      · have h := h.2 c
        refine K_aload_n 0 (kdA dt_MX11_then 21 rfl) rfl rfl ?_
        refine gf11_64 rfl (kdA dt_MX11_then 22 rfl) c1 ?_
        refine K_iload 5 (kdA dt_MX11_then 23 rfl) rfl ?_
        obtain ⟨c6, h⟩ := h
        refine K_cVi (c := 10) (as := [(0, a5)]) (st := []) (kdA dt_MX11_then 24 rfl) rfl cl_MX10_least lk11_190 rfl rfl (Nat.le_of_ble_eq_true rfl) c6 (Ci.mono h (fun x7 s3 h => ?_))
        refine K_goto (tgt := 61) (kdA dt_MX11_then 25 rfl) rfl ?_
        exact K_ireturn (kdA dt_MX11_then 31 rfl) rfl ⟨rfl, _, rfl, h⟩
    · have h := h.2 c
      refine K_iconst (kdA dt_MX11_then 16 rfl) (by decide) ?_
      exact K_ireturn (kdA dt_MX11_then 17 rfl) rfl ⟨rfl, _, rfl, h⟩
theorem EX11_then {d n : Nat} {Q : Int → kS → Prop} {a0 a1 a2 a3 a4 a5 a6 a7 : Int} {σ : kS} (h : (-2147483648 ≤ a1 ∧ a1 ≤ 2147483647) → (-2147483648 ≤ a2 ∧ a2 ≤ 2147483647) → (-2147483648 ≤ a3 ∧ a3 ≤ 2147483647) → (-2147483648 ≤ a4 ∧ a4 ≤ 2147483647) → (-2147483648 ≤ a5 ∧ a5 ≤ 2147483647) → (-2147483648 ≤ a6 ∧ a6 ≤ 2147483647) → (-2147483648 ≤ a7 ∧ a7 ≤ 2147483647) → kokw n σ → LX11_then_0 d n Q a0 a1 a2 a3 a4 a5 a6 a7 σ) : Ci (d + 1) MX11_then [(2, a0), (0, a1), (0, a2), (0, a3), (0, a4), (0, a5), (0, a6), (0, a7)] n σ Q := Tri_of (by decide +kernel) (Nat.le_of_ble_eq_true rfl) (fun hk hw => h (hk (0, a1) (List.mem_of_getElem? (i := 1) rfl)) (hk (0, a2) (List.mem_of_getElem? (i := 2) rfl)) (hk (0, a3) (List.mem_of_getElem? (i := 3) rfl)) (hk (0, a4) (List.mem_of_getElem? (i := 4) rfl)) (hk (0, a5) (List.mem_of_getElem? (i := 5) rfl)) (hk (0, a6) (List.mem_of_getElem? (i := 6) rfl)) (hk (0, a7) (List.mem_of_getElem? (i := 7) rfl)) hw)

def LX11_town_0 (d n : Nat) (Q : Int → kS → Prop) (a0 : Int) (a1 : Int) (σ : kS) : Prop := K (d + 1) MX11_town (kPi n Q) (0, 0) 0 [(0, (2, a0)), (1, (0, a1))] [] n σ
theorem SX11_town_0 {d n : Nat} {Q : Int → kS → Prop} {a0 a1 : Int} {σ : kS} (h : Ci d MX11_isCell [(0, a1)] n σ (fun x1 s1 => (x1 = 0 → Q (-1) s1) ∧ (¬ x1 = 0 → isO 11 n a0 ∧ (isO 8 n (s1 a0 9) ∧ (Ci d MX8_has [(2, (s1 a0 9)), (0, a1)] n s1 (fun x4 s2 => (¬ x4 = 0 → Q (-1) s2) ∧ (¬ (¬ x4 = 0) → isO 8 n (s2 a0 9) ∧ (Ci d MX8_add [(2, (s2 a0 9)), (0, a1)] n s2 (fun x6 s3 => (¬ x6 = 0 → isO 8 n (s3 a0 9) ∧ ((-2147483648 ≤ ((s3 (s3 a0 9) 1) - 1) ∧ ((s3 (s3 a0 9) 1) - 1) ≤ 2147483647) ∧ (Q ((s3 (s3 a0 9) 1) - 1) s3))) ∧ (¬ (¬ x6 = 0) → Q (-1) s3)))))))))) : LX11_town_0 d n Q a0 a1 σ := by
  unfold LX11_town_0
  refine K_iload_n 1 (kdA dt_MX11_town 0 rfl) rfl rfl ?_
  refine K_cSi (as := [(0, a1)]) (st := []) (kdA dt_MX11_town 1 rfl) cl_MX11_isCell lk11_117 rfl rfl (Nat.le_of_ble_eq_true rfl) (Ci.mono h (fun x1 s1 h => ?_))
  refine K_if_eq (tgt := 29) (kdA dt_MX11_town 2 rfl) rfl (fun c => ?_) (fun c => ?_)
  · have h := h.1 c
    refine K_iconst (kdA dt_MX11_town 13 rfl) (by decide) ?_
    exact K_ireturn (kdA dt_MX11_town 14 rfl) rfl ⟨rfl, _, rfl, h⟩
  · have h := h.2 c
    refine K_aload_n 0 (kdA dt_MX11_town 3 rfl) rfl rfl ?_
    obtain ⟨c2, h⟩ := h
    refine gf11_48 rfl (kdA dt_MX11_town 4 rfl) c2 ?_
    refine K_iload_n 1 (kdA dt_MX11_town 5 rfl) rfl rfl ?_
    obtain ⟨c3, h⟩ := h
    refine K_cVi (c := 8) (as := [(0, a1)]) (st := []) (kdA dt_MX11_town 6 rfl) rfl cl_MX8_has lk11_124 rfl rfl (Nat.le_of_ble_eq_true rfl) c3 (Ci.mono h (fun x4 s2 h => ?_))
    refine K_if_ne (tgt := 29) (kdA dt_MX11_town 7 rfl) rfl (fun c => ?_) (fun c => ?_)
    · have h := h.1 c
      refine K_iconst (kdA dt_MX11_town 13 rfl) (by decide) ?_
      exact K_ireturn (kdA dt_MX11_town 14 rfl) rfl ⟨rfl, _, rfl, h⟩
    · have h := h.2 c
      refine K_aload_n 0 (kdA dt_MX11_town 8 rfl) rfl rfl ?_
      refine gf11_48 rfl (kdA dt_MX11_town 9 rfl) c2 ?_
      refine K_iload_n 1 (kdA dt_MX11_town 10 rfl) rfl rfl ?_
      obtain ⟨c5, h⟩ := h
      refine K_cVi (c := 8) (as := [(0, a1)]) (st := []) (kdA dt_MX11_town 11 rfl) rfl cl_MX8_add lk11_127 rfl rfl (Nat.le_of_ble_eq_true rfl) c5 (Ci.mono h (fun x6 s3 h => ?_))
      refine K_if_ne (tgt := 31) (kdA dt_MX11_town 12 rfl) rfl (fun c => ?_) (fun c => ?_)
      · have h := h.1 c
        refine K_aload_n 0 (kdA dt_MX11_town 15 rfl) rfl rfl ?_
        refine gf11_48 rfl (kdA dt_MX11_town 16 rfl) c2 ?_
        obtain ⟨c7, h⟩ := h
        refine gf11_130 rfl (kdA dt_MX11_town 17 rfl) c7 ?_
        refine K_iconst (kdA dt_MX11_town 18 rfl) (by decide) ?_
        obtain ⟨c8, h⟩ := h
        refine K_isub (kdA dt_MX11_town 19 rfl) c8 ?_
        exact K_ireturn (kdA dt_MX11_town 20 rfl) rfl ⟨rfl, _, rfl, h⟩
      · have h := h.2 c
        refine K_iconst (kdA dt_MX11_town 13 rfl) (by decide) ?_
        exact K_ireturn (kdA dt_MX11_town 14 rfl) rfl ⟨rfl, _, rfl, h⟩
theorem EX11_town {d n : Nat} {Q : Int → kS → Prop} {a0 a1 : Int} {σ : kS} (h : (-2147483648 ≤ a1 ∧ a1 ≤ 2147483647) → kokw n σ → LX11_town_0 d n Q a0 a1 σ) : Ci (d + 1) MX11_town [(2, a0), (0, a1)] n σ Q := Tri_of (by decide +kernel) (Nat.le_of_ble_eq_true rfl) (fun hk hw => h (hk (0, a1) (List.mem_of_getElem? (i := 1) rfl)) hw)

def LX11_tried_0 (d n : Nat) (Q : Int → kS → Prop) (a0 : Int) (a1 : Int) (a2 : Int) (σ : kS) : Prop := K (d + 1) MX11_tried (kPi n Q) (0, 0) 0 [(0, (2, a0)), (1, (0, a1)), (2, (0, a2))] [] n σ
def LX11_tried_33 (d n : Nat) (Q : Int → kS → Prop) (a0 : Int) (a3 : Int) (a4 : Int) (σ : kS) : Prop := K (d + 1) MX11_tried (kPi n Q) (0, 0) 33 [(0, (2, a0)), (3, (0, a3)), (4, (0, a4))] [] n σ
theorem SX11_tried_0 {d n : Nat} {Q : Int → kS → Prop} {a0 a1 a2 : Int} {σ : kS} (h : isO 11 n a0 ∧ (Ci d MX11_isManner [(2, a0), (0, 0), (0, a1)] n σ (fun x2 s1 => (x2 = 0 → Q (-1) s1) ∧ (¬ x2 = 0 → isO 8 n (s1 a0 12) ∧ ((2 ≤ (s1 (s1 a0 12) 1) → Cv d MX11_fillMisses [(2, a0), (0, a1), (0, a2)] n s1 (fun s2 => LX11_tried_33 d n Q a0 0 0 s2)) ∧ (¬ 2 ≤ (s1 (s1 a0 12) 1) → Q (-1) s1)))))) : LX11_tried_0 d n Q a0 a1 a2 σ := by
  unfold LX11_tried_0
  refine K_aload_n 0 (kdA dt_MX11_tried 0 rfl) rfl rfl ?_
  refine K_iconst (kdA dt_MX11_tried 1 rfl) (by decide) ?_
  refine K_iload_n 1 (kdA dt_MX11_tried 2 rfl) rfl rfl ?_
  obtain ⟨c1, h⟩ := h
  refine K_cVi (c := 11) (as := [(0, 0), (0, a1)]) (st := []) (kdA dt_MX11_tried 3 rfl) rfl cl_MX11_isManner lk11_169 rfl rfl (Nat.le_of_ble_eq_true rfl) c1 (Ci.mono h (fun x2 s1 h => ?_))
  refine K_if_eq (tgt := 20) (kdA dt_MX11_tried 4 rfl) rfl (fun c => ?_) (fun c => ?_)
  · have h := h.1 c
    refine K_iconst (kdA dt_MX11_tried 10 rfl) (by decide) ?_
    exact K_ireturn (kdA dt_MX11_tried 11 rfl) rfl ⟨rfl, _, rfl, h⟩
  · have h := h.2 c
    refine K_aload_n 0 (kdA dt_MX11_tried 5 rfl) rfl rfl ?_
    refine gf11_55 rfl (kdA dt_MX11_tried 6 rfl) c1 ?_
    obtain ⟨c3, h⟩ := h
    refine gf11_130 rfl (kdA dt_MX11_tried 7 rfl) c3 ?_
    refine K_iconst (kdA dt_MX11_tried 8 rfl) (by decide) ?_
    refine K_icmp_ge (tgt := 22) (kdA dt_MX11_tried 9 rfl) rfl (fun c => ?_) (fun c => ?_)
    · have h := h.1 c
      refine K_aload_n 0 (kdA dt_MX11_tried 12 rfl) rfl rfl ?_
      refine K_iload_n 1 (kdA dt_MX11_tried 13 rfl) rfl rfl ?_
      refine K_iload_n 2 (kdA dt_MX11_tried 14 rfl) rfl rfl ?_
      refine K_cVv (c := 11) (as := [(0, a1), (0, a2)]) (st := []) (kdA dt_MX11_tried 15 rfl) rfl cl_MX11_fillMisses lk11_266 rfl rfl (Nat.le_of_ble_eq_true rfl) c1 (Cv.mono h (fun s2 h => ?_))
      refine K_iconst (kdA dt_MX11_tried 16 rfl) (by decide) ?_
      refine K_istore_n (ls' := [(0, (2, a0)), (1, (0, a1)), (2, (0, a2)), (3, (0, 0))]) (kdA dt_MX11_tried 17 rfl) rfl (by decide) rfl ?_
      refine K_iconst (kdA dt_MX11_tried 18 rfl) (by decide) ?_
      refine K_istore (ls' := [(0, (2, a0)), (1, (0, a1)), (2, (0, a2)), (3, (0, 0)), (4, (0, 0))]) (kdA dt_MX11_tried 19 rfl) (by decide) rfl ?_
      refine K_pick [0, 3, 4] (ls' := [(0, (2, a0)), (3, (0, 0)), (4, (0, 0))]) rfl ?_
      exact h
    · have h := h.2 c
      refine K_iconst (kdA dt_MX11_tried 10 rfl) (by decide) ?_
      exact K_ireturn (kdA dt_MX11_tried 11 rfl) rfl ⟨rfl, _, rfl, h⟩
theorem SX11_tried_33 {d n : Nat} {Q : Int → kS → Prop} {a0 a3 a4 : Int} {σ : kS} (h : isO 11 n a0 ∧ (isO 8 n (σ a0 12) ∧ (((σ (σ a0 12) 1) ≤ a4 → Q a3 σ) ∧ (¬ (σ (σ a0 12) 1) ≤ a4 → Ci d MX11_bestBut [(2, a0), (0, a4)] n σ (fun x3 s1 => isA 26 n (σ a0 5) ∧ (((0 : Int) ≤ x3 ∧ x3 < klen (σ a0 5)) ∧ (isO 3 n (s1 (σ a0 5) x3) ∧ (isA 20 n (s1 (s1 (σ a0 5) x3) 4) ∧ (((0 : Int) ≤ a4 ∧ a4 < klen (s1 (s1 (σ a0 5) x3) 4)) ∧ ((-2147483648 ≤ (a3 + (s1 (s1 (s1 (σ a0 5) x3) 4) a4)) ∧ (a3 + (s1 (s1 (s1 (σ a0 5) x3) 4) a4)) ≤ 2147483647) ∧ ((-2147483648 ≤ (a4 + 1) ∧ (a4 + 1) ≤ 2147483647) ∧ (LX11_tried_33 d n Q a0 (a3 + (s1 (s1 (s1 (σ a0 5) x3) 4) a4)) (a4 + 1) s1)))))))))))) : LX11_tried_33 d n Q a0 a3 a4 σ := by
  unfold LX11_tried_33
  refine K_iload 2 (kdA dt_MX11_tried 20 rfl) rfl ?_
  refine K_aload_n 0 (kdA dt_MX11_tried 21 rfl) rfl rfl ?_
  obtain ⟨c1, h⟩ := h
  refine gf11_55 rfl (kdA dt_MX11_tried 22 rfl) c1 ?_
  obtain ⟨c2, h⟩ := h
  refine gf11_130 rfl (kdA dt_MX11_tried 23 rfl) c2 ?_
  refine K_icmp_ge (tgt := 71) (kdA dt_MX11_tried 24 rfl) rfl (fun c => ?_) (fun c => ?_)
  · have h := h.1 c
    refine K_iload_n 1 (kdA dt_MX11_tried 39 rfl) rfl rfl ?_
    exact K_ireturn (kdA dt_MX11_tried 40 rfl) rfl ⟨rfl, _, rfl, h⟩
  · have h := h.2 c
    refine K_iload_n 1 (kdA dt_MX11_tried 25 rfl) rfl rfl ?_
    refine K_aload_n 0 (kdA dt_MX11_tried 26 rfl) rfl rfl ?_
    refine gf11_38 rfl (kdA dt_MX11_tried 27 rfl) c1 ?_
    refine K_aload_n 0 (kdA dt_MX11_tried 28 rfl) rfl rfl ?_
    refine K_iload 2 (kdA dt_MX11_tried 29 rfl) rfl ?_
    refine K_cVi (c := 11) (as := [(0, a4)]) (st := [(2, (σ a0 5)), (0, a3)]) (kdA dt_MX11_tried 30 rfl) rfl cl_MX11_bestBut lk11_270 rfl rfl (Nat.le_of_ble_eq_true rfl) c1 (Ci.mono h (fun x3 s1 h => ?_))
    obtain ⟨c4, h⟩ := h
    obtain ⟨c5, h⟩ := h
    refine K_aaload (kdA dt_MX11_tried 31 rfl) (by decide) c4 c5.1 c5.2 ?_
    obtain ⟨c6, h⟩ := h
    refine gf11_276 rfl (kdA dt_MX11_tried 32 rfl) c6 ?_
    refine K_iload 2 (kdA dt_MX11_tried 33 rfl) rfl ?_
    obtain ⟨c7, h⟩ := h
    obtain ⟨c8, h⟩ := h
    refine K_iaload (kdA dt_MX11_tried 34 rfl) c7 c8.1 c8.2 ?_
    obtain ⟨c9, h⟩ := h
    refine K_iadd (kdA dt_MX11_tried 35 rfl) c9 ?_
    refine K_istore_n (ls' := [(0, (2, a0)), (3, (0, (a3 + (s1 (s1 (s1 (σ a0 5) x3) 4) a4)))), (4, (0, a4))]) (kdA dt_MX11_tried 36 rfl) rfl (by decide) rfl ?_
    obtain ⟨c10, h⟩ := h
    refine K_iinc (ls' := [(0, (2, a0)), (3, (0, (a3 + (s1 (s1 (s1 (σ a0 5) x3) 4) a4)))), (4, (0, (a4 + 1)))]) 2 (kdA dt_MX11_tried 37 rfl) rfl c10 (by decide) rfl ?_
    refine K_goto (tgt := 33) (kdA dt_MX11_tried 38 rfl) rfl ?_
    exact h
theorem EX11_tried {d n : Nat} {Q : Int → kS → Prop} {a0 a1 a2 : Int} {σ : kS} (h : (-2147483648 ≤ a1 ∧ a1 ≤ 2147483647) → (-2147483648 ≤ a2 ∧ a2 ≤ 2147483647) → kokw n σ → LX11_tried_0 d n Q a0 a1 a2 σ) : Ci (d + 1) MX11_tried [(2, a0), (0, a1), (0, a2)] n σ Q := Tri_of (by decide +kernel) (Nat.le_of_ble_eq_true rfl) (fun hk hw => h (hk (0, a1) (List.mem_of_getElem? (i := 1) rfl)) (hk (0, a2) (List.mem_of_getElem? (i := 2) rfl)) hw)

def LX11_trips_0 (d n : Nat) (Q : Int → kS → Prop) (a0 : Int) (a1 : Int) (σ : kS) : Prop := K (d + 1) MX11_trips (kPi n Q) (0, 0) 0 [(0, (2, a0)), (1, (0, a1))] [] n σ
theorem SX11_trips_0 {d n : Nat} {Q : Int → kS → Prop} {a0 a1 : Int} {σ : kS} (h : isO 11 n a0 ∧ (isO 1 n (σ a0 18) ∧ (((σ (σ a0 18) 4) = 0 → Q (-1) σ) ∧ (¬ (σ (σ a0 18) 4) = 0 → (a1 < 0 → Q (-1) σ) ∧ (¬ a1 < 0 → (a1 ≤ 1 → (¬ a1 = 0 → Q (σ (σ a0 18) 3) σ) ∧ (¬ (¬ a1 = 0) → Q (σ (σ a0 18) 2) σ)) ∧ (¬ a1 ≤ 1 → Q (-1) σ)))))) : LX11_trips_0 d n Q a0 a1 σ := by
  unfold LX11_trips_0
  refine K_aload_n 0 (kdA dt_MX11_trips 0 rfl) rfl rfl ?_
  obtain ⟨c1, h⟩ := h
  refine gf11_92 rfl (kdA dt_MX11_trips 1 rfl) c1 ?_
  obtain ⟨c2, h⟩ := h
  refine gf11_364 rfl (kdA dt_MX11_trips 2 rfl) c2 ?_
  refine K_if_eq (tgt := 19) (kdA dt_MX11_trips 3 rfl) rfl (fun c => ?_) (fun c => ?_)
  · have h := h.1 c
    refine K_iconst (kdA dt_MX11_trips 9 rfl) (by decide) ?_
    exact K_ireturn (kdA dt_MX11_trips 10 rfl) rfl ⟨rfl, _, rfl, h⟩
  · have h := h.2 c
    refine K_iload_n 1 (kdA dt_MX11_trips 4 rfl) rfl rfl ?_
    refine K_if_lt (tgt := 19) (kdA dt_MX11_trips 5 rfl) rfl (fun c => ?_) (fun c => ?_)
    · have h := h.1 c
      refine K_iconst (kdA dt_MX11_trips 9 rfl) (by decide) ?_
      exact K_ireturn (kdA dt_MX11_trips 10 rfl) rfl ⟨rfl, _, rfl, h⟩
    · have h := h.2 c
      refine K_iload_n 1 (kdA dt_MX11_trips 6 rfl) rfl rfl ?_
      refine K_iconst (kdA dt_MX11_trips 7 rfl) (by decide) ?_
      refine K_icmp_le (tgt := 21) (kdA dt_MX11_trips 8 rfl) rfl (fun c => ?_) (fun c => ?_)
      · have h := h.1 c
        refine K_iload_n 1 (kdA dt_MX11_trips 11 rfl) rfl rfl ?_
        refine K_if_ne (tgt := 35) (kdA dt_MX11_trips 12 rfl) rfl (fun c => ?_) (fun c => ?_)
        · have h := h.1 c
          refine K_aload_n 0 (kdA dt_MX11_trips 17 rfl) rfl rfl ?_
          refine gf11_92 rfl (kdA dt_MX11_trips 18 rfl) c1 ?_
          refine gf11_371 rfl (kdA dt_MX11_trips 19 rfl) c2 ?_
          exact K_ireturn (kdA dt_MX11_trips 20 rfl) rfl ⟨rfl, _, rfl, h⟩
        · have h := h.2 c
          refine K_aload_n 0 (kdA dt_MX11_trips 13 rfl) rfl rfl ?_
          refine gf11_92 rfl (kdA dt_MX11_trips 14 rfl) c1 ?_
          refine gf11_368 rfl (kdA dt_MX11_trips 15 rfl) c2 ?_
          refine K_goto (tgt := 42) (kdA dt_MX11_trips 16 rfl) rfl ?_
          exact K_ireturn (kdA dt_MX11_trips 20 rfl) rfl ⟨rfl, _, rfl, h⟩
      · have h := h.2 c
        refine K_iconst (kdA dt_MX11_trips 9 rfl) (by decide) ?_
        exact K_ireturn (kdA dt_MX11_trips 10 rfl) rfl ⟨rfl, _, rfl, h⟩
theorem EX11_trips {d n : Nat} {Q : Int → kS → Prop} {a0 a1 : Int} {σ : kS} (h : (-2147483648 ≤ a1 ∧ a1 ≤ 2147483647) → kokw n σ → LX11_trips_0 d n Q a0 a1 σ) : Ci (d + 1) MX11_trips [(2, a0), (0, a1)] n σ Q := Tri_of (by decide +kernel) (Nat.le_of_ble_eq_true rfl) (fun hk hw => h (hk (0, a1) (List.mem_of_getElem? (i := 1) rfl)) hw)

def LX11_trodden_0 (d n : Nat) (Q : Int → kS → Prop) (a0 : Int) (a1 : Int) (σ : kS) : Prop := K (d + 1) MX11_trodden (kPi n Q) (0, 0) 0 [(0, (2, a0)), (1, (0, a1))] [] n σ
theorem SX11_trodden_0 {d n : Nat} {Q : Int → kS → Prop} {a0 a1 : Int} {σ : kS} (h : Ci d MX11_isCell [(0, a1)] n σ (fun x1 s1 => (x1 = 0 → Q (-1) s1) ∧ (¬ x1 = 0 → isO 11 n a0 ∧ (isO 1 n (s1 a0 18) ∧ (isA 20 n (s1 (s1 a0 18) 0) ∧ (((0 : Int) ≤ a1 ∧ a1 < klen (s1 (s1 a0 18) 0)) ∧ (Q (s1 (s1 (s1 a0 18) 0) a1) s1))))))) : LX11_trodden_0 d n Q a0 a1 σ := by
  unfold LX11_trodden_0
  refine K_iload_n 1 (kdA dt_MX11_trodden 0 rfl) rfl rfl ?_
  refine K_cSi (as := [(0, a1)]) (st := []) (kdA dt_MX11_trodden 1 rfl) cl_MX11_isCell lk11_117 rfl rfl (Nat.le_of_ble_eq_true rfl) (Ci.mono h (fun x1 s1 h => ?_))
  refine K_if_eq (tgt := 19) (kdA dt_MX11_trodden 2 rfl) rfl (fun c => ?_) (fun c => ?_)
  · have h := h.1 c
    refine K_iconst (kdA dt_MX11_trodden 9 rfl) (by decide) ?_
    exact K_ireturn (kdA dt_MX11_trodden 10 rfl) rfl ⟨rfl, _, rfl, h⟩
  · have h := h.2 c
    refine K_aload_n 0 (kdA dt_MX11_trodden 3 rfl) rfl rfl ?_
    obtain ⟨c2, h⟩ := h
    refine gf11_92 rfl (kdA dt_MX11_trodden 4 rfl) c2 ?_
    obtain ⟨c3, h⟩ := h
    refine gf11_361 rfl (kdA dt_MX11_trodden 5 rfl) c3 ?_
    refine K_iload_n 1 (kdA dt_MX11_trodden 6 rfl) rfl rfl ?_
    obtain ⟨c4, h⟩ := h
    obtain ⟨c5, h⟩ := h
    refine K_iaload (kdA dt_MX11_trodden 7 rfl) c4 c5.1 c5.2 ?_
    refine K_goto (tgt := 20) (kdA dt_MX11_trodden 8 rfl) rfl ?_
    exact K_ireturn (kdA dt_MX11_trodden 10 rfl) rfl ⟨rfl, _, rfl, h⟩
theorem EX11_trodden {d n : Nat} {Q : Int → kS → Prop} {a0 a1 : Int} {σ : kS} (h : (-2147483648 ≤ a1 ∧ a1 ≤ 2147483647) → kokw n σ → LX11_trodden_0 d n Q a0 a1 σ) : Ci (d + 1) MX11_trodden [(2, a0), (0, a1)] n σ Q := Tri_of (by decide +kernel) (Nat.le_of_ble_eq_true rfl) (fun hk hw => h (hk (0, a1) (List.mem_of_getElem? (i := 1) rfl)) hw)

def LX11_way_0 (d n : Nat) (Q : Int → kS → Prop) (a0 : Int) (a1 : Int) (a2 : Int) (a3 : Int) (a4 : Int) (a5 : Int) (a6 : Int) (σ : kS) : Prop := K (d + 1) MX11_way (kPi n Q) (0, 0) 0 [(0, (2, a0)), (1, (0, a1)), (2, (0, a2)), (3, (0, a3)), (4, (0, a4)), (5, (0, a5)), (6, (0, a6))] [] n σ
theorem SX11_way_0 {d n : Nat} {Q : Int → kS → Prop} {a0 a1 a2 a3 a4 a5 a6 : Int} {σ : kS} (h : isO 11 n a0 ∧ (Ci d MX11_goes [(2, a0), (2, (σ a0 0)), (0, a1), (0, a2), (0, a3), (0, a4), (0, a5)] n σ (fun x2 s1 => (¬ x2 = 0 → (¬ a6 = (-1) → isO 10 n (s1 a0 14) ∧ (isO 8 n (s1 (s1 a0 14) 13) ∧ (Ci d MX8_at [(2, (s1 (s1 a0 14) 13)), (0, a6)] n s1 (fun x5 s2 => Q x5 s2)))) ∧ (¬ (¬ a6 = (-1)) → isO 10 n (s1 a0 14) ∧ (isO 8 n (s1 (s1 a0 14) 13) ∧ ((-2147483648 ≤ ((s1 (s1 (s1 a0 14) 13) 1) - 1) ∧ ((s1 (s1 (s1 a0 14) 13) 1) - 1) ≤ 2147483647) ∧ (Q ((s1 (s1 (s1 a0 14) 13) 1) - 1) s1))))) ∧ (¬ (¬ x2 = 0) → Q (-1) s1)))) : LX11_way_0 d n Q a0 a1 a2 a3 a4 a5 a6 σ := by
  unfold LX11_way_0
  refine K_aload_n 0 (kdA dt_MX11_way 0 rfl) rfl rfl ?_
  refine K_aload_n 0 (kdA dt_MX11_way 1 rfl) rfl rfl ?_
  obtain ⟨c1, h⟩ := h
  refine gf11_10 rfl (kdA dt_MX11_way 2 rfl) c1 ?_
  refine K_iload_n 1 (kdA dt_MX11_way 3 rfl) rfl rfl ?_
  refine K_iload_n 2 (kdA dt_MX11_way 4 rfl) rfl rfl ?_
  refine K_iload_n 3 (kdA dt_MX11_way 5 rfl) rfl rfl ?_
  refine K_iload 4 (kdA dt_MX11_way 6 rfl) rfl ?_
  refine K_iload 5 (kdA dt_MX11_way 7 rfl) rfl ?_
  refine K_cVi (c := 11) (as := [(2, (σ a0 0)), (0, a1), (0, a2), (0, a3), (0, a4), (0, a5)]) (st := []) (kdA dt_MX11_way 8 rfl) rfl cl_MX11_goes lk11_186 rfl rfl (Nat.le_of_ble_eq_true rfl) c1 (Ci.mono h (fun x2 s1 h => ?_))
  refine K_if_ne (tgt := 20) (kdA dt_MX11_way 9 rfl) rfl (fun c => ?_) (fun c => ?_)
  · have h := h.1 c
    refine K_iload 6 (kdA dt_MX11_way 12 rfl) rfl ?_
    refine K_iconst (kdA dt_MX11_way 13 rfl) (by decide) ?_
    refine K_icmp_ne (tgt := 41) (kdA dt_MX11_way 14 rfl) rfl (fun c => ?_) (fun c => ?_)
    · have h := h.1 c
      refine K_aload_n 0 (kdA dt_MX11_way 22 rfl) rfl rfl ?_
      refine gf11_64 rfl (kdA dt_MX11_way 23 rfl) c1 ?_
      obtain ⟨c3, h⟩ := h
      refine gf11_193 rfl (kdA dt_MX11_way 24 rfl) c3 ?_
      refine K_iload 6 (kdA dt_MX11_way 25 rfl) rfl ?_
      obtain ⟨c4, h⟩ := h
      refine K_cVi (c := 8) (as := [(0, a6)]) (st := []) (kdA dt_MX11_way 26 rfl) rfl cl_MX8_at lk11_196 rfl rfl (Nat.le_of_ble_eq_true rfl) c4 (Ci.mono h (fun x5 s2 h => ?_))
      exact K_ireturn (kdA dt_MX11_way 27 rfl) rfl ⟨rfl, _, rfl, h⟩
    · have h := h.2 c
      refine K_aload_n 0 (kdA dt_MX11_way 15 rfl) rfl rfl ?_
      refine gf11_64 rfl (kdA dt_MX11_way 16 rfl) c1 ?_
      obtain ⟨c3, h⟩ := h
      refine gf11_193 rfl (kdA dt_MX11_way 17 rfl) c3 ?_
      obtain ⟨c4, h⟩ := h
      refine gf11_130 rfl (kdA dt_MX11_way 18 rfl) c4 ?_
      refine K_iconst (kdA dt_MX11_way 19 rfl) (by decide) ?_
      obtain ⟨c5, h⟩ := h
      refine K_isub (kdA dt_MX11_way 20 rfl) c5 ?_
      refine K_goto (tgt := 53) (kdA dt_MX11_way 21 rfl) rfl ?_
      exact K_ireturn (kdA dt_MX11_way 27 rfl) rfl ⟨rfl, _, rfl, h⟩
  · have h := h.2 c
    refine K_iconst (kdA dt_MX11_way 10 rfl) (by decide) ?_
    exact K_ireturn (kdA dt_MX11_way 11 rfl) rfl ⟨rfl, _, rfl, h⟩
theorem EX11_way {d n : Nat} {Q : Int → kS → Prop} {a0 a1 a2 a3 a4 a5 a6 : Int} {σ : kS} (h : (-2147483648 ≤ a1 ∧ a1 ≤ 2147483647) → (-2147483648 ≤ a2 ∧ a2 ≤ 2147483647) → (-2147483648 ≤ a3 ∧ a3 ≤ 2147483647) → (-2147483648 ≤ a4 ∧ a4 ≤ 2147483647) → (-2147483648 ≤ a5 ∧ a5 ≤ 2147483647) → (-2147483648 ≤ a6 ∧ a6 ≤ 2147483647) → kokw n σ → LX11_way_0 d n Q a0 a1 a2 a3 a4 a5 a6 σ) : Ci (d + 1) MX11_way [(2, a0), (0, a1), (0, a2), (0, a3), (0, a4), (0, a5), (0, a6)] n σ Q := Tri_of (by decide +kernel) (Nat.le_of_ble_eq_true rfl) (fun hk hw => h (hk (0, a1) (List.mem_of_getElem? (i := 1) rfl)) (hk (0, a2) (List.mem_of_getElem? (i := 2) rfl)) (hk (0, a3) (List.mem_of_getElem? (i := 3) rfl)) (hk (0, a4) (List.mem_of_getElem? (i := 4) rfl)) (hk (0, a5) (List.mem_of_getElem? (i := 5) rfl)) (hk (0, a6) (List.mem_of_getElem? (i := 6) rfl)) hw)

def LX11_weigh_0 (d n : Nat) (Q : Int → kS → Prop) (a0 : Int) (a1 : Int) (a2 : Int) (σ : kS) : Prop := K (d + 1) MX11_weigh (kPi n Q) (0, 0) 0 [(0, (2, a0)), (1, (0, a1)), (2, (0, a2))] [] n σ
theorem SX11_weigh_0 {d n : Nat} {Q : Int → kS → Prop} {a0 a1 a2 : Int} {σ : kS} (h : (a1 < 0 → Q 0 σ) ∧ (¬ a1 < 0 → isO 11 n a0 ∧ (((σ a0 6) ≤ a1 → Q 0 σ) ∧ (¬ (σ a0 6) ≤ a1 → (a2 < 0 → Q 0 σ) ∧ (¬ a2 < 0 → (a2 ≤ 9 → isA 26 n (σ a0 5) ∧ (((0 : Int) ≤ a1 ∧ a1 < klen (σ a0 5)) ∧ (isO 3 n (σ (σ a0 5) a1) ∧ (∀ s1, s1 = kst σ (σ (σ a0 5) a1) 3 a2 → Q 1 s1)))) ∧ (¬ a2 ≤ 9 → Q 0 σ)))))) : LX11_weigh_0 d n Q a0 a1 a2 σ := by
  unfold LX11_weigh_0
  refine K_iload_n 1 (kdA dt_MX11_weigh 0 rfl) rfl rfl ?_
  refine K_if_lt (tgt := 22) (kdA dt_MX11_weigh 1 rfl) rfl (fun c => ?_) (fun c => ?_)
  · have h := h.1 c
    refine K_iconst (kdA dt_MX11_weigh 11 rfl) (by decide) ?_
    exact K_zreturn (kdA dt_MX11_weigh 12 rfl) rfl (Or.inl rfl) ⟨rfl, _, rfl, h⟩
  · have h := h.2 c
    refine K_iload_n 1 (kdA dt_MX11_weigh 2 rfl) rfl rfl ?_
    refine K_aload_n 0 (kdA dt_MX11_weigh 3 rfl) rfl rfl ?_
    obtain ⟨c1, h⟩ := h
    refine gf11_158 rfl (kdA dt_MX11_weigh 4 rfl) c1 ?_
    refine K_icmp_ge (tgt := 22) (kdA dt_MX11_weigh 5 rfl) rfl (fun c => ?_) (fun c => ?_)
    · have h := h.1 c
      refine K_iconst (kdA dt_MX11_weigh 11 rfl) (by decide) ?_
      exact K_zreturn (kdA dt_MX11_weigh 12 rfl) rfl (Or.inl rfl) ⟨rfl, _, rfl, h⟩
    · have h := h.2 c
      refine K_iload_n 2 (kdA dt_MX11_weigh 6 rfl) rfl rfl ?_
      refine K_if_lt (tgt := 22) (kdA dt_MX11_weigh 7 rfl) rfl (fun c => ?_) (fun c => ?_)
      · have h := h.1 c
        refine K_iconst (kdA dt_MX11_weigh 11 rfl) (by decide) ?_
        exact K_zreturn (kdA dt_MX11_weigh 12 rfl) rfl (Or.inl rfl) ⟨rfl, _, rfl, h⟩
      · have h := h.2 c
        refine K_iload_n 2 (kdA dt_MX11_weigh 8 rfl) rfl rfl ?_
        refine K_bipush (kdA dt_MX11_weigh 9 rfl) (by decide +kernel) ?_
        refine K_icmp_le (tgt := 24) (kdA dt_MX11_weigh 10 rfl) rfl (fun c => ?_) (fun c => ?_)
        · have h := h.1 c
          refine K_aload_n 0 (kdA dt_MX11_weigh 13 rfl) rfl rfl ?_
          refine gf11_38 rfl (kdA dt_MX11_weigh 14 rfl) c1 ?_
          refine K_iload_n 1 (kdA dt_MX11_weigh 15 rfl) rfl rfl ?_
          obtain ⟨c2, h⟩ := h
          obtain ⟨c3, h⟩ := h
          refine K_aaload (kdA dt_MX11_weigh 16 rfl) (by decide) c2 c3.1 c3.2 ?_
          refine K_iload_n 2 (kdA dt_MX11_weigh 17 rfl) rfl rfl ?_
          obtain ⟨c4, h⟩ := h
          refine pf11_304 rfl (kdA dt_MX11_weigh 18 rfl) c4 (fun s1 es1 => ?_)
          have h := h s1 es1
          refine K_iconst (kdA dt_MX11_weigh 19 rfl) (by decide) ?_
          exact K_zreturn (kdA dt_MX11_weigh 20 rfl) rfl (Or.inr rfl) ⟨rfl, _, rfl, h⟩
        · have h := h.2 c
          refine K_iconst (kdA dt_MX11_weigh 11 rfl) (by decide) ?_
          exact K_zreturn (kdA dt_MX11_weigh 12 rfl) rfl (Or.inl rfl) ⟨rfl, _, rfl, h⟩
theorem EX11_weigh {d n : Nat} {Q : Int → kS → Prop} {a0 a1 a2 : Int} {σ : kS} (h : (-2147483648 ≤ a1 ∧ a1 ≤ 2147483647) → (-2147483648 ≤ a2 ∧ a2 ≤ 2147483647) → kokw n σ → LX11_weigh_0 d n Q a0 a1 a2 σ) : Ci (d + 1) MX11_weigh [(2, a0), (0, a1), (0, a2)] n σ Q := Tri_of (by decide +kernel) (Nat.le_of_ble_eq_true rfl) (fun hk hw => h (hk (0, a1) (List.mem_of_getElem? (i := 1) rfl)) (hk (0, a2) (List.mem_of_getElem? (i := 2) rfl)) hw)

def LX11_worn_0 (d n : Nat) (Q : Int → kS → Prop) (a0 : Int) (a1 : Int) (σ : kS) : Prop := K (d + 1) MX11_worn (kPi n Q) (0, 0) 0 [(0, (2, a0)), (1, (0, a1))] [] n σ
theorem SX11_worn_0 {d n : Nat} {Q : Int → kS → Prop} {a0 a1 : Int} {σ : kS} (h : Ci d MX11_isOften [(0, a1)] n σ (fun x1 s1 => (x1 = 0 → Q (-1) s1) ∧ (¬ x1 = 0 → isO 11 n a0 ∧ (isO 1 n (s1 a0 18) ∧ (Ci d MX1_troddenCells [(2, (s1 a0 18)), (0, a1)] n s1 (fun x4 s2 => Q x4 s2)))))) : LX11_worn_0 d n Q a0 a1 σ := by
  unfold LX11_worn_0
  refine K_iload_n 1 (kdA dt_MX11_worn 0 rfl) rfl rfl ?_
  refine K_cSi (as := [(0, a1)]) (st := []) (kdA dt_MX11_worn 1 rfl) cl_MX11_isOften lk11_374 rfl rfl (Nat.le_of_ble_eq_true rfl) (Ci.mono h (fun x1 s1 h => ?_))
  refine K_if_eq (tgt := 18) (kdA dt_MX11_worn 2 rfl) rfl (fun c => ?_) (fun c => ?_)
  · have h := h.1 c
    refine K_iconst (kdA dt_MX11_worn 8 rfl) (by decide) ?_
    exact K_ireturn (kdA dt_MX11_worn 9 rfl) rfl ⟨rfl, _, rfl, h⟩
  · have h := h.2 c
    refine K_aload_n 0 (kdA dt_MX11_worn 3 rfl) rfl rfl ?_
    obtain ⟨c2, h⟩ := h
    refine gf11_92 rfl (kdA dt_MX11_worn 4 rfl) c2 ?_
    refine K_iload_n 1 (kdA dt_MX11_worn 5 rfl) rfl rfl ?_
    obtain ⟨c3, h⟩ := h
    refine K_cVi (c := 1) (as := [(0, a1)]) (st := []) (kdA dt_MX11_worn 6 rfl) rfl cl_MX1_troddenCells lk11_358 rfl rfl (Nat.le_of_ble_eq_true rfl) c3 (Ci.mono h (fun x4 s2 h => ?_))
    refine K_goto (tgt := 19) (kdA dt_MX11_worn 7 rfl) rfl ?_
    exact K_ireturn (kdA dt_MX11_worn 9 rfl) rfl ⟨rfl, _, rfl, h⟩
theorem EX11_worn {d n : Nat} {Q : Int → kS → Prop} {a0 a1 : Int} {σ : kS} (h : (-2147483648 ≤ a1 ∧ a1 ≤ 2147483647) → kokw n σ → LX11_worn_0 d n Q a0 a1 σ) : Ci (d + 1) MX11_worn [(2, a0), (0, a1)] n σ Q := Tri_of (by decide +kernel) (Nat.le_of_ble_eq_true rfl) (fun hk hw => h (hk (0, a1) (List.mem_of_getElem? (i := 1) rfl)) hw)
